/-! Part bf: printed by a program: what the constructors make. -/
theorem fillO (X : MExt) {L0 : List Cll} {n : Nat} (hn : L0.length = n) {o : Cll} {B B' P Q : List Cll} {nn b c s d : Nat} {f : Nat → Int} {v : Int} (hB : B = P ++ (100, nn, f) :: Q) (hB' : B' = P ++ (100, nn, fl nn v f) :: Q) (hb : Q.length = b) (hnn : nn < 1000000) : Call prog clsT X (d + 1) 248 [(2, ((n + 1 + b : Nat) : Int)), (0, v)] (memO L0 o B c s) = some ((3, 0), memO L0 o B' c s) := by
  subst hB; subst hB'
  have loop : ∀ (m i : Nat), i + m = nn → Ev prog clsT X d mc248 5 [(2, ((n + 1 + b : Nat) : Int)), (0, v), (0, (i : Int)), (0, (nn : Int))] [] (memO L0 o (P ++ (100, nn, fl i v f) :: Q) c s) = some ((3, 0), memO L0 o (P ++ (100, nn, fl nn v f) :: Q) c s) := by
    intro m
    induction m with
    | zero => intro i hi; rw [q248_5, cmp_ge, if_pos (by omega), show i = nn by omega]
    | succ m ih =>
      intro i hi
      rw [q248_5, cmp_ge, if_neg (by omega), bindE (aputB hn hb ⟨by omega, by omega⟩), Int.toNat_natCast, fl_s, w32_succ (by omega)]
      exact ih (i + 1) (by omega)
  rw [qc248, bindE (alenB X hn hb)]
  have := loop nn 0 (by omega)
  rw [fl_0] at this
  exact this
theorem aputX {L0 : List Cll} {n : Nat} (hn : L0.length = n) {o : Cll} {P Q : List Cll} {nn : Nat} {f : Nat → Int} {b c s : Nat} {x v : Int} {i : Nat} {M : Mem} (hx : x = ((n + 1 + b : Nat) : Int)) (hM : M = memO L0 o (P ++ (100, nn, f) :: Q) c s) (hb : Q.length = b) (hi : i < nn) : aput 100 M x (i : Int) v = some (memO L0 o (P ++ (100, nn, pt f i v) :: Q) c s) := by
  subst hx; subst hM
  exact aputB hn hb ⟨by omega, by omega⟩
def cF65 (n : Nat) (f : Nat → Int) : Nat → Int := (pt (pt (pt (pt (pt f (fPl 3588) 10) (fPl 3598) ((n + 1 + 0 : Nat) : Int)) (fPl 3602) ((n + 1 + 1 : Nat) : Int)) (fPl 3606) ((n + 1 + 2 : Nat) : Int)) (fPl 3610) ((n + 1 + 3 : Nat) : Int))
def cB65 (_ : Nat) : List Cll := [(100, 0, fun _ => 0), (100, 11, fun _ => 0), (100, 11, fl 11 (-1) (fun _ => 0)), (100, 6, fun _ => 0)]
set_option maxRecDepth 100000 in
theorem c65 (X : MExt) (d : Nat) (L0 : List Cll) (n : Nat) (hn : L0.length = n) (f : Nat → Int) (c s : Nat) : Call prog clsT X (d + 2) 65 [(2, (n : Int)), (0, 0)] (memO L0 (7, 8, f) [] c s) = some ((3, 0), memO L0 (7, 8, cF65 n f) (cB65 n) (c + 4) (s + 28)) := by
  refine (qc65 X (d + 1) _ _ _).trans ?_
  refine Eq.trans (if_pos ⟨rfl, Int.natCast_nonneg n, by decide⟩) ?_
  refine Eq.trans (bindE (fputO hn ?_)) ?_
  · exact rfl
  refine Eq.trans (newO (b := 0) hn ?_ ?_) ?_
  · exact rfl
  · exact ⟨rfl, rfl⟩
  refine Eq.trans (newO (b := 1) hn ?_ ?_) ?_
  · exact rfl
  · exact ⟨rfl, rfl⟩
  refine Eq.trans (newO (b := 2) hn ?_ ?_) ?_
  · exact rfl
  · exact ⟨rfl, rfl⟩
  refine Eq.trans (if_neg (by decide)) ?_
  refine Eq.trans (if_pos (by decide)) ?_
  refine Eq.trans (newO (b := 3) hn ?_ ?_) ?_
  · exact rfl
  · exact ⟨rfl, rfl⟩
  refine Eq.trans (bindE (fgetO (v := ((n + 1 + 1 : Nat) : Int)) hn ?_ ?_)) ?_
  · exact ⟨rfl, by decide⟩
  · exact rfl
  refine Eq.trans (call3 (fillO X hn (P := [(100, 0, fun _ => 0), (100, 11, fun _ => 0)]) (Q := [(100, 6, fun _ => 0)]) (nn := 11) (f := (fun _ => 0)) (B' := [(100, 0, fun _ => 0), (100, 11, fun _ => 0), (100, 11, fl 11 (-1) (fun _ => 0)), (100, 6, fun _ => 0)]) ?_ ?_ ?_ ?_)) ?_
  · exact rfl
  · exact rfl
  · exact rfl
  · decide
  refine (q65_29 X (d + 1) _ _ _).trans ?_
  exact congrArg (fun q => some ((3, 0), q)) (memO_e _ _ (by omega) (by omega))
def cF83 (n : Nat) (f : Nat → Int) : Nat → Int := (pt (pt (pt (pt (pt (pt (pt f (fPl 5122) ((n + 1 + 0 : Nat) : Int)) (fPl 5126) ((n + 1 + 1 : Nat) : Int)) (fPl 5130) ((n + 1 + 2 : Nat) : Int)) (fPl 5134) ((n + 1 + 3 : Nat) : Int)) (fPl 5138) ((n + 1 + 4 : Nat) : Int)) (fPl 5142) ((n + 1 + 5 : Nat) : Int)) (fPl 5146) ((n + 1 + 6 : Nat) : Int))
def cB83 (_ : Nat) : List Cll := [(100, 40, fun _ => 0), (100, 40, fun _ => 0), (100, 40, fun _ => 0), (100, 40, fl 40 (-1) (fun _ => 0)), (102, 10, fun _ => 0), (100, 10, fun _ => 0), (100, 10, fl 10 (-1) (fun _ => 0))]
set_option maxRecDepth 100000 in
theorem c83 (X : MExt) (d : Nat) (L0 : List Cll) (n : Nat) (hn : L0.length = n) (f : Nat → Int) (c s : Nat) : Call prog clsT X (d + 3) 83 [(2, (n : Int))] (memO L0 (10, 7, f) [] c s) = some ((3, 0), memO L0 (10, 7, cF83 n f) (cB83 n) (c + 7) (s + 190)) := by
  refine (qc83 X (d + 2) _ _).trans ?_
  refine Eq.trans (if_pos ⟨rfl, Int.natCast_nonneg n, by decide⟩) ?_
  refine Eq.trans (newO (b := 0) hn ?_ ?_) ?_
  · exact rfl
  · exact ⟨rfl, rfl⟩
  refine Eq.trans (newO (b := 1) hn ?_ ?_) ?_
  · exact rfl
  · exact ⟨rfl, rfl⟩
  refine Eq.trans (newO (b := 2) hn ?_ ?_) ?_
  · exact rfl
  · exact ⟨rfl, rfl⟩
  refine Eq.trans (newO (b := 3) hn ?_ ?_) ?_
  · exact rfl
  · exact ⟨rfl, rfl⟩
  refine Eq.trans (newO (b := 4) hn ?_ ?_) ?_
  · exact rfl
  · exact ⟨rfl, rfl⟩
  refine Eq.trans (newO (b := 5) hn ?_ ?_) ?_
  · exact rfl
  · exact ⟨rfl, rfl⟩
  refine Eq.trans (newO (b := 6) hn ?_ ?_) ?_
  · exact rfl
  · exact ⟨rfl, rfl⟩
  refine Eq.trans (bindE (fgetO (v := ((n + 1 + 0 : Nat) : Int)) hn ?_ ?_)) ?_
  · exact ⟨rfl, by decide⟩
  · exact rfl
  refine Eq.trans (call3 (fillO X hn (P := [(100, 40, fun _ => 0), (100, 40, fun _ => 0), (100, 40, fun _ => 0), (100, 40, fun _ => 0), (102, 10, fun _ => 0), (100, 10, fun _ => 0)]) (Q := []) (nn := 10) (f := (fun _ => 0)) (B' := [(100, 40, fun _ => 0), (100, 40, fun _ => 0), (100, 40, fun _ => 0), (100, 40, fun _ => 0), (102, 10, fun _ => 0), (100, 10, fun _ => 0), (100, 10, fl 10 (-1) (fun _ => 0))]) ?_ ?_ ?_ ?_)) ?_
  · exact rfl
  · exact rfl
  · exact rfl
  · decide
  refine (q83_34 X (d + 2) _ _).trans ?_
  refine Eq.trans (bindE (fgetO (v := ((n + 1 + 3 : Nat) : Int)) hn ?_ ?_)) ?_
  · exact ⟨rfl, by decide⟩
  · exact rfl
  refine Eq.trans (call3 (fillO X hn (P := [(100, 40, fun _ => 0), (100, 40, fun _ => 0), (100, 40, fun _ => 0)]) (Q := [(102, 10, fun _ => 0), (100, 10, fun _ => 0), (100, 10, fl 10 (-1) (fun _ => 0))]) (nn := 40) (f := (fun _ => 0)) (B' := [(100, 40, fun _ => 0), (100, 40, fun _ => 0), (100, 40, fun _ => 0), (100, 40, fl 40 (-1) (fun _ => 0)), (102, 10, fun _ => 0), (100, 10, fun _ => 0), (100, 10, fl 10 (-1) (fun _ => 0))]) ?_ ?_ ?_ ?_)) ?_
  · exact rfl
  · exact rfl
  · exact rfl
  · decide
  refine (q83_38 X (d + 2) _ _).trans ?_
  exact congrArg (fun q => some ((3, 0), q)) (memO_e _ _ (by omega) (by omega))
def cF37 (n : Nat) (f : Nat → Int) : Nat → Int := (pt (pt (pt f (fPl 2562) ((n + 1 + 0 : Nat) : Int)) (fPl 2570) ((n + 1 + 1 : Nat) : Int)) (fPl 2594) (-10))
def cB37 (n : Nat) : List Cll := (cB65 (n + 1 + 1) ++ ((7, 8, cF65 (n + 1 + 1) (fDef (clsT.getD 7 []))) :: ((103, 1000, fun _ => 0) :: [])))
set_option maxRecDepth 100000 in
theorem c37 (X : MExt) (d : Nat) (L0 : List Cll) (n : Nat) (hn : L0.length = n) (f : Nat → Int) (c s : Nat) : Call prog clsT X (d + 3) 37 [(2, (n : Int))] (memO L0 (5, 9, f) [] c s) = some ((3, 0), memO L0 (5, 9, cF37 n f) (cB37 n) (c + 6) (s + 1036)) := by
  refine (qc37 X (d + 2) _ _).trans ?_
  refine Eq.trans (if_pos ⟨rfl, Int.natCast_nonneg n, by decide⟩) ?_
  refine Eq.trans (newO (b := 0) hn ?_ ?_) ?_
  · exact rfl
  · exact ⟨rfl, rfl⟩
  refine Eq.trans (subN (b := 1) hn (fun L0 n hn f c s => c65 X d L0 n hn f c s) ?_ ?_) ?_
  · exact rfl
  · exact rfl
  refine (q37_11 X (d + 2) _ _ _ _).trans ?_
  refine Eq.trans (fputS (b := 6) (w := ((n + 1 + 1 : Nat) : Int)) hn (nxO hn _ ?_ _ _) ?_ ?_ ?_) ?_
  · exact rfl
  · exact rfl
  · exact ⟨rfl, rfl⟩
  · omega
  refine Eq.trans (fputS (b := 6) (w := -10) hn ?_ ?_ ?_ ?_) ?_
  · exact rfl
  · exact rfl
  · exact ⟨rfl, rfl⟩
  · omega
  exact congrArg (fun q => some ((3, 0), q)) (memO_e _ _ (by omega) (by omega))
def cF70 (n : Nat) (f : Nat → Int) : Nat → Int := (pt (pt f (fPl 4098) ((n + 1 + 0 : Nat) : Int)) (fPl 4102) ((n + 1 + 1 : Nat) : Int))
def cB70 (_ : Nat) : List Cll := [(100, 32, fun _ => 0), (100, 11, fun _ => 0)]
set_option maxRecDepth 100000 in
theorem c70 (X : MExt) (d : Nat) (L0 : List Cll) (n : Nat) (hn : L0.length = n) (f : Nat → Int) (c s : Nat) : Call prog clsT X (d + 3) 70 [(2, (n : Int))] (memO L0 (8, 2, f) [] c s) = some ((3, 0), memO L0 (8, 2, cF70 n f) (cB70 n) (c + 2) (s + 43)) := by
  refine (qc70 X (d + 2) _ _).trans ?_
  refine Eq.trans (if_pos ⟨rfl, Int.natCast_nonneg n, by decide⟩) ?_
  refine Eq.trans (newO (b := 0) hn ?_ ?_) ?_
  · exact rfl
  · exact ⟨rfl, rfl⟩
  refine Eq.trans (newO (b := 1) hn ?_ ?_) ?_
  · exact rfl
  · exact ⟨rfl, rfl⟩
  exact congrArg (fun q => some ((3, 0), q)) (memO_e _ _ (by omega) (by omega))
def cF17 (n : Nat) (f : Nat → Int) : Nat → Int := (pt (pt (pt (pt (pt f (fPl 1034) ((n + 1 + 0 : Nat) : Int)) (fPl 1038) ((n + 1 + 1 : Nat) : Int)) (fPl 1042) ((n + 1 + 2 : Nat) : Int)) (fPl 1046) ((n + 1 + 3 : Nat) : Int)) (fPl 1050) ((n + 1 + 4 : Nat) : Int))
def cB17 (_ : Nat) : List Cll := [(100, 40, fun _ => 0), (100, 40, fun _ => 0), (101, 40, fun _ => 0), (100, 40, fun _ => 0), (100, 40, fun _ => 0)]
set_option maxRecDepth 100000 in
theorem c17 (X : MExt) (d : Nat) (L0 : List Cll) (n : Nat) (hn : L0.length = n) (f : Nat → Int) (c s : Nat) : Call prog clsT X (d + 3) 17 [(2, (n : Int))] (memO L0 (2, 7, f) [] c s) = some ((3, 0), memO L0 (2, 7, cF17 n f) (cB17 n) (c + 5) (s + 200)) := by
  refine (qc17 X (d + 2) _ _).trans ?_
  refine Eq.trans (if_pos ⟨rfl, Int.natCast_nonneg n, by decide⟩) ?_
  refine Eq.trans (newO (b := 0) hn ?_ ?_) ?_
  · exact rfl
  · exact ⟨rfl, rfl⟩
  refine Eq.trans (newO (b := 1) hn ?_ ?_) ?_
  · exact rfl
  · exact ⟨rfl, rfl⟩
  refine Eq.trans (newO (b := 2) hn ?_ ?_) ?_
  · exact rfl
  · exact ⟨rfl, rfl⟩
  refine Eq.trans (newO (b := 3) hn ?_ ?_) ?_
  · exact rfl
  · exact ⟨rfl, rfl⟩
  refine Eq.trans (newO (b := 4) hn ?_ ?_) ?_
  · exact rfl
  · exact ⟨rfl, rfl⟩
  exact congrArg (fun q => some ((3, 0), q)) (memO_e _ _ (by omega) (by omega))
def cF33 (n : Nat) (f : Nat → Int) : Nat → Int := (pt (pt (pt (pt f (fPl 2050) ((n + 1 + 0 : Nat) : Int)) (fPl 2054) ((n + 1 + 1 : Nat) : Int)) (fPl 2058) ((n + 1 + 2 : Nat) : Int)) (fPl 2060) 4)
def cB33 (_ : Nat) : List Cll := [(100, 10, fl 10 (-1) (fun _ => 0)), (100, 24, fun _ => 0), (100, 4, fl 4 (-1) (fun _ => 0))]
set_option maxRecDepth 100000 in
theorem c33 (X : MExt) (d : Nat) (L0 : List Cll) (n : Nat) (hn : L0.length = n) (f : Nat → Int) (c s : Nat) : Call prog clsT X (d + 3) 33 [(2, (n : Int))] (memO L0 (4, 4, f) [] c s) = some ((3, 0), memO L0 (4, 4, cF33 n f) (cB33 n) (c + 3) (s + 38)) := by
  refine (qc33 X (d + 2) _ _).trans ?_
  refine Eq.trans (if_pos ⟨rfl, Int.natCast_nonneg n, by decide⟩) ?_
  refine Eq.trans (newO (b := 0) hn ?_ ?_) ?_
  · exact rfl
  · exact ⟨rfl, rfl⟩
  refine Eq.trans (newO (b := 1) hn ?_ ?_) ?_
  · exact rfl
  · exact ⟨rfl, rfl⟩
  refine Eq.trans (newO (b := 2) hn ?_ ?_) ?_
  · exact rfl
  · exact ⟨rfl, rfl⟩
  refine Eq.trans (bindE (fputO hn ?_)) ?_
  · exact rfl
  refine Eq.trans (bindE (fgetO (v := ((n + 1 + 0 : Nat) : Int)) hn ?_ ?_)) ?_
  · exact ⟨rfl, by decide⟩
  · exact rfl
  refine Eq.trans (call3 (fillO X hn (P := [(100, 10, fun _ => 0), (100, 24, fun _ => 0)]) (Q := []) (nn := 4) (f := (fun _ => 0)) (B' := [(100, 10, fun _ => 0), (100, 24, fun _ => 0), (100, 4, fl 4 (-1) (fun _ => 0))]) ?_ ?_ ?_ ?_)) ?_
  · exact rfl
  · exact rfl
  · exact rfl
  · decide
  refine (q33_21 X (d + 2) _ _).trans ?_
  refine Eq.trans (bindE (fgetO (v := ((n + 1 + 2 : Nat) : Int)) hn ?_ ?_)) ?_
  · exact ⟨rfl, by decide⟩
  · exact rfl
  refine Eq.trans (call3 (fillO X hn (P := []) (Q := [(100, 24, fun _ => 0), (100, 4, fl 4 (-1) (fun _ => 0))]) (nn := 10) (f := (fun _ => 0)) (B' := [(100, 10, fl 10 (-1) (fun _ => 0)), (100, 24, fun _ => 0), (100, 4, fl 4 (-1) (fun _ => 0))]) ?_ ?_ ?_ ?_)) ?_
  · exact rfl
  · exact rfl
  · exact rfl
  · decide
  refine (q33_25 X (d + 2) _ _).trans ?_
  exact congrArg (fun q => some ((3, 0), q)) (memO_e _ _ (by omega) (by omega))
def cF26 (n : Nat) (f : Nat → Int) : Nat → Int := (pt (pt (pt (pt (pt (pt (pt f (fPl 1538) ((n + 1 + 0 : Nat) : Int)) (fPl 1542) ((n + 1 + 1 : Nat) : Int)) (fPl 1546) ((n + 1 + 2 : Nat) : Int)) (fPl 1550) ((n + 1 + 3 : Nat) : Int)) (fPl 1554) ((n + 1 + 4 : Nat) : Int)) (fPl 1558) ((n + 1 + 5 : Nat) : Int)) (fPl 1562) ((n + 1 + 6 : Nat) : Int))
def cB26 (_ : Nat) : List Cll := [(100, 3, fun _ => 0), (100, 10, fun _ => 0), (100, 10, fun _ => 0), (100, 50, fl 50 (-1) (fun _ => 0)), (100, 10, fl 10 (1) (fun _ => 0)), (100, 10, fun _ => 0), (100, 3, fun _ => 0)]
set_option maxRecDepth 100000 in
theorem c26 (X : MExt) (d : Nat) (L0 : List Cll) (n : Nat) (hn : L0.length = n) (f : Nat → Int) (c s : Nat) : Call prog clsT X (d + 3) 26 [(2, (n : Int))] (memO L0 (3, 7, f) [] c s) = some ((3, 0), memO L0 (3, 7, cF26 n f) (cB26 n) (c + 7) (s + 96)) := by
  refine (qc26 X (d + 2) _ _).trans ?_
  refine Eq.trans (if_pos ⟨rfl, Int.natCast_nonneg n, by decide⟩) ?_
  refine Eq.trans (newO (b := 0) hn ?_ ?_) ?_
  · exact rfl
  · exact ⟨rfl, rfl⟩
  refine Eq.trans (newO (b := 1) hn ?_ ?_) ?_
  · exact rfl
  · exact ⟨rfl, rfl⟩
  refine Eq.trans (newO (b := 2) hn ?_ ?_) ?_
  · exact rfl
  · exact ⟨rfl, rfl⟩
  refine Eq.trans (newO (b := 3) hn ?_ ?_) ?_
  · exact rfl
  · exact ⟨rfl, rfl⟩
  refine Eq.trans (newO (b := 4) hn ?_ ?_) ?_
  · exact rfl
  · exact ⟨rfl, rfl⟩
  refine Eq.trans (newO (b := 5) hn ?_ ?_) ?_
  · exact rfl
  · exact ⟨rfl, rfl⟩
  refine Eq.trans (newO (b := 6) hn ?_ ?_) ?_
  · exact rfl
  · exact ⟨rfl, rfl⟩
  refine Eq.trans (bindE (fgetO (v := ((n + 1 + 2 : Nat) : Int)) hn ?_ ?_)) ?_
  · exact ⟨rfl, by decide⟩
  · exact rfl
  refine Eq.trans (call3 (fillO X hn (P := [(100, 3, fun _ => 0), (100, 10, fun _ => 0), (100, 10, fun _ => 0), (100, 50, fun _ => 0)]) (Q := [(100, 10, fun _ => 0), (100, 3, fun _ => 0)]) (nn := 10) (f := (fun _ => 0)) (B' := [(100, 3, fun _ => 0), (100, 10, fun _ => 0), (100, 10, fun _ => 0), (100, 50, fun _ => 0), (100, 10, fl 10 (1) (fun _ => 0)), (100, 10, fun _ => 0), (100, 3, fun _ => 0)]) ?_ ?_ ?_ ?_)) ?_
  · exact rfl
  · exact rfl
  · exact rfl
  · decide
  refine (q26_34 X (d + 2) _ _).trans ?_
  refine Eq.trans (bindE (fgetO (v := ((n + 1 + 3 : Nat) : Int)) hn ?_ ?_)) ?_
  · exact ⟨rfl, by decide⟩
  · exact rfl
  refine Eq.trans (call3 (fillO X hn (P := [(100, 3, fun _ => 0), (100, 10, fun _ => 0), (100, 10, fun _ => 0)]) (Q := [(100, 10, fl 10 (1) (fun _ => 0)), (100, 10, fun _ => 0), (100, 3, fun _ => 0)]) (nn := 50) (f := (fun _ => 0)) (B' := [(100, 3, fun _ => 0), (100, 10, fun _ => 0), (100, 10, fun _ => 0), (100, 50, fl 50 (-1) (fun _ => 0)), (100, 10, fl 10 (1) (fun _ => 0)), (100, 10, fun _ => 0), (100, 3, fun _ => 0)]) ?_ ?_ ?_ ?_)) ?_
  · exact rfl
  · exact rfl
  · exact rfl
  · decide
  refine (q26_38 X (d + 2) _ _).trans ?_
  exact congrArg (fun q => some ((3, 0), q)) (memO_e _ _ (by omega) (by omega))
def cF60 (n : Nat) (f : Nat → Int) : Nat → Int := (pt (pt (pt (pt (pt (pt f (fPl 3074) ((n + 1 + 0 : Nat) : Int)) (fPl 3078) ((n + 1 + 1 : Nat) : Int)) (fPl 3082) ((n + 1 + 2 : Nat) : Int)) (fPl 3086) ((n + 1 + 3 : Nat) : Int)) (fPl 3090) ((n + 1 + 4 : Nat) : Int)) (fPl 3094) ((n + 1 + 5 : Nat) : Int))
def cB60 (_ : Nat) : List Cll := [(100, 4, fun _ => 0), (100, 4, fun _ => 0), (100, 4, fun _ => 0), (100, 10, fun _ => 0), (100, 10, fun _ => 0), (100, 10, fun _ => 0)]
set_option maxRecDepth 100000 in
theorem c60 (X : MExt) (d : Nat) (L0 : List Cll) (n : Nat) (hn : L0.length = n) (f : Nat → Int) (c s : Nat) : Call prog clsT X (d + 3) 60 [(2, (n : Int))] (memO L0 (6, 7, f) [] c s) = some ((3, 0), memO L0 (6, 7, cF60 n f) (cB60 n) (c + 6) (s + 42)) := by
  refine (qc60 X (d + 2) _ _).trans ?_
  refine Eq.trans (if_pos ⟨rfl, Int.natCast_nonneg n, by decide⟩) ?_
  refine Eq.trans (newO (b := 0) hn ?_ ?_) ?_
  · exact rfl
  · exact ⟨rfl, rfl⟩
  refine Eq.trans (newO (b := 1) hn ?_ ?_) ?_
  · exact rfl
  · exact ⟨rfl, rfl⟩
  refine Eq.trans (newO (b := 2) hn ?_ ?_) ?_
  · exact rfl
  · exact ⟨rfl, rfl⟩
  refine Eq.trans (newO (b := 3) hn ?_ ?_) ?_
  · exact rfl
  · exact ⟨rfl, rfl⟩
  refine Eq.trans (newO (b := 4) hn ?_ ?_) ?_
  · exact rfl
  · exact ⟨rfl, rfl⟩
  refine Eq.trans (newO (b := 5) hn ?_ ?_) ?_
  · exact rfl
  · exact ⟨rfl, rfl⟩
  exact congrArg (fun q => some ((3, 0), q)) (memO_e _ _ (by omega) (by omega))
def cF0 (n : Nat) (f : Nat → Int) : Nat → Int := (pt (pt (pt (pt (pt (pt (pt (pt (pt f (fPl 2) ((n + 1 + 0 : Nat) : Int)) (fPl 6) ((n + 1 + 1 : Nat) : Int)) (fPl 10) ((n + 1 + 2 : Nat) : Int)) (fPl 14) ((n + 1 + 3 : Nat) : Int)) (fPl 18) ((n + 1 + 4 : Nat) : Int)) (fPl 22) ((n + 1 + 5 : Nat) : Int)) (fPl 34) ((n + 1 + 6 : Nat) : Int)) (fPl 38) ((n + 1 + 7 : Nat) : Int)) (fPl 42) ((n + 1 + 8 : Nat) : Int))
def cB0 (_ : Nat) : List Cll := [(100, 10, fun _ => 0), (100, 10, fun _ => 0), (100, 10, fun _ => 0), (100, 3, fun _ => 0), (100, 3, (pt (pt (pt (fun _ => 0) 0 3) 1 2) 2 1)), (100, 40, fun _ => 0), (100, 40, fun _ => 0), (100, 40, fun _ => 0), (100, 40, fun _ => 0)]
set_option maxRecDepth 100000 in
theorem c0 (X : MExt) (d : Nat) (L0 : List Cll) (n : Nat) (hn : L0.length = n) (f : Nat → Int) (c s : Nat) : Call prog clsT X (d + 3) 0 [(2, (n : Int))] (memO L0 (0, 11, f) [] c s) = some ((3, 0), memO L0 (0, 11, cF0 n f) (cB0 n) (c + 9) (s + 196)) := by
  refine (qc0 X (d + 2) _ _).trans ?_
  refine Eq.trans (if_pos ⟨rfl, Int.natCast_nonneg n, by decide⟩) ?_
  refine Eq.trans (newO (b := 0) hn ?_ ?_) ?_
  · exact rfl
  · exact ⟨rfl, rfl⟩
  refine Eq.trans (newO (b := 1) hn ?_ ?_) ?_
  · exact rfl
  · exact ⟨rfl, rfl⟩
  refine Eq.trans (newO (b := 2) hn ?_ ?_) ?_
  · exact rfl
  · exact ⟨rfl, rfl⟩
  refine Eq.trans (newO (b := 3) hn ?_ ?_) ?_
  · exact rfl
  · exact ⟨rfl, rfl⟩
  refine Eq.trans (bindE (aputX (b := 4) (P := []) (Q := [(100, 40, fun _ => 0), (100, 40, fun _ => 0), (100, 40, fun _ => 0), (100, 40, fun _ => 0)]) (nn := 3) (f := (fun _ => 0)) (i := 0) hn (nxO hn _ ?_ _ _) (growO _ _ _ _ _ _ _ _) ?_ ?_)) ?_
  · exact rfl
  · exact rfl
  · decide
  refine Eq.trans (bindE (aputX (b := 4) (P := []) (Q := [(100, 40, fun _ => 0), (100, 40, fun _ => 0), (100, 40, fun _ => 0), (100, 40, fun _ => 0)]) (nn := 3) (f := (pt (fun _ => 0) 0 3)) (i := 1) hn (nxO hn _ ?_ _ _) rfl ?_ ?_)) ?_
  · exact rfl
  · exact rfl
  · decide
  refine Eq.trans (bindE (aputX (b := 4) (P := []) (Q := [(100, 40, fun _ => 0), (100, 40, fun _ => 0), (100, 40, fun _ => 0), (100, 40, fun _ => 0)]) (nn := 3) (f := (pt (pt (fun _ => 0) 0 3) 1 2)) (i := 2) hn (nxO hn _ ?_ _ _) rfl ?_ ?_)) ?_
  · exact rfl
  · exact rfl
  · decide
  refine Eq.trans (fputS (b := 5) (w := ((n + 1 + 4 : Nat) : Int)) hn (nxO hn _ ?_ _ _) ?_ ?_ ?_) ?_
  · exact rfl
  · exact rfl
  · exact ⟨rfl, rfl⟩
  · omega
  refine Eq.trans (newO (b := 5) hn ?_ ?_) ?_
  · exact rfl
  · exact ⟨rfl, rfl⟩
  refine Eq.trans (newO (b := 6) hn ?_ ?_) ?_
  · exact rfl
  · exact ⟨rfl, rfl⟩
  refine Eq.trans (newO (b := 7) hn ?_ ?_) ?_
  · exact rfl
  · exact ⟨rfl, rfl⟩
  refine Eq.trans (newO (b := 8) hn ?_ ?_) ?_
  · exact rfl
  · exact ⟨rfl, rfl⟩
  exact congrArg (fun q => some ((3, 0), q)) (memO_e _ _ (by omega) (by omega))
def cF9 (n : Nat) (f : Nat → Int) : Nat → Int := (pt (pt (pt (pt (pt (pt f (fPl 514) ((n + 1 + 0 : Nat) : Int)) (fPl 518) ((n + 1 + 1 : Nat) : Int)) (fPl 526) ((n + 1 + 2 : Nat) : Int)) (fPl 530) ((n + 1 + 3 : Nat) : Int)) (fPl 534) ((n + 1 + 4 : Nat) : Int)) (fPl 538) ((n + 1 + 5 : Nat) : Int))
def cB9 (_ : Nat) : List Cll := [(100, 3, fun _ => 0), (100, 4, fun _ => 0), (100, 15, fun _ => 0), (100, 3, fun _ => 0), (100, 11, fun _ => 0), (100, 11, fun _ => 0)]
set_option maxRecDepth 100000 in
theorem c9 (X : MExt) (d : Nat) (L0 : List Cll) (n : Nat) (hn : L0.length = n) (f : Nat → Int) (c s : Nat) : Call prog clsT X (d + 3) 9 [(2, (n : Int))] (memO L0 (1, 8, f) [] c s) = some ((3, 0), memO L0 (1, 8, cF9 n f) (cB9 n) (c + 6) (s + 47)) := by
  refine (qc9 X (d + 2) _ _).trans ?_
  refine Eq.trans (if_pos ⟨rfl, Int.natCast_nonneg n, by decide⟩) ?_
  refine Eq.trans (newO (b := 0) hn ?_ ?_) ?_
  · exact rfl
  · exact ⟨rfl, rfl⟩
  refine Eq.trans (newO (b := 1) hn ?_ ?_) ?_
  · exact rfl
  · exact ⟨rfl, rfl⟩
  refine Eq.trans (newO (b := 2) hn ?_ ?_) ?_
  · exact rfl
  · exact ⟨rfl, rfl⟩
  refine Eq.trans (newO (b := 3) hn ?_ ?_) ?_
  · exact rfl
  · exact ⟨rfl, rfl⟩
  refine Eq.trans (newO (b := 4) hn ?_ ?_) ?_
  · exact rfl
  · exact ⟨rfl, rfl⟩
  refine Eq.trans (newO (b := 5) hn ?_ ?_) ?_
  · exact rfl
  · exact ⟨rfl, rfl⟩
  exact congrArg (fun q => some ((3, 0), q)) (memO_e _ _ (by omega) (by omega))
def cF79 (n : Nat) (f : Nat → Int) : Nat → Int := (pt (pt (pt (pt (pt f (fPl 4610) ((n + 1 + 0 : Nat) : Int)) (fPl 4614) ((n + 1 + 1 : Nat) : Int)) (fPl 4618) ((n + 1 + 2 : Nat) : Int)) (fPl 4622) ((n + 1 + 3 : Nat) : Int)) (fPl 4626) ((n + 1 + 8 : Nat) : Int))
def cB79 (n : Nat) : List Cll := [(100, 10, fun _ => 0), (100, 10, fun _ => 0), (100, 10, fun _ => 0), (100, 10, fun _ => 0), (105, 4, fun j => ((n + 1 + 8 : Nat) : Int) + 1 + j), (100, 40, fun _ => 0), (100, 40, fun _ => 0), (100, 40, fun _ => 0), (100, 40, fun _ => 0), (105, 4, fun j => ((n + 1 + 3 : Nat) : Int) + 1 + j), (101, 4, fun _ => 0), (100, 4, fun _ => 0), (100, 4, fun _ => 0)]
set_option maxRecDepth 100000 in
theorem c79 (X : MExt) (d : Nat) (L0 : List Cll) (n : Nat) (hn : L0.length = n) (f : Nat → Int) (c s : Nat) : Call prog clsT X (d + 3) 79 [(2, (n : Int))] (memO L0 (9, 6, f) [] c s) = some ((3, 0), memO L0 (9, 6, cF79 n f) (cB79 n) (c + 13) (s + 220)) := by
  refine (qc79 X (d + 2) _ _).trans ?_
  refine Eq.trans (if_pos ⟨rfl, Int.natCast_nonneg n, by decide⟩) ?_
  refine Eq.trans (newO (b := 0) hn ?_ ?_) ?_
  · exact rfl
  · exact ⟨rfl, rfl⟩
  refine Eq.trans (newO (b := 1) hn ?_ ?_) ?_
  · exact rfl
  · exact ⟨rfl, rfl⟩
  refine Eq.trans (newO (b := 2) hn ?_ ?_) ?_
  · exact rfl
  · exact ⟨rfl, rfl⟩
  refine Eq.trans (newR (b := 3) hn ?_ ?_) ?_
  · exact rfl
  · exact ⟨rfl, rfl⟩
  refine Eq.trans (newR (b := 8) hn ?_ ?_) ?_
  · exact rfl
  · exact ⟨rfl, rfl⟩
  exact congrArg (fun q => some ((3, 0), q)) (memO_e _ _ (by omega) (by omega))
def cF88 (n : Nat) (f : Nat → Int) : Nat → Int := (pt (pt (pt (pt (pt (pt (pt (pt (pt (pt (pt (pt (pt (pt (pt (pt f (fPl 5634) ((n + 1 + 0 : Nat) : Int)) (fPl 5638) ((n + 1 + 8 : Nat) : Int)) (fPl 5642) ((n + 1 + 15 : Nat) : Int)) (fPl 5646) ((n + 1 + 16 : Nat) : Int)) (fPl 5650) ((n + 1 + 21 : Nat) : Int)) (fPl 5654) ((n + 1 + 26 : Nat) : Int)) (fPl 5658) ((n + 1 + 29 : Nat) : Int)) (fPl 5662) ((n + 1 + 35 : Nat) : Int)) (fPl 5666) ((n + 1 + 39 : Nat) : Int)) (fPl 5670) ((n + 1 + 47 : Nat) : Int)) (fPl 5674) ((n + 1 + 54 : Nat) : Int)) (fPl 5678) ((n + 1 + 64 : Nat) : Int)) (fPl 5682) ((n + 1 + 71 : Nat) : Int)) (fPl 5686) ((n + 1 + 85 : Nat) : Int)) (fPl 5690) ((n + 1 + 86 : Nat) : Int)) (fPl 5694) ((n + 1 + 87 : Nat) : Int))
def cB88 (n : Nat) : List Cll := ((100, 1024, fun _ => 0) :: ((101, 1024, fun _ => 0) :: ((100, 10, fun _ => 0) :: (cB79 (n + 1 + 71) ++ ((9, 6, cF79 (n + 1 + 71) (fDef (clsT.getD 9 []))) :: (cB9 (n + 1 + 64) ++ ((1, 8, cF9 (n + 1 + 64) (fDef (clsT.getD 1 []))) :: (cB0 (n + 1 + 54) ++ ((0, 11, cF0 (n + 1 + 54) (fDef (clsT.getD 0 []))) :: (cB60 (n + 1 + 47) ++ ((6, 7, cF60 (n + 1 + 47) (fDef (clsT.getD 6 []))) :: (cB26 (n + 1 + 39) ++ ((3, 7, cF26 (n + 1 + 39) (fDef (clsT.getD 3 []))) :: (cB33 (n + 1 + 35) ++ ((4, 4, cF33 (n + 1 + 35) (fDef (clsT.getD 4 []))) :: (cB17 (n + 1 + 29) ++ ((2, 7, cF17 (n + 1 + 29) (fDef (clsT.getD 2 []))) :: (cB70 (n + 1 + 26) ++ ((8, 2, cF70 (n + 1 + 26) (fDef (clsT.getD 8 []))) :: (cB65 (n + 1 + 21) ++ ((7, 8, cF65 (n + 1 + 21) (fDef (clsT.getD 7 []))) :: (cB65 (n + 1 + 16) ++ ((7, 8, cF65 (n + 1 + 16) (fDef (clsT.getD 7 []))) :: ((104, 10, fun _ => -1) :: (cB37 (n + 1 + 8) ++ ((5, 9, cF37 (n + 1 + 8) (fDef (clsT.getD 5 []))) :: (cB83 (n + 1 + 0) ++ ((10, 7, cF83 (n + 1 + 0) (fDef (clsT.getD 10 []))) :: []))))))))))))))))))))))))))))
set_option maxRecDepth 100000 in
theorem c88 (X : MExt) (d : Nat) (L0 : List Cll) (n : Nat) (hn : L0.length = n) (f : Nat → Int) (c s : Nat) : Call prog clsT X (d + 4) 88 [(2, (n : Int))] (memO L0 (11, 16, f) [] c s) = some ((3, 0), memO L0 (11, 16, cF88 n f) (cB88 n) (c + 88) (s + 4316)) := by
  refine (qc88 X (d + 3) _ _).trans ?_
  refine Eq.trans (if_pos ⟨rfl, Int.natCast_nonneg n, by decide⟩) ?_
  refine Eq.trans (subN (b := 0) hn (fun L0 n hn f c s => c83 X d L0 n hn f c s) ?_ ?_) ?_
  · exact rfl
  · exact rfl
  refine (q88_6 X (d + 3) _ _ _ _).trans ?_
  refine Eq.trans (fputS (b := 8) (w := ((n + 1 + 0 : Nat) : Int)) hn (nxO hn _ ?_ _ _) ?_ ?_ ?_) ?_
  · exact rfl
  · exact rfl
  · exact ⟨rfl, rfl⟩
  · omega
  refine Eq.trans (subN (b := 8) hn (fun L0 n hn f c s => c37 X d L0 n hn f c s) ?_ ?_) ?_
  · exact rfl
  · exact rfl
  refine (q88_11 X (d + 3) _ _ _ _).trans ?_
  refine Eq.trans (fputS (b := 15) (w := ((n + 1 + 8 : Nat) : Int)) hn (nxO hn _ ?_ _ _) ?_ ?_ ?_) ?_
  · exact rfl
  · exact rfl
  · exact ⟨rfl, rfl⟩
  · omega
  refine Eq.trans (newO (b := 15) hn ?_ ?_) ?_
  · exact rfl
  · exact ⟨rfl, rfl⟩
  refine Eq.trans (subN (b := 16) hn (fun L0 n hn f c s => c65 X (d + 1) L0 n hn f c s) ?_ ?_) ?_
  · exact rfl
  · exact rfl
  refine (q88_21 X (d + 3) _ _ _ _).trans ?_
  refine Eq.trans (fputS (b := 21) (w := ((n + 1 + 16 : Nat) : Int)) hn (nxO hn _ ?_ _ _) ?_ ?_ ?_) ?_
  · exact rfl
  · exact rfl
  · exact ⟨rfl, rfl⟩
  · omega
  refine Eq.trans (subN (b := 21) hn (fun L0 n hn f c s => c65 X (d + 1) L0 n hn f c s) ?_ ?_) ?_
  · exact rfl
  · exact rfl
  refine (q88_27 X (d + 3) _ _ _ _).trans ?_
  refine Eq.trans (fputS (b := 26) (w := ((n + 1 + 21 : Nat) : Int)) hn (nxO hn _ ?_ _ _) ?_ ?_ ?_) ?_
  · exact rfl
  · exact rfl
  · exact ⟨rfl, rfl⟩
  · omega
  refine Eq.trans (subN (b := 26) hn (fun L0 n hn f c s => c70 X d L0 n hn f c s) ?_ ?_) ?_
  · exact rfl
  · exact rfl
  refine (q88_32 X (d + 3) _ _ _ _).trans ?_
  refine Eq.trans (fputS (b := 29) (w := ((n + 1 + 26 : Nat) : Int)) hn (nxO hn _ ?_ _ _) ?_ ?_ ?_) ?_
  · exact rfl
  · exact rfl
  · exact ⟨rfl, rfl⟩
  · omega
  refine Eq.trans (subN (b := 29) hn (fun L0 n hn f c s => c17 X d L0 n hn f c s) ?_ ?_) ?_
  · exact rfl
  · exact rfl
  refine (q88_37 X (d + 3) _ _ _ _).trans ?_
  refine Eq.trans (fputS (b := 35) (w := ((n + 1 + 29 : Nat) : Int)) hn (nxO hn _ ?_ _ _) ?_ ?_ ?_) ?_
  · exact rfl
  · exact rfl
  · exact ⟨rfl, rfl⟩
  · omega
  refine Eq.trans (subN (b := 35) hn (fun L0 n hn f c s => c33 X d L0 n hn f c s) ?_ ?_) ?_
  · exact rfl
  · exact rfl
  refine (q88_42 X (d + 3) _ _ _ _).trans ?_
  refine Eq.trans (fputS (b := 39) (w := ((n + 1 + 35 : Nat) : Int)) hn (nxO hn _ ?_ _ _) ?_ ?_ ?_) ?_
  · exact rfl
  · exact rfl
  · exact ⟨rfl, rfl⟩
  · omega
  refine Eq.trans (subN (b := 39) hn (fun L0 n hn f c s => c26 X d L0 n hn f c s) ?_ ?_) ?_
  · exact rfl
  · exact rfl
  refine (q88_47 X (d + 3) _ _ _ _).trans ?_
  refine Eq.trans (fputS (b := 47) (w := ((n + 1 + 39 : Nat) : Int)) hn (nxO hn _ ?_ _ _) ?_ ?_ ?_) ?_
  · exact rfl
  · exact rfl
  · exact ⟨rfl, rfl⟩
  · omega
  refine Eq.trans (subN (b := 47) hn (fun L0 n hn f c s => c60 X d L0 n hn f c s) ?_ ?_) ?_
  · exact rfl
  · exact rfl
  refine (q88_52 X (d + 3) _ _ _ _).trans ?_
  refine Eq.trans (fputS (b := 54) (w := ((n + 1 + 47 : Nat) : Int)) hn (nxO hn _ ?_ _ _) ?_ ?_ ?_) ?_
  · exact rfl
  · exact rfl
  · exact ⟨rfl, rfl⟩
  · omega
  refine Eq.trans (subN (b := 54) hn (fun L0 n hn f c s => c0 X d L0 n hn f c s) ?_ ?_) ?_
  · exact rfl
  · exact rfl
  refine (q88_57 X (d + 3) _ _ _ _).trans ?_
  refine Eq.trans (fputS (b := 64) (w := ((n + 1 + 54 : Nat) : Int)) hn (nxO hn _ ?_ _ _) ?_ ?_ ?_) ?_
  · exact rfl
  · exact rfl
  · exact ⟨rfl, rfl⟩
  · omega
  refine Eq.trans (subN (b := 64) hn (fun L0 n hn f c s => c9 X d L0 n hn f c s) ?_ ?_) ?_
  · exact rfl
  · exact rfl
  refine (q88_62 X (d + 3) _ _ _ _).trans ?_
  refine Eq.trans (fputS (b := 71) (w := ((n + 1 + 64 : Nat) : Int)) hn (nxO hn _ ?_ _ _) ?_ ?_ ?_) ?_
  · exact rfl
  · exact rfl
  · exact ⟨rfl, rfl⟩
  · omega
  refine Eq.trans (subN (b := 71) hn (fun L0 n hn f c s => c79 X d L0 n hn f c s) ?_ ?_) ?_
  · exact rfl
  · exact rfl
  refine (q88_67 X (d + 3) _ _ _ _).trans ?_
  refine Eq.trans (fputS (b := 85) (w := ((n + 1 + 71 : Nat) : Int)) hn (nxO hn _ ?_ _ _) ?_ ?_ ?_) ?_
  · exact rfl
  · exact rfl
  · exact ⟨rfl, rfl⟩
  · omega
  refine Eq.trans (newO (b := 85) hn ?_ ?_) ?_
  · exact rfl
  · exact ⟨rfl, rfl⟩
  refine Eq.trans (newO (b := 86) hn ?_ ?_) ?_
  · exact rfl
  · exact ⟨rfl, rfl⟩
  refine Eq.trans (newO (b := 87) hn ?_ ?_) ?_
  · exact rfl
  · exact ⟨rfl, rfl⟩
  exact congrArg (fun q => some ((3, 0), q)) (memO_e _ _ (by omega) (by omega))
