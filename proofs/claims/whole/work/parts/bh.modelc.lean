/-! Part bh: printed by a program: what the constructor of the reference makes. -/
set_option maxRecDepth 100000 in
theorem c149 (X : MExt) (d : Nat) (L0 : List Cll) (n : Nat) (hn : L0.length = n) (f : Nat → Int) (c s : Nat) : Call prog clsT X (d + 1) 149 [(2, (n : Int))] (memO L0 (12, 87, f) [] c s) = some ((3, 0), memO L0 (12, 87, cF149 n f) (cB149 n) (c + 68) (s + 19822)) := by
  refine (qc149 X (d + 0) _ _).trans ?_
  refine Eq.trans (if_pos ⟨rfl, Int.natCast_nonneg n, by decide⟩) ?_
  refine Eq.trans (newO (b := 0) hn ?_ ?_) ?_
  · exact rfl
  · exact ⟨rfl, rfl⟩
  refine Eq.trans (newO (b := 1) hn ?_ ?_) ?_
  · exact rfl
  · exact ⟨rfl, rfl⟩
  refine Eq.trans (newO (b := 2) hn ?_ ?_) ?_
  · exact rfl
  · exact ⟨rfl, rfl⟩
  refine Eq.trans (newO (b := 3) hn ?_ ?_) ?_
  · exact rfl
  · exact ⟨rfl, rfl⟩
  refine Eq.trans (newO (b := 4) hn ?_ ?_) ?_
  · exact rfl
  · exact ⟨rfl, rfl⟩
  refine Eq.trans (newO (b := 5) hn ?_ ?_) ?_
  · exact rfl
  · exact ⟨rfl, rfl⟩
  refine Eq.trans (newO (b := 6) hn ?_ ?_) ?_
  · exact rfl
  · exact ⟨rfl, rfl⟩
  refine Eq.trans (newO (b := 7) hn ?_ ?_) ?_
  · exact rfl
  · exact ⟨rfl, rfl⟩
  refine Eq.trans (newO (b := 8) hn ?_ ?_) ?_
  · exact rfl
  · exact ⟨rfl, rfl⟩
  refine Eq.trans (newO (b := 9) hn ?_ ?_) ?_
  · exact rfl
  · exact ⟨rfl, rfl⟩
  refine Eq.trans (newO (b := 10) hn ?_ ?_) ?_
  · exact rfl
  · exact ⟨rfl, rfl⟩
  refine Eq.trans (newO (b := 11) hn ?_ ?_) ?_
  · exact rfl
  · exact ⟨rfl, rfl⟩
  refine Eq.trans (newO (b := 12) hn ?_ ?_) ?_
  · exact rfl
  · exact ⟨rfl, rfl⟩
  refine Eq.trans (newO (b := 13) hn ?_ ?_) ?_
  · exact rfl
  · exact ⟨rfl, rfl⟩
  refine Eq.trans (newO (b := 14) hn ?_ ?_) ?_
  · exact rfl
  · exact ⟨rfl, rfl⟩
  refine Eq.trans (newO (b := 15) hn ?_ ?_) ?_
  · exact rfl
  · exact ⟨rfl, rfl⟩
  refine Eq.trans (newO (b := 16) hn ?_ ?_) ?_
  · exact rfl
  · exact ⟨rfl, rfl⟩
  refine Eq.trans (newO (b := 17) hn ?_ ?_) ?_
  · exact rfl
  · exact ⟨rfl, rfl⟩
  refine Eq.trans (newO (b := 18) hn ?_ ?_) ?_
  · exact rfl
  · exact ⟨rfl, rfl⟩
  refine Eq.trans (newO (b := 19) hn ?_ ?_) ?_
  · exact rfl
  · exact ⟨rfl, rfl⟩
  refine Eq.trans (newO (b := 20) hn ?_ ?_) ?_
  · exact rfl
  · exact ⟨rfl, rfl⟩
  refine Eq.trans (newO (b := 21) hn ?_ ?_) ?_
  · exact rfl
  · exact ⟨rfl, rfl⟩
  refine Eq.trans (newO (b := 22) hn ?_ ?_) ?_
  · exact rfl
  · exact ⟨rfl, rfl⟩
  refine Eq.trans (newO (b := 23) hn ?_ ?_) ?_
  · exact rfl
  · exact ⟨rfl, rfl⟩
  refine Eq.trans (newO (b := 24) hn ?_ ?_) ?_
  · exact rfl
  · exact ⟨rfl, rfl⟩
  refine Eq.trans (newO (b := 25) hn ?_ ?_) ?_
  · exact rfl
  · exact ⟨rfl, rfl⟩
  refine Eq.trans (newO (b := 26) hn ?_ ?_) ?_
  · exact rfl
  · exact ⟨rfl, rfl⟩
  refine Eq.trans (newO (b := 27) hn ?_ ?_) ?_
  · exact rfl
  · exact ⟨rfl, rfl⟩
  refine Eq.trans (newO (b := 28) hn ?_ ?_) ?_
  · exact rfl
  · exact ⟨rfl, rfl⟩
  refine Eq.trans (newO (b := 29) hn ?_ ?_) ?_
  · exact rfl
  · exact ⟨rfl, rfl⟩
  refine Eq.trans (newO (b := 30) hn ?_ ?_) ?_
  · exact rfl
  · exact ⟨rfl, rfl⟩
  refine Eq.trans (newO (b := 31) hn ?_ ?_) ?_
  · exact rfl
  · exact ⟨rfl, rfl⟩
  refine Eq.trans (newO (b := 32) hn ?_ ?_) ?_
  · exact rfl
  · exact ⟨rfl, rfl⟩
  refine Eq.trans (newO (b := 33) hn ?_ ?_) ?_
  · exact rfl
  · exact ⟨rfl, rfl⟩
  refine Eq.trans (newO (b := 34) hn ?_ ?_) ?_
  · exact rfl
  · exact ⟨rfl, rfl⟩
  refine Eq.trans (newO (b := 35) hn ?_ ?_) ?_
  · exact rfl
  · exact ⟨rfl, rfl⟩
  refine Eq.trans (newO (b := 36) hn ?_ ?_) ?_
  · exact rfl
  · exact ⟨rfl, rfl⟩
  refine Eq.trans (newO (b := 37) hn ?_ ?_) ?_
  · exact rfl
  · exact ⟨rfl, rfl⟩
  refine Eq.trans (newO (b := 38) hn ?_ ?_) ?_
  · exact rfl
  · exact ⟨rfl, rfl⟩
  refine Eq.trans (newO (b := 39) hn ?_ ?_) ?_
  · exact rfl
  · exact ⟨rfl, rfl⟩
  refine Eq.trans (newO (b := 40) hn ?_ ?_) ?_
  · exact rfl
  · exact ⟨rfl, rfl⟩
  refine Eq.trans (newO (b := 41) hn ?_ ?_) ?_
  · exact rfl
  · exact ⟨rfl, rfl⟩
  refine Eq.trans (newO (b := 42) hn ?_ ?_) ?_
  · exact rfl
  · exact ⟨rfl, rfl⟩
  refine Eq.trans (newO (b := 43) hn ?_ ?_) ?_
  · exact rfl
  · exact ⟨rfl, rfl⟩
  refine Eq.trans (newO (b := 44) hn ?_ ?_) ?_
  · exact rfl
  · exact ⟨rfl, rfl⟩
  refine Eq.trans (newO (b := 45) hn ?_ ?_) ?_
  · exact rfl
  · exact ⟨rfl, rfl⟩
  refine Eq.trans (newO (b := 46) hn ?_ ?_) ?_
  · exact rfl
  · exact ⟨rfl, rfl⟩
  refine Eq.trans (newO (b := 47) hn ?_ ?_) ?_
  · exact rfl
  · exact ⟨rfl, rfl⟩
  refine Eq.trans (newO (b := 48) hn ?_ ?_) ?_
  · exact rfl
  · exact ⟨rfl, rfl⟩
  refine Eq.trans (newO (b := 49) hn ?_ ?_) ?_
  · exact rfl
  · exact ⟨rfl, rfl⟩
  refine Eq.trans (newO (b := 50) hn ?_ ?_) ?_
  · exact rfl
  · exact ⟨rfl, rfl⟩
  refine Eq.trans (newO (b := 51) hn ?_ ?_) ?_
  · exact rfl
  · exact ⟨rfl, rfl⟩
  refine Eq.trans (newO (b := 52) hn ?_ ?_) ?_
  · exact rfl
  · exact ⟨rfl, rfl⟩
  refine Eq.trans (newO (b := 53) hn ?_ ?_) ?_
  · exact rfl
  · exact ⟨rfl, rfl⟩
  refine Eq.trans (newO (b := 54) hn ?_ ?_) ?_
  · exact rfl
  · exact ⟨rfl, rfl⟩
  refine Eq.trans (newO (b := 55) hn ?_ ?_) ?_
  · exact rfl
  · exact ⟨rfl, rfl⟩
  refine Eq.trans (newO (b := 56) hn ?_ ?_) ?_
  · exact rfl
  · exact ⟨rfl, rfl⟩
  refine Eq.trans (newO (b := 57) hn ?_ ?_) ?_
  · exact rfl
  · exact ⟨rfl, rfl⟩
  refine Eq.trans (newO (b := 58) hn ?_ ?_) ?_
  · exact rfl
  · exact ⟨rfl, rfl⟩
  refine Eq.trans (newO (b := 59) hn ?_ ?_) ?_
  · exact rfl
  · exact ⟨rfl, rfl⟩
  refine Eq.trans (newO (b := 60) hn ?_ ?_) ?_
  · exact rfl
  · exact ⟨rfl, rfl⟩
  refine Eq.trans (newO (b := 61) hn ?_ ?_) ?_
  · exact rfl
  · exact ⟨rfl, rfl⟩
  refine Eq.trans (newO (b := 62) hn ?_ ?_) ?_
  · exact rfl
  · exact ⟨rfl, rfl⟩
  refine Eq.trans (newO (b := 63) hn ?_ ?_) ?_
  · exact rfl
  · exact ⟨rfl, rfl⟩
  refine Eq.trans (newO (b := 64) hn ?_ ?_) ?_
  · exact rfl
  · exact ⟨rfl, rfl⟩
  refine Eq.trans (newO (b := 65) hn ?_ ?_) ?_
  · exact rfl
  · exact ⟨rfl, rfl⟩
  refine Eq.trans (newO (b := 66) hn ?_ ?_) ?_
  · exact rfl
  · exact ⟨rfl, rfl⟩
  refine Eq.trans (newO (b := 67) hn ?_ ?_) ?_
  · exact rfl
  · exact ⟨rfl, rfl⟩
  have e : ∀ (c2 s2 : Nat), Ev prog clsT X d mc149 276 [(2, (n : Int)), (0, 0)] [] (memO L0 (12, 87, f149 n f) (Mo149 zz zz zz zz) c2 s2) = some ((3, 0), memO L0 (12, 87, cF149 n f) (cB149 n) c2 s2) := fun c2 s2 => by
    have e1 := l276 X d hn (f149 n f) (fp_6366 n f) (fp_6354 n f) zz zz c2 s2 10 0 rfl
    have e2 := l293 X d hn (f149 n f) (fp_6466 n f) (fl 10 1 zz) (fl 10 (-1) zz) zz c2 s2 50 0 rfl
    have e3 := l305 X d hn (f149 n f) (fp_6410 n f) (fl 10 1 zz) (fl 10 (-1) zz) (fl 50 (-1) zz) c2 s2 3 0 rfl
    rw [fl_0, fl_0] at e1
    rw [fl_0] at e2
    rw [ys_0] at e3
    exact (e1.trans e2).trans e3
  refine Eq.trans (e _ _) ?_
  exact congrArg (fun q => some ((3, 0), q)) (memO_e _ _ (by omega) (by omega))
