/-! Part 93: which word of a list stands at a token. -/
def colOK (l : List Int) (ws : List (List Int)) : Prop := l.length = 8 * ws.length ∧ ∀ k, k < ws.length → (ws.getD k []).length ≤ 8 ∧ (∀ i, i < (ws.getD k []).length → l.getD (8 * k + i) 0 = (ws.getD k []).getD i 0 ∧ l.getD (8 * k + i) 0 ≠ 32) ∧ ((ws.getD k []).length < 8 → l.getD (8 * k + (ws.getD k []).length) 0 = 32)
theorem colOK_E : colOK sEF wEF := by unfold colOK; decide +kernel
theorem colOK_P : colOK sPF wPF := by unfold colOK; decide +kernel
theorem colOK_L : colOK sLW wLW := by unfold colOK; decide +kernel
def colO (T : Nat → Int) (L b : Nat) (ws : List (List Int)) : Nat → Nat → Int
  | 0, _ => -1
  | n + 1, k => if wd T L b (ws.getD k []) then k else colO T L b ws n (k + 1)
/-- the place in the list of the word at b; -1: none -/
def col (T : Nat → Int) (L b : Nat) (ws : List (List Int)) : Int := colO T L b ws ws.length 0
theorem colO_n {T : Nat → Int} {L b : Nat} {ws : List (List Int)} (h : tokT T L b ≠ 1) : ∀ n k, colO T L b ws n k = -1
  | 0, _ => rfl
  | n + 1, k => by
    unfold colO
    rw [if_neg (fun q => h q.1)]
    exact colO_n h n (k + 1)
theorem colO_bd {T : Nat → Int} {L b : Nat} {ws : List (List Int)} : ∀ n k, colO T L b ws n k = -1 ∨ ((k : Int) ≤ colO T L b ws n k ∧ colO T L b ws n k < (k + n : Nat) ∧ wd T L b (ws.getD (colO T L b ws n k).toNat []))
  | 0, _ => Or.inl rfl
  | n + 1, k => by
    unfold colO
    by_cases q : wd T L b (ws.getD k [])
    · rw [if_pos q]; exact Or.inr ⟨Int.le_refl _, by omega, by rw [Int.toNat_natCast]; exact q⟩
    · rw [if_neg q]
      rcases colO_bd (T := T) (L := L) (b := b) (ws := ws) n (k + 1) with h | h
      · exact Or.inl h
      · exact Or.inr ⟨by omega, by omega, h.2.2⟩
theorem cw1 (k i : Nat) (hk : k < 1000) (hi : i < 8) : w32 (((8 * k : Nat) : Int) + (i : Int)) = ((8 * k + i : Nat) : Int) := by rw [w32_of (by omega) (by omega)]; omega
theorem cw2 {k n i m len : Nat} (hk : k + (n + 1) = m) (hi : i < 8) (hl : len = 8 * m) : 8 * k + i < len := by omega
theorem cw3 {k n m len : Nat} (hk : k + n = m) (hl : len = 8 * m) (hx : len < 1000) : k < 1000 := by omega
theorem cw4 {i n : Nat} (hi : i < n) (hn : n ≤ 8) : ¬ ((8 : Int) ≤ (i : Int)) := by omega
theorem cw5 {k i : Nat} (hk : k < 1000) (hi : i < 8) : w32 (((8 * k + i : Nat) : Int) + 1) = ((8 * k + i + 1 : Nat) : Int) := w32_succ (by omega)
theorem cw6 {n : Nat} (z : ¬ (8 ≤ n)) : ¬ ((8 : Int) ≤ (n : Int)) := by omega
section COLS
variable (X : MExt) (E : List (Nat × Nat)) (c s : Nat) {g : Nat → Nat → Int} {T : Nat → Int}
/-- Reader.columnIn -/
theorem c44t {x : Int} {l : List Int} {ws : List (List Int)} (hs : STR X x l) (hc : colOK l ws) (d : Nat) {L b : Nat} (h : TC T L b g) : Call prog clsT X (d + 6) 44 [(2, 9), (2, x)] (mk E c s (hh g)) = some ((0, col T L b ws), mk E c s (hh g)) := by
  obtain ⟨a1, a2, a3, a4, a5, a6, a7, a8, a9, a10⟩ := h
  have hb := tokE_bd (T := T) a2
  have hl := hs.2.2.2.1
  have hlen := hc.1
  rw [rc44_, cmp_eq, a9]
  by_cases q : tokT T L b = 1
  case neg =>
    rw [if_neg q]
    show _ = some ((0, colO T L b ws ws.length 0), _)
    rw [colO_n q]
  rw [if_pos q]
  have outer : ∀ (n k : Nat) (w3 w4 w5 : MV), k + n = ws.length → Ev prog clsT X (d + 5) mc44 8 [(2, 9), (2, x), (0, (k : Int)), w3, w4, w5] [] (mk E c s (hh g)) = some ((0, colO T L b ws n k), mk E c s (hh g)) := by
    intro n
    induction n with
    | zero =>
      intro k w3 w4 w5 hk
      have e1 : w32 (w32 ((k : Int) + 1) * 8) = ((8 * (k + 1) : Nat) : Int) := by rw [w32_succ (by omega), w32_of (by omega) (by omega)]; omega
      rw [r44_8, srv X E c s hs, call0 (m252 X E c s hs (d + 3)), push0, r44_15, e1, cmp_gt, if_pos (by omega)]
      rfl
    | succ n ih =>
      intro k w3 w4 w5 hk
      have e1 : w32 (w32 ((k : Int) + 1) * 8) = ((8 * (k + 1) : Nat) : Int) := by rw [w32_succ (by omega), w32_of (by omega) (by omega)]; omega
      have e2 : w32 ((k : Int) * 8) = ((8 * k : Nat) : Int) := by rw [w32_of (by omega) (by omega)]; omega
      have hk9 : k < 1000 := cw3 hk hlen hl
      obtain ⟨c1, c2, c3⟩ := hc.2 k (by omega)
      rw [r44_8, srv X E c s hs, call0 (m252 X E c s hs (d + 3)), push0, r44_15, e1, cmp_gt, if_neg (by omega), e2]
      have fin : Ev prog clsT X (d + 5) mc44 24 [(2, 9), (2, x), (0, (k : Int)), (0, ((8 * k : Nat) : Int)), (0, ((8 * k + (ws.getD k []).length : Nat) : Int)), (0, (((ws.getD k []).length : Nat) : Int))] [] (mk E c s (hh g)) = some ((0, colO T L b ws (n + 1) k), mk E c s (hh g)) := by
        have e45 : Call prog clsT X (d + 5) 45 [(2, 9), (2, x), (0, ((8 * k : Nat) : Int)), (0, ((8 * k + (ws.getD k []).length : Nat) : Int))] (mk E c s (hh g)) = some ((0, bI (wd T L b (ws.getD k []))), mk E c s (hh g)) := by
          rw [c45 X E c s hs d b (tokE T L b) (8 * k) (8 * k + (ws.getD k []).length) (by omega) hb.1 a7 a8 (by omega) (by omega), Nat.add_sub_cancel_left]
          refine congrArg (fun v => some (((0 : Nat), v), mk E c s (hh g))) (bI_congr ⟨fun z => ⟨q, z.1, fun i hi => ?_⟩, fun z => ⟨z.2.1, fun i hi => ?_⟩⟩)
          · rw [← a4 (b + i) (by omega), z.2 i hi, Nat.zero_add]; exact (c2 i hi).1
          · have h2 := z.2.1
            rw [a4 (b + i) (by omega), z.2.2 i hi, Nat.zero_add]; exact (c2 i hi).1.symm
        have last : ((Call prog clsT X (d + 5) 45 [(2, 9), (2, x), (0, ((8 * k : Nat) : Int)), (0, ((8 * k + (ws.getD k []).length : Nat) : Int))] (mk E c s (hh g))).bind fun r1 => if r1.1.1 = 4 then none else
          Ev prog clsT X (d + 5) mc44 42 [(2, 9), (2, x), (0, (k : Int)), (0, ((8 * k : Nat) : Int)), (0, ((8 * k + (ws.getD k []).length : Nat) : Int)), (0, (((ws.getD k []).length : Nat) : Int))] (pushR r1.1 []) r1.2) = some ((0, colO T L b ws (n + 1) k), mk E c s (hh g)) := by
          rw [call0 e45, push0, r44_42, cmp_eq, bI_eq0, w32_succ (by omega)]
          by_cases z : wd T L b (ws.getD k [])
          · rw [if_neg (fun y => y z), show colO T L b ws (n + 1) k = k from if_pos z]
          · rw [if_pos z, show colO T L b ws (n + 1) k = colO T L b ws n (k + 1) from if_neg z]
            exact ih (k + 1) _ _ _ (by omega)
        rw [r44_24, cmp_ge]
        by_cases z : 8 ≤ (ws.getD k []).length
        · rw [if_pos (by omega)]; exact last
        · have z8 := Nat.lt_of_not_le z
          rw [if_neg (cw6 z), srv X E c s hs, cw1 k _ hk9 z8, call0 (m254 X E c s hs (d + 1) (8 * k + (ws.getD k []).length) (cw2 hk z8 hlen)), push0, r44_32, c3 z8, cmp_eq, if_pos rfl]
          exact last
      have inner : ∀ (m i : Nat), i + m = (ws.getD k []).length → Ev prog clsT X (d + 5) mc44 24 [(2, 9), (2, x), (0, (k : Int)), (0, ((8 * k : Nat) : Int)), (0, ((8 * k + i : Nat) : Int)), (0, (i : Int))] [] (mk E c s (hh g)) = some ((0, colO T L b ws (n + 1) k), mk E c s (hh g)) := by
        intro m
        induction m with
        | zero => intro i hi; rw [show i = (ws.getD k []).length by omega]; exact fin
        | succ m ihm =>
          intro i hi
          have hin : i < (ws.getD k []).length := by clear c2 c3 fin; omega
          have hi8 : i < 8 := Nat.lt_of_lt_of_le hin c1
          rw [r44_24, cmp_ge, if_neg (cw4 hin c1), srv X E c s hs, cw1 k i hk9 hi8, call0 (m254 X E c s hs (d + 1) (8 * k + i) (cw2 hk hi8 hlen)), push0, r44_32, cmp_eq, if_neg (c2 i hin).2, cw5 hk9 hi8, w32_succ (Nat.lt_trans hi8 (by decide))]
          exact ihm (i + 1) (by omega)
      exact inner (ws.getD k []).length 0 (by omega)
  exact outer ws.length 0 _ _ _ (by omega)
/-- the fact at b, from 1; 0: none -/
def fc (pl : Bool) (T : Nat → Int) (L b : Nat) : Int := col T L b (if pl = true then wPF else wEF) + 1
theorem pk_c {L b : Nat} {l : List Int} {w : Int} (h : TM T L b g) (ht : tokT T L b = 1) (hl : ltr (fun i => l.getD i 0) l.length) (hw : pkF (fun i => l.getD i 0) l.length = w) : (g 89 23 = w) = wd T L b l := by
  obtain ⟨a1, a2, a3, a4, a5, a6, a7, a8, a9⟩ := h
  rw [a9 ht]
  exact propext (pk_wd a2 hl hw ht)
/-- Model.planFact, Model.entryFact -/
theorem m178t (d : Nat) {L b : Nat} (h : TM T L b g) (ht : tokT T L b = 1) : Call prog clsT X (d + 1) 178 [(2, 89)] (mk E c s (hh g)) = some ((0, fc true T L b), mk E c s (hh g)) := by
  rw [rc178_]
  simp only [cmp_ne, lcmpn0]
  have e0 := pk_c h ht (l := wPF.getD 0 []) (w := 10634) (by unfold ltr; decide +kernel) (by decide +kernel)
  have e1 := pk_c h ht (l := wPF.getD 1 []) (w := 237458) (by unfold ltr; decide +kernel) (by decide +kernel)
  have e2 := pk_c h ht (l := wPF.getD 2 []) (w := 267347) (by unfold ltr; decide +kernel) (by decide +kernel)
  have e3 := pk_c h ht (l := wPF.getD 3 []) (w := 6476969) (by unfold ltr; decide +kernel) (by decide +kernel)
  have e4 := pk_c h ht (l := wPF.getD 4 []) (w := 259565) (by unfold ltr; decide +kernel) (by decide +kernel)
  have e5 := pk_c h ht (l := wPF.getD 5 []) (w := 13385674) (by unfold ltr; decide +kernel) (by decide +kernel)
  have e6 := pk_c h ht (l := wPF.getD 6 []) (w := 223456) (by unfold ltr; decide +kernel) (by decide +kernel)
  have e7 := pk_c h ht (l := wPF.getD 7 []) (w := 330846583) (by unfold ltr; decide +kernel) (by decide +kernel)
  simp only [e0, e1, e2, e3, e4, e5, e6, e7]
  show _ = some ((0, colO T L b wPF 8 0 + 1), _)
  unfold colO
  by_cases q0 : wd T L b (wPF.getD 0 [])
  · rw [if_neg (fun z => z q0), if_pos q0]; rfl
  · rw [if_pos q0, if_neg q0]
    unfold colO
    by_cases q1 : wd T L b (wPF.getD 1 [])
    · rw [if_neg (fun z => z q1), if_pos q1]; rfl
    · rw [if_pos q1, if_neg q1]
      unfold colO
      by_cases q2 : wd T L b (wPF.getD 2 [])
      · rw [if_neg (fun z => z q2), if_pos q2]; rfl
      · rw [if_pos q2, if_neg q2]
        unfold colO
        by_cases q3 : wd T L b (wPF.getD 3 [])
        · rw [if_neg (fun z => z q3), if_pos q3]; rfl
        · rw [if_pos q3, if_neg q3]
          unfold colO
          by_cases q4 : wd T L b (wPF.getD 4 [])
          · rw [if_neg (fun z => z q4), if_pos q4]; rfl
          · rw [if_pos q4, if_neg q4]
            unfold colO
            by_cases q5 : wd T L b (wPF.getD 5 [])
            · rw [if_neg (fun z => z q5), if_pos q5]; rfl
            · rw [if_pos q5, if_neg q5]
              unfold colO
              by_cases q6 : wd T L b (wPF.getD 6 [])
              · rw [if_neg (fun z => z q6), if_pos q6]; rfl
              · rw [if_pos q6, if_neg q6]
                unfold colO
                by_cases q7 : wd T L b (wPF.getD 7 [])
                · rw [if_neg (fun z => z q7), if_pos q7]; rfl
                · rw [if_pos q7, if_neg q7]
                  rfl
theorem m179t (d : Nat) {L b : Nat} (h : TM T L b g) (ht : tokT T L b = 1) : Call prog clsT X (d + 1) 179 [(2, 89)] (mk E c s (hh g)) = some ((0, fc false T L b), mk E c s (hh g)) := by
  rw [rc179_]
  simp only [cmp_ne, lcmpn0]
  have e0 := pk_c h ht (l := wEF.getD 0 []) (w := 234466237) (by unfold ltr; decide +kernel) (by decide +kernel)
  have e1 := pk_c h ht (l := wEF.getD 1 []) (w := 6033331) (by unfold ltr; decide +kernel) (by decide +kernel)
  have e2 := pk_c h ht (l := wEF.getD 2 []) (w := 11047) (by unfold ltr; decide +kernel) (by decide +kernel)
  have e3 := pk_c h ht (l := wEF.getD 3 []) (w := 381245) (by unfold ltr; decide +kernel) (by decide +kernel)
  have e4 := pk_c h ht (l := wEF.getD 4 []) (w := 281490259) (by unfold ltr; decide +kernel) (by decide +kernel)
  have e5 := pk_c h ht (l := wEF.getD 5 []) (w := 4075223) (by unfold ltr; decide +kernel) (by decide +kernel)
  have e6 := pk_c h ht (l := wEF.getD 6 []) (w := 12532043) (by unfold ltr; decide +kernel) (by decide +kernel)
  have e7 := pk_c h ht (l := wEF.getD 7 []) (w := 923) (by unfold ltr; decide +kernel) (by decide +kernel)
  have e8 := pk_c h ht (l := wEF.getD 8 []) (w := 4562600) (by unfold ltr; decide +kernel) (by decide +kernel)
  have e9 := pk_c h ht (l := wEF.getD 9 []) (w := 17186) (by unfold ltr; decide +kernel) (by decide +kernel)
  have e10 := pk_c h ht (l := wEF.getD 10 []) (w := 2148976972) (by unfold ltr; decide +kernel) (by decide +kernel)
  simp only [e0, e1, e2, e3, e4, e5, e6, e7, e8, e9, e10]
  show _ = some ((0, colO T L b wEF 11 0 + 1), _)
  unfold colO
  by_cases q0 : wd T L b (wEF.getD 0 [])
  · rw [if_neg (fun z => z q0), if_pos q0]; rfl
  · rw [if_pos q0, if_neg q0]
    unfold colO
    by_cases q1 : wd T L b (wEF.getD 1 [])
    · rw [if_neg (fun z => z q1), if_pos q1]; rfl
    · rw [if_pos q1, if_neg q1]
      unfold colO
      by_cases q2 : wd T L b (wEF.getD 2 [])
      · rw [if_neg (fun z => z q2), if_pos q2]; rfl
      · rw [if_pos q2, if_neg q2]
        unfold colO
        by_cases q3 : wd T L b (wEF.getD 3 [])
        · rw [if_neg (fun z => z q3), if_pos q3]; rfl
        · rw [if_pos q3, if_neg q3]
          unfold colO
          by_cases q4 : wd T L b (wEF.getD 4 [])
          · rw [if_neg (fun z => z q4), if_pos q4]; rfl
          · rw [if_pos q4, if_neg q4]
            unfold colO
            by_cases q5 : wd T L b (wEF.getD 5 [])
            · rw [if_neg (fun z => z q5), if_pos q5]; rfl
            · rw [if_pos q5, if_neg q5]
              unfold colO
              by_cases q6 : wd T L b (wEF.getD 6 [])
              · rw [if_neg (fun z => z q6), if_pos q6]; rfl
              · rw [if_pos q6, if_neg q6]
                unfold colO
                by_cases q7 : wd T L b (wEF.getD 7 [])
                · rw [if_neg (fun z => z q7), if_pos q7]; rfl
                · rw [if_pos q7, if_neg q7]
                  unfold colO
                  by_cases q8 : wd T L b (wEF.getD 8 [])
                  · rw [if_neg (fun z => z q8), if_pos q8]; rfl
                  · rw [if_pos q8, if_neg q8]
                    unfold colO
                    by_cases q9 : wd T L b (wEF.getD 9 [])
                    · rw [if_neg (fun z => z q9), if_pos q9]; rfl
                    · rw [if_pos q9, if_neg q9]
                      unfold colO
                      by_cases q10 : wd T L b (wEF.getD 10 [])
                      · rw [if_neg (fun z => z q10), if_pos q10]; rfl
                      · rw [if_pos q10, if_neg q10]
                        rfl
/-- Model.factAt -/
theorem m177t (d : Nat) {L b : Nat} {pl : Bool} (h : TM T L b g) (hp : g 89 36 = if pl = true then 1 else 0) : Call prog clsT X (d + 2) 177 [(2, 89)] (mk E c s (hh g)) = some ((0, fc pl T L b), mk E c s (hh g)) := by
  rw [rc177_, cmp_eq, h.2.2.2.2.2.2.1]
  by_cases ht : tokT T L b = 1
  · rw [if_pos ht, cmp_eq]
    cases pl with
    | true =>
      have hp' : g 89 36 = 1 := hp
      rw [hp', if_neg (by decide), call0 (m178t X E c s d h ht), push0, r177_11, r177_14]
    | false =>
      have hp' : g 89 36 = 0 := hp
      rw [hp', if_pos rfl, call0 (m179t X E c s d h ht), push0, r177_14]
  · rw [if_neg ht, r177_14]
    show _ = some ((0, colO T L b _ _ 0 + 1), _)
    rw [colO_n ht]
    rfl
end COLS
