/-! Part 9h: every line is read alike. -/
section LINE
variable {X : MExt} {T : Nat → Int} {L : Nat}
noncomputable def F43 (X : MExt) (tx : Nat) (t : Nat) : CF := fun E c s g => Call prog clsT X (t + 1) 43 [(2, 9), (0, (tx : Int))] (mk E c s (hh g))
noncomputable def G43 (X : MExt) (tx : Nat) (t : Nat) : CF := fun E c s g => if tx = 2 then Call prog clsT X (t + 10) 170 [(2, 89)] (mk E c s (hh g)) else Call prog clsT X (t + 10) 182 [(2, 89), (0, if tx = 1 then 1 else 0)] (mk E c s (hh g))
theorem OUT_map {tx n : Nat} {a : Sm} {F F' G G' : Nat → CF} {f : Nat → Nat} (h : OUT T L tx n a F G) (hF : ∀ t E c s r g, 60 ≤ t → CI T L (plan tx) E r n g → F' t E c s g = F t E c s g) (hG : ∀ t E c s g v g', MI T L (plan tx) n g → one01 v = true → G (f t) E c s g = some ((0, v), mk E c s (hh g')) → G' t E c s g = some ((0, v), mk E c s (hh g'))) : OUT T L tx n a F' G' := by
  rcases h with ⟨fl, b1, b2⟩ | ⟨m, a', a1, a2, a3, a4, a5⟩
  · refine Or.inl ⟨fl, fun t E c s r g ht h hc => ?_, fun t E c s g h hm => ?_⟩
    · rw [hF t E c s r g ht h]; exact b1 t E c s r g ht h hc
    · obtain ⟨g', k1, k2⟩ := b2 (f t) E c s g h hm
      exact ⟨g', hG t E c s g 0 g' h rfl k1, k2⟩
  · refine Or.inr ⟨m, a', a1, a2, a3, fun t E c s r g ht h hc => ?_, fun t E c s g h hm => ?_⟩
    · rw [hF t E c s r g ht h]; exact a4 t E c s r g ht h hc
    · obtain ⟨g', k1, k2⟩ := a5 (f t) E c s g h hm
      exact ⟨g', hG t E c s g 1 g' h rfl k1, k2⟩
def okw (tx k : Nat) : Bool := (tx == 0 && decide (k < 4)) || (tx == 1 && k == 1) || (tx == 2 && decide (4 ≤ k))
theorem okw_is : ∀ tx : Nat, tx < 3 → ∀ k : Nat, k < 7 → (iand32 (ishr32 (([1, 3, 1, 1, 4, 4, 4] : List Int).getD k 0) (tx : Int)) 1 = 0 ↔ okw tx k = false) := by decide +kernel
theorem wLW_ne : ∀ i : Nat, i < 7 → ∀ j : Nat, j < 7 → i ≠ j → wLW.getD i [] ≠ wLW.getD j [] := by decide +kernel
theorem wd_only {n k i : Nat} (h : wd T L n (wLW.getD k [])) (hk : k < 7) (hi : i < 7) (hne : i ≠ k) : ¬ wd T L n (wLW.getD i []) := fun q => wLW_ne i hi k hk hne (wd_inj q h)
theorem colO_neg {T : Nat → Int} {L b : Nat} {ws : List (List Int)} : ∀ n k, colO T L b ws n k = -1 → ∀ j, k ≤ j → j < k + n → ¬ wd T L b (ws.getD j [])
  | 0, k, _, j, h1, h2 => absurd h2 (by omega)
  | n + 1, k, h, j, h1, h2 => by
    unfold colO at h
    by_cases q : wd T L b (ws.getD k [])
    · rw [if_pos q] at h; omega
    · rw [if_neg q] at h
      by_cases e : j = k
      · rw [e]; exact q
      · exact colO_neg n (k + 1) h j (by omega) (by omega)
theorem col_cases {n : Nat} : (col T L n wLW = -1 ∧ ∀ i, i < 7 → ¬ wd T L n (wLW.getD i [])) ∨ ∃ k : Nat, k < 7 ∧ col T L n wLW = k ∧ wd T L n (wLW.getD k []) := by
  have h := colO_bd (T := T) (L := L) (b := n) (ws := wLW) wLW.length 0
  rcases h with h | h
  · exact Or.inl ⟨h, fun i hi => colO_neg _ _ h i (by omega) (by show i < 0 + 7; omega)⟩
  · refine Or.inr ⟨(colO T L n wLW wLW.length 0).toNat, ?_, ?_, h.2.2⟩
    · have := h.2.1
      have e : wLW.length = 7 := rfl
      omega
    · show colO T L n wLW wLW.length 0 = _
      omega
section DIS
variable (E : List (Nat × Nat)) (c s : Nat) {g : Gm}
theorem agT (hX : XT X) (k : Nat) (hk : k < 7) {f : Int → Option MRes} : (aget X 100 (mk E c s (hh g)) (-3) (k : Int)).bind f = f (([1, 3, 1, 1, 4, 4, 4] : List Int).getD k 0) := by
  unfold aget
  rw [if_neg (by decide), if_pos (by decide), hX.2.2.2.2.2.2.2.2.2.1, if_pos rfl]
  show (if inb (k : Int) 7 = true then some _ else none).bind f = _
  rw [inb_is, if_pos (by omega), Int.toNat_natCast]
  rfl
theorem agL (hX : XT X) (k : Nat) (hk : k < 7) {f : Int → Option MRes} : (aget X 100 (mk E c s (hh g)) (-4) (k : Int)).bind f = f (([-1, -1, 6, 7, 8, 9, 10] : List Int).getD k 0) := by
  unfold aget
  rw [if_neg (by decide), if_pos (by decide), hX.2.2.2.2.2.2.2.2.2.2, if_pos rfl]
  show (if inb (k : Int) 7 = true then some _ else none).bind f = _
  rw [inb_is, if_pos (by omega), Int.toNat_natCast]
  rfl
theorem k43 (hX : XT X) {tx r n : Nat} {pl : Bool} (h : CI T L pl E r n g) (t : Nat) : Call prog clsT X (t + 7) 43 [(2, 9), (0, (tx : Int))] (mk E c s (hh g)) = Ev prog clsT X (t + 6) mc43 3 [(2, 9), (0, (tx : Int)), (3, 0), (3, 0)] [(0, col T L n wLW)] (mk E c s (hh g)) := by
  rw [rc43_, call0 (c44t X E c s hX.2.2.2.1 colOK_L t h.1), push0]
theorem w_want (d : Nat) {n : Nat} (h : TM T L n g) : Call prog clsT X (d + 1) 171 [(2, 89), (1, 453836)] (mk E c s (hh g)) = some ((0, bI (wd T L n (wLW.getD 0 []))), mk E c s (hh g)) := m171t X E c s d h (by unfold ltr; decide +kernel) (by decide +kernel)
theorem w_bar (d : Nat) {n : Nat} (h : TM T L n g) : Call prog clsT X (d + 1) 171 [(2, 89), (1, 1503)] (mk E c s (hh g)) = some ((0, bI (wd T L n (wLW.getD 1 []))), mk E c s (hh g)) := m171t X E c s d h (by unfold ltr; decide +kernel) (by decide +kernel)
theorem w_marks (d : Nat) {n : Nat} (h : TM T L n g) : Call prog clsT X (d + 1) 171 [(2, 89), (1, 6941854)] (mk E c s (hh g)) = some ((0, bI (wd T L n (wLW.getD 2 []))), mk E c s (hh g)) := m171t X E c s d h (by unfold ltr; decide +kernel) (by decide +kernel)
theorem w_tie (d : Nat) {n : Nat} (h : TM T L n g) : Call prog clsT X (d + 1) 171 [(2, 89), (1, 14828)] (mk E c s (hh g)) = some ((0, bI (wd T L n (wLW.getD 3 []))), mk E c s (hh g)) := m171t X E c s d h (by unfold ltr; decide +kernel) (by decide +kernel)
theorem w_drop (d : Nat) {n : Nat} (h : TM T L n g) : Call prog clsT X (d + 1) 171 [(2, 89), (1, 92275)] (mk E c s (hh g)) = some ((0, bI (wd T L n (wLW.getD 4 []))), mk E c s (hh g)) := m171t X E c s d h (by unfold ltr; decide +kernel) (by decide +kernel)
theorem w_split (d : Nat) {n : Nat} (h : TM T L n g) : Call prog clsT X (d + 1) 171 [(2, 89), (1, 10421318)] (mk E c s (hh g)) = some ((0, bI (wd T L n (wLW.getD 5 []))), mk E c s (hh g)) := m171t X E c s d h (by unfold ltr; decide +kernel) (by decide +kernel)
theorem w_join (d : Nat) {n : Nat} (h : TM T L n g) : Call prog clsT X (d + 1) 171 [(2, 89), (1, 208022)] (mk E c s (hh g)) = some ((0, bI (wd T L n (wLW.getD 6 []))), mk E c s (hh g)) := m171t X E c s d h (by unfold ltr; decide +kernel) (by decide +kernel)
end DIS
/-- a word that can't begin a line here -/
theorem line_mis (hX : XT X) {tx n : Nat} {a : Sm} (htx : tx < 3) (hcol : ∀ k : Nat, k < 7 → wd T L n (wLW.getD k []) → okw tx k = false) : OUT T L tx n a (F43 X tx) (G43 X tx) := by
  refine Or.inl ⟨1 + 16 * n, fun t E c s r g ht h hc => ?_, fun t E c s g h hm => ?_⟩
  · obtain ⟨t, rfl⟩ : ∃ t', t = t' + 6 := ⟨t - 6, by omega⟩
    obtain ⟨g1, k1, k2, k3, _⟩ := c46x (X := X) E c s h (t + 5) 1 (by omega)
    refine ⟨g1, ?_, k2, k3⟩
    show Call prog clsT X (t + 7) 43 _ _ = _
    rw [k43 E c s hX h t, r43_3, cmp_eq]
    rcases col_cases (T := T) (L := L) (n := n) with ⟨q, _⟩ | ⟨k, hk, q, hw⟩
    · rw [if_pos q, call3 k1, push3, r43_18]
    · have hz := (okw_is tx htx k hk).mpr (hcol k hk hw)
      rw [q, if_neg (by omega), agT E c s hX k hk, hz, cmp_ne, if_neg (fun z => z rfl), call3 k1, push3, r43_18]
  · refine ⟨fM g n 1, ?_, up_same, frR_Q (lo := 0) (lo' := 0) (fM_fr g n 1)⟩
    have hno : ∀ k : Nat, k < 7 → okw tx k = true → ¬ wd T L n (wLW.getD k []) := fun k hk ho hw => by
      rw [hcol k hk hw] at ho; exact absurd ho (by decide)
    show (if tx = 2 then _ else _) = _
    by_cases h2 : tx = 2
    · subst h2
      rw [if_pos rfl, rc170_, call0 (w_drop E c s (t + 8) h.1), push0, r170_3, cmp_eq, bI_eq0, if_pos (hno 4 (by decide) rfl), call0 (w_split E c s (t + 8) h.1), push0, r170_9, cmp_eq, bI_eq0, if_pos (hno 5 (by decide) rfl), call0 (w_join E c s (t + 8) h.1), push0, r170_15, cmp_eq, bI_eq0, if_pos (hno 6 (by decide) rfl), cmp_ge, if_neg (by decide), call0 (m172t X E c s h.1 (t + 8) 1 (by omega)), push0, r170_25, r170_30, if_pos ⟨rfl, one_z⟩]
    · rw [if_neg h2]
      have hb1 : okw tx 1 = true := by
        have : tx = 0 ∨ tx = 1 := by omega
        rcases this with q | q <;> subst q <;> rfl
      rw [rc182_, call0 (w_bar E c s (t + 8) h.1), push0, r182_3, cmp_eq, bI_eq0, if_pos (hno 1 (by decide) hb1), cmp_eq]
      by_cases h1 : tx = 1
      · subst h1
        rw [if_neg (by decide), call0 (m172t X E c s h.1 (t + 8) 1 (by omega)), push0, r182_12, if_pos ⟨rfl, one_z⟩]
      · have h0 : tx = 0 := by omega
        subst h0
        rw [if_pos (by decide), call0 (w_want E c s (t + 8) h.1), push0, r182_16, cmp_eq, bI_eq0, if_pos (hno 0 (by decide) rfl), call0 (w_marks E c s (t + 8) h.1), push0, r182_23, cmp_eq, bI_eq0, if_pos (hno 2 (by decide) rfl), call0 (w_tie E c s (t + 8) h.1), push0, r182_32, cmp_eq, bI_eq0, if_pos (hno 3 (by decide) rfl), call0 (m172t X E c s h.1 (t + 8) 1 (by omega)), push0, r182_41, if_pos ⟨rfl, one_z⟩]
theorem line_all (hX : XT X) {tx n : Nat} {a : Sm} (htx : tx < 3) (hn : n < L) (hS : SG tx a) : OUT T L tx n a (F43 X tx) (G43 X tx) := by
  rcases col_cases (T := T) (L := L) (n := n) with ⟨q, hno⟩ | ⟨k, hk, q, hw⟩
  · exact line_mis hX htx (fun k hk hw => absurd hw (hno k hk))
  by_cases ho : okw tx k = false
  · refine line_mis hX htx (fun i hi hwi => ?_)
    by_cases e : i = k
    · rw [e]; exact ho
    · exact absurd hwi (wd_only hw hk hi e)
  have ho : okw tx k = true := by cases h : okw tx k; exact absurd h ho; rfl
  have hz : ¬ (iand32 (ishr32 (([1, 3, 1, 1, 4, 4, 4] : List Int).getD k 0) (tx : Int)) 1 = 0) := fun z => by
    have := (okw_is tx htx k hk).mp z; rw [ho] at this; exact absurd this (by decide)
  have hd : ∀ t E c s r g, 60 ≤ t → CI T L (plan tx) E r n g → F43 X tx t E c s g = if ¬ ((k : Int) = 0) then (if ¬ ((k : Int) = 1) then ((Call prog clsT X t 52 [(2, 9), (0, ([-1, -1, 6, 7, 8, 9, 10] : List Int).getD k 0), (0, if tx = 2 then 1 else 0)] (mk E c s (hh g))).bind fun r4 => if r4.1.1 = 4 then none else Ev prog clsT X t mc43 41 [(2, 9), (0, (tx : Int)), (0, (k : Int)), (3, 0)] (pushR r4.1 []) r4.2) else cBar X tx k t E c s g) else cWant X tx k t E c s g := by
    intro t E c s r g ht h
    obtain ⟨t, rfl⟩ : ∃ t', t = t' + 6 := ⟨t - 6, by omega⟩
    show Call prog clsT X (t + 7) 43 _ _ = _
    rw [k43 E c s hX h t, r43_3, cmp_eq, q, if_neg (by omega), agT E c s hX k hk, cmp_ne, if_pos hz, cmp_ne]
    by_cases e0 : (k : Int) = 0
    · rw [if_neg (fun z => z e0), if_neg (fun z => z e0)]; rfl
    · rw [if_pos e0, if_pos e0, cmp_ne]
      by_cases e1 : (k : Int) = 1
      · rw [if_neg (fun z => z e1), if_neg (fun z => z e1)]; rfl
      · rw [if_pos e1, if_pos e1, agL E c s hX k hk, cmp_ne]
        by_cases h2 : tx = 2
        · rw [if_neg (by omega), if_pos h2]
        · rw [if_pos (by omega), if_neg h2]
  have rr : ∀ (j : Nat), ([-1, -1, 6, 7, 8, 9, 10] : List Int).getD k 0 = ((cl tx j : Nat) : Int) → ¬ ((k : Int) = 0) → ¬ ((k : Int) = 1) → ∀ t E c s r g, 60 ≤ t → CI T L (plan tx) E r n g → F43 X tx t E c s g = cRule X tx j k t E c s g := by
    intro j e e0 e1 t E c s r g ht h
    rw [hd t E c s r g ht h, if_pos e0, if_pos e1, e]
    rfl
  by_cases k0 : k = 0
  · subst k0
    have htx : tx = 0 := by
      have : tx = 0 ∨ tx = 1 ∨ tx = 2 := by omega
      rcases this with z | z | z
      · exact z
      · subst z; exact absurd ho (by decide)
      · subst z; exact absurd ho (by decide)
    subst htx
    refine OUT_map (f := fun t => t) (line_want hX (0 : Nat) hn hS) (fun t E c s r g ht h => (hd t E c s r g ht h).trans (if_neg (fun z => z rfl))) (fun t E c s g v g' h hv hg => ?_)
    have hg : Call prog clsT X (t + 9) 184 [(2, 89)] (mk E c s (hh g)) = some ((0, v), mk E c s (hh g')) := hg
    show Call prog clsT X (t + 10) 182 [(2, 89), (0, 0)] _ = _
    rw [rc182_, call0 (w_bar E c s (t + 8) h.1), push0, r182_3, cmp_eq, bI_eq0, if_pos (wd_only hw (by decide) (by decide) (by decide)), cmp_eq, if_pos rfl, call0 (w_want E c s (t + 8) h.1), push0, r182_16, cmp_eq, bI_eq0, if_neg (fun z => z hw), call0 hg, push0, r182_19, if_pos ⟨rfl, hv⟩]
  by_cases k1 : k = 1
  · subst k1
    have htx : tx ≠ 2 := by intro z; subst z; exact absurd ho (by decide)
    refine OUT_map (f := fun t => t) (line_bar hX (1 : Nat) hn htx hS) (fun t E c s r g ht h => ((hd t E c s r g ht h).trans (if_pos (by decide))).trans (if_neg (fun z => z rfl))) (fun t E c s g v g' h hv hg => ?_)
    have hg : Call prog clsT X (t + 9) 183 [(2, 89)] (mk E c s (hh g)) = some ((0, v), mk E c s (hh g')) := hg
    show (if tx = 2 then _ else _) = _
    rw [if_neg htx, rc182_, call0 (w_bar E c s (t + 8) h.1), push0, r182_3, cmp_eq, bI_eq0, if_neg (fun z => z hw), call0 hg, push0, r182_6, if_pos ⟨rfl, hv⟩]
  by_cases k2 : k = 2
  · subst k2
    have htx : tx = 0 := by
      have : tx = 0 ∨ tx = 1 ∨ tx = 2 := by omega
      rcases this with z | z | z
      · exact z
      · subst z; exact absurd ho (by decide)
      · subst z; exact absurd ho (by decide)
    subst htx
    refine OUT_map (f := fun t => t + 1) (line_rule hX (j := 6) (2 : Nat) hn (by decide) (by decide) hS) (rr 6 rfl (by decide) (by decide)) (fun t E c s g v g' h hv hg => ?_)
    have hg : Call prog clsT X (t + 9) 173 [(2, 89), (0, 6), (0, 0)] (mk E c s (hh g)) = some ((0, v), mk E c s (hh g')) := hg
    show Call prog clsT X (t + 10) 182 [(2, 89), (0, 0)] _ = _
    rw [rc182_, call0 (w_bar E c s (t + 8) h.1), push0, r182_3, cmp_eq, bI_eq0, if_pos (wd_only hw (by decide) (by decide) (by decide)), cmp_eq, if_pos rfl, call0 (w_want E c s (t + 8) h.1), push0, r182_16, cmp_eq, bI_eq0, if_pos (wd_only hw (by decide) (by decide) (by decide)), call0 (w_marks E c s (t + 8) h.1), push0, r182_23, cmp_eq, bI_eq0, if_neg (fun z => z hw), call0 hg, push0, r182_28, if_pos ⟨rfl, hv⟩]
  by_cases k3 : k = 3
  · subst k3
    have htx : tx = 0 := by
      have : tx = 0 ∨ tx = 1 ∨ tx = 2 := by omega
      rcases this with z | z | z
      · exact z
      · subst z; exact absurd ho (by decide)
      · subst z; exact absurd ho (by decide)
    subst htx
    refine OUT_map (f := fun t => t + 1) (line_rule hX (j := 7) (3 : Nat) hn (by decide) (by decide) hS) (rr 7 rfl (by decide) (by decide)) (fun t E c s g v g' h hv hg => ?_)
    have hg : Call prog clsT X (t + 9) 173 [(2, 89), (0, 7), (0, 0)] (mk E c s (hh g)) = some ((0, v), mk E c s (hh g')) := hg
    show Call prog clsT X (t + 10) 182 [(2, 89), (0, 0)] _ = _
    rw [rc182_, call0 (w_bar E c s (t + 8) h.1), push0, r182_3, cmp_eq, bI_eq0, if_pos (wd_only hw (by decide) (by decide) (by decide)), cmp_eq, if_pos rfl, call0 (w_want E c s (t + 8) h.1), push0, r182_16, cmp_eq, bI_eq0, if_pos (wd_only hw (by decide) (by decide) (by decide)), call0 (w_marks E c s (t + 8) h.1), push0, r182_23, cmp_eq, bI_eq0, if_pos (wd_only hw (by decide) (by decide) (by decide)), call0 (w_tie E c s (t + 8) h.1), push0, r182_32, cmp_eq, bI_eq0, if_neg (fun z => z hw), call0 hg, push0, r182_37, r182_41, if_pos ⟨rfl, hv⟩]
  by_cases k4 : k = 4
  · subst k4
    have htx : tx = 2 := by
      have : tx = 0 ∨ tx = 1 ∨ tx = 2 := by omega
      rcases this with z | z | z
      · subst z; exact absurd ho (by decide)
      · subst z; exact absurd ho (by decide)
      · exact z
    subst htx
    refine OUT_map (f := fun t => t + 1) (line_rule hX (j := 0) (4 : Nat) hn (by decide) (by decide) hS) (rr 0 rfl (by decide) (by decide)) (fun t E c s g v g' h hv hg => ?_)
    have hg : Call prog clsT X (t + 9) 173 [(2, 89), (0, 0), (0, 1)] (mk E c s (hh g)) = some ((0, v), mk E c s (hh g')) := hg
    show Call prog clsT X (t + 10) 170 [(2, 89)] _ = _
    rw [rc170_, call0 (w_drop E c s (t + 8) h.1), push0, r170_3, cmp_eq, bI_eq0, if_neg (fun z => z hw), cmp_ge, if_pos (by decide), call0 hg, push0, r170_30, if_pos ⟨rfl, hv⟩]
  by_cases k5 : k = 5
  · subst k5
    have htx : tx = 2 := by
      have : tx = 0 ∨ tx = 1 ∨ tx = 2 := by omega
      rcases this with z | z | z
      · subst z; exact absurd ho (by decide)
      · subst z; exact absurd ho (by decide)
      · exact z
    subst htx
    refine OUT_map (f := fun t => t + 1) (line_rule hX (j := 1) (5 : Nat) hn (by decide) (by decide) hS) (rr 1 rfl (by decide) (by decide)) (fun t E c s g v g' h hv hg => ?_)
    have hg : Call prog clsT X (t + 9) 173 [(2, 89), (0, 1), (0, 1)] (mk E c s (hh g)) = some ((0, v), mk E c s (hh g')) := hg
    show Call prog clsT X (t + 10) 170 [(2, 89)] _ = _
    rw [rc170_, call0 (w_drop E c s (t + 8) h.1), push0, r170_3, cmp_eq, bI_eq0, if_pos (wd_only hw (by decide) (by decide) (by decide)), call0 (w_split E c s (t + 8) h.1), push0, r170_9, cmp_eq, bI_eq0, if_neg (fun z => z hw), cmp_ge, if_pos (by decide), call0 hg, push0, r170_30, if_pos ⟨rfl, hv⟩]
  by_cases k6 : k = 6
  · subst k6
    have htx : tx = 2 := by
      have : tx = 0 ∨ tx = 1 ∨ tx = 2 := by omega
      rcases this with z | z | z
      · subst z; exact absurd ho (by decide)
      · subst z; exact absurd ho (by decide)
      · exact z
    subst htx
    refine OUT_map (f := fun t => t + 1) (line_rule hX (j := 2) (6 : Nat) hn (by decide) (by decide) hS) (rr 2 rfl (by decide) (by decide)) (fun t E c s g v g' h hv hg => ?_)
    have hg : Call prog clsT X (t + 9) 173 [(2, 89), (0, 2), (0, 1)] (mk E c s (hh g)) = some ((0, v), mk E c s (hh g')) := hg
    show Call prog clsT X (t + 10) 170 [(2, 89)] _ = _
    rw [rc170_, call0 (w_drop E c s (t + 8) h.1), push0, r170_3, cmp_eq, bI_eq0, if_pos (wd_only hw (by decide) (by decide) (by decide)), call0 (w_split E c s (t + 8) h.1), push0, r170_9, cmp_eq, bI_eq0, if_pos (wd_only hw (by decide) (by decide) (by decide)), call0 (w_join E c s (t + 8) h.1), push0, r170_15, cmp_eq, bI_eq0, if_neg (fun z => z hw), cmp_ge, if_pos (by decide), call0 hg, push0, r170_30, if_pos ⟨rfl, hv⟩]
  exact absurd hk (by omega)
end LINE
