/-! Part 9j: whole texts are read alike. -/
section TLOOP
variable {X : MExt} {T : Nat → Int} {L : Nat}
abbrev regOK (tx : Nat) (k : Nat) : Prop := (tx = 0 ∧ k < 10) ∨ (tx = 1 ∧ k = 10) ∨ (tx = 2 ∧ k = 11)
/-- the class behind its text: it answers fl and has emptied the tape -/
def tC (X : MExt) (T : Nat → Int) (L tx n : Nat) (a : Sm) (fl : Int) (R : List (Nat × Nat) → Nat → Gm → Prop) : Prop := ∀ t i E c s r g, 61 ≤ t → i ≤ n → CI T L (plan tx) E r n g → HC tx a r g → ∃ g', Ev prog clsT X t mc39 25 [(2, 9), (0, (tx : Int)), (0, (i : Int))] [] (mk E c s (hh g)) = some ((0, fl), mk E c s (hh (up g' 9 1 0))) ∧ DR E L r g' ∧ R E r g' ∧ frL r g g'
theorem text_loop (hX : XT X) {tx : Nat} (htx : tx < 3) : ∀ m n a, L - n ≤ m → n ≤ L → SG tx a →
    (∃ fl, tC X T L tx n a fl (fun _ _ g' => FA g' fl) ∧ (∀ t E c s g (k : Nat) w, regOK tx k → MI T L (plan tx) n g → HM a g → ∃ g', Ev prog clsT X (t + 10) mc169 38 [(2, 89), (0, (k : Int)), w] [] (mk E c s (hh g)) = some ((0, fl), mk E c s (hh g')) ∧ frR g g')) ∨
    ∃ a', SG tx a' ∧ tC X T L tx n a 0 (fun _ r g' => HC tx a' r g') ∧ (∀ t E c s g (k : Nat) w, regOK tx k → MI T L (plan tx) n g → HM a g → ∃ g' w', Ev prog clsT X (t + 10) mc169 38 [(2, 89), (0, (k : Int)), w] [] (mk E c s (hh g)) = Ev prog clsT X (t + 10) mc169 38 [(2, 89), (0, (k : Int)), w'] [] (mk E c s (hh g')) ∧ MI T L (plan tx) L g' ∧ HM a' g' ∧ frR g g') := by
  intro m
  induction m with
  | zero =>
    intro n a hm hn hS
    have hL : n = L := by omega
    subst hL
    refine Or.inr ⟨a, hS, fun t i E c s r g ht hi h hc => ⟨g, ?_, h.2.1, hc, frL_refl _ _⟩, fun t E c s g k w _ h hm => ⟨g, w, rfl, h, hm, frR_refl _⟩⟩
    have h6 : g 9 6 = 0 := by rw [h.1.2.2.2.2.2.2.2.2.1]; exact tokT_end.mpr rfl
    rw [r39_25, cmp_ge]
    by_cases q : (1000 : Int) ≤ i
    · rw [if_pos q, h.1.2.2.2.2.2.1]
    · rw [if_neg q, h.1.2.2.2.2.2.1, cmp_ne, if_neg (fun z => z rfl), h6, cmp_eq, if_pos rfl]
  | succ m ih =>
    intro n a hm hn hS
    by_cases hL : n = L
    · exact ih n a (by omega) hn hS
    have hlt : n < L := by omega
    have hC : ∀ t i E c s r g, 61 ≤ t → i ≤ n → CI T L (plan tx) E r n g → Ev prog clsT X t mc39 25 [(2, 9), (0, (tx : Int)), (0, (i : Int))] [] (mk E c s (hh g)) = (F43 X tx (t - 1) E c s g).bind fun r1 => if r1.1.1 = 4 then none else Ev prog clsT X t mc39 37 [(2, 9), (0, (tx : Int)), (0, (i : Int))] (pushR r1.1 []) r1.2 := by
      intro t i E c s r g ht hi h
      have hLL := h.1.1
      obtain ⟨t, rfl⟩ : ∃ t', t = t' + 1 := ⟨t - 1, by omega⟩
      have h6 : ¬ (g 9 6 = 0) := by rw [h.1.2.2.2.2.2.2.2.2.1]; exact fun z => hL (tokT_end.mp z)
      rw [r39_25, cmp_ge, if_neg (by omega), h.1.2.2.2.2.2.1, cmp_ne, if_neg (fun z => z rfl), cmp_eq, if_neg h6]
      rfl
    have hM : ∀ t E c s g (k : Nat) w v g', regOK tx k → MI T L (plan tx) n g → G43 X tx t E c s g = some ((0, v), mk E c s (hh g')) → (v = 0 ∨ v = 1) → Ev prog clsT X (t + 10) mc169 38 [(2, 89), (0, (k : Int)), w] [] (mk E c s (hh g)) = if v = 0 then some ((0, g' 89 25), mk E c s (hh g')) else Ev prog clsT X (t + 10) mc169 38 [(2, 89), (0, (k : Int)), (3, 0)] [] (mk E c s (hh g')) := by
      intro t E c s g k w v g' hk h hg hv
      have h22 : ¬ (g 89 22 = 0) := by rw [h.1.2.2.2.2.2.2.1]; exact fun z => hL (tokT_end.mp z)
      rw [r169_38, cmp_eq, if_neg h22, cmp_eq]
      have hg : (if tx = 2 then Call prog clsT X (t + 10) 170 [(2, 89)] (mk E c s (hh g)) else Call prog clsT X (t + 10) 182 [(2, 89), (0, if tx = 1 then 1 else 0)] (mk E c s (hh g))) = some ((0, v), mk E c s (hh g')) := hg
      rcases hk with ⟨h1, h2⟩ | ⟨h1, h2⟩ | ⟨h1, h2⟩
      · subst h1
        have hg : Call prog clsT X (t + 10) 182 [(2, 89), (0, 0)] (mk E c s (hh g)) = some ((0, v), mk E c s (hh g')) := hg
        have h36 : g 89 36 = 0 := h.2.2.2
        rw [if_pos h36, cmp_ne, if_pos (by omega), call0 hg, push0, r169_56, cmp_ne]
        rcases hv with q | q
        · subst q; rw [if_neg (fun z => z rfl), if_pos rfl]
        · subst q; rw [if_pos (by decide), if_neg (by decide)]
      · subst h1; subst h2
        have hg : Call prog clsT X (t + 10) 182 [(2, 89), (0, 1)] (mk E c s (hh g)) = some ((0, v), mk E c s (hh g')) := hg
        have h36 : g 89 36 = 0 := h.2.2.2
        rw [if_pos h36, cmp_ne, if_neg (by decide), call0 hg, push0, r169_56, cmp_ne]
        rcases hv with q | q
        · subst q; rw [if_neg (fun z => z rfl), if_pos rfl]
        · subst q; rw [if_pos (by decide), if_neg (by decide)]
      · subst h1; subst h2
        have hg : Call prog clsT X (t + 10) 170 [(2, 89)] (mk E c s (hh g)) = some ((0, v), mk E c s (hh g')) := hg
        have h36 : g 89 36 = 1 := h.2.2.2
        rw [if_neg (by rw [h36]; decide), call0 hg, push0, r169_46, cmp_eq]
    rcases line_all hX htx hlt hS with ⟨fl, b1, b2⟩ | ⟨m1, a1, l1, l2, l3, l4, l5⟩
    · refine Or.inl ⟨fl, fun t i E c s r g ht hi h hc => ?_, fun t E c s g k w hk h hm => ?_⟩
      · obtain ⟨g1, k1, k2, k3⟩ := b1 (t - 1) E c s r g (by omega) h hc
        refine ⟨g1, ?_, k2.1, k2.2, k3⟩
        rw [hC t i E c s r g ht hi h, call3 k1, push3, r39_37, r39_25, cmp_ge, k2.2.2.1]
        split
        · rfl
        · rw [cmp_ne, if_pos k2.2.1]
      · obtain ⟨g1, k1, k2, k3⟩ := b2 t E c s g h hm
        refine ⟨g1, ?_, k3⟩
        rw [hM t E c s g k w 0 g1 hk h k1 (Or.inl rfl), if_pos rfl, k2]
    · rcases ih m1 a1 (by omega) l2 l3 with ⟨fl, b1, b2⟩ | ⟨a2, s1, b1, b2⟩
      · refine Or.inl ⟨fl, fun t i E c s r g ht hi h hc => ?_, fun t E c s g k w hk h hm => ?_⟩
        · have hLL := h.1.1
          obtain ⟨g1, k1, k2, k3, k4⟩ := l4 (t - 1) E c s r g (by omega) h hc
          obtain ⟨g2, j1, j2, j3, j4⟩ := b1 t (i + 1) E c s r g1 ht (by omega) k2 k3
          refine ⟨g2, ?_, j2, j3, frL_tr k4 j4⟩
          rw [hC t i E c s r g ht hi h, call3 k1, push3, r39_37, w32_succ (by omega), j1]
        · obtain ⟨g1, k1, k2, k3, k4⟩ := l5 t E c s g h hm
          obtain ⟨g2, j1, j2⟩ := b2 t E c s g1 k (3, 0) hk k2 k3
          refine ⟨g2, ?_, frR_tr k4 j2⟩
          rw [hM t E c s g k w 1 g1 hk h k1 (Or.inr rfl), if_neg (by decide), j1]
      · refine Or.inr ⟨a2, s1, fun t i E c s r g ht hi h hc => ?_, fun t E c s g k w hk h hm => ?_⟩
        · have hLL := h.1.1
          obtain ⟨g1, k1, k2, k3, k4⟩ := l4 (t - 1) E c s r g (by omega) h hc
          obtain ⟨g2, j1, j2, j3, j4⟩ := b1 t (i + 1) E c s r g1 ht (by omega) k2 k3
          refine ⟨g2, ?_, j2, j3, frL_tr k4 j4⟩
          rw [hC t i E c s r g ht hi h, call3 k1, push3, r39_37, w32_succ (by omega), j1]
        · obtain ⟨g1, k1, k2, k3, k4⟩ := l5 t E c s g h hm
          obtain ⟨g2, w', j1, j2, j3, j4⟩ := b2 t E c s g1 k (3, 0) hk k2 k3
          refine ⟨g2, w', ?_, j2, j3, frR_tr k4 j4⟩
          rw [hM t E c s g k w 1 g1 hk h k1 (Or.inr rfl), if_neg (by decide), j1]
end TLOOP
