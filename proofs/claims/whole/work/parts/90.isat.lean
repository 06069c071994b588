/-! Part 90: a word on the tape against a string (class). -/
section ISAT
variable (X : MExt) (E : List (Nat × Nat)) (c s : Nat) {g : Nat → Nat → Int} {x : Int} {l : List Int}
/-- the tape's n letters from a are l's from p -/
abbrev same (T : Nat → Int) (l : List Int) (a p n : Nat) : Prop := ∀ i, i < n → T (a + i) = l.getD (p + i) 0
/-- Reader.isAt -/
theorem c45 (h : STR X x l) (d a e p q : Nat) (he : e ≤ 1000) (hae : a ≤ e) (h5 : g 9 5 = a) (h4 : g 9 4 = e) (hpq : p ≤ q) (hq : q ≤ l.length) : Call prog clsT X (d + 5) 45 [(2, 9), (2, x), (0, (p : Int)), (0, (q : Int))] (mk E c s (hh g)) = some ((0, bI (e - a = q - p ∧ same (g 10) l a p (q - p))), mk E c s (hh g)) := by
  have hl := h.2.2.2.1
  rw [rc45_, h4, h5, w32_of (x := (e : Int) - a) (by omega) (by omega), w32_of (x := (q : Int) - p) (by omega) (by omega), cmp_eq]
  by_cases q0 : e - a = q - p
  case neg => rw [if_neg (by omega), bI_f (fun z => q0 z.1)]
  rw [if_pos (by omega)]
  have loop : ∀ (n k : Nat), k + n = q - p → same (g 10) l a p k → Ev prog clsT X (d + 4) mc45 13 [(2, 9), (2, x), (0, (p : Int)), (0, (q : Int)), (0, ((p + k : Nat) : Int))] [] (mk E c s (hh g)) = some ((0, bI (e - a = q - p ∧ same (g 10) l a p (q - p))), mk E c s (hh g)) := by
    intro n
    induction n with
    | zero =>
      intro k hk hs
      have hk : k = q - p := by omega
      rw [r45_13, cmp_ge, if_pos (by omega), bI_t ⟨q0, by rw [← hk]; exact hs⟩]
    | succ n ih =>
      intro k hk hs
      have e1 : w32 (w32 ((a : Int) + ((p + k : Nat) : Int)) - p) = ((a + k : Nat) : Int) := by rw [w32_of (x := (a : Int) + _) (by omega) (by omega), w32_of (by omega) (by omega)]; omega
      have hb0 : a + k < e := by clear e1 ih hs h4 h5 hq; omega
      have hb : a + k < 1000 := Nat.lt_of_lt_of_le hb0 he
      have hpk : p + k < l.length := Nat.lt_of_lt_of_le (show p + k < q by clear e1 ih hs h4 h5 hq hb hb0 q0; omega) hq
      rw [r45_13, cmp_ge, if_neg (by omega), h5, e1, inb_is, if_pos ⟨Int.natCast_nonneg _, Int.ofNat_lt.mpr hb⟩, srv X E c s h, call0 (m254 X E c s h d (p + k) hpk), push0, r45_28, cmp_eq, Int.toNat_natCast, w32_succ (by omega)]
      by_cases z : g 10 (a + k) = l.getD (p + k) 0
      · rw [if_pos z]
        refine ih (k + 1) (by omega) (fun i hi => ?_)
        by_cases y : i = k
        · subst y; exact z
        · exact hs i (by omega)
      · rw [if_neg z, bI_f (fun y => z (y.2 k (by omega)))]
  have := loop (q - p) 0 (by omega) (fun i hi => absurd hi (Nat.not_lt_zero _))
  exact this
/-- Reader.isWord -/
theorem c50 (h : STR X x l) (d a e : Nat) (he : e ≤ 1000) (hae : a ≤ e) (h5 : g 9 5 = a) (h4 : g 9 4 = e) : Call prog clsT X (d + 6) 50 [(2, 9), (2, x)] (mk E c s (hh g)) = some ((0, bI (g 9 6 = 1 ∧ e - a = l.length ∧ same (g 10) l a 0 l.length)), mk E c s (hh g)) := by
  have hk : Call prog clsT X (d + 5) 45 [(2, 9), (2, x), (0, 0), (0, (l.length : Int))] (mk E c s (hh g)) = _ := c45 X E c s h d a e 0 l.length he hae h5 h4 (Nat.zero_le _) (Nat.le_refl _)
  rw [rc50_, cmp_ne]
  by_cases q : g 9 6 = 1
  · rw [if_neg (fun z => z q), srv X E c s h, call0 (m252 X E c s h (d + 3)), push0, r50_9, call0 hk, push0, r50_10, cmp_eq, bI_eq0]
    by_cases z : e - a = l.length - 0 ∧ same (g 10) l a 0 (l.length - 0)
    · rw [if_neg (fun y => y z), bI_t ⟨q, z⟩]
    · rw [if_pos z, bI_f (fun y => z y.2)]
  · rw [if_pos q, bI_f (fun z => q z.1)]
end ISAT
