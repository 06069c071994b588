/-! Part 71: entry. -/
theorem tb_lt40 {x : Int} (h : in64 x) : (0 ≤ x ∧ x < 1099511627776) ↔ ∀ i, 40 ≤ i → i < 64 → tb x i = false := by
  constructor
  · intro hx i h1 h2
    have e := I6_of x h
    have e2 : (b64 x).toNat < 2 ^ 40 := by
      have : b64 x = BitVec.ofNat 64 x.toNat := by
        unfold b64
        rw [← BitVec.ofInt_natCast]
        congr 1; omega
      rw [this, BitVec.toNat_ofNat]
      omega
    rw [tb_testBit]
    exact Nat.testBit_lt_two_pow (Nat.lt_of_lt_of_le e2 (Nat.pow_le_pow_right (by decide) h1))
  · intro hb
    have e2 : (b64 x).toNat < 2 ^ 40 := by
      apply Nat.lt_pow_two_of_testBit
      intro i hi
      by_cases h2 : i < 64
      · rw [← tb_testBit]; exact hb i hi h2
      · exact Nat.testBit_lt_two_pow (Nat.lt_of_lt_of_le (b64 x).isLt (Nat.pow_le_pow_right (by decide) (by omega)))
    have e := I6_of x h
    rw [I6_lit _ (by omega)] at e
    omega
/-- a within b, as bits -/
theorem sub_bits {a b : Int} : land64 a (lxor64 b (-1)) = 0 ↔ ∀ i, i < 64 → tb a i = true → tb b i = true := by
  constructor
  · intro h i hi ha
    have e := congrArg (fun v => tb v i) h
    simp only [tb_and, tb_xor, tb_0, tb_m1 i hi, Bool.xor_true, ha, Bool.true_and] at e
    cases hb : tb b i
    · rw [hb] at e; cases e
    · rfl
  · intro h
    refine tb_ext (in64_and _ _) (by unfold in64; omega) (fun i hi => ?_)
    rw [tb_and, tb_xor, tb_m1 i hi, tb_0, Bool.xor_true]
    cases ha : tb a i
    · rfl
    · rw [h i hi ha]; rfl
theorem tb_ofTo (g : Nat → Nat → Int) (x : Int) : ∀ n, n ≤ 40 → ∀ i, tb (ofTo g x n) i = decide (i < n ∧ g 94 i ≠ 0 ∧ g 95 i = x) := by
  intro n
  induction n with
  | zero => intro _ i; show tb 0 i = _; rw [tb_0]; simp
  | succ n ih =>
    intro hn i
    show tb (lor64 (ofTo g x n) (if g 94 n ≠ 0 ∧ g 95 n = x then lshl64 1 n else 0)) i = _
    rw [tb_or, ih (by omega)]
    by_cases hp : g 94 n ≠ 0 ∧ g 95 n = x
    · rw [if_pos hp, tb_1sh n i (by omega)]
      by_cases hi : i = n
      · subst hi; simp [hp]
      · have e1 : (i < n + 1) ↔ i < n := by omega
        simp [hi, e1]
    · rw [if_neg hp, tb_0, Bool.or_false]
      by_cases hi : i = n
      · subst hi; simp only [Nat.lt_irrefl, false_and, decide_false, Nat.lt_succ_self, true_and]; exact (decide_eq_false hp).symm
      · have e1 : (i < n + 1) ↔ i < n := by omega
        simp [e1]
/-- all of them are theirs -/
abbrev theirs (g : Nat → Nat → Int) (v x : Int) : Prop := ∀ i : Nat, i < 40 → tb v i = true → g 94 i ≠ 0 ∧ g 95 i = x
theorem theirs_is {g : Nat → Nat → Int} {v x : Int} (h : in64 v) : land64 v (lxor64 (ofTo g x 40) (-1)) = 0 ↔ (0 ≤ v ∧ v < 1099511627776) ∧ theirs g v x := by
  rw [sub_bits, tb_lt40 h]
  constructor
  · intro q
    refine ⟨fun i h1 h2 => ?_, fun i hi hv => ?_⟩
    · cases hb : tb v i
      · rfl
      · have := q i h2 hb
        rw [tb_ofTo g x 40 (by omega), decide_eq_true_eq] at this
        omega
    · have := q i (by omega) hv
      rw [tb_ofTo g x 40 (by omega), decide_eq_true_eq] at this
      exact this.2
  · rintro ⟨q1, q2⟩ i hi hv
    rw [tb_ofTo g x 40 (by omega), decide_eq_true_eq]
    by_cases h4 : i < 40
    · exact ⟨h4, q2 i h4 hv⟩
    · rw [q1 i (by omega) hi] at hv; cases hv
def bits40 (v : Int) : Int := sm (fun i => bI (tb v i = true)) 40
theorem sm_zero {f : Nat → Int} (a : Nat) : ∀ b, (∀ i, a ≤ i → i < a + b → f i = 0) → sm f (a + b) = sm f a
  | 0, _ => rfl
  | b + 1, h => by show sm f (a + b) + f (a + b) = sm f a; rw [h (a + b) (by omega) (by omega), sm_zero a b (fun i h1 h2 => h i h1 (by omega))]; omega
theorem bc_40 {v : Int} (h : in64 v) (hv : 0 ≤ v ∧ v < 1099511627776) : (bc v : Int) = bits40 v := by
  rw [bc_sm]
  refine sm_zero 40 24 (fun i h1 h2 => ?_)
  rw [bI_f]
  rw [(tb_lt40 h).mp hv i h1 (by omega)]
  decide
theorem lcmp0 {x y : Int} {α : Type} {a b : α} : (if lcmpI x y = 0 then a else b) = if x = y then a else b := by
  unfold lcmpI
  by_cases h : x < y
  · rw [if_pos h, if_neg (by omega), if_neg (by omega)]
  · rw [if_neg h]
    by_cases h2 : x = y
    · rw [if_pos h2, if_pos rfl, if_pos h2]
    · rw [if_neg h2, if_neg (by omega), if_neg h2]
theorem lcmpn0 {x y : Int} {α : Type} {a b : α} : (if ¬ (lcmpI x y = 0) then a else b) = if ¬ (x = y) then a else b := by
  unfold lcmpI
  by_cases h : x < y
  · rw [if_pos h, if_pos (by omega), if_pos (by omega)]
  · rw [if_neg h]
    by_cases h2 : x = y
    · rw [if_pos h2, if_neg (fun q => q rfl), if_neg (fun q => q h2)]
    · rw [if_neg h2, if_pos (by omega), if_pos h2]
theorem lcmplt {x y : Int} {α : Type} {a b : α} : (if lcmpI x y < 0 then a else b) = if x < y then a else b := by
  unfold lcmpI
  by_cases h : x < y
  · rw [if_pos h, if_pos (by omega), if_pos h]
  · rw [if_neg h]
    by_cases h2 : x = y
    · rw [if_pos h2, if_neg (by omega), if_neg h]
    · rw [if_neg h2, if_neg (by omega), if_neg h]
theorem lcmpge {x y : Int} {α : Type} {a b : α} : (if 0 ≤ lcmpI x y then a else b) = if y ≤ x then a else b := by
  unfold lcmpI
  by_cases h : x < y
  · rw [if_pos h, if_neg (by omega), if_neg (by omega)]
  · rw [if_neg h]
    by_cases h2 : x = y
    · rw [if_pos h2, if_pos (by omega), if_pos (by omega)]
    · rw [if_neg h2, if_pos (by omega), if_pos (by omega)]
section ENTRY
variable (X : MExt) (E : List (Nat × Nat)) (c s : Nat) {g : Nat → Nat → Int}
/-- Model.bits -/
theorem m158 (d : Nat) (x : Int) : Call prog clsT X (d + 1) 158 [(1, x)] (mk E c s (hh g)) = some ((0, bits40 x), mk E c s (hh g)) := by
  rw [rc158_]
  refine count_loop (fun i a w => Ev prog clsT X d mc158 4 [(1, x), w, (0, a), (0, (i : Int))] [] (mk E c s (hh g))) (fun a => some ((0, a), mk E c s (hh g))) (fun i => bI (tb x i = true)) 40 1 (by omega) (by omega) (fun i _ => bI_b _) (fun i a w hi => ⟨(3, 0), ?_⟩) (fun a w => ?_) (3, 0)
  · rw [r158_4, cmp_ge, if_neg (by omega), bit_at _ _ (by omega), w32_succ (by omega), w32_of (x := bI _) (by have := bI_b (tb x i = true); omega) (by have := bI_b (tb x i = true); omega)]
  · rw [r158_4, cmp_ge, if_pos (by omega)]
/-- Model.areTheirs -/
theorem m159 (d : Nat) (v x : Int) : Call prog clsT X (d + 1) 159 [(2, 89), (1, v), (0, x)] (mk E c s (hh g)) = some ((0, bI (theirs g v x)), mk E c s (hh g)) := by
  rw [rc159_]
  have loop : ∀ (m i : Nat) (w : MV), i + m = 40 → (∀ j, j < i → tb v j = true → g 94 j ≠ 0 ∧ g 95 j = x) → Ev prog clsT X d mc159 2 [(2, 89), (1, v), w, (0, x), (0, (i : Int))] [] (mk E c s (hh g)) = some ((0, bI (theirs g v x)), mk E c s (hh g)) := by
    intro m
    induction m with
    | zero =>
      intro i w hi hq
      rw [r159_2, cmp_ge, if_pos (by omega), bI_t (show theirs g v x from fun j hj => hq j (by omega))]
    | succ m ih =>
      intro i w hi hq
      rw [r159_2, cmp_ge, if_neg (by omega), bit_at _ _ (by omega), w32_succ (by omega), cmp_ne, lc1, inb_is, if_pos (show 0 ≤ (i : Int) ∧ (i : Int) < (40 : Nat) by omega), Int.toNat_natCast]
      by_cases h1 : tb v i = true
      · rw [if_neg (fun q => q h1), cmp_eq]
        by_cases h2 : g 94 i = 0
        · rw [if_pos h2, bI_f (fun q => (q i (by omega) h1).1 h2)]
        · rw [if_neg h2, inb_is, if_pos (by omega), cmp_eq]
          by_cases h3 : g 95 i = x
          · rw [if_pos h3]
            refine ih (i + 1) _ (by omega) (fun j hj => ?_)
            by_cases hj2 : j = i
            · subst hj2; exact fun _ => ⟨h2, h3⟩
            · exact hq j (by omega)
          · rw [if_neg h3, bI_f (fun q => h3 (q i (by omega) h1).2)]
      · rw [if_pos h1]
        refine ih (i + 1) _ (by omega) (fun j hj => ?_)
        by_cases hj2 : j = i
        · subst hj2; exact fun q => absurd q h1
        · exact hq j (by omega)
  exact loop 40 0 _ (by omega) (fun j hj => by omega)
/-- Entries.add -/
def addC (g : Nat → Nat → Int) (x1 x2 x3 x5 : Int) : Nat → Nat → Int := up (up (up (up (up (up (up g 31 (nE g) x1) 32 (nE g) x2) 33 (nE g) x3) 34 (nE g) x5) 35 (nE g) 0) 30 1 (lor64 (g 30 1) (lshl64 1 (nE g : Int)))) 30 0 ((nE g + 1 : Nat) : Int)
theorem c21 (h : RE g) (d : Nat) (x1 x2 x3 x5 : Int) (hn : nE g < 40) : Call prog clsT X (d + 1) 21 [(2, 30), (0, x1), (0, x2), (1, x3), (0, x5)] (mk E c s (hh g)) = some ((0, (nE g : Int)), mk E c s (hh (addC g x1 x2 x3 x5))) := by
  rw [rc21_, h.n, cmp_lt, if_pos (by omega), inb_is, if_pos (by omega), inb_is, if_pos (by omega), inb_is, if_pos (by omega), inb_is, if_pos (by omega), inb_is, if_pos (by omega), Int.toNat_natCast, w32_succ (by omega)]
  rfl
abbrev entC (g : Nat → Nat → Int) (x1 x2 x3 x5 : Int) : Prop := (0 ≤ x1 ∧ x1 ≤ 9 ∧ g 106 x1.toNat ≠ 0) ∧ (0 ≤ x2 ∧ x2 ≤ 9 ∧ g 90 x2.toNat ≠ 0) ∧ (0 ≤ x5 ∧ x5 ≤ 9) ∧ nE g < 40 ∧ (0 ≤ x3 ∧ x3 < 1099511627776) ∧ (1 ≤ bits40 x3 ∧ bits40 x3 ≤ 8) ∧ theirs g x3 x2 ∧ land64 x3 (laid g) = 0
/-- what scheduleOf says -/
theorem RB.of {g : Nat → Nat → Int} (h : RB g) (x : Int) : (if 0 ≤ x ∧ x ≤ 9 then g 16 x.toNat else -1) ≠ -5 ∧ ((if 0 ≤ x ∧ x ≤ 9 then g 16 x.toNat else -1) = -1 ↔ ¬ (0 ≤ x ∧ x ≤ 9 ∧ g 106 x.toNat ≠ 0)) := by
  by_cases hx : 0 ≤ x ∧ x ≤ 9
  · rw [if_pos hx]
    have h1 := h.1 x.toNat (by omega)
    have h2 := h.2.1 x.toNat (by omega)
    refine ⟨by omega, h1.trans ⟨fun q r => r.2.2 q, fun q => ?_⟩⟩
    by_cases h3 : g 106 x.toNat = 0
    · exact h3
    · exact absurd ⟨hx.1, hx.2, h3⟩ q
  · rw [if_neg hx]
    exact ⟨by decide, ⟨fun _ q => hx ⟨q.1, q.2.1⟩, fun _ => rfl⟩⟩
/-- a reference against null -/
theorem nul {r : Int} {p : Prop} [Decidable p] {α : Type} {a b : Option α} (h : r ≠ -5 ∧ (r = -1 ↔ ¬ p)) : (if (2 : Nat) = 2 ∧ r ≠ -5 then (if (decide (r = -1)) = true then a else b) else none) = if p then b else a := by
  rw [if_pos ⟨rfl, h.1⟩]
  by_cases hp : p
  · rw [if_pos hp, if_neg]
    intro q
    exact (h.2.mp (of_decide_eq_true q)) hp
  · rw [if_neg hp, if_pos (decide_eq_true (h.2.mpr hp))]
theorem nun {r : Int} {p : Prop} [Decidable p] {α : Type} {a b : Option α} (h : r ≠ -5 ∧ (r = -1 ↔ ¬ p)) : (if (2 : Nat) = 2 ∧ r ≠ -5 then (if (!decide (r = -1)) = true then a else b) else none) = if p then a else b := by
  rw [if_pos ⟨rfl, h.1⟩]
  by_cases hp : p
  · rw [if_pos hp, if_pos]
    have : ¬ (r = -1) := fun q => (h.2.mp q) hp
    rw [decide_eq_false this]; rfl
  · rw [if_neg hp, if_neg]
    rw [decide_eq_true (h.2.mpr hp)]; decide
theorem c96 (h : RE g) (hv : RV g) (hb : RB g) (d : Nat) (x1 x2 x3 x5 : Int) (h3 : in64 x3) : Call prog clsT X (d + 5) 96 [(2, 0), (0, x1), (0, x2), (1, x3), (0, x5)] (mk E c s (hh g)) = if entC g x1 x2 x3 x5 then some ((0, (nE g : Int)), mk E c s (hh (addC g x1 x2 x3 x5))) else some ((0, -1), mk E c s (hh g)) := by
  have hle := h.le
  rw [rc96_, call2 (c97 X E c s (d + 2) x1), push2, r96_3, nul (hb.of x1)]
  by_cases k0 : 0 ≤ x1 ∧ x1 ≤ 9 ∧ g 106 x1.toNat ≠ 0
  case neg => rw [if_neg k0, if_neg (fun q => k0 q.1)]
  rw [if_pos k0, call0 (c84 X E c s hv (d + 2) x2), push0, r96_8]
  by_cases k1 : 0 ≤ x2 ∧ x2 ≤ 9 ∧ g 90 x2.toNat ≠ 0
  case neg => rw [cmp_eq, bI_eq0, if_pos k1, if_neg (fun q => k1 q.2.1)]
  rw [cmp_eq, bI_eq0, if_neg (fun q => q k1), call0 (c90 X E c s (d + 3) x5 0 9), push0, r96_13]
  by_cases k2 : 0 ≤ x5 ∧ x5 ≤ 9
  case neg => rw [cmp_ne, bI_ne0, if_neg (fun q => q k2), if_neg (fun q => k2 q.2.2.1)]
  rw [cmp_ne, bI_ne0, if_pos (fun q => q k2), cmp_ge, h.n]
  by_cases k3 : nE g < 40
  case neg => rw [if_pos (by omega), if_neg (fun q => k3 q.2.2.2.1)]
  rw [if_neg (by omega), call0 (m264 X E c s g (d + 3) h3), push0, r96_23, call0 (c90 X E c s (d + 3) _ 1 8), push0, r96_26, cmp_ne, bI_ne0]
  by_cases k4 : 1 ≤ (bc x3 : Int) ∧ (bc x3 : Int) ≤ 8
  case neg => rw [if_neg (fun q => q k4), if_neg (fun q => k4 (by rw [bc_40 h3 q.2.2.2.2.1]; exact q.2.2.2.2.2.1))]
  rw [if_pos (fun q => q k4), call1 (c85 X E c s hv (d + 3) x2 k1.1), push1, r96_34, cmp_ne, lcmpn0]
  by_cases k5 : land64 x3 (lxor64 (ofTo g x2 40) (-1)) = 0
  case neg => rw [if_pos k5, if_neg (fun q => k5 ((theirs_is h3).mpr ⟨q.2.2.2.2.1, q.2.2.2.2.2.2.1⟩))]
  rw [if_neg (fun q => q k5), call1 (c18 X E c s h d), push1, r96_44, cmp_eq, lcmp0]
  have k6 := (theirs_is h3).mp k5
  rw [bc_40 h3 k6.1] at k4
  by_cases k7 : land64 x3 (laid g) = 0
  case neg => rw [if_neg k7, if_neg (fun q => k7 q.2.2.2.2.2.2.2)]
  rw [if_pos k7, call0 (c21 X E c s h (d + 3) x1 x2 x3 x5 k3), push0, r96_57, if_pos ⟨k0, k1, k2, k3, k6.1, k4, k6.2, k7⟩]
end ENTRY
