/-! Part at: sets of pieces as bits; the best two of them. -/
theorem tb3_nat (s : Nat) {i : Nat} (hi : i < 32) : tb3 (s : Int) i = s.testBit i := by
  unfold tb3
  show (BitVec.ofInt 32 (s : Int)).getLsbD i = s.testBit i
  rw [BitVec.ofInt_natCast, BitVec.getLsbD_ofNat]
  simp [hi]
theorem tb3_ext {a b : Int} (ha : in32 a) (hb : in32 b) (h : ∀ i, i < 32 → tb3 a i = tb3 b i) : a = b := by
  have e : b32 a = b32 b := BitVec.eq_of_getLsbD_eq (fun i hi => h i hi)
  have e2 := congrArg BitVec.toInt e
  unfold b32 at e2
  rw [BitVec.toInt_ofInt, BitVec.toInt_ofInt, bm32 ha, bm32 hb] at e2
  exact e2
theorem high_0 {t i : Nat} (ht : t < 1024) (hi : 10 ≤ i) : t.testBit i = false := by
  refine Nat.testBit_lt_two_pow (Nat.lt_of_lt_of_le ht ?_)
  have := Nat.pow_le_pow_right (n := 2) (by decide) hi
  omega
/-- t is part of S -/
def sb (t S : Nat) : Prop := ∀ i, i < 10 → t.testBit i = true → S.testBit i = true
theorem sb_refl (S : Nat) : sb S S := fun _ _ h => h
theorem sb_le {t S : Nat} (ht : t < 1024) (h : sb t S) : t ≤ S := Nat.le_of_testBit (fun i hi => by
  by_cases z : i < 10
  · exact h i z hi
  · rw [high_0 ht (by omega)] at hi; cases hi)
theorem sb_eq {t S : Nat} (ht : t < 1024) (hS : S < 1024) (h : ∀ i, i < 10 → t.testBit i = S.testBit i) : t = S := Nat.eq_of_testBit_eq (fun i => by
  by_cases z : i < 10
  · exact h i z
  · rw [high_0 ht (by omega), high_0 hS (by omega)])
theorem mns_ok : ∀ i : Nat, i < 10 → ∀ S : Nat, S < 1024 → iand32 (S : Int) (ixor32 (ishl32 1 (i : Int)) (-1)) = ((if S.testBit i = true then S - 2 ^ i else S : Nat) : Int) ∧ (S.testBit i = true → 2 ^ i ≤ S) := by decide +kernel
theorem cmp_ok : ∀ n : Nat, n < 11 → ∀ s : Nat, s < 2 ^ n → iand32 ((2 ^ n - 1 : Nat) : Int) (ixor32 (s : Int) (-1)) = ((2 ^ n - 1 - s : Nat) : Int) := by decide +kernel
theorem shl_ok : ∀ n : Nat, n < 11 → ishl32 1 (n : Int) = ((2 ^ n : Nat) : Int) := by decide +kernel
theorem p2_le {n : Nat} (hn : n < 11) : 0 < 2 ^ n ∧ 2 ^ n ≤ 1024 := by
  have h1 := Nat.two_pow_pos n
  have h2 := Nat.pow_le_pow_right (n := 2) (by decide) (show n ≤ 10 by omega)
  omega
theorem mns_bit {S i j : Nat} (hi : i < 10) (hS : S < 1024) (hj : j < 32) (hb : S.testBit i = true) : (S - 2 ^ i).testBit j = (S.testBit j && !decide (j = i)) := by
  have e := (mns_ok i hi S hS).1
  rw [if_pos hb] at e
  have e2 := congrArg (fun v => tb3 v j) e
  rw [tb3_and, tb3_xor, tb3_1sh _ _ (by omega), tb3_m1 _ hj, tb3_nat S hj, tb3_nat _ hj, Bool.xor_true] at e2
  exact e2.symm
theorem cmp_bit {n s j : Nat} (hn : n < 11) (hs : s < 2 ^ n) (hj : j < 32) : (2 ^ n - 1 - s).testBit j = (decide (j < n) && !s.testBit j) := by
  have e := cmp_ok n hn s hs
  have e2 := congrArg (fun v => tb3 v j) e
  rw [tb3_and, tb3_xor, tb3_m1 _ hj, tb3_nat s hj, tb3_nat _ hj, tb3_nat _ hj, Bool.xor_true, Nat.testBit_two_pow_sub_one] at e2
  exact e2.symm
theorem bool_f {b : Bool} (h : ¬ b = true) : b = false := by
  cases b
  · rfl
  · exact absurd rfl h
/-- a part that isn't all lacks one -/
theorem sb_less {t S : Nat} (ht : t < 1024) (hS : S < 1024) (h : sb t S) (hne : t ≠ S) : ∃ i, i < 10 ∧ S.testBit i = true ∧ sb t (S - 2 ^ i) := by
  rcases Classical.em (∃ i, i < 10 ∧ S.testBit i = true ∧ t.testBit i = false) with ⟨i, h1, h2, h3⟩ | hno
  · refine ⟨i, h1, h2, fun j hj hb => ?_⟩
    rw [mns_bit h1 hS (by omega) h2, h j hj hb, Bool.true_and]
    by_cases z : j = i
    · rw [z, h3] at hb; cases hb
    · rw [decide_eq_false z]; rfl
  · refine absurd (sb_eq ht hS (fun i hi => ?_)) hne
    by_cases z : t.testBit i = true
    · rw [z, h i hi z]
    · have z := bool_f z
      by_cases y : S.testBit i = true
      · exact absurd ⟨i, hi, y, z⟩ hno
      · rw [z, bool_f y]
theorem sb_mns {t S i : Nat} (hS : S < 1024) (hi : i < 10) (hb : S.testBit i = true) (h : sb t (S - 2 ^ i)) : sb t S := fun j hj hbj => by
  have := h j hj hbj
  rw [mns_bit hi hS (by omega) hb, Bool.and_eq_true] at this
  exact this.1
theorem disj_sb {n s t : Nat} (hn : n < 11) (hs : s < 2 ^ n) (ht : t < 2 ^ n) : iand32 (s : Int) (t : Int) = 0 ↔ sb t (2 ^ n - 1 - s) := by
  have hp := p2_le hn
  constructor
  · intro h i hi hb
    have e2 := congrArg (fun v => tb3 v i) h
    rw [tb3_and, tb3_nat s (by omega), tb3_nat t (by omega), hb, Bool.and_true, tb3_0] at e2
    rw [cmp_bit hn hs (by omega), e2]
    have : i < n := by
      by_cases z : i < n
      · exact z
      · have := Nat.testBit_lt_two_pow (Nat.lt_of_lt_of_le ht (Nat.pow_le_pow_right (n := 2) (by decide) (show n ≤ i by omega)))
        rw [this] at hb
        cases hb
    rw [decide_eq_true this]
    rfl
  · intro h
    refine tb3_ext (in32_bv _) ⟨by decide, by decide⟩ (fun i hi => ?_)
    rw [tb3_and, tb3_nat s hi, tb3_nat t hi, tb3_0]
    by_cases z : t.testBit i = true
    · by_cases y : i < 10
      · have := h i y z
        rw [cmp_bit hn hs hi, Bool.and_eq_true] at this
        cases hb : s.testBit i with
        | true => rw [hb] at this; cases this.2
        | false => rfl
      · rw [high_0 (show t < 1024 by omega) (by omega)] at z; cases z
    · rw [bool_f z, Bool.and_false]
/-- p is the best part of S, its worth v: the least of the best -/
def bw (gB : Nat → Prop) (mB : Nat → Int) (S p : Nat) (v : Int) : Prop := p < 1024 ∧ sb p S ∧ gB p ∧ v = mB p ∧ ∀ t, t < 1024 → sb t S → gB t → mB t ≤ v ∧ (mB t = v → p ≤ t)
/-- the best two -/
def bst2 (n : Nat) (gA gB : Nat → Prop) (mA mB : Nat → Int) (a b : Nat) (v : Int) : Prop := a < 2 ^ n ∧ b < 2 ^ n ∧ gA a ∧ gB b ∧ sb b (2 ^ n - 1 - a) ∧ v = mA a + mB b ∧ ∀ s t, s < 2 ^ n → t < 2 ^ n → gA s → gB t → sb t (2 ^ n - 1 - s) → mA s + mB t ≤ v ∧ (mA s + mB t = v → a < s ∨ (a = s ∧ b ≤ t))
theorem bst2_eq {n : Nat} {gA gB : Nat → Prop} {mA mB : Nat → Int} {a b a' b' : Nat} {v v' : Int} (h : bst2 n gA gB mA mB a b v) (h' : bst2 n gA gB mA mB a' b' v') : a = a' ∧ b = b' ∧ v = v' := by
  obtain ⟨x1, x2, x3, x4, x5, x6, x7⟩ := h
  obtain ⟨y1, y2, y3, y4, y5, y6, y7⟩ := h'
  have k1 := x7 a' b' y1 y2 y3 y4 y5
  have k2 := y7 a b x1 x2 x3 x4 x5
  have ev : v = v' := by omega
  have k3 := k1.2 (by omega)
  have k4 := k2.2 (by omega)
  exact ⟨by omega, by omega, ev⟩
theorem bst2_of {n : Nat} (hn : n < 11) {gA gB : Nat → Prop} {mA mB : Nat → Int} {B : Nat → Int} {K : Nat → Nat} (hB : ∀ S, S < 2 ^ n → bw gB mB S (K S) (B S)) {a : Nat} (ha : a < 2 ^ n) (gA' : gA a) (hmax : ∀ s, s < 2 ^ n → gA s → mA s + B (2 ^ n - 1 - s) ≤ mA a + B (2 ^ n - 1 - a) ∧ (mA s + B (2 ^ n - 1 - s) = mA a + B (2 ^ n - 1 - a) → a ≤ s)) : bst2 n gA gB mA mB a (K (2 ^ n - 1 - a)) (mA a + B (2 ^ n - 1 - a)) := by
  have hp := p2_le hn
  obtain ⟨b1, b2, b3, b4, b5⟩ := hB (2 ^ n - 1 - a) (by omega)
  refine ⟨ha, ?_, gA', b3, b2, by rw [← b4], fun s t hs ht gs gt hst => ?_⟩
  · have := sb_le b1 b2
    omega
  · have k := hmax s hs gs
    obtain ⟨c1, c2, c3, c4, c5⟩ := hB (2 ^ n - 1 - s) (by omega)
    have q := c5 t (by omega) hst gt
    refine ⟨by omega, fun he => ?_⟩
    have e1 : mA s + B (2 ^ n - 1 - s) = mA a + B (2 ^ n - 1 - a) := by omega
    have k2 := k.2 e1
    by_cases z : a = s
    · subst z
      have := (b5 t (by omega) hst gt).2 (by omega)
      exact Or.inr ⟨rfl, this⟩
    · exact Or.inl (by omega)
/-- the pieces that a set names -/
def pB (fp : Nat → Nat) (s : Nat) : Nat → Int := fo (fun i a => if s.testBit i = true then lor64 a (lshl64 1 (fp i : Int)) else a) 0
theorem pB_in (fp : Nat → Nat) (s : Nat) : ∀ n, in64 (pB fp s n)
  | 0 => ⟨by show -9223372036854775808 ≤ (0 : Int); decide, by show (0 : Int) < _; decide⟩
  | n + 1 => by
    show in64 (if s.testBit n = true then lor64 (pB fp s n) (lshl64 1 (fp n : Int)) else pB fp s n)
    split
    · exact in64_or _ _
    · exact pB_in fp s n
theorem pB_tb {fp : Nat → Nat} {s : Nat} : ∀ n, (∀ i, i < n → s.testBit i = true → fp i < 64) → ∀ p, tb (pB fp s n) p = true ↔ ∃ i, i < n ∧ s.testBit i = true ∧ p = fp i
  | 0, _, p => ⟨fun h => absurd (show tb 0 p = true from h) (by rw [tb_0]; decide), fun ⟨i, h, _⟩ => absurd h (Nat.not_lt_zero i)⟩
  | n + 1, hf, p => by
    have ih := pB_tb n (fun i hi => hf i (by omega)) p
    show tb (if s.testBit n = true then lor64 (pB fp s n) (lshl64 1 (fp n : Int)) else pB fp s n) p = true ↔ _
    by_cases z : s.testBit n = true
    · rw [if_pos z, tb_or, tb_1sh _ _ (hf n (by omega) z), Bool.or_eq_true, ih, decide_eq_true_eq]
      constructor
      · intro h
        rcases h with ⟨i, h1, h2, h3⟩ | h
        · exact ⟨i, by omega, h2, h3⟩
        · exact ⟨n, by omega, z, h⟩
      · intro ⟨i, h1, h2, h3⟩
        by_cases y : i = n
        · subst y; exact Or.inr h3
        · exact Or.inl ⟨i, by omega, h2, h3⟩
    · rw [if_neg z, ih]
      constructor
      · intro ⟨i, h1, h2, h3⟩; exact ⟨i, by omega, h2, h3⟩
      · intro ⟨i, h1, h2, h3⟩
        by_cases y : i = n
        · subst y; exact absurd h2 z
        · exact ⟨i, by omega, h2, h3⟩
