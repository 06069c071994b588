/-! Part 64: the counting of bits (Long.bitCount, Integer.bitCount). -/
/-- lanes of eight bits -/
theorem and_lane (a b m M : Nat) (ha : a < 256) (hm : m < 256) : (256 * b + a) &&& (256 * M + m) = 256 * (b &&& M) + (a &&& m) := by
  apply Nat.eq_of_testBit_eq
  intro i
  have h1 : a &&& m < 2 ^ 8 := Nat.and_lt_two_pow a (show m < 2 ^ 8 from hm)
  have e := Nat.testBit_two_pow_mul_add b (i := 8) (show a < 2 ^ 8 from ha) i
  have e2 := Nat.testBit_two_pow_mul_add M (i := 8) (show m < 2 ^ 8 from hm) i
  have e3 := Nat.testBit_two_pow_mul_add (b &&& M) (i := 8) h1 i
  rw [Nat.testBit_and]
  rw [show (256 : Nat) = 2 ^ 8 from rfl, e, e2, e3]
  by_cases h : i < 8
  · rw [if_pos h, if_pos h, if_pos h, Nat.testBit_and]
  · rw [if_neg h, if_neg h, if_neg h, Nat.testBit_and]
/-- the mask of n lanes m -/
def msk (m : Nat) : Nat → Nat
  | 0 => 0
  | n + 1 => 256 * msk m n + m
def byteA (a : Nat) : Nat := a - ((a / 2) &&& 85)
def byteB (a : Nat) : Nat := (a &&& 51) + ((a / 4) &&& 51)
def byteC (a : Nat) : Nat := (a + a / 16) &&& 15
/-- n lanes, each by f -/
def lan (f : Nat → Nat) : Nat → Nat → Nat
  | 0, _ => 0
  | n + 1, x => 256 * lan f n (x / 256) + f (x % 256)
theorem laneA_low : ∀ a, a < 256 → ∀ r, r < 2 → ((a + 256 * r) / 2 % 256) &&& 85 = (a / 2) &&& 85 := by decide +kernel
theorem laneB_low : ∀ a, a < 256 → ∀ r, r < 4 → ((a + 256 * r) / 4 % 256) &&& 51 = (a / 4) &&& 51 := by decide +kernel
theorem byteA_ok : ∀ a, a < 256 → (a / 2) &&& 85 ≤ a ∧ byteA a < 256 := by decide +kernel
theorem byteB_ok : ∀ a, a < 256 → byteB (byteA a) < 256 ∧ byteB (byteA a) % 16 ≤ 4 ∧ byteB (byteA a) / 16 ≤ 4 := by decide +kernel
theorem byteC_ok : ∀ a, a < 256 → a % 16 ≤ 4 → a / 16 ≤ 4 → ∀ r, r < 5 → (a + a / 16 + 16 * r) < 256 ∧ ((a + a / 16 + 16 * r) &&& 15) = byteC a := by decide +kernel
theorem byteB_lt : ∀ a, a < 256 → (a &&& 51) + ((a / 4) &&& 51) < 256 := by decide +kernel
theorem stepA : ∀ (n x : Nat), x < 256 ^ n → (x / 2) &&& msk 85 n ≤ x ∧ x - ((x / 2) &&& msk 85 n) = lan byteA n x
  | 0, x, h => by simp at h; subst h; simp [msk, lan]
  | n + 1, x, h => by
    have hb : x / 256 < 256 ^ n := by rw [Nat.pow_succ] at h; exact Nat.div_lt_of_lt_mul (by rw [Nat.mul_comm]; exact h)
    obtain ⟨i1, i2⟩ := stepA n (x / 256) hb
    have hx : x = 256 * (x / 256) + x % 256 := by omega
    have ha : x % 256 < 256 := Nat.mod_lt _ (by decide)
    have hd : x / 2 = 256 * (x / 256 / 2) + (x % 256 + 256 * (x / 256 % 2)) / 2 % 256 := by omega
    have e : (x / 2) &&& msk 85 (n + 1) = 256 * ((x / 256 / 2) &&& msk 85 n) + ((x % 256 / 2) &&& 85) := by
      show (x / 2) &&& (256 * msk 85 n + 85) = _
      rw [hd, and_lane _ _ _ _ (Nat.mod_lt _ (by decide)) (by decide), laneA_low _ ha _ (Nat.mod_lt _ (by decide))]
    have hA := byteA_ok _ ha
    rw [e]
    refine ⟨by omega, ?_⟩
    show _ = 256 * lan byteA n (x / 256) + byteA (x % 256)
    rw [← i2]
    unfold byteA
    omega
theorem stepB : ∀ (n x : Nat), x < 256 ^ n → (x &&& msk 51 n) + ((x / 4) &&& msk 51 n) = lan byteB n x
  | 0, x, h => by simp [msk, lan]
  | n + 1, x, h => by
    have hb : x / 256 < 256 ^ n := by rw [Nat.pow_succ] at h; exact Nat.div_lt_of_lt_mul (by rw [Nat.mul_comm]; exact h)
    have i2 := stepB n (x / 256) hb
    have ha : x % 256 < 256 := Nat.mod_lt _ (by decide)
    have hx : x = 256 * (x / 256) + x % 256 := by omega
    have hd : x / 4 = 256 * (x / 256 / 4) + (x % 256 + 256 * (x / 256 % 4)) / 4 % 256 := by omega
    have e : (x / 4) &&& msk 51 (n + 1) = 256 * ((x / 256 / 4) &&& msk 51 n) + ((x % 256 / 4) &&& 51) := by
      show (x / 4) &&& (256 * msk 51 n + 51) = _
      rw [hd, and_lane _ _ _ _ (Nat.mod_lt _ (by decide)) (by decide), laneB_low _ ha _ (Nat.mod_lt _ (by decide))]
    have e2 : x &&& msk 51 (n + 1) = 256 * ((x / 256) &&& msk 51 n) + ((x % 256) &&& 51) := by
      show x &&& (256 * msk 51 n + 51) = _
      have := and_lane (x % 256) (x / 256) 51 (msk 51 n) ha (by decide)
      rw [← hx] at this
      exact this
    rw [e, e2]
    show _ = 256 * lan byteB n (x / 256) + byteB (x % 256)
    rw [← i2]
    unfold byteB
    omega
/-- lanes whose halves are at most 4 -/
def nib : Nat → Nat → Prop
  | 0, x => x = 0
  | n + 1, x => x % 16 ≤ 4 ∧ x % 256 / 16 ≤ 4 ∧ nib n (x / 256)
theorem stepC : ∀ (n x : Nat), nib n x → (x + x / 16) &&& msk 15 n = lan byteC n x ∧ x + x / 16 < 256 ^ n ∧ x / 256 % 16 ≤ 4
  | 0, x, h => by have h : x = 0 := h; subst h; simp [msk, lan]
  | n + 1, x, h => by
    obtain ⟨h1, h2, h3⟩ := h
    obtain ⟨i1, i2, i3⟩ := stepC n (x / 256) h3
    have ha : x % 256 < 256 := Nat.mod_lt _ (by decide)
    have hr : x / 256 % 16 ≤ 4 := by
      cases n with
      | zero => have h3 : x / 256 = 0 := h3; omega
      | succ n => exact h3.1
    obtain ⟨b1, b2⟩ := byteC_ok _ ha (by omega) h2 (x / 256 % 16) (by omega)
    have e : x + x / 16 = 256 * (x / 256 + x / 256 / 16) + (x % 256 + x % 256 / 16 + 16 * (x / 256 % 16)) := by omega
    refine ⟨?_, ?_, hr⟩
    · show (x + x / 16) &&& (256 * msk 15 n + 15) = 256 * lan byteC n (x / 256) + byteC (x % 256)
      rw [e, and_lane _ _ _ _ b1 (by decide), i1, b2]
    · rw [e, Nat.pow_succ]; omega
theorem lan_lt (f : Nat → Nat) (hf : ∀ a, a < 256 → f a < 256) : ∀ n x, lan f n x < 256 ^ n
  | 0, _ => by simp [lan]
  | n + 1, x => by
    have h1 := lan_lt f hf n (x / 256)
    have h2 := hf (x % 256) (Nat.mod_lt _ (by decide))
    show 256 * lan f n (x / 256) + f (x % 256) < 256 ^ (n + 1)
    rw [Nat.pow_succ]; omega
theorem lan_lan (f h : Nat → Nat) (hh : ∀ a, a < 256 → h a < 256) : ∀ n x, lan f n (lan h n x) = lan (fun a => f (h a)) n x
  | 0, _ => rfl
  | n + 1, x => by
    have h2 := hh (x % 256) (Nat.mod_lt _ (by decide))
    show 256 * lan f n ((256 * lan h n (x / 256) + h (x % 256)) / 256) + f ((256 * lan h n (x / 256) + h (x % 256)) % 256) = 256 * lan (fun a => f (h a)) n (x / 256) + f (h (x % 256))
    rw [show (256 * lan h n (x / 256) + h (x % 256)) / 256 = lan h n (x / 256) by omega, show (256 * lan h n (x / 256) + h (x % 256)) % 256 = h (x % 256) by omega, lan_lan f h hh n]
theorem nib_B : ∀ n x, nib n (lan (fun a => byteB (byteA a)) n x)
  | 0, _ => rfl
  | n + 1, x => by
    obtain ⟨h1, h2, h3⟩ := byteB_ok (x % 256) (Nat.mod_lt _ (by decide))
    have e : lan (fun a => byteB (byteA a)) (n + 1) x = 256 * lan (fun a => byteB (byteA a)) n (x / 256) + byteB (byteA (x % 256)) := rfl
    rw [e]
    refine ⟨by omega, by omega, ?_⟩
    rw [show (256 * lan (fun a => byteB (byteA a)) n (x / 256) + byteB (byteA (x % 256))) / 256 = lan (fun a => byteB (byteA a)) n (x / 256) by omega]
    exact nib_B n _
def pc8 (a : Nat) : Nat := byteC (byteB (byteA a))
theorem pc8_le : ∀ a, a < 256 → pc8 a ≤ 8 := by decide +kernel
/-- the bits of a number, counted -/
def pcn (x : Nat) : Nat → Nat
  | 0 => 0
  | n + 1 => pcn x n + (if x.testBit n then 1 else 0)
theorem pc8_is : ∀ a, a < 256 → pc8 a = pcn a 8 := by decide +kernel
theorem pcn_low (x : Nat) : ∀ m, m ≤ 8 → pcn (x % 256) m = pcn x m
  | 0, _ => rfl
  | m + 1, h => by
    show pcn (x % 256) m + (if (x % 256).testBit m then 1 else 0) = pcn x m + (if x.testBit m then 1 else 0)
    rw [pcn_low x m (by omega), show (256 : Nat) = 2 ^ 8 from rfl, Nat.testBit_mod_two_pow]
    have : decide (m < 8) = true := by simp; omega
    rw [this, Bool.true_and]
theorem pcn_split (x : Nat) : ∀ m, pcn x (8 + m) = pcn (x % 256) 8 + pcn (x / 256) m
  | 0 => by rw [pcn_low x 8 (by omega)]; rfl
  | m + 1 => by
    show pcn x (8 + m) + (if x.testBit (8 + m) then 1 else 0) = pcn (x % 256) 8 + (pcn (x / 256) m + (if (x / 256).testBit m then 1 else 0))
    rw [pcn_split x m, show (256 : Nat) = 2 ^ 8 from rfl, Nat.testBit_div_two_pow, Nat.add_comm m 8]
    omega
def lsum (f : Nat → Nat) : Nat → Nat → Nat
  | 0, _ => 0
  | n + 1, x => lsum f n (x / 256) + f (x % 256)
theorem pcn_lsum : ∀ n x, pcn x (8 * n) = lsum pc8 n x
  | 0, _ => rfl
  | n + 1, x => by
    rw [show 8 * (n + 1) = 8 + 8 * n by omega, pcn_split, pcn_lsum n]
    show _ = lsum pc8 n (x / 256) + pc8 (x % 256)
    rw [pc8_is _ (Nat.mod_lt _ (by decide))]
    omega
/-- eight lanes of at most 8, added up in the lowest -/
theorem ls1 {c T T' Z : Nat} (hc : c < 256) (e : Z = 256 * T + c) (e1 : T = T') : Z / 256 = T' := by omega
theorem ls2 {a b c d T U V : Nat} (e1 : T = 256 * U + a) (e2 : U = 256 * V + b) (h1 : c = T + U) (h2 : d = U + V) : c = 256 * d + (a + b) := by omega
theorem ls3 {Z1 S1 S2 a b : Nat} (e1 : Z1 = 256 * S1 + a) (e2 : S1 = 256 * S2 + b) (ha : a ≤ 16) (hb : b ≤ 16) : Z1 / 65536 = S2 := by omega
theorem lane_bd {a b c N M : Nat} (e : b = 256 * a + c) (hc : c ≤ 8) (h : a ≤ N) (hM : 256 * N + 8 ≤ M) : b ≤ M := by omega
theorem lane_sum (c0 c1 c2 c3 c4 c5 c6 c7 T1 T2 T3 T4 T5 T6 Z Z1 Z2 Z3 : Nat) (h0 : c0 ≤ 8) (h1 : c1 ≤ 8) (h2 : c2 ≤ 8) (h3 : c3 ≤ 8) (h4 : c4 ≤ 8) (h5 : c5 ≤ 8) (h6 : c6 ≤ 8) (h7 : c7 ≤ 8)
    (e6 : T6 = 256 * c7 + c6) (e5 : T5 = 256 * T6 + c5) (e4 : T4 = 256 * T5 + c4) (e3 : T3 = 256 * T4 + c3) (e2 : T2 = 256 * T3 + c2) (e1 : T1 = 256 * T2 + c1) (e0 : Z = 256 * T1 + c0) (z1 : Z1 = Z + Z / 256) (z2 : Z2 = Z1 + Z1 / 65536) (z3 : Z3 = Z2 + Z2 / 4294967296) :
    Z3 % 128 = c0 + c1 + c2 + c3 + c4 + c5 + c6 + c7 ∧ Z1 < 2 ^ 63 ∧ Z2 < 2 ^ 63 ∧ Z3 < 2 ^ 63 := by
  have hZ : Z ≤ 578721382704613384 := lane_bd e0 h0 (lane_bd e1 h1 (lane_bd e2 h2 (lane_bd e3 h3 (lane_bd e4 h4 (lane_bd e5 h5 (lane_bd e6 h6 h7 (Nat.le_refl _)) (Nat.le_refl _)) (Nat.le_refl _)) (Nat.le_refl _)) (Nat.le_refl _)) (Nat.le_refl _)) (by decide)
  have bd : Z1 < 2 ^ 63 ∧ Z2 < 2 ^ 63 ∧ Z3 < 2 ^ 63 := by
    clear e0 e1 e2 e3 e4 e5 e6
    have q1 : Z1 ≤ 2 ^ 60 := by clear z2 z3; omega
    have q2 : Z2 ≤ 2 ^ 61 := by clear z1 z3; omega
    have q3 : Z3 ≤ 2 ^ 62 := by clear z1 z2; omega
    exact ⟨by omega, by omega, by omega⟩
  refine ⟨?_, bd⟩
  clear bd hZ
  have a1 : Z / 256 = T1 := ls1 (by omega) e0 rfl
  rw [a1] at z1
  have s0 : Z1 = 256 * (T1 + T2) + (c0 + c1) := ls2 e0 e1 z1 rfl
  have s1 : T1 + T2 = 256 * (T2 + T3) + (c1 + c2) := ls2 e1 e2 rfl rfl
  have s2 : T2 + T3 = 256 * (T3 + T4) + (c2 + c3) := ls2 e2 e3 rfl rfl
  have s3 : T3 + T4 = 256 * (T4 + T5) + (c3 + c4) := ls2 e3 e4 rfl rfl
  have s4 : T4 + T5 = 256 * (T5 + T6) + (c4 + c5) := ls2 e4 e5 rfl rfl
  have s5 : T5 + T6 = 256 * (T6 + c7) + (c5 + c6) := ls2 e5 e6 rfl rfl
  have a4 : Z1 / 65536 = T2 + T3 := ls3 s0 s1 (by omega) (by omega)
  rw [a4] at z2
  clear a1 a4 z1 e0 e1 e2 e3 e4
  generalize hA : T1 + T2 = A at *
  generalize hB : T2 + T3 = B at *
  generalize hC : T3 + T4 = C at *
  generalize hD : T4 + T5 = D at *
  generalize hF : T5 + T6 = F at *
  clear hA hB hC
  have u0 : Z2 = 256 * (A + C) + (c0 + c1 + (c2 + c3)) := by clear z3 s1 s3 s4 s5 e5 e6 hD hF; omega
  have u1 : A + C = 256 * (B + D) + (c1 + c2 + (c3 + c4)) := by clear z3 z2 u0 s0 s2 s4 s5 e5 e6 hD hF; omega
  have u2 : B + D = 256 * (C + F) + (c2 + c3 + (c4 + c5)) := by clear z3 z2 u0 u1 s0 s1 s3 s5 e5 e6 hD hF; omega
  have u3 : C + F = 256 * (D + (T6 + c7)) + (c3 + c4 + (c5 + c6)) := by clear z3 z2 u0 u1 u2 s0 s1 s2 s4 e5 e6 hD hF; omega
  clear s0 s1 s2 s3 z2
  generalize hG : A + C = G at *
  generalize hH : B + D = H at *
  generalize hI : C + F = I at *
  clear hG hH hI
  have w0 : D + (T6 + c7) = 256 * (F + c7) + (c4 + c5 + (c6 + c7)) := by clear z3 u0 u1 u2 u3 s5 hF hD e5; omega
  clear s4 s5 hD hF e5 e6
  generalize hJ : D + (T6 + c7) = J at *
  clear hJ
  have x : Z2 / 4294967296 = J := by clear w0 z3; omega
  have y : Z3 = 256 * (G + (F + c7)) + (c0 + c1 + (c2 + c3) + (c4 + c5 + (c6 + c7))) := by rw [x] at z3; clear u1 u2 u3 x; omega
  rw [y]
  clear y x z3 u0 u1 u2 u3 w0
  omega
