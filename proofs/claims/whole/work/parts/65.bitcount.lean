/-! Part 65: Long.bitCount and Integer.bitCount count bits. -/
/-- a number below 2^64 as a long -/
def I6 (n : Nat) : Int := (BitVec.ofNat 64 n).toInt
theorem I6_b (n : Nat) : b64 (I6 n) = BitVec.ofNat 64 n := b64_toInt _
theorem I6_of (x : Int) (h : in64 x) : x = I6 (b64 x).toNat := by
  unfold I6
  rw [BitVec.ofNat_toNat, BitVec.setWidth_eq]
  unfold b64
  rw [BitVec.toInt_ofInt, bm64 h]
theorem I6_lit (n : Nat) (h : n < 2 ^ 63) : I6 n = (n : Int) := by
  unfold I6
  rw [← BitVec.ofInt_natCast, BitVec.toInt_ofInt]
  exact bm64 (by unfold in64; omega)
theorem w64_b (x : Int) : w64 x = (b64 x).toInt := by unfold w64 b64; rw [BitVec.toInt_ofInt]
theorem I6_add (a b : Nat) : w64 (I6 a + I6 b) = I6 (a + b) := by
  rw [w64_b]; unfold I6; congr 1
  unfold b64
  rw [BitVec.ofInt_add, BitVec.ofInt_toInt, BitVec.ofInt_toInt, BitVec.ofNat_add]
theorem I6_sub (a b : Nat) (h : b ≤ a) : w64 (I6 a - I6 b) = I6 (a - b) := by
  have k : b64 (I6 a - I6 b) + BitVec.ofNat 64 b = BitVec.ofNat 64 (a - b) + BitVec.ofNat 64 b := by
    rw [← BitVec.ofNat_add, show a - b + b = a by omega, ← I6_b b, ← I6_b a]
    unfold b64
    rw [← BitVec.ofInt_add]; congr 1; omega
  have k2 := congrArg (fun v => v - BitVec.ofNat 64 b) k
  simp only [BitVec.add_sub_cancel] at k2
  rw [w64_b, k2]; rfl
theorem I6_and (a b : Nat) : land64 (I6 a) (I6 b) = I6 (a &&& b) := by
  unfold land64; rw [I6_b, I6_b]; unfold I6; congr 1
  apply BitVec.eq_of_getLsbD_eq
  intro i hi
  simp [BitVec.getLsbD_ofNat, hi]
theorem I6_shr (a : Nat) (k : Nat) (ha : a < 2 ^ 64) (hk : k < 64) : lushr64 (I6 a) (k : Int) = I6 (a / 2 ^ k) := by
  unfold lushr64; rw [I6_b, show ((k : Int) % 64).toNat = k by omega]; unfold I6; congr 1
  apply BitVec.eq_of_toNat_eq
  rw [BitVec.toNat_ushiftRight, BitVec.toNat_ofNat, BitVec.toNat_ofNat, Nat.mod_eq_of_lt ha, Nat.shiftRight_eq_div_pow, Nat.mod_eq_of_lt (Nat.lt_of_le_of_lt (Nat.div_le_self _ _) ha)]
/-- how many bits are set -/
def bc (v : Int) : Nat := pcn (b64 v).toNat 64
theorem w32_I6 (n : Nat) (h : n < 2 ^ 63) : iand32 (w32 (I6 n)) 127 = ((n % 128 : Nat) : Int) := by
  rw [I6_lit n h]
  unfold iand32 w32 b32
  have e : BitVec.ofInt 32 (Int.bmod (n : Int) 4294967296) = BitVec.ofNat 32 n := by
    apply BitVec.eq_of_toInt_eq
    rw [BitVec.toInt_ofInt, ← BitVec.ofInt_natCast, BitVec.toInt_ofInt]
    exact Int.bmod_bmod
  have e2 : (BitVec.ofNat 32 n &&& BitVec.ofInt 32 127) = BitVec.ofNat 32 (n % 128) := by
    apply BitVec.eq_of_getLsbD_eq
    intro i hi
    rw [BitVec.getLsbD_and, BitVec.getLsbD_ofNat, BitVec.getLsbD_ofNat, show BitVec.ofInt 32 127 = BitVec.ofNat 32 (2 ^ 7 - 1) from rfl, BitVec.getLsbD_ofNat, show (128 : Nat) = 2 ^ 7 from rfl, Nat.testBit_mod_two_pow, Nat.testBit_two_pow_sub_one]
    simp only [hi, decide_true, Bool.true_and]
    exact Bool.and_comm _ _
  rw [e, e2, ← BitVec.ofInt_natCast, BitVec.toInt_ofInt]
  have : n % 128 < 128 := Nat.mod_lt _ (by decide)
  exact bm32 (by unfold in32; omega)
theorem lan4 (n : Nat) (h : n < 2 ^ 64) : ∃ c0 c1 c2 c3 c4 c5 c6 c7 T1 T2 T3 T4 T5 T6, (c0 ≤ 8 ∧ c1 ≤ 8 ∧ c2 ≤ 8 ∧ c3 ≤ 8 ∧ c4 ≤ 8 ∧ c5 ≤ 8 ∧ c6 ≤ 8 ∧ c7 ≤ 8) ∧ (T6 = 256 * c7 + c6 ∧ T5 = 256 * T6 + c5 ∧ T4 = 256 * T5 + c4 ∧ T3 = 256 * T4 + c3 ∧ T2 = 256 * T3 + c2 ∧ T1 = 256 * T2 + c1 ∧ lan pc8 8 n = 256 * T1 + c0) ∧ pcn n 64 = c0 + c1 + c2 + c3 + c4 + c5 + c6 + c7 := by
  have hb : ∀ x, pc8 (x % 256) ≤ 8 := fun x => pc8_le _ (Nat.mod_lt _ (by decide))
  refine ⟨pc8 (n % 256), pc8 (n / 256 % 256), pc8 (n / 256 / 256 % 256), pc8 (n / 256 / 256 / 256 % 256), pc8 (n / 256 / 256 / 256 / 256 % 256), pc8 (n / 256 / 256 / 256 / 256 / 256 % 256), pc8 (n / 256 / 256 / 256 / 256 / 256 / 256 % 256), pc8 (n / 256 / 256 / 256 / 256 / 256 / 256 / 256 % 256), lan pc8 7 (n / 256), lan pc8 6 (n / 256 / 256), lan pc8 5 (n / 256 / 256 / 256), lan pc8 4 (n / 256 / 256 / 256 / 256), lan pc8 3 (n / 256 / 256 / 256 / 256 / 256), lan pc8 2 (n / 256 / 256 / 256 / 256 / 256 / 256), ⟨hb _, hb _, hb _, hb _, hb _, hb _, hb _, hb _⟩, ⟨?_, rfl, rfl, rfl, rfl, rfl, rfl⟩, ?_⟩
  · simp only [lan]; omega
  · rw [show (64 : Nat) = 8 * 8 from rfl, pcn_lsum]
    simp only [lsum]; omega
theorem fl_lt {x k : Nat} : x / k ≤ x := Nat.div_le_self _ _
/-- the JDK's way -/
theorem bitc (x : Int) (h : in64 x) (s1 s2 s3 s4 s5 s6 : Int) (e1 : s1 = w64 (x - land64 (lushr64 x 1) 6148914691236517205)) (e2 : s2 = w64 (land64 s1 3689348814741910323 + land64 (lushr64 s1 2) 3689348814741910323)) (e3 : s3 = land64 (w64 (s2 + lushr64 s2 4)) 1085102592571150095) (e4 : s4 = w64 (s3 + lushr64 s3 8)) (e5 : s5 = w64 (s4 + lushr64 s4 16)) (e6 : s6 = w64 (s5 + lushr64 s5 32)) : iand32 (w32 s6) 127 = (bc x : Int) := by
  have hn : (b64 x).toNat < 2 ^ 64 := (b64 x).isLt
  have ex := I6_of x h
  unfold bc
  generalize (b64 x).toNat = n at *
  have h256 : n < 256 ^ 8 := hn
  obtain ⟨a1, a2⟩ := stepA 8 n h256
  have m85 : (6148914691236517205 : Int) = I6 (msk 85 8) := (I6_lit _ (by decide)).symm
  have m51 : (3689348814741910323 : Int) = I6 (msk 51 8) := (I6_lit _ (by decide)).symm
  have m15 : (1085102592571150095 : Int) = I6 (msk 15 8) := (I6_lit _ (by decide)).symm
  have f1 : s1 = I6 (lan byteA 8 n) := by
    rw [e1, ex, show (1 : Int) = ((1 : Nat) : Int) from rfl, I6_shr n 1 hn (by decide), m85, I6_and, show 2 ^ 1 = 2 from rfl, I6_sub _ _ a1, a2]
  have hA : ∀ a, a < 256 → byteA a < 256 := fun a q => (byteA_ok a q).2
  have l1 : lan byteA 8 n < 256 ^ 8 := lan_lt _ hA 8 n
  have f2 : s2 = I6 (lan (fun a => byteB (byteA a)) 8 n) := by
    rw [e2, f1, show (2 : Int) = ((2 : Nat) : Int) from rfl, I6_shr _ 2 l1 (by decide), m51, I6_and, I6_and, I6_add, show 2 ^ 2 = 4 from rfl, stepB 8 _ l1, lan_lan _ _ hA]
  have hB : ∀ a, a < 256 → byteB (byteA a) < 256 := fun a q => byteB_lt _ (hA a q)
  have l2 : lan (fun a => byteB (byteA a)) 8 n < 256 ^ 8 := lan_lt _ hB 8 n
  obtain ⟨c1, c2, _⟩ := stepC 8 _ (nib_B 8 n)
  have f3 : s3 = I6 (lan pc8 8 n) := by
    rw [e3, f2, show (4 : Int) = ((4 : Nat) : Int) from rfl, I6_shr _ 4 l2 (by decide), I6_add, m15, I6_and, show 2 ^ 4 = 16 from rfl, c1, lan_lan _ _ hB]
    rfl
  have hP : ∀ a, a < 256 → pc8 a < 256 := fun a q => by have := pc8_le a q; omega
  have l3 : lan pc8 8 n < 256 ^ 8 := lan_lt _ hP 8 n
  obtain ⟨c0, d1, d2, d3, d4, d5, d6, d7, T1, T2, T3, T4, T5, T6, ⟨h0, h1, h2, h3, h4, h5, h6, h7⟩, ⟨t6, t5, t4, t3, t2, t1, t0⟩, hs⟩ := lan4 n hn
  obtain ⟨z, b1, b2, b3⟩ := lane_sum c0 d1 d2 d3 d4 d5 d6 d7 T1 T2 T3 T4 T5 T6 _ _ _ _ h0 h1 h2 h3 h4 h5 h6 h7 t6 t5 t4 t3 t2 t1 t0 rfl rfl rfl
  have f4 : s4 = I6 (lan pc8 8 n + lan pc8 8 n / 256) := by
    rw [e4, f3, show (8 : Int) = ((8 : Nat) : Int) from rfl, I6_shr _ 8 l3 (by decide), I6_add]
  have f5 : s5 = I6 (lan pc8 8 n + lan pc8 8 n / 256 + (lan pc8 8 n + lan pc8 8 n / 256) / 65536) := by
    rw [e5, f4, show (16 : Int) = ((16 : Nat) : Int) from rfl, I6_shr _ 16 (Nat.lt_trans b1 (by decide)) (by decide), I6_add]
  have f6 : s6 = I6 (lan pc8 8 n + lan pc8 8 n / 256 + (lan pc8 8 n + lan pc8 8 n / 256) / 65536 + (lan pc8 8 n + lan pc8 8 n / 256 + (lan pc8 8 n + lan pc8 8 n / 256) / 65536) / 4294967296) := by
    rw [e6, f5, show (32 : Int) = ((32 : Nat) : Int) from rfl, I6_shr _ 32 (Nat.lt_trans b2 (by decide)) (by decide), I6_add]
  rw [f6, w32_I6 _ b3, z, hs]
theorem tb_testBit (v : Int) (i : Nat) : tb v i = (b64 v).toNat.testBit i := rfl
theorem bc_sm (v : Int) : (bc v : Int) = sm (fun i => bI (tb v i = true)) 64 := by
  unfold bc
  have key : ∀ m, ((pcn (b64 v).toNat m : Nat) : Int) = sm (fun i => bI (tb v i = true)) m := by
    intro m
    induction m with
    | zero => rfl
    | succ m ih =>
      show ((pcn (b64 v).toNat m + (if (b64 v).toNat.testBit m then 1 else 0) : Nat) : Int) = sm _ m + bI (tb v m = true)
      rw [← ih, tb_testBit]
      unfold bI
      push_cast
      split <;> simp
  exact key 64
section BIT
variable (X : MExt) (E : List (Nat × Nat)) (c s : Nat) (g : Nat → Nat → Int)
/-- Long.bitCount -/
theorem m264 (d : Nat) {x : Int} (h : in64 x) : Call prog clsT X (d + 1) 264 [(1, x)] (mk E c s (hh g)) = some ((0, (bc x : Int)), mk E c s (hh g)) := by
  rw [rc264_, bitc x h _ _ _ _ _ _ rfl rfl rfl rfl rfl rfl]
def jb1 (x : Int) : Int := w32 (x - iand32 (iushr32 x 1) 1431655765)
def jb2 (x : Int) : Int := w32 (iand32 x 858993459 + iand32 (iushr32 x 2) 858993459)
def jb3 (x : Int) : Int := iand32 (w32 (x + iushr32 x 4)) 252645135
def jb4 (x : Int) : Int := w32 (x + iushr32 x 8)
def jb5 (x : Int) : Int := iand32 (w32 (x + iushr32 x 16)) 63
theorem jb_ok : ∀ n : Nat, n < 1024 → jb5 (jb4 (jb3 (jb2 (jb1 (n : Int))))) = (pcn n 10 : Int) := by decide +kernel
/-- Integer.bitCount of what it is asked for -/
theorem m262 (d : Nat) {n : Nat} (h : n < 1024) : Call prog clsT X (d + 1) 262 [(0, (n : Int))] (mk E c s (hh g)) = some ((0, (pcn n 10 : Int)), mk E c s (hh g)) := by
  rw [rc262_, ← jb_ok n h]
  rfl
end BIT
