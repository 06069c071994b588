/-! Part 08: the machine's numbers and whole numbers. -/
def in32 (x : Int) : Prop := -2147483648 ≤ x ∧ x < 2147483648
def in64 (x : Int) : Prop := -9223372036854775808 ≤ x ∧ x < 9223372036854775808
theorem bm32 {x : Int} (h : in32 x) : Int.bmod x 4294967296 = x := by
  obtain ⟨h1, h2⟩ := h
  rw [Int.bmod_def]; split <;> omega
theorem bm64 {x : Int} (h : in64 x) : Int.bmod x 18446744073709551616 = x := by
  obtain ⟨h1, h2⟩ := h
  rw [Int.bmod_def]; split <;> omega
theorem in32_bm (x : Int) : in32 (Int.bmod x 4294967296) := by
  unfold in32; rw [Int.bmod_def]; constructor <;> split <;> omega
theorem in64_bm (x : Int) : in64 (Int.bmod x 18446744073709551616) := by
  unfold in64; rw [Int.bmod_def]; constructor <;> split <;> omega
theorem w32_id {x : Int} (h : in32 x) : w32 x = x := bm32 h
theorem w64_id {x : Int} (h : in64 x) : w64 x = x := bm64 h
theorem in32_w (x : Int) : in32 (w32 x) := in32_bm x
theorem in64_w (x : Int) : in64 (w64 x) := in64_bm x
theorem i3_toInt (x : Int) : (Int32.ofInt x).toInt = w32 x := by
  rw [Int32.toInt_ofInt]; rfl
theorem i6_toInt (x : Int) : (Int64.ofInt x).toInt = w64 x := by
  rw [Int64.toInt_ofInt]; rfl
theorem i3_w (x : Int) : Int32.ofInt (w32 x) = Int32.ofInt x := by
  apply Int32.toInt_inj.mp; rw [i3_toInt, i3_toInt, w32_id (in32_w x)]
theorem i6_w (x : Int) : Int64.ofInt (w64 x) = Int64.ofInt x := by
  apply Int64.toInt_inj.mp; rw [i6_toInt, i6_toInt, w64_id (in64_w x)]
theorem i3_add (x y : Int) : Int32.ofInt (w32 (x + y)) = Int32.ofInt x + Int32.ofInt y := by rw [i3_w, Int32.ofInt_add]
theorem i3_sub (x y : Int) : Int32.ofInt (w32 (x - y)) = Int32.ofInt x - Int32.ofInt y := by rw [i3_w, Int32.ofInt_sub]
theorem i3_mul (x y : Int) : Int32.ofInt (w32 (x * y)) = Int32.ofInt x * Int32.ofInt y := by rw [i3_w, Int32.ofInt_mul]
theorem i6_add (x y : Int) : Int64.ofInt (w64 (x + y)) = Int64.ofInt x + Int64.ofInt y := by rw [i6_w, Int64.ofInt_add]
theorem i6_sub (x y : Int) : Int64.ofInt (w64 (x - y)) = Int64.ofInt x - Int64.ofInt y := by rw [i6_w, Int64.ofInt_sub]
theorem i6_mul (x y : Int) : Int64.ofInt (w64 (x * y)) = Int64.ofInt x * Int64.ofInt y := by rw [i6_w, Int64.ofInt_mul]
theorem i3_bv (x : Int) : (Int32.ofInt x).toBitVec = b32 x := rfl
theorem i6_bv (x : Int) : (Int64.ofInt x).toBitVec = b64 x := rfl
theorem b32_toInt (v : BitVec 32) : b32 v.toInt = v := BitVec.ofInt_toInt
theorem b64_toInt (v : BitVec 64) : b64 v.toInt = v := BitVec.ofInt_toInt
theorem i3_ext {a b : Int32} (h : a.toBitVec = b.toBitVec) : a = b := Int32.toBitVec_inj.mp h
theorem i6_ext {a b : Int64} (h : a.toBitVec = b.toBitVec) : a = b := Int64.toBitVec_inj.mp h
theorem in32_bv (v : BitVec 32) : in32 v.toInt := by
  have h1 := BitVec.le_toInt v; have h2 := BitVec.toInt_lt (x := v); unfold in32; omega
theorem in64_bv (v : BitVec 64) : in64 v.toInt := by
  have h1 := BitVec.le_toInt v; have h2 := BitVec.toInt_lt (x := v); unfold in64; omega
theorem i3_and (x y : Int) : Int32.ofInt (iand32 x y) = Int32.ofInt x &&& Int32.ofInt y := i3_ext (by rw [i3_bv, iand32, b32_toInt]; rfl)
theorem i3_or (x y : Int) : Int32.ofInt (ior32 x y) = Int32.ofInt x ||| Int32.ofInt y := i3_ext (by rw [i3_bv, ior32, b32_toInt]; rfl)
theorem i3_xor (x y : Int) : Int32.ofInt (ixor32 x y) = Int32.ofInt x ^^^ Int32.ofInt y := i3_ext (by rw [i3_bv, ixor32, b32_toInt]; rfl)
theorem i6_and (x y : Int) : Int64.ofInt (land64 x y) = Int64.ofInt x &&& Int64.ofInt y := i6_ext (by rw [i6_bv, land64, b64_toInt]; rfl)
theorem i6_or (x y : Int) : Int64.ofInt (lor64 x y) = Int64.ofInt x ||| Int64.ofInt y := i6_ext (by rw [i6_bv, lor64, b64_toInt]; rfl)
theorem i6_xor (x y : Int) : Int64.ofInt (lxor64 x y) = Int64.ofInt x ^^^ Int64.ofInt y := i6_ext (by rw [i6_bv, lxor64, b64_toInt]; rfl)
theorem i3_lt {x y : Int} (hx : in32 x) (hy : in32 y) : Int32.ofInt x < Int32.ofInt y ↔ x < y := by
  rw [Int32.lt_iff_toInt_lt, i3_toInt, i3_toInt, w32_id hx, w32_id hy]
theorem i3_le {x y : Int} (hx : in32 x) (hy : in32 y) : Int32.ofInt x ≤ Int32.ofInt y ↔ x ≤ y := by
  rw [Int32.le_iff_toInt_le, i3_toInt, i3_toInt, w32_id hx, w32_id hy]
theorem i3_eq {x y : Int} (hx : in32 x) (hy : in32 y) : Int32.ofInt x = Int32.ofInt y ↔ x = y := by
  rw [← Int32.toInt_inj, i3_toInt, i3_toInt, w32_id hx, w32_id hy]
theorem i6_lt {x y : Int} (hx : in64 x) (hy : in64 y) : Int64.ofInt x < Int64.ofInt y ↔ x < y := by
  rw [Int64.lt_iff_toInt_lt, i6_toInt, i6_toInt, w64_id hx, w64_id hy]
theorem i6_eq {x y : Int} (hx : in64 x) (hy : in64 y) : Int64.ofInt x = Int64.ofInt y ↔ x = y := by
  rw [← Int64.toInt_inj, i6_toInt, i6_toInt, w64_id hx, w64_id hy]
theorem in32_0 : in32 0 := by unfold in32; omega
theorem i3_0 : Int32.ofInt 0 = 0 := rfl
theorem i3_in {i : Int} {n : Nat} (hi : in32 i) (h0 : 0 ≤ i) (hn : i < n) : vp_in (Int32.ofInt i) n := by
  rw [vp_in_iff, i3_toInt, w32_id hi]; exact ⟨h0, hn⟩
theorem i3_cl {i : Int} (hi : in32 i) (h0 : 0 ≤ i) : (Int32.ofInt i).toNatClampNeg = i.toNat := by
  show (Int32.ofInt i).toInt.toNat = i.toNat
  rw [i3_toInt, w32_id hi]
theorem i3_smod (y : Int) : ((Int32.ofInt y &&& 31).toBitVec.smod 32).toNat = (y % 32).toNat := by
  have e : (Int32.ofInt y &&& 31).toBitVec = b32 y &&& 31#32 := rfl
  rw [e]
  have h1 : (b32 y &&& 31#32).toNat = (y % 32).toNat := by
    rw [BitVec.toNat_and, show (31#32).toNat = 2 ^ 5 - 1 from rfl, Nat.and_two_pow_sub_one_eq_mod]
    unfold b32
    rw [BitVec.toNat_ofInt]
    omega
  have h2 : (b32 y &&& 31#32).toNat < 32 := by rw [h1]; omega
  rw [BitVec.smod_eq]
  have m1 : (b32 y &&& 31#32).msb = false := by rw [BitVec.msb_eq_decide]; exact decide_eq_false (by omega)
  have m2 : (32 : BitVec 32).msb = false := by decide
  rw [m1, m2]
  show (BitVec.umod _ _).toNat = _
  rw [BitVec.umod_eq, BitVec.toNat_umod, show (32 : BitVec 32).toNat = 32 from rfl, Nat.mod_eq_of_lt h2, h1]
theorem i3_shl (x y : Int) : Int32.ofInt (ishl32 x y) = Int32.ofInt x <<< (Int32.ofInt y &&& 31) := by
  apply i3_ext
  rw [i3_bv, ishl32, b32_toInt, Int32.toBitVec_shiftLeft, BitVec.shiftLeft_eq', i3_smod]
  rfl
theorem i3_shr (x y : Int) : Int32.ofInt (ishr32 x y) = Int32.ofInt x >>> (Int32.ofInt y &&& 31) := by
  apply i3_ext
  rw [i3_bv, ishr32, b32_toInt, Int32.toBitVec_shiftRight]
  show _ = BitVec.sshiftRight _ (BitVec.toNat _)
  rw [i3_smod]
  rfl
theorem i3_umod (y : Int) : (((Int32.ofInt y).toUInt32 &&& Int32.toUInt32 31).toBitVec % 32).toNat = (y % 32).toNat := by
  have e : ((Int32.ofInt y).toUInt32 &&& Int32.toUInt32 31).toBitVec = b32 y &&& 31#32 := rfl
  rw [e]
  have h1 : (b32 y &&& 31#32).toNat = (y % 32).toNat := by
    rw [BitVec.toNat_and, show (31#32).toNat = 2 ^ 5 - 1 from rfl, Nat.and_two_pow_sub_one_eq_mod]
    unfold b32
    rw [BitVec.toNat_ofInt]
    omega
  have h2 : (b32 y &&& 31#32).toNat < 32 := by rw [h1]; omega
  rw [BitVec.toNat_umod, show (32 : BitVec 32).toNat = 32 from rfl, Nat.mod_eq_of_lt h2, h1]
theorem i3_ushr (x y : Int) : ((Int32.ofInt x).toUInt32 >>> ((Int32.ofInt y).toUInt32 &&& Int32.toUInt32 31)).toInt32 = Int32.ofInt (iushr32 x y) := by
  apply i3_ext
  apply BitVec.eq_of_toNat_eq
  rw [pk_ushr _ _ _ (i3_umod y), i3_bv, i3_bv, iushr32, b32_toInt, BitVec.toNat_ushiftRight, Nat.shiftRight_eq_div_pow]
theorem i36 {y : Int} (h : in32 y) : (Int32.ofInt y).toInt64 = Int64.ofInt y := by
  apply Int64.toInt_inj.mp
  rw [Int32.toInt_toInt64, i3_toInt, i6_toInt, w32_id h, w64_id (by unfold in64; unfold in32 at h; omega)]
theorem i63 (x : Int) : (Int64.ofInt x).toInt32 = Int32.ofInt (w32 x) := by
  apply Int32.toInt_inj.mp
  rw [i3_w, i3_toInt, Int64.toInt_toInt32, i6_toInt, w64, w32]
  rw [show (18446744073709551616 : Nat) = 4294967296 * 4294967296 from rfl]
  exact Int.bmod_bmod_of_dvd (Nat.dvd_mul_right _ _)
theorem i3_div {x y : Int} (hx : in32 x) (hy : in32 y) : Int32.ofInt (tdv x y) = Int32.ofInt x / Int32.ofInt y := by
  apply Int32.toInt_inj.mp
  rw [tdv, i3_w, i3_toInt, Int32.toInt_div, i3_toInt, i3_toInt, w32_id hx, w32_id hy]
  rfl
theorem i6_cmp {x y : Int} (hx : in64 x) (hy : in64 y) : lg_cmp (Int64.ofInt x) (Int64.ofInt y) = Int32.ofInt (lcmpI x y) := by
  unfold lg_cmp lcmpI
  by_cases h1 : x < y
  · rw [if_pos h1, if_neg (fun q => by have := (i6_lt hy hx).mp q; omega), if_neg (fun q => by have := (i6_eq hx hy).mp q; omega)]
    rfl
  · rw [if_neg h1]
    by_cases h2 : x = y
    · rw [if_pos h2, if_neg (fun q => by have := (i6_lt hy hx).mp q; omega), if_pos ((i6_eq hx hy).mpr h2)]
      rfl
    · rw [if_neg h2, if_pos ((i6_lt hy hx).mpr (by omega))]
      rfl
theorem in8_bm (x : Int) : -128 ≤ sx8 x ∧ sx8 x < 128 := by
  unfold sx8; rw [Int.bmod_def]; constructor <;> split <;> omega
theorem in32_8 (x : Int) : in32 (sx8 x) := by have := in8_bm x; unfold in32; omega
theorem i3_8 (x : Int) : (Int32.ofInt x).toInt8.toInt32 = Int32.ofInt (sx8 x) := by
  apply Int32.toInt_inj.mp
  rw [Int8.toInt_toInt32, Int32.toInt_toInt8, i3_toInt, i3_toInt, w32_id (in32_8 x), w32, sx8]
  rw [show (4294967296 : Nat) = 256 * 16777216 from rfl]
  exact Int.bmod_bmod_of_dvd (Nat.dvd_mul_right _ _)
theorem in32_16 (x : Int) : in32 (c16 x) := by unfold in32 c16; omega
theorem i3_16 (x : Int) : ((Int32.ofInt x).toUInt32 % 65536).toInt32 = Int32.ofInt (c16 x) := by
  apply i3_ext
  apply BitVec.eq_of_toNat_eq
  rw [pk_char, i3_bv]
  show ((nI ((b32 x).toNat % 65536)).toBitVec).toNat = (b32 (c16 x)).toNat
  rw [pk_tn (by omega)]
  unfold b32 c16
  rw [BitVec.toNat_ofInt, BitVec.toNat_ofInt]
  omega
theorem i3_nb (x : Int) : vp_nar .byte (Int32.ofInt x) = Int32.ofInt (sx8 x) := by rw [vp_nar_byte, i3_8]
theorem in32_b1 (x : Int) : in32 (bit1 x) := by unfold in32 bit1; omega
theorem i3_b1 (x : Int) : vp_nar .boolean (Int32.ofInt x) = Int32.ofInt (bit1 x) := by
  have h : vp_nar .boolean (Int32.ofInt x) = Int32.ofInt x &&& 1 := by first | rfl | simp [vp_nar, narrow]
  rw [h]
  apply i3_ext
  apply BitVec.eq_of_toNat_eq
  show (b32 x &&& 1#32).toNat = (b32 (bit1 x)).toNat
  rw [BitVec.toNat_and, show (1#32).toNat = 2 ^ 1 - 1 from rfl, Nat.and_two_pow_sub_one_eq_mod]
  unfold b32 bit1
  rw [BitVec.toNat_ofInt, BitVec.toNat_ofInt]
  omega
theorem i6_smod {y : Int} (h : in32 y) : (((Int32.ofInt y).toInt64 &&& 63).toBitVec.smod 64).toNat = (y % 64).toNat := by
  rw [i36 h]
  have e : (Int64.ofInt y &&& 63).toBitVec = b64 y &&& 63#64 := rfl
  rw [e]
  have h1 : (b64 y &&& 63#64).toNat = (y % 64).toNat := by
    rw [BitVec.toNat_and, show (63#64).toNat = 2 ^ 6 - 1 from rfl, Nat.and_two_pow_sub_one_eq_mod]
    unfold b64
    rw [BitVec.toNat_ofInt]
    omega
  have h2 : (b64 y &&& 63#64).toNat < 64 := by rw [h1]; omega
  rw [BitVec.smod_eq]
  have m1 : (b64 y &&& 63#64).msb = false := by rw [BitVec.msb_eq_decide]; exact decide_eq_false (by omega)
  have m2 : (64 : BitVec 64).msb = false := by decide
  rw [m1, m2]
  show (BitVec.umod _ _).toNat = _
  rw [BitVec.umod_eq, BitVec.toNat_umod, show (64 : BitVec 64).toNat = 64 from rfl, Nat.mod_eq_of_lt h2, h1]
theorem i6_shl (x : Int) {y : Int} (h : in32 y) : Int64.ofInt x <<< ((Int32.ofInt y).toInt64 &&& 63) = Int64.ofInt (lshl64 x y) := by
  apply i6_ext
  rw [i6_bv (lshl64 x y), lshl64, b64_toInt, Int64.toBitVec_shiftLeft, BitVec.shiftLeft_eq', i6_smod h]
  rfl
theorem i6_shr (x : Int) {y : Int} (h : in32 y) : Int64.ofInt x >>> ((Int32.ofInt y).toInt64 &&& 63) = Int64.ofInt (lshr64 x y) := by
  apply i6_ext
  rw [i6_bv (lshr64 x y), lshr64, b64_toInt, Int64.toBitVec_shiftRight]
  show BitVec.sshiftRight _ (BitVec.toNat _) = _
  rw [i6_smod h]
  rfl
theorem i6_ushr (x : Int) {y : Int} (h : in32 y) : ((Int64.ofInt x).toUInt64 >>> ((Int32.ofInt y).toInt64.toUInt64 &&& Int64.toUInt64 63)).toInt64 = Int64.ofInt (lushr64 x y) := by
  rw [i36 h]
  apply i6_ext
  apply BitVec.eq_of_toNat_eq
  rw [i6_bv (lushr64 x y), lushr64, b64_toInt, BitVec.toNat_ushiftRight]
  have e : (((Int64.ofInt x).toUInt64 >>> ((Int64.ofInt y).toUInt64 &&& Int64.toUInt64 63)).toInt64).toBitVec = (b64 x) >>> ((b64 y &&& 63#64) % 64#64) := rfl
  rw [e, BitVec.ushiftRight_eq', BitVec.toNat_ushiftRight]
  congr 1
  rw [BitVec.toNat_umod, BitVec.toNat_and, show (63#64).toNat = 2 ^ 6 - 1 from rfl, Nat.and_two_pow_sub_one_eq_mod, show (64#64).toNat = 64 from rfl]
  unfold b64
  rw [BitVec.toNat_ofInt]
  omega
