/-! Part 60: comparisons, bounds, bits, loops. -/
theorem cmp_lt {α : Type} {x y : Int} {a b : α} : (if cmpI .lt x y = true then a else b) = if x < y then a else b := by simp [cmpI]
theorem cmp_ge {α : Type} {x y : Int} {a b : α} : (if cmpI .ge x y = true then a else b) = if y ≤ x then a else b := by simp [cmpI]
theorem cmp_gt {α : Type} {x y : Int} {a b : α} : (if cmpI .gt x y = true then a else b) = if y < x then a else b := by simp [cmpI]
theorem cmp_le {α : Type} {x y : Int} {a b : α} : (if cmpI .le x y = true then a else b) = if x ≤ y then a else b := by simp [cmpI]
theorem cmp_eq {α : Type} {x y : Int} {a b : α} : (if cmpI .eq x y = true then a else b) = if x = y then a else b := by simp [cmpI]
theorem cmp_ne {α : Type} {x y : Int} {a b : α} : (if cmpI .ne x y = true then a else b) = if ¬ (x = y) then a else b := by simp [cmpI]
theorem inb_is {α : Type} {x : Int} {n : Nat} {a b : α} : (if inb x n = true then a else b) = if 0 ≤ x ∧ x < n then a else b := by simp [inb]
theorem one01_is (x : Int) : (one01 x = true) = (x = 0 ∨ x = 1) := by simp [one01]
/-- 1 or 0 -/
def bI (p : Prop) [Decidable p] : Int := if p then 1 else 0
theorem bI_t {p : Prop} [Decidable p] (h : p) : bI p = 1 := if_pos h
theorem bI_f {p : Prop} [Decidable p] (h : ¬ p) : bI p = 0 := if_neg h
theorem bI_eq0 {p : Prop} [Decidable p] {α : Type} {a b : α} : (if bI p = 0 then a else b) = if ¬ p then a else b := by
  unfold bI; split <;> simp_all
theorem bI_ne0 {p : Prop} [Decidable p] {α : Type} {a b : α} : (if ¬ (bI p = 0) then a else b) = if ¬¬ p then a else b := by
  unfold bI; split <;> simp_all
theorem dec_not {p : Prop} [Decidable p] {α : Type} {a b : α} : (if ¬ (decide p = true) then a else b) = if ¬ p then a else b := by simp
theorem bI_01 (p : Prop) [Decidable p] : bI p = 0 ∨ bI p = 1 := by
  unfold bI; split <;> simp
theorem bI_congr {p q : Prop} [Decidable p] [Decidable q] (h : p ↔ q) : bI p = bI q := by
  unfold bI
  by_cases hp : p
  · rw [if_pos hp, if_pos (h.mp hp)]
  · rw [if_neg hp, if_neg (fun z => hp (h.mpr z))]
theorem bnd_ok {α β : Type} (a : α) (f : α → Option β) : (some a).bind f = f a := rfl
theorem ret_ok {v : MV} (h : v.1 ≠ 4) {r : MRes} {M : Mem} {f : MRes → Option MRes} (hr : r = (v, M)) : (if r.1.1 = 4 then none else f r) = f (v, M) := by
  subst hr; rw [if_neg h]
theorem push0 (x : Int) (st : List MV) : pushR (0, x) st = (0, x) :: st := rfl
theorem push1 (x : Int) (st : List MV) : pushR (1, x) st = (1, x) :: st := rfl
theorem push2 (x : Int) (st : List MV) : pushR (2, x) st = (2, x) :: st := rfl
theorem push3 (x : Int) (st : List MV) : pushR (3, x) st = st := rfl
/-- a call that has answered -/
theorem call0 {x : Int} {M : Mem} {o : Option MRes} {f : MRes → Option MRes} (h : o = some ((0, x), M)) : (o.bind fun r => if r.1.1 = 4 then none else f r) = f ((0, x), M) := by subst h; rfl
theorem call1 {x : Int} {M : Mem} {o : Option MRes} {f : MRes → Option MRes} (h : o = some ((1, x), M)) : (o.bind fun r => if r.1.1 = 4 then none else f r) = f ((1, x), M) := by subst h; rfl
theorem call2 {x : Int} {M : Mem} {o : Option MRes} {f : MRes → Option MRes} (h : o = some ((2, x), M)) : (o.bind fun r => if r.1.1 = 4 then none else f r) = f ((2, x), M) := by subst h; rfl
theorem call3 {x : Int} {M : Mem} {o : Option MRes} {f : MRes → Option MRes} (h : o = some ((3, x), M)) : (o.bind fun r => if r.1.1 = 4 then none else f r) = f ((3, x), M) := by subst h; rfl
/-- small sums stay -/
theorem w32_of {x : Int} (h1 : -2147483648 ≤ x) (h2 : x < 2147483648) : w32 x = x := w32_id ⟨h1, h2⟩
theorem w64_of {x : Int} (h1 : -9223372036854775808 ≤ x) (h2 : x < 9223372036854775808) : w64 x = x := w64_id ⟨h1, h2⟩
/-- a loop that counts up: H i a is the machine at the head with the counter i and the rest a -/
theorem loop_to {α β : Type} (H : Nat → α → β) (P : Nat → α → Prop) (f : Nat → α → α) (n : Nat) (hs : ∀ i a, i < n → P i a → H i a = H (i + 1) (f i a) ∧ P (i + 1) (f i a)) : ∀ (k i : Nat) (a : α), i + k = n → P i a → ∃ b, H i a = H n b ∧ P n b := by
  intro k
  induction k with
  | zero => intro i a h hp; exact ⟨a, by rw [show i = n by omega], by rw [← show i = n by omega]; exact hp⟩
  | succ k ih =>
    intro i a h hp
    obtain ⟨h1, h2⟩ := hs i a (by omega) hp
    obtain ⟨b, h3, h4⟩ := ih (i + 1) (f i a) (by omega) h2
    exact ⟨b, h1.trans h3, h4⟩
/-- .. with an invariant alone -/
theorem loop_inv {α β : Type} (H : Nat → α → β) (P : Nat → α → Prop) (n : Nat) (hs : ∀ i a, i < n → P i a → ∃ b, H i a = H (i + 1) b ∧ P (i + 1) b) : ∀ (k i : Nat) (a : α), i + k = n → P i a → ∃ b, H i a = H n b ∧ P n b := by
  intro k
  induction k with
  | zero => intro i a h hp; exact ⟨a, by rw [show i = n by omega], by rw [← show i = n by omega]; exact hp⟩
  | succ k ih =>
    intro i a h hp
    obtain ⟨b, h1, h2⟩ := hs i a (by omega) hp
    obtain ⟨b2, h3, h4⟩ := ih (i + 1) b (by omega) h2
    exact ⟨b2, h1.trans h3, h4⟩
/-- sums over 0..n-1 -/
def sm (f : Nat → Int) : Nat → Int
  | 0 => 0
  | n + 1 => sm f n + f n
theorem sm_congr {f g : Nat → Int} : ∀ {n : Nat}, (∀ i, i < n → f i = g i) → sm f n = sm g n
  | 0, _ => rfl
  | n + 1, h => by show sm f n + f n = sm g n + g n; rw [sm_congr (fun i hi => h i (by omega)), h n (by omega)]
theorem sm_bound {f : Nat → Int} {a b : Int} : ∀ {n : Nat}, (∀ i, i < n → a ≤ f i ∧ f i ≤ b) → a * n ≤ sm f n ∧ sm f n ≤ b * n
  | 0, _ => by simp [sm]
  | n + 1, h => by
    have h1 := sm_bound (n := n) (fun i hi => h i (by omega))
    have h2 := h n (by omega)
    have e1 : a * ((n + 1 : Nat) : Int) = a * n + a := by push_cast; rw [Int.mul_add]; omega
    have e2 : b * ((n + 1 : Nat) : Int) = b * n + b := by push_cast; rw [Int.mul_add]; omega
    show a * ((n + 1 : Nat) : Int) ≤ sm f n + f n ∧ sm f n + f n ≤ b * ((n + 1 : Nat) : Int)
    omega
/-- bits of a long -/
def tb (v : Int) (i : Nat) : Bool := (b64 v).getLsbD i
theorem b64_of_toInt (v : BitVec 64) : b64 v.toInt = v := b64_toInt v
theorem tb_or (a b : Int) (i : Nat) : tb (lor64 a b) i = (tb a i || tb b i) := by
  unfold tb lor64; rw [b64_toInt]; simp
theorem tb_and (a b : Int) (i : Nat) : tb (land64 a b) i = (tb a i && tb b i) := by
  unfold tb land64; rw [b64_toInt]; simp
theorem tb_xor (a b : Int) (i : Nat) : tb (lxor64 a b) i = (tb a i ^^ tb b i) := by
  unfold tb lxor64; rw [b64_toInt]; simp
theorem tb_0 (i : Nat) : tb 0 i = false := by
  unfold tb; show (b64 0).getLsbD i = false; rw [show b64 0 = 0#64 from rfl]; simp
theorem tb_m1 (i : Nat) (h : i < 64) : tb (-1) i = true := by
  unfold tb; rw [show b64 (-1) = BitVec.allOnes 64 from by decide, BitVec.getLsbD_allOnes]; simp [h]
theorem tb_1sh (k i : Nat) (hk : k < 64) : tb (lshl64 1 (k : Int)) i = decide (i = k) := by
  unfold tb lshl64
  rw [b64_toInt, show ((k : Int) % 64).toNat = k by omega, show b64 1 = 1#64 from rfl]
  simp only [BitVec.getLsbD_shiftLeft]
  by_cases h : i = k
  · subst h; simp [hk]
  · by_cases h2 : i < k
    · simp [h, h2]
    · simp [h, h2]; omega
theorem in64_or (a b : Int) : in64 (lor64 a b) := in64_bv _
theorem in64_and (a b : Int) : in64 (land64 a b) := in64_bv _
theorem in64_shl (a b : Int) : in64 (lshl64 a b) := in64_bv _
/-- (v >> k) & 1 -/
theorem bit_at (v : Int) (k : Nat) (hk : k < 64) : land64 (lshr64 v (k : Int)) 1 = bI (tb v k = true) := by
  unfold land64 lshr64 tb
  rw [b64_toInt, show ((k : Int) % 64).toNat = k by omega, show b64 1 = 1#64 from rfl]
  have e : ((b64 v).sshiftRight k &&& 1#64) = if (b64 v).getLsbD k then 1#64 else 0#64 := by
    apply BitVec.eq_of_getLsbD_eq
    intro i hi
    rw [BitVec.getLsbD_and, BitVec.getLsbD_sshiftRight]
    by_cases h0 : i = 0
    · subst h0
      rw [show (1#64).getLsbD 0 = true from rfl, Bool.and_true]
      by_cases hb : (b64 v).getLsbD k = true
      · rw [if_pos hb]; simp only [Nat.add_zero, hb, hk]; rfl
      · rw [if_neg hb]; simp only [Nat.add_zero, Bool.not_eq_true] at hb ⊢; simp only [hb, hk]; rfl
    · have h1 : (1#64).getLsbD i = false := by simp [h0]
      rw [h1, Bool.and_false]
      split
      · rw [h1]
      · exact (BitVec.getLsbD_zero).symm
  rw [e]
  unfold bI
  split <;> rfl
theorem tb_ext {a b : Int} (ha : in64 a) (hb : in64 b) (h : ∀ i, i < 64 → tb a i = tb b i) : a = b := by
  have e : b64 a = b64 b := BitVec.eq_of_getLsbD_eq (fun i hi => h i hi)
  have e2 := congrArg BitVec.toInt e
  unfold b64 at e2
  rw [BitVec.toInt_ofInt, BitVec.toInt_ofInt, bm64 ha, bm64 hb] at e2
  exact e2
theorem lor_0 {a : Int} (h : in64 a) : lor64 a 0 = a := tb_ext (in64_or _ _) h (fun i _ => by rw [tb_or, tb_0, Bool.or_false])
/-- a fold over 0..n-1 -/
def fo {α : Type} (F : Nat → α → α) (a : α) : Nat → α
  | 0 => a
  | n + 1 => F n (fo F a n)
/-- a loop that is a fold; w: what is dead at its head -/
theorem fold_loop {α β : Type} (H : Nat → α → MV → β) (R : α → β) (F : Nat → α → α) (n : Nat) (a0 : α) (hs : ∀ i w, i < n → ∃ w', H i (fo F a0 i) w = H (i + 1) (F i (fo F a0 i)) w') (he : ∀ w, H n (fo F a0 n) w = R (fo F a0 n)) (w0 : MV) : H 0 a0 w0 = R (fo F a0 n) := by
  have key : ∀ m i w, i + m = n → H i (fo F a0 i) w = R (fo F a0 n) := by
    intro m
    induction m with
    | zero => intro i w h; rw [show i = n by omega]; exact he w
    | succ m ih =>
      intro i w h
      obtain ⟨w', e⟩ := hs i w (by omega)
      rw [e]
      exact ih (i + 1) w' (by omega)
  exact key n 0 w0 (by omega)
/-- .. that counts -/
theorem count_loop {β : Type} (H : Nat → Int → MV → β) (R : Int → β) (f : Nat → Int) (n : Nat) (B : Int) (hB : 0 ≤ B) (hn : B * (n + 1) < 2147483648) (hf : ∀ i, i < n → 0 ≤ f i ∧ f i ≤ B) (hs : ∀ i a w, i < n → ∃ w', H i a w = H (i + 1) (w32 (a + f i)) w') (he : ∀ a w, H n a w = R a) (w0 : MV) : H 0 0 w0 = R (sm f n) := by
  have key : ∀ m i w, i + m = n → H i (sm f i) w = R (sm f n) := by
    intro m
    induction m with
    | zero => intro i w h; rw [show i = n by omega]; exact he _ w
    | succ m ih =>
      intro i w h
      obtain ⟨w', e⟩ := hs i (sm f i) w (by omega)
      have h1 := sm_bound (f := f) (a := 0) (b := B) (n := i + 1) (fun j hj => hf j (by omega))
      have e1 : sm f (i + 1) = sm f i + f i := rfl
      rw [Int.zero_mul] at h1
      have h2 : B * ((i + 1 : Nat) : Int) ≤ B * (n + 1) := by
        apply Int.mul_le_mul_of_nonneg_left _ hB
        push_cast; omega
      rw [e, ← e1, w32_of (by omega) (by omega)]
      exact ih (i + 1) w' (by omega)
  exact key n 0 w0 (by omega)
