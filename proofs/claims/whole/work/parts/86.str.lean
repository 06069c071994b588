/-! Part 86: strings. -/
/-- x is a string of the letters l -/
def STR (X : MExt) (x : Int) (l : List Int) : Prop := -30 < x ∧ x ≤ -10 ∧ X (x - 20) = (103, l) ∧ l.length < 1000 ∧ ∀ i, i < l.length → 0 ≤ l.getD i 0 ∧ l.getD i 0 ≤ 127
section STRS
variable (X : MExt) (E : List (Nat × Nat)) (c s : Nat) {g : Nat → Nat → Int} {x : Int} {l : List Int}
theorem sf0 (h : STR X x l) {k : Int → Option MRes} : (fget 10000 (mk E c s (hh g)) x).bind k = k (x - 20) := by
  unfold fget
  rw [if_neg (by decide), if_pos rfl, if_pos ⟨h.1, h.2.1⟩]
  rfl
theorem sf1 (h : STR X x l) {k : Int → Option MRes} : (fget 10001 (mk E c s (hh g)) x).bind k = k 0 := by
  unfold fget
  rw [if_neg (by decide), if_neg (by decide), if_pos ⟨h.1, h.2.1⟩]
  rfl
theorem sal (h : STR X x l) {k : Int → Option MRes} : (alen X (mk E c s (hh g)) (x - 20)).bind k = k l.length := by
  have h1 := h.1; have h2 := h.2.1
  unfold alen
  rw [if_neg (by omega), if_pos (by omega), h.2.2.1, if_pos (show (100 : Nat) ≤ 103 ∧ (103 : Nat) < 104 from by decide)]
  rfl
theorem sag (h : STR X x l) {i : Int} {k : Int → Option MRes} : (aget X 103 (mk E c s (hh g)) (x - 20) i).bind k = if 0 ≤ i ∧ i < l.length then k (l.getD i.toNat 0) else none := by
  have h1 := h.1; have h2 := h.2.1
  unfold aget
  rw [if_neg (by omega), if_pos (by omega), h.2.2.1, if_pos rfl, inb_is]
  split <;> rfl
theorem srv (h : STR X x l) {α : Type} {a b : α} : (if (2 : Nat) = 2 ∧ rcv (mk E c s (hh g)) x 14 = true then a else b) = a := by
  have h1 := h.1; have h2 := h.2.1
  refine if_pos ⟨rfl, ?_⟩
  unfold rcv
  rw [if_neg (by omega)]
  simp; omega
/-- isLatin1 -/
theorem m251 (h : STR X x l) (d : Nat) : Call prog clsT X (d + 1) 251 [(2, x)] (mk E c s (hh g)) = some ((0, 1), mk E c s (hh g)) := by
  rw [rc251_, cmp_eq, if_neg (by decide), sf1 X E c s h, cmp_ne, if_neg (fun q => q rfl)]
/-- coder -/
theorem m253 (h : STR X x l) (d : Nat) : Call prog clsT X (d + 1) 253 [(2, x)] (mk E c s (hh g)) = some ((0, 0), mk E c s (hh g)) := by
  rw [rc253_, cmp_eq, if_neg (by decide), sf1 X E c s h, if_pos ⟨rfl, by decide⟩]
/-- length -/
theorem m252 (h : STR X x l) (d : Nat) : Call prog clsT X (d + 2) 252 [(2, x)] (mk E c s (hh g)) = some ((0, (l.length : Int)), mk E c s (hh g)) := by
  have hl := h.2.2.2.1
  rw [rc252_, sf0 X E c s h, sal X E c s h, srv X E c s h, call0 (m253 X E c s h d), push0, r252_5]
  have e : ishr32 (l.length : Int) 0 = l.length := by
    unfold ishr32
    rw [show ((0 : Int) % 32).toNat = 0 from rfl, BitVec.sshiftRight_zero]
    unfold b32
    rw [BitVec.toInt_ofInt]
    exact bm32 (by unfold in32; omega)
  rw [e]
/-- Preconditions.checkIndex -/
theorem m265 (d : Nat) (i n y : Int) (h : 0 ≤ i ∧ i < n) : Call prog clsT X (d + 1) 265 [(0, i), (0, n), (2, y)] (mk E c s (hh g)) = some ((0, i), mk E c s (hh g)) := by
  rw [rc265_, cmp_lt, if_neg (by omega), cmp_lt, if_pos h.2]
theorem m255 (d : Nat) (i n : Int) (h : 0 ≤ i ∧ i < n) : Call prog clsT X (d + 2) 255 [(0, i), (0, n)] (mk E c s (hh g)) = some ((3, 0), mk E c s (hh g)) := by
  rw [rc255_, call0 (m265 X E c s d i n (-5) h), push0, r255_4]
theorem and255 : ∀ n : Nat, n < 128 → c16 (iand32 (n : Int) 255) = n := by decide +kernel
/-- StringLatin1.charAt -/
theorem m259 (h : STR X x l) (d : Nat) (i : Nat) (hi : i < l.length) : Call prog clsT X (d + 3) 259 [(2, x - 20), (0, (i : Int))] (mk E c s (hh g)) = some ((0, l.getD i 0), mk E c s (hh g)) := by
  have hb := h.2.2.2.2 i hi
  rw [rc259_, sal X E c s h, call3 (m255 X E c s d i l.length ⟨by omega, by omega⟩), push3, r259_4, sag X E c s h, if_pos ⟨by omega, by omega⟩, Int.toNat_natCast]
  obtain ⟨n, hn⟩ := Int.eq_ofNat_of_zero_le hb.1
  rw [hn, and255 n (by omega)]
  rw [if_pos]
  refine ⟨rfl, ?_⟩
  have : n < 128 := by omega
  unfold is16
  simp
  omega
/-- charAt -/
theorem m254 (h : STR X x l) (d : Nat) (i : Nat) (hi : i < l.length) : Call prog clsT X (d + 4) 254 [(2, x), (0, (i : Int))] (mk E c s (hh g)) = some ((0, l.getD i 0), mk E c s (hh g)) := by
  have hb := h.2.2.2.2 i hi
  rw [rc254_, srv X E c s h, call0 (m251 X E c s h (d + 2)), push0, r254_2, cmp_eq, if_neg (by decide), sf0 X E c s h, call0 (m259 X E c s h d i hi), push0, r254_7, if_pos]
  refine ⟨rfl, ?_⟩
  generalize l.getD i 0 = b at hb ⊢
  unfold is16
  simp
  omega
/-- StringLatin1.indexOfChar: where b stands from k on -/
def fnd (l : List Int) (b : Int) : Nat → Nat → Int
  | 0, _ => -1
  | n + 1, k => if l.getD k 0 = b then k else fnd l b n (k + 1)
theorem m258 (h : STR X x l) (d : Nat) (b : Int) (hb : 0 ≤ b ∧ b ≤ 127) : Call prog clsT X (d + 1) 258 [(2, x - 20), (0, b), (0, 0), (0, (l.length : Int))] (mk E c s (hh g)) = some ((0, fnd l b l.length 0), mk E c s (hh g)) := by
  have hl := h.2.2.2.1
  have e8 : sx8 b = b := by
    unfold sx8
    rw [Int.bmod_def]
    split <;> omega
  have loop : ∀ (n k : Nat) (w1 w2 : MV), k + n = l.length → Ev prog clsT X d mc258 5 [(2, x - 20), w1, w2, (0, (l.length : Int)), (0, b), (0, (k : Int))] [] (mk E c s (hh g)) = some ((0, fnd l b n k), mk E c s (hh g)) := by
    intro n
    induction n with
    | zero => intro k w1 w2 hk; rw [r258_5, cmp_ge, if_pos (by omega)]; rfl
    | succ n ih =>
      intro k w1 w2 hk
      rw [r258_5, cmp_ge, if_neg (by omega), sag X E c s h, if_pos ⟨by omega, by omega⟩, Int.toNat_natCast, cmp_ne, w32_succ (by omega)]
      by_cases q : l.getD k 0 = b
      · rw [if_neg (fun z => z q), show fnd l b (n + 1) k = k from if_pos q]
      · rw [if_pos q, show fnd l b (n + 1) k = fnd l b n (k + 1) from if_neg q]
        exact ih (k + 1) _ _ (by omega)
  rw [rc258_, e8]
  exact loop l.length 0 _ _ (by omega)
theorem m257 (d : Nat) (b : Int) (hb : 0 ≤ b ∧ b ≤ 127) : Call prog clsT X (d + 1) 257 [(0, b)] (mk E c s (hh g)) = some ((0, 1), mk E c s (hh g)) := by
  rw [rc257_, cmp_lt, if_neg (by omega), cmp_gt, if_neg (by omega)]
/-- StringLatin1.indexOf -/
theorem m256 (h : STR X x l) (d : Nat) (b : Int) (hb : 0 ≤ b ∧ b ≤ 127) (hl0 : 0 < l.length) : Call prog clsT X (d + 2) 256 [(2, x - 20), (0, b), (0, 0), (0, (l.length : Int))] (mk E c s (hh g)) = some ((0, fnd l b l.length 0), mk E c s (hh g)) := by
  rw [rc256_, call0 (m257 X E c s d b hb), push0, r256_2, cmp_ne, if_pos (by decide), sal X E c s h, if_neg (show ¬ ((0 : Int) < 0) by decide), if_neg (show ¬ ((l.length : Int) < l.length) by omega), cmp_lt, if_pos (by omega), call0 (m258 X E c s h d b hb), push0, r256_24]
/-- String.indexOf(int) -/
theorem m249 (h : STR X x l) (d : Nat) (b : Int) (hb : 0 ≤ b ∧ b ≤ 127) (hl0 : 0 < l.length) : Call prog clsT X (d + 4) 249 [(2, x), (0, b)] (mk E c s (hh g)) = some ((0, fnd l b l.length 0), mk E c s (hh g)) := by
  have e : Call prog clsT X (d + 3) 250 [(2, x), (0, b), (0, 0)] (mk E c s (hh g)) = some ((0, fnd l b l.length 0), mk E c s (hh g)) := by
    rw [rc250_, srv X E c s h, call0 (m251 X E c s h (d + 1)), push0, r250_2, cmp_eq, if_neg (by decide), sf0 X E c s h, srv X E c s h, call0 (m252 X E c s h d), push0, r250_9, call0 (m256 X E c s h d b hb hl0), push0, r250_10]
  rw [rc249_, srv X E c s h, call0 e, push0, r249_4]
end STRS
