/-! Part 92: the words of the language; tokens as both sides hold them. -/
def sEF : List Int := [112, 105, 101, 99, 101, 115, 32, 32, 107, 105, 110, 100, 115, 32, 32, 32, 111, 100, 100, 32, 32, 32, 32, 32, 115, 105, 122, 101, 32, 32, 32, 32, 115, 112, 114, 101, 97, 100, 32, 32, 103, 114, 97, 100, 101, 32, 32, 32, 119, 111, 114, 115, 116, 32, 32, 32, 97, 103, 101, 32, 32, 32, 32, 32, 104, 111, 117, 115, 101, 32, 32, 32, 119, 111, 110, 32, 32, 32, 32, 32, 101, 110, 116, 114, 105, 101, 115, 32]
def sPF : List Int := [110, 111, 119, 32, 32, 32, 32, 32, 108, 97, 115, 116, 32, 32, 32, 32, 109, 111, 115, 116, 32, 32, 32, 32, 108, 101, 97, 115, 116, 32, 32, 32, 109, 101, 97, 110, 32, 32, 32, 32, 121, 101, 97, 114, 115, 32, 32, 32, 107, 105, 110, 100, 32, 32, 32, 32, 119, 97, 110, 116, 101, 100, 32, 32]
def sLW : List Int := [119, 97, 110, 116, 32, 32, 32, 32, 98, 97, 114, 32, 32, 32, 32, 32, 109, 97, 114, 107, 115, 32, 32, 32, 116, 105, 101, 32, 32, 32, 32, 32, 100, 114, 111, 112, 32, 32, 32, 32, 115, 112, 108, 105, 116, 32, 32, 32, 106, 111, 105, 110, 32, 32, 32, 32]
def wEF : List (List Int) := [[112, 105, 101, 99, 101, 115], [107, 105, 110, 100, 115], [111, 100, 100], [115, 105, 122, 101], [115, 112, 114, 101, 97, 100], [103, 114, 97, 100, 101], [119, 111, 114, 115, 116], [97, 103, 101], [104, 111, 117, 115, 101], [119, 111, 110], [101, 110, 116, 114, 105, 101, 115]]
def wPF : List (List Int) := [[110, 111, 119], [108, 97, 115, 116], [109, 111, 115, 116], [108, 101, 97, 115, 116], [109, 101, 97, 110], [121, 101, 97, 114, 115], [107, 105, 110, 100], [119, 97, 110, 116, 101, 100]]
def wLW : List (List Int) := [[119, 97, 110, 116], [98, 97, 114], [109, 97, 114, 107, 115], [116, 105, 101], [100, 114, 111, 112], [115, 112, 108, 105, 116], [106, 111, 105, 110]]
def lKind : List Int := [107, 105, 110, 100]
def lWhen : List Int := [119, 104, 101, 110]
def lNot : List Int := [110, 111, 116]
def lAnd : List Int := [97, 110, 100]
def lOr : List Int := [111, 114]
/-- what was there before the run: strings and tables -/
def XT (X : MExt) : Prop := STR X (-10) sEF ∧ STR X (-11) sPF ∧ STR X (-12) sgl ∧ STR X (-13) sLW ∧ STR X (-14) lKind ∧ STR X (-15) lWhen ∧ STR X (-16) lNot ∧ STR X (-17) lAnd ∧ STR X (-18) lOr ∧ X (-3) = (100, [1, 3, 1, 1, 4, 4, 4]) ∧ X (-4) = (100, [-1, -1, 6, 7, 8, 9, 10])
theorem up_ne {g : Nat → Nat → Int} {x i y j : Nat} {v : Int} (h : ¬ (y = x ∧ j = i)) : up g x i v y j = g y j := if_neg h
abbrev agr (T U : Nat → Int) (L : Nat) : Prop := ∀ i, i < L → T i = U i
theorem spn_congr {P : Int → Bool} {T U : Nat → Int} : ∀ n p, (∀ i, p ≤ i → i < p + n → T i = U i) → spn P T n p = spn P U n p
  | 0, _, _ => rfl
  | n + 1, p, h => by
    unfold spn
    rw [h p (Nat.le_refl _) (by omega), spn_congr n (p + 1) (fun i h1 h2 => h i (by omega) (by omega))]
theorem spn_cg {P : Int → Bool} {T U : Nat → Int} {L b : Nat} (hb : b ≤ L) (h : agr T U L) : spn P T (L - b) b = spn P U (L - b) b := spn_congr _ _ (fun i _ _ => h i (by omega))
theorem numTo_congr {T U : Nat → Int} {a : Nat} : ∀ n, (∀ i, i < n → T (a + i) = U (a + i)) → numTo T a n = numTo U a n
  | 0, _ => rfl
  | n + 1, h => by
    show w32 (w32 (numTo T a n * 10) + w32 (T (a + n) - 48)) = w32 (w32 (numTo U a n * 10) + w32 (U (a + n) - 48))
    rw [numTo_congr n (fun i hi => h i (by omega)), h n (by omega)]
theorem packTo_congr {T U : Nat → Int} {a : Nat} : ∀ n, (∀ i, i < n → T (a + i) = U (a + i)) → packTo T a n = packTo U a n
  | 0, _ => rfl
  | n + 1, h => by
    show (if 8 ≤ n then packTo T a n else w64 (w64 (w64 (packTo T a n * 27) + T (a + n)) - 96)) = (if 8 ≤ n then packTo U a n else w64 (w64 (w64 (packTo U a n * 27) + U (a + n)) - 96))
    rw [packTo_congr n (fun i hi => h i (by omega)), h n (by omega)]
theorem tokE_congr {T U : Nat → Int} {L b : Nat} (hb : b ≤ L) (h : agr T U L) : tokE T L b = tokE U L b := by
  unfold tokE
  by_cases q : b = L
  · rw [if_pos q, if_pos q]
  · rw [if_neg q, if_neg q, h b (by omega), spn_cg hb h, spn_cg hb h]
theorem tokT_congr {T U : Nat → Int} {L b : Nat} (hb : b ≤ L) (h : agr T U L) : tokT T L b = tokT U L b := by
  unfold tokT
  by_cases q : b = L
  · rw [if_pos q, if_pos q]
  · rw [if_neg q, if_neg q, h b (by omega), spn_cg hb h, spn_cg hb h]
theorem spn_1 {P : Int → Bool} {T : Nat → Int} {n p : Nat} (hn : 0 < n) (h : P (T p) = true) : p + 1 ≤ spn P T n p := by
  obtain ⟨m, rfl⟩ : ∃ m, n = m + 1 := ⟨n - 1, by omega⟩
  unfold spn
  rw [if_pos h]
  exact (spn_le P T m (p + 1)).1
theorem tokE_bd {T : Nat → Int} {L b : Nat} (hb : b ≤ L) : b ≤ tokE T L b ∧ tokE T L b ≤ L ∧ (b < L → b < tokE T L b) := by
  unfold tokE
  have h1 := spn_le low T (L - b) b
  have h2 := spn_le dig T (L - b) b
  by_cases q : b = L
  · rw [if_pos q]; omega
  · rw [if_neg q]
    by_cases q1 : low (T b) = true
    · have := spn_1 (P := low) (T := T) (n := L - b) (p := b) (by omega) q1
      rw [if_pos q1]; omega
    · rw [if_neg q1]
      by_cases q2 : dig (T b) = true
      · have := spn_1 (P := dig) (T := T) (n := L - b) (p := b) (by omega) q2
        rw [if_pos q2]; omega
      · rw [if_neg q2]; omega
/-- the token behind -/
def nxt (T : Nat → Int) (L b : Nat) : Nat := spn blk T (L - tokE T L b) (tokE T L b)
theorem nxt_bd {T : Nat → Int} {L b : Nat} (hb : b ≤ L) : b ≤ nxt T L b ∧ nxt T L b ≤ L ∧ (b < L → b < nxt T L b) := by
  have h := tokE_bd (T := T) hb
  have h1 := spn_le blk T (L - tokE T L b) (tokE T L b)
  unfold nxt
  omega
theorem tokT_end {T : Nat → Int} {L b : Nat} : tokT T L b = 0 ↔ b = L := by
  unfold tokT
  by_cases q : b = L
  · rw [if_pos q]; simp [q]
  · rw [if_neg q]
    constructor
    · intro h
      repeat' split at h
      all_goals omega
    · intro h; exact absurd h q
/-- the number at b -/
def tnum (T : Nat → Int) (L b : Nat) : Int := numTo T b (tokE T L b - b)
theorem tnum_bd {T : Nat → Int} {L b : Nat} (h : tokT T L b = 2) : 0 ≤ tnum T L b ∧ tnum T L b ≤ 9999 := by
  obtain ⟨n, h1, h2, h3, h4, h5⟩ := tk_num h
  have := num_num (T := T) (a := b) (n := n) h5 h1
  have hb := pw10_le n (by omega)
  unfold tnum
  rw [h2, Nat.add_sub_cancel_left]
  omega
/-- the class at the token b: no fault so far -/
def TC (T : Nat → Int) (L b : Nat) (g : Nat → Nat → Int) : Prop := L ≤ 1000 ∧ b ≤ L ∧ g 9 1 = L ∧ agr (g 10) T L ∧ (∀ i, i < L → okB (T i)) ∧ g 9 3 = 0 ∧ g 9 5 = b ∧ g 9 4 = tokE T L b ∧ g 9 6 = tokT T L b ∧ (tokT T L b = 2 → g 9 7 = tnum T L b)
/-- the reference at the token b -/
def TM (T : Nat → Int) (L b : Nat) (g : Nat → Nat → Int) : Prop := L ≤ 1000 ∧ b ≤ L ∧ g 89 19 = L ∧ agr (g 105) T L ∧ g 89 21 = b ∧ g 89 20 = tokE T L b ∧ g 89 22 = tokT T L b ∧ (tokT T L b = 2 → g 89 24 = tnum T L b) ∧ (tokT T L b = 1 → g 89 23 = packTo T b (tokE T L b - b))
/-- the class's token fields, the reference's -/
def zC (x i : Nat) : Prop := x = 9 ∧ 4 ≤ i ∧ i ≤ 7
def zM (x i : Nat) : Prop := x = 89 ∧ 20 ≤ i ∧ i ≤ 24
theorem tkC_fr (g : Nat → Nat → Int) (L b x i : Nat) (h : ¬ zC x i) : tkC g L b x i = g x i := by
  have e : ∀ (u : Nat → Nat → Int) (j : Nat) (v : Int), 4 ≤ j → j ≤ 7 → up u 9 j v x i = u x i := fun u j v h1 h2 => up_ne (fun q => h ⟨q.1, by omega, by omega⟩)
  unfold tkC tkV
  repeat' split
  all_goals simp only [e _ 4 _ (by omega) (by omega), e _ 5 _ (by omega) (by omega), e _ 6 _ (by omega) (by omega), e _ 7 _ (by omega) (by omega)]
theorem tkM_fr (g : Nat → Nat → Int) (L b x i : Nat) (h : ¬ zM x i) : tkM g L b x i = g x i := by
  have e : ∀ (u : Nat → Nat → Int) (j : Nat) (v : Int), 20 ≤ j → j ≤ 24 → up u 89 j v x i = u x i := fun u j v h1 h2 => up_ne (fun q => h ⟨q.1, by omega, by omega⟩)
  unfold tkM tkU
  repeat' split
  all_goals simp only [e _ 20 _ (by omega) (by omega), e _ 21 _ (by omega) (by omega), e _ 22 _ (by omega) (by omega), e _ 23 _ (by omega) (by omega), e _ 24 _ (by omega) (by omega)]
theorem tkC_num (g : Nat → Nat → Int) (L b : Nat) (h : tokT (g 10) L b = 2) : tkC g L b 9 7 = tnum (g 10) L b := by
  unfold tokT at h
  unfold tkC tnum tokE
  by_cases q0 : b = L
  · rw [if_pos q0] at h; omega
  · rw [if_neg q0] at h ⊢
    rw [if_neg q0]
    by_cases q1 : low (g 10 b) = true
    · rw [if_pos q1] at h; split at h <;> omega
    · rw [if_neg q1] at h ⊢
      rw [if_neg q1]
      by_cases q2 : dig (g 10 b) = true
      · rw [if_pos q2, if_pos q2, up_ne (by omega), up_ne (by omega), up_same]
      · rw [if_neg q2] at h; split at h <;> omega
theorem tkM_num (g : Nat → Nat → Int) (L b : Nat) (h : tokT (g 105) L b = 2) : tkM g L b 89 24 = tnum (g 105) L b := by
  obtain ⟨n, k1, k2, k3, k4, k5⟩ := tk_num h
  have hn := (num_num (T := g 105) (a := b) (n := n) k5 k1).1
  have e : tnum (g 105) L b = num4 (g 105) b (tokE (g 105) L b - b) := by
    unfold tnum; rw [k2, Nat.add_sub_cancel_left, hn]
  rw [e]
  unfold tokT at h
  unfold tkM tokE
  by_cases q0 : b = L
  · rw [if_pos q0] at h; omega
  · rw [if_neg q0] at h ⊢
    rw [if_neg q0]
    by_cases q1 : low (g 105 b) = true
    · rw [if_pos q1] at h; split at h <;> omega
    · rw [if_neg q1] at h ⊢
      rw [if_neg q1]
      by_cases q2 : dig (g 105 b) = true
      · rw [if_pos q2, if_pos q2, up_ne (by omega), up_ne (by omega), up_same]
      · rw [if_neg q2] at h; split at h <;> omega
theorem tkM_word (g : Nat → Nat → Int) (L b : Nat) (h : tokT (g 105) L b = 1) : tkM g L b 89 23 = packTo (g 105) b (tokE (g 105) L b - b) := by
  unfold tokT at h
  unfold tkM tokE
  by_cases q0 : b = L
  · rw [if_pos q0] at h; omega
  · rw [if_neg q0] at h ⊢
    rw [if_neg q0]
    by_cases q1 : low (g 105 b) = true
    · rw [if_pos q1, if_pos q1, up_ne (by omega), up_ne (by omega), up_same]
    · rw [if_neg q1] at h
      by_cases q2 : dig (g 105 b) = true
      · rw [if_pos q2] at h; split at h <;> omega
      · rw [if_neg q2] at h; split at h <;> omega
theorem tnum_congr {T U : Nat → Int} {L b : Nat} (hb : b ≤ L) (h : agr T U L) : tnum T L b = tnum U L b := by
  unfold tnum
  rw [tokE_congr hb h]
  have := tokE_bd (T := U) hb
  exact numTo_congr _ (fun i hi => h (b + i) (by omega))
section TKREL
variable (X : MExt) (E : List (Nat × Nat)) (c s : Nat) {g : Nat → Nat → Int} {T : Nat → Int}
/-- the class steps to the token b; p: where the last one ended -/
theorem c40t (hX : XT X) (d L p : Nat) (hL : L ≤ 1000) (hp : p ≤ L) (h1 : g 9 1 = L) (h4 : g 9 4 = p) (h3 : g 9 3 = 0) (hT : agr (g 10) T L) (hk : ∀ i, i < L → okB (T i)) : ∃ g', Call prog clsT X (d + 5) 40 [(2, 9)] (mk E c s (hh g)) = some ((3, 0), mk E c s (hh g')) ∧ TC T L (spn blk T (L - p) p) g' ∧ ∀ x i, ¬ zC x i → g' x i = g x i := by
  have hs := c40 X E c s hX.2.2.1 d L p hL hp h1 h4 h3 (fun i hi => by rw [hT i hi]; exact hk i hi)
  rw [spn_cg hp hT] at hs
  have hb := spn_le blk T (L - p) p
  generalize spn blk T (L - p) p = b at hs hb ⊢
  have hv := tkC_v g L b
  refine ⟨_, hs, ⟨hL, by omega, ?_, ?_, hk, ?_, hv.1, ?_, ?_, ?_⟩, tkC_fr g L b⟩
  · rw [tkC_fr g L b 9 1 (by unfold zC; omega)]; exact h1
  · intro i hi; rw [tkC_fr g L b 10 i (by unfold zC; omega)]; exact hT i hi
  · rw [tkC_fr g L b 9 3 (by unfold zC; omega)]; exact h3
  · rw [hv.2.1, tokE_congr (by omega) hT]
  · rw [hv.2.2, tokT_congr (by omega) hT]
  · intro q
    rw [tkC_num g L b (by rw [tokT_congr (by omega) hT]; exact q), tnum_congr (by omega) hT]
theorem c40n (hX : XT X) (d : Nat) {L b : Nat} (h : TC T L b g) : ∃ g', Call prog clsT X (d + 5) 40 [(2, 9)] (mk E c s (hh g)) = some ((3, 0), mk E c s (hh g')) ∧ TC T L (nxt T L b) g' ∧ ∀ x i, ¬ zC x i → g' x i = g x i := by
  obtain ⟨a1, a2, a3, a4, a5, a6, a7, a8, a9, a10⟩ := h
  exact c40t X E c s hX d L (tokE T L b) a1 (tokE_bd a2).2.1 a3 a8 a6 a4 a5
theorem m167t (d L p : Nat) (hL : L ≤ 1000) (hp : p ≤ L) (h19 : g 89 19 = L) (h20 : g 89 20 = p) (hT : agr (g 105) T L) : ∃ g', Call prog clsT X (d + 2) 167 [(2, 89)] (mk E c s (hh g)) = some ((3, 0), mk E c s (hh g')) ∧ TM T L (spn blk T (L - p) p) g' ∧ ∀ x i, ¬ zM x i → g' x i = g x i := by
  have hs := m167 X E c s d L p hL hp h19 h20
  rw [spn_cg hp hT] at hs
  have hb := spn_le blk T (L - p) p
  generalize spn blk T (L - p) p = b at hs hb ⊢
  have hv := tkM_v g L b
  refine ⟨_, hs, ⟨hL, by omega, ?_, ?_, hv.1, ?_, ?_, ?_, ?_⟩, tkM_fr g L b⟩
  · rw [tkM_fr g L b 89 19 (by unfold zM; omega)]; exact h19
  · intro i hi; rw [tkM_fr g L b 105 i (by unfold zM; omega)]; exact hT i hi
  · rw [hv.2.1, tokE_congr (by omega) hT]
  · rw [hv.2.2, tokT_congr (by omega) hT]
  · intro q
    rw [tkM_num g L b (by rw [tokT_congr (by omega) hT]; exact q), tnum_congr (by omega) hT]
  · intro q
    have hb2 := tokE_bd (T := T) (L := L) (b := b) (by omega)
    rw [tkM_word g L b (by rw [tokT_congr (by omega) hT]; exact q), tokE_congr (by omega) hT]
    exact packTo_congr _ (fun i hi => hT (b + i) (by omega))
theorem m167x (d : Nat) {L b : Nat} (h : TM T L b g) : ∃ g', Call prog clsT X (d + 2) 167 [(2, 89)] (mk E c s (hh g)) = some ((3, 0), mk E c s (hh g')) ∧ TM T L (nxt T L b) g' ∧ ∀ x i, ¬ zM x i → g' x i = g x i := by
  obtain ⟨a1, a2, a3, a4, a5, a6, a7, a8, a9⟩ := h
  exact m167t X E c s d L (tokE T L b) a1 (tokE_bd a2).2.1 a3 a6 a4
/-- a sign, a word at b -/
abbrev sg (T : Nat → Int) (L b : Nat) (x : Int) : Prop := tokT T L b = 3 ∧ T b = x
abbrev wd (T : Nat → Int) (L b : Nat) (l : List Int) : Prop := tokT T L b = 1 ∧ tokE T L b - b = l.length ∧ same T l b 0 l.length
theorem tokT_lt {T : Nat → Int} {L b : Nat} (hb : b ≤ L) (h : tokT T L b ≠ 0) : b < L := by
  have := @tokT_end T L b
  by_cases q : b = L
  · exact absurd (this.mpr q) h
  · omega
theorem c58t (d : Nat) {L b : Nat} (h : TC T L b g) (x : Int) : Call prog clsT X (d + 1) 58 [(2, 9), (0, x)] (mk E c s (hh g)) = some ((0, bI (sg T L b x)), mk E c s (hh g)) := by
  obtain ⟨a1, a2, a3, a4, a5, a6, a7, a8, a9, a10⟩ := h
  rw [rc58_, cmp_ne, a9]
  by_cases q : tokT T L b = 3
  · have hl := tokT_lt a2 (by rw [q]; decide)
    rw [if_neg (fun z => z q), a7, inb_is, if_pos (by omega), Int.toNat_natCast, a4 b hl, cmp_ne]
    by_cases z : T b = x
    · rw [if_neg (fun y => y z), bI_t ⟨q, z⟩]
    · rw [if_pos z, bI_f (fun y => z y.2)]
  · rw [if_pos q, bI_f (fun z => q z.1)]
theorem m180t (d : Nat) {L b : Nat} (h : TM T L b g) (x : Int) : Call prog clsT X (d + 1) 180 [(2, 89), (0, x)] (mk E c s (hh g)) = some ((0, bI (sg T L b x)), mk E c s (hh g)) := by
  obtain ⟨a1, a2, a3, a4, a5, a6, a7, a8, a9⟩ := h
  rw [rc180_, cmp_ne, a7]
  by_cases q : tokT T L b = 3
  · have hl := tokT_lt a2 (by rw [q]; decide)
    rw [if_neg (fun z => z q), a5, inb_is, if_pos (by omega), Int.toNat_natCast, a4 b hl, cmp_ne]
    by_cases z : T b = x
    · rw [if_neg (fun y => y z), bI_t ⟨q, z⟩]
    · rw [if_pos z, bI_f (fun y => z y.2)]
  · rw [if_pos q, bI_f (fun z => q z.1)]
theorem c50t {x : Int} {l : List Int} (hs : STR X x l) (d : Nat) {L b : Nat} (h : TC T L b g) : Call prog clsT X (d + 6) 50 [(2, 9), (2, x)] (mk E c s (hh g)) = some ((0, bI (wd T L b l)), mk E c s (hh g)) := by
  obtain ⟨a1, a2, a3, a4, a5, a6, a7, a8, a9, a10⟩ := h
  have hb := tokE_bd (T := T) a2
  rw [c50 X E c s hs d b (tokE T L b) (by omega) hb.1 a7 a8, a9]
  refine congrArg (fun v => some (((0 : Nat), v), mk E c s (hh g))) (bI_congr ⟨fun q => ⟨q.1, q.2.1, fun i hi => ?_⟩, fun q => ⟨q.1, q.2.1, fun i hi => ?_⟩⟩)
  · rw [← a4 (b + i) (by omega)]; exact q.2.2 i hi
  · rw [a4 (b + i) (by omega)]; exact q.2.2 i hi
/-- what the reference's packed word says of the letters -/
theorem pk_wd {L b : Nat} {l : List Int} {w : Int} (hb : b ≤ L) (hl : ltr (fun i => l.getD i 0) l.length) (hw : pkF (fun i => l.getD i 0) l.length = w) (ht : tokT T L b = 1) : packTo T b (tokE T L b - b) = w ↔ wd T L b l := by
  obtain ⟨n, h1, h2, h3, h4⟩ := tk_word ht
  have e : tokE T L b - b = n := by omega
  rw [e, pack_pk h4 h1, ← hw]
  constructor
  · intro q
    obtain ⟨r1, r2⟩ := pkF_inj h4 hl q
    refine ⟨ht, by omega, fun i hi => ?_⟩
    rw [Nat.zero_add]; exact r2 i (by omega)
  · intro q
    have hn : n = l.length := by have := q.2.1; omega
    subst hn
    have key : ∀ m, m ≤ l.length → pkF (fun i => T (b + i)) m = pkF (fun i => l.getD i 0) m := by
      intro m
      induction m with
      | zero => intro _; rfl
      | succ m ih =>
        intro hm
        have := q.2.2 m (by omega)
        rw [Nat.zero_add] at this
        show pkF _ m * 27 + T (b + m) - 96 = pkF _ m * 27 + l.getD m 0 - 96
        rw [ih (by omega), this]
    exact key _ (Nat.le_refl _)
theorem m171t (d : Nat) {L b : Nat} {l : List Int} {w : Int} (h : TM T L b g) (hl : ltr (fun i => l.getD i 0) l.length) (hw : pkF (fun i => l.getD i 0) l.length = w) : Call prog clsT X (d + 1) 171 [(2, 89), (1, w)] (mk E c s (hh g)) = some ((0, bI (wd T L b l)), mk E c s (hh g)) := by
  obtain ⟨a1, a2, a3, a4, a5, a6, a7, a8, a9⟩ := h
  rw [m171 X E c s d w, a7]
  refine congrArg (fun v => some (((0 : Nat), v), mk E c s (hh g))) (bI_congr ⟨fun q => ?_, fun q => ?_⟩)
  · have := a9 q.1
    exact (pk_wd a2 hl hw q.1).mp (by rw [← this]; exact q.2)
  · refine ⟨q.1, ?_⟩
    rw [a9 q.1]
    exact (pk_wd a2 hl hw q.1).mpr q
end TKREL
