/-! Part az: sets. -/
def lx (s' t' s t : Nat) : Prop := s' < s ∨ (s' = s ∧ t' < t)
/-- two sets that may be chosen together -/
def prs (n : Nat) (gA gB : Nat → Prop) (s t : Nat) : Prop := s < 2 ^ n ∧ t < 2 ^ n ∧ gA s ∧ gB t ∧ sb t (2 ^ n - 1 - s)
/-- the best pair before (s, t) -/
def bsi (n : Nat) (gA gB : Nat → Prop) (mA mB : Nat → Int) (s t : Nat) (x5 x6 x7 : Int) : Prop := (x5 = -1 ∧ ∀ s' t', prs n gA gB s' t' → ¬ lx s' t' s t) ∨ ∃ a b : Nat, x5 = a ∧ x6 = b ∧ x7 = mA a + mB b ∧ prs n gA gB a b ∧ lx a b s t ∧ ∀ s' t', prs n gA gB s' t' → lx s' t' s t → mA s' + mB t' ≤ x7 ∧ (mA s' + mB t' = x7 → a < s' ∨ (a = s' ∧ b ≤ t'))
theorem bsi_skip {n : Nat} {gA gB : Nat → Prop} {mA mB : Nat → Int} {s t s2 t2 : Nat} {x5 x6 x7 : Int} (h : bsi n gA gB mA mB s t x5 x6 x7) (h1 : ∀ s' t', prs n gA gB s' t' → lx s' t' s2 t2 → lx s' t' s t) (h2 : ∀ s' t', lx s' t' s t → lx s' t' s2 t2) : bsi n gA gB mA mB s2 t2 x5 x6 x7 := by
  rcases h with ⟨a1, a2⟩ | ⟨a, b, a1, a2, a3, a4, a5, a6⟩
  · exact Or.inl ⟨a1, fun s' t' hp hl => a2 s' t' hp (h1 s' t' hp hl)⟩
  · exact Or.inr ⟨a, b, a1, a2, a3, a4, h2 a b a5, fun s' t' hp hl => a6 s' t' hp (h1 s' t' hp hl)⟩
theorem lx_next {s' t' s t : Nat} : lx s' t' s (t + 1) ↔ lx s' t' s t ∨ (s' = s ∧ t' = t) := by
  unfold lx
  omega
theorem w1024 {T : Nat} (h : T < 1024) : w32 (1024 + (T : Int)) = ((1024 + T : Nat) : Int) := by
  rw [w32_of (by omega) (by omega)]; omega
section SETS3
variable (X : MExt) {E : List (Nat × Nat)} {g : Gm}
theorem m238_loop {x n : Nat} {WA MA WB MB : Nat → Int} (hn : n ≤ 10) (hA : ∀ S, S < 2 ^ n → in32 (mm MA S)) (hB : ∀ S, S < 2 ^ n → in32 (mm MB S)) (x4 : Int) (d c s : Nat) {u : Gm} (h76 : u 89 76 = (n : Int)) (hf : ∀ i, i < n → u 149 i = (fpX g x i : Int)) (vA : vaP WA MA n 0 u) (vB : vaP WB MB n 1024 u) : ∀ (m S T : Nat) (x5 x6 x7 : Int) (w1 w2 w3 w8 w11 w12 : MV), (2 ^ n + 1) * S + T + m = (2 ^ n + 1) * 2 ^ n → T ≤ 2 ^ n → S < 2 ^ n → bsi n (gd WA) (gd WB) (mm MA) (mm MB) S T x5 x6 x7 → ∃ (a b : Nat) (v : Int), bst2 n (gd WA) (gd WB) (mm MA) (mm MB) a b v ∧ Ev prog clsT X (d + 1) mc238 61 [(2, 89), w1, w2, w3, (0, x4), (0, x5), (0, x6), (1, x7), w8, (0, (S : Int)), (0, (T : Int)), w11, w12] [] (mk E c s (hh u)) = some ((1, if x4 = 0 then v else pB (fpX g x) (if x4 = 1 then a else b) n), mk E c s (hh u)) := by
  have hp := p2_le (show n < 11 by omega)
  have hsh := shl_ok n (by omega)
  obtain ⟨q, hq⟩ : ∃ q, q = 2 ^ n := ⟨_, rfl⟩
  -- a row is over
  have rowEnd : ∀ (m S : Nat), ((∀ (m' T : Nat) (x5 x6 x7 : Int) (w1 w2 w3 w8 w11 w12 : MV), m' ≤ m → (2 ^ n + 1) * (S + 1) + T + m' = (2 ^ n + 1) * 2 ^ n → T ≤ 2 ^ n → S + 1 < 2 ^ n → bsi n (gd WA) (gd WB) (mm MA) (mm MB) (S + 1) T x5 x6 x7 → ∃ (a b : Nat) (v : Int), bst2 n (gd WA) (gd WB) (mm MA) (mm MB) a b v ∧ Ev prog clsT X (d + 1) mc238 61 [(2, 89), w1, w2, w3, (0, x4), (0, x5), (0, x6), (1, x7), w8, (0, ((S + 1 : Nat) : Int)), (0, (T : Int)), w11, w12] [] (mk E c s (hh u)) = some ((1, if x4 = 0 then v else pB (fpX g x) (if x4 = 1 then a else b) n), mk E c s (hh u)))) → ∀ (x5 x6 x7 : Int) (w1 w2 w3 w8 w10 w11 w12 : MV), S < 2 ^ n → (2 ^ n + 1) * 2 ^ n ≤ (2 ^ n + 1) * (S + 1) + m → bsi n (gd WA) (gd WB) (mm MA) (mm MB) (S + 1) 0 x5 x6 x7 → ∃ (a b : Nat) (v : Int), bst2 n (gd WA) (gd WB) (mm MA) (mm MB) a b v ∧ Ev prog clsT X (d + 1) mc238 53 [(2, 89), w1, w2, w3, (0, x4), (0, x5), (0, x6), (1, x7), w8, (0, ((S + 1 : Nat) : Int)), w10, w11, w12] [] (mk E c s (hh u)) = some ((1, if x4 = 0 then v else pB (fpX g x) (if x4 = 1 then a else b) n), mk E c s (hh u)) := by
    intro m S hrec x5 x6 x7 w1 w2 w3 w8 w10 w11 w12 hS hm hI
    rw [r238_53, h76, hsh, cmp_ge]
    by_cases z : S + 1 < 2 ^ n
    · rw [if_neg (by omega)]
      have hle : (2 ^ n + 1) * (S + 1) ≤ (2 ^ n + 1) * 2 ^ n := Nat.mul_le_mul_left _ (by omega)
      obtain ⟨a, b, v, e1, e2⟩ := hrec ((2 ^ n + 1) * 2 ^ n - (2 ^ n + 1) * (S + 1)) 0 x5 x6 x7 (3, 0) (3, 0) (3, 0) (3, 0) (3, 0) (3, 0) (by omega) (by omega) (Nat.zero_le _) z hI
      exact ⟨a, b, v, e1, e2⟩
    · rw [if_pos (by omega)]
      have hS1 : S + 1 = 2 ^ n := by omega
      rw [hS1] at hI
      have p00 : prs n (gd WA) (gd WB) 0 0 := ⟨by omega, by omega, Or.inl rfl, Or.inl rfl, fun i hi hb => by rw [Nat.zero_testBit] at hb; cases hb⟩
      obtain ⟨a, b, a1, a2, a3, a4, a5, a6⟩ := hI.resolve_left (fun q => q.2 0 0 p00 (Or.inl (by omega)))
      obtain ⟨y1, y2, y3, y4, y5⟩ := a4
      refine ⟨a, b, x7, ⟨y1, y2, y3, y4, y5, a3, fun s' t' z1 z2 z3 z4 z5 => a6 s' t' ⟨z1, z2, z3, z4, z5⟩ (Or.inl z1)⟩, ?_⟩
      have s1 := m241x X (E := E) (fp := fpX g x) (S := a) hn d c s h76 hf
      have s2 := m241x X (E := E) (fp := fpX g x) (S := b) hn d c s h76 hf
      rw [cmp_ne]
      by_cases z0 : x4 = 0
      · rw [if_neg (fun q => q z0), if_pos z0, r238_127]
      rw [if_pos z0, if_neg z0, cmp_ne]
      by_cases z1 : x4 = 1
      · rw [if_neg (fun q => q z1), if_pos z1, a1, call1 s1, push1, r238_127]
      · rw [if_pos z1, if_neg z1, a2, call1 s2, push1, r238_127]
  intro m
  induction m using Nat.strongRecOn with
  | ind m ih =>
    intro S T x5 x6 x7 w1 w2 w3 w8 w11 w12 hm hT hS hI
    have em : (2 ^ n + 1) * (S + 1) = (2 ^ n + 1) * S + 2 ^ n + 1 := by rw [Nat.mul_add, Nat.mul_one]; omega
    have hS1 : (2 ^ n + 1) * (S + 1) ≤ (2 ^ n + 1) * 2 ^ n := Nat.mul_le_mul_left _ hS
    have toNext : ∀ (x5 x6 x7 : Int) (w1 w2 w3 w8 w10 w11 w12 : MV), bsi n (gd WA) (gd WB) (mm MA) (mm MB) (S + 1) 0 x5 x6 x7 → ∃ (a b : Nat) (v : Int), bst2 n (gd WA) (gd WB) (mm MA) (mm MB) a b v ∧ Ev prog clsT X (d + 1) mc238 53 [(2, 89), w1, w2, w3, (0, x4), (0, x5), (0, x6), (1, x7), w8, (0, ((S + 1 : Nat) : Int)), w10, w11, w12] [] (mk E c s (hh u)) = some ((1, if x4 = 0 then v else pB (fpX g x) (if x4 = 1 then a else b) n), mk E c s (hh u)) := fun x5 x6 x7 w1 w2 w3 w8 w10 w11 w12 hI2 => rowEnd ((2 ^ n + 1) * 2 ^ n - (2 ^ n + 1) * (S + 1)) S (fun m' T x5 x6 x7 w1 w2 w3 w8 w11 w12 hle h1 h2 h3 h4 => ih m' (by omega) (S + 1) T x5 x6 x7 w1 w2 w3 w8 w11 w12 h1 h2 h3 h4) x5 x6 x7 w1 w2 w3 w8 w10 w11 w12 hS (by omega) hI2
    have iS : 0 ≤ (S : Int) ∧ (S : Int) < ((2048 : Nat) : Int) := by omega
    rw [r238_61, h76, hsh, cmp_ge]
    by_cases zT : T < 2 ^ n
    case neg =>
      rw [if_pos (by omega), w32_succ (by omega)]
      have hTe : T = 2 ^ n := by omega
      rw [hTe] at hI
      exact toNext x5 x6 x7 _ _ _ _ _ _ _ (bsi_skip hI (fun s' t' hp hl => by
        have := hp.2.1
        unfold lx at hl ⊢
        omega) (fun s' t' hl => by
        unfold lx at hl ⊢
        omega))
    have a150 := vA S hS
    rw [Nat.zero_add] at a150
    have b150 := vB T zT
    have T10 : T < 1024 := by omega
    have iT : 0 ≤ ((1024 + T : Nat) : Int) ∧ ((1024 + T : Nat) : Int) < ((2048 : Nat) : Int) := by omega
    rw [if_neg (by omega), inb_is, if_pos iS, Int.toNat_natCast, cmp_eq, a150.1, bI_eq0]
    by_cases gA : gd WA S
    case neg =>
      rw [if_pos gA, w32_succ (by omega)]
      exact toNext x5 x6 x7 _ _ _ _ _ _ _ (bsi_skip hI (fun s' t' hp hl => by
        have h1 := hp.2.2.1
        have : s' ≠ S := fun q => gA (by rw [← q]; exact h1)
        unfold lx at hl ⊢
        omega) (fun s' t' hl => by
        unfold lx at hl ⊢
        omega))
    rw [if_neg (fun q => q gA), cmp_ne, w32_succ (i := T) (by omega)]
    -- on to the next set for the second class
    have nextT : ∀ (x5 x6 x7 : Int) (w1 w2 w3 w8 w11 w12 : MV), bsi n (gd WA) (gd WB) (mm MA) (mm MB) S (T + 1) x5 x6 x7 → ∃ (a b : Nat) (v : Int), bst2 n (gd WA) (gd WB) (mm MA) (mm MB) a b v ∧ Ev prog clsT X (d + 1) mc238 61 [(2, 89), w1, w2, w3, (0, x4), (0, x5), (0, x6), (1, x7), w8, (0, (S : Int)), (0, ((T + 1 : Nat) : Int)), w11, w12] [] (mk E c s (hh u)) = some ((1, if x4 = 0 then v else pB (fpX g x) (if x4 = 1 then a else b) n), mk E c s (hh u)) := fun x5 x6 x7 w1 w2 w3 w8 w11 w12 hI2 => ih (m - 1) (by omega) S (T + 1) x5 x6 x7 w1 w2 w3 w8 w11 w12 (by omega) (by omega) hS hI2
    have noPair : ¬ prs n (gd WA) (gd WB) S T → bsi n (gd WA) (gd WB) (mm MA) (mm MB) S (T + 1) x5 x6 x7 := fun hno => bsi_skip hI (fun s' t' hp hl => by
      rcases lx_next.1 hl with q | q
      · exact q
      · rw [q.1, q.2] at hp; exact absurd hp hno) (fun s' t' hl => lx_next.2 (Or.inl hl))
    by_cases zd : iand32 (S : Int) (T : Int) = 0
    case neg =>
      rw [if_pos zd]
      exact nextT _ _ _ _ _ _ _ _ _ (noPair (fun q => zd ((disj_sb (by omega) hS zT).2 q.2.2.2.2)))
    rw [if_neg (fun q => q zd), w1024 T10, inb_is, if_pos iT, Int.toNat_natCast, cmp_ne, b150.1, bI_ne0]
    by_cases gB : gd WB T
    case neg =>
      rw [if_neg (fun q => q gB)]
      exact nextT _ _ _ _ _ _ _ _ _ (noPair (fun q => gB q.2.2.2.1))
    have hpr : prs n (gd WA) (gd WB) S T := ⟨hS, zT, gA, gB, (disj_sb (by omega) hS zT).1 zd⟩
    have r1 : -2147483648 ≤ mm MA S ∧ mm MA S < 2147483648 := hA S hS
    have r2 : -2147483648 ≤ mm MB T ∧ mm MB T < 2147483648 := hB T zT
    rw [if_pos (fun q => q gB), r238_84, inb_is, if_pos iS, w1024 T10, inb_is, if_pos iT, Int.toNat_natCast, Int.toNat_natCast, a150.2 gA, b150.2 gB, w64_of (by omega) (by omega), cmp_lt]
    have take : (x5 = -1 ∨ x7 < mm MA S + mm MB T) → bsi n (gd WA) (gd WB) (mm MA) (mm MB) S (T + 1) (S : Int) (T : Int) (mm MA S + mm MB T) := fun hc => by
      refine Or.inr ⟨S, T, rfl, rfl, rfl, hpr, Or.inr ⟨rfl, by omega⟩, fun s' t' hp hl => ?_⟩
      rcases lx_next.1 hl with y | y
      · rcases hI with ⟨_, a2⟩ | ⟨a, b, a1, _, _, _, _, a6⟩
        · exact absurd y (a2 s' t' hp)
        · have := (a6 s' t' hp y).1
          omega
      · rw [y.1, y.2]
        exact ⟨Int.le_refl _, fun _ => Or.inr ⟨rfl, Nat.le_refl _⟩⟩
    have x5b : x5 = -1 ∨ 0 ≤ x5 := by
      rcases hI with ⟨a1, _⟩ | ⟨a, b, a1, _⟩ <;> omega
    by_cases z5 : x5 < 0
    · rw [if_pos z5, r238_105, w32_succ (i := T) (by omega)]
      exact nextT _ _ _ _ _ _ _ _ _ (take (Or.inl (by omega)))
    rw [if_neg z5, cmp_gt, lcmpgt]
    by_cases z7 : x7 < mm MA S + mm MB T
    · rw [if_pos z7, r238_105, w32_succ (i := T) (by omega)]
      exact nextT _ _ _ _ _ _ _ _ _ (take (Or.inr z7))
    · rw [if_neg z7, w32_succ (i := T) (by omega)]
      obtain ⟨a, b, a1, a2, a3, a4, a5, a6⟩ := hI.resolve_left (fun q => z5 (by omega))
      refine nextT _ _ _ _ _ _ _ _ _ (Or.inr ⟨a, b, a1, a2, a3, a4, lx_next.2 (Or.inl a5), fun s' t' hp hl => ?_⟩)
      rcases lx_next.1 hl with y | y
      · exact a6 s' t' hp y
      · rw [y.1, y.2]
        unfold lx at a5
        omega
theorem op_sets (x1 x2 x3 x4 : Int) : OpQ X 144 238 9 1 [(0, x1), (0, x2), (0, x3), (0, x4)] := by
  intro N E c s d g h
  have hb := h.1.2.1
  have hv := h.1.1.2.1
  have s97a := c97 X E c s (g := g) (d + 6) x2
  have s97a : Call prog clsT X (d + 8) 97 [(2, 0), (0, x2)] (mk E c s (hh g)) = _ := s97a
  have s97b := c97 X E c s (g := g) (d + 6) x3
  have s97b : Call prog clsT X (d + 8) 97 [(2, 0), (0, x3)] (mk E c s (hh g)) = _ := s97b
  have s90 : Call prog clsT X (d + 8) 90 [(0, x4), (0, 0), (0, 2)] (mk E c s (hh g)) = _ := c90 X E c s (d + 7) x4 0 2
  have s84 : Call prog clsT X (d + 8) 84 [(2, 1), (0, x1)] (mk E c s (hh g)) = _ := c84 X E c s hv (d + 6) x1
  have s154 : ∀ c s u, onQ g u → Call prog clsT X (d + 8) 154 [(2, 89), (0, x1)] (mk E c s (hh u)) = some ((0, bI (0 ≤ x1 ∧ x1 ≤ 9 ∧ g 90 x1.toNat ≠ 0)), mk E c s (hh u)) := fun c s u hu => by
    rw [show d + 8 = (d + 6) + 2 from rfl, m154 X E c s (g := u) (d + 6) x1, hu 90 _ rfl]
  have s157 : ∀ (y : Int) c s u, onQ g u → Call prog clsT X (d + 8) 157 [(2, 89), (0, y)] (mk E c s (hh u)) = some ((0, bI (0 ≤ y ∧ y ≤ 9 ∧ g 106 y.toNat ≠ 0)), mk E c s (hh u)) := fun y c s u hu => by
    rw [show d + 8 = (d + 6) + 2 from rfl, m157 X E c s (g := u) (d + 6) y, hu 106 _ rfl]
  have s152 : ∀ c s u, Call prog clsT X (d + 8) 152 [(0, x4), (0, 0), (0, 2)] (mk E c s (hh u)) = some ((0, bI (0 ≤ x4 ∧ x4 ≤ 2)), mk E c s (hh u)) := fun c s u => m152 X E c s (g := u) (d + 7) x4 0 2
  -- the reference, where something is wrong
  have refT : ¬ ((0 ≤ x1 ∧ x1 ≤ 9 ∧ g 90 x1.toNat ≠ 0) ∧ (0 ≤ x2 ∧ x2 ≤ 9 ∧ g 106 x2.toNat ≠ 0) ∧ (0 ≤ x3 ∧ x3 ≤ 9 ∧ g 106 x3.toNat ≠ 0) ∧ x2 ≠ x3 ∧ (0 ≤ x4 ∧ x4 ≤ 2)) → Call prog clsT X (d + 9) 238 [(2, 89), (0, x1), (0, x2), (0, x3), (0, x4)] (mk E (c + 8) (s + 64) (hh g)) = some ((1, 0), mk E (c + 8) (s + 64) (hh (up g 89 0 1))) := fun hno => by
    rw [show d + 9 = (d + 8) + 1 from rfl, rc238_, call0 (s154 _ _ g (onQ_refl g)), push0, r238_4, cmp_eq, bI_eq0]
    by_cases q1 : 0 ≤ x1 ∧ x1 ≤ 9 ∧ g 90 x1.toNat ≠ 0
    case neg => rw [if_pos q1, cmp_ne, if_neg (by decide)]
    rw [if_neg (fun z => z q1), call0 (s157 x2 _ _ g (onQ_refl g)), push0, r238_8, cmp_eq, bI_eq0]
    by_cases q2 : 0 ≤ x2 ∧ x2 ≤ 9 ∧ g 106 x2.toNat ≠ 0
    case neg => rw [if_pos q2, cmp_ne, if_neg (by decide)]
    rw [if_neg (fun z => z q2), call0 (s157 x3 _ _ g (onQ_refl g)), push0, r238_12, cmp_eq, bI_eq0]
    by_cases q3 : 0 ≤ x3 ∧ x3 ≤ 9 ∧ g 106 x3.toNat ≠ 0
    case neg => rw [if_pos q3, cmp_ne, if_neg (by decide)]
    rw [if_neg (fun z => z q3), cmp_eq]
    by_cases q4 : x2 = x3
    · rw [if_pos q4, cmp_ne, if_neg (by decide)]
    rw [if_neg q4, call0 (s152 _ _ g), push0, r238_20, cmp_eq, bI_eq0]
    by_cases q5 : 0 ≤ x4 ∧ x4 ≤ 2
    case neg => rw [if_pos q5, cmp_ne, if_neg (by decide)]
    exact absurd ⟨q1, q2, q3, q4, q5⟩ hno
  have q1z : onQ g (up g 89 0 1) := onQ_0 (onQ_refl g) 1
  by_cases q2 : 0 ≤ x2 ∧ x2 ≤ 9 ∧ g 106 x2.toNat ≠ 0
  case neg =>
    refine ⟨g, up g 89 0 1, q1z, Or.inr ⟨0, ?_, refT (fun z => q2 z.2.1), up_same⟩⟩
    rw [show d + 9 = (d + 8) + 1 from rfl, rc144_, call2 s97a, push2, r144_3, call2 s97b, push2, r144_7, nul (hb.of x2), if_neg q2]
    rfl
  by_cases q3 : 0 ≤ x3 ∧ x3 ≤ 9 ∧ g 106 x3.toNat ≠ 0
  case neg =>
    refine ⟨g, up g 89 0 1, q1z, Or.inr ⟨0, ?_, refT (fun z => q3 z.2.2.1), up_same⟩⟩
    rw [show d + 9 = (d + 8) + 1 from rfl, rc144_, call2 s97a, push2, r144_3, call2 s97b, push2, r144_7, nul (hb.of x2), if_pos q2, nul (hb.of x3), if_neg q3]
    rfl
  by_cases q4 : x2 = x3
  · refine ⟨g, up g 89 0 1, q1z, Or.inr ⟨0, ?_, refT (fun z => z.2.2.2.1 q4), up_same⟩⟩
    rw [show d + 9 = (d + 8) + 1 from rfl, rc144_, call2 s97a, push2, r144_3, call2 s97b, push2, r144_7, nul (hb.of x2), if_pos q2, nul (hb.of x3), if_pos q3, cmp_eq, if_pos q4]
    rfl
  by_cases q5 : 0 ≤ x4 ∧ x4 ≤ 2
  case neg =>
    refine ⟨g, up g 89 0 1, q1z, Or.inr ⟨0, ?_, refT (fun z => q5 z.2.2.2.2), up_same⟩⟩
    rw [show d + 9 = (d + 8) + 1 from rfl, rc144_, call2 s97a, push2, r144_3, call2 s97b, push2, r144_7, nul (hb.of x2), if_pos q2, nul (hb.of x3), if_pos q3, cmp_eq, if_neg q4, call0 s90, push0, r144_19, cmp_eq, bI_f q5, if_pos rfl]
    rfl
  by_cases q1 : 0 ≤ x1 ∧ x1 ≤ 9 ∧ g 90 x1.toNat ≠ 0
  case neg =>
    refine ⟨g, up g 89 0 1, q1z, Or.inr ⟨0, ?_, refT (fun z => q1 z.1), up_same⟩⟩
    rw [show d + 9 = (d + 8) + 1 from rfl, rc144_, call2 s97a, push2, r144_3, call2 s97b, push2, r144_7, nul (hb.of x2), if_pos q2, nul (hb.of x3), if_pos q3, cmp_eq, if_neg q4, call0 s90, push0, r144_19, cmp_eq, bI_t q5, if_neg (by decide), call0 s84, push0, r144_24, cmp_ne, bI_f q1, if_neg (by decide)]
    rfl
  obtain ⟨x, rfl⟩ := Int.eq_ofNat_of_zero_le q1.1
  obtain ⟨ka, rfl⟩ := Int.eq_ofNat_of_zero_le q2.1
  obtain ⟨kb, rfl⟩ := Int.eq_ofNat_of_zero_le q3.1
  have hx : x < 10 := by omega
  have hka : ka < 10 := by omega
  have hkb : kb < 10 := by omega
  have h90 : g 90 x ≠ 0 := q1.2.2
  obtain ⟨ra, hra, rga⟩ := told0 h hka q2.2.2
  obtain ⟨rb, hrb, rgb⟩ := told0 h hkb q3.2.2
  have s97a : Call prog clsT X (d + 8) 97 [(2, 0), (0, (ka : Int))] (mk E c s (hh g)) = some ((2, (ra : Int)), mk E c s (hh g)) := by
    rw [show d + 8 = (d + 6) + 2 from rfl, c97 X E c s (g := g) (d + 6) (ka : Int), if_pos (by omega), Int.toNat_natCast, hra]
  have s97b : Call prog clsT X (d + 8) 97 [(2, 0), (0, (kb : Int))] (mk E c s (hh g)) = some ((2, (rb : Int)), mk E c s (hh g)) := by
    rw [show d + 8 = (d + 6) + 2 from rfl, c97 X E c s (g := g) (d + 6) (kb : Int), if_pos (by omega), Int.toNat_natCast, hrb]
  obtain ⟨g1, f1, f2, f3⟩ := c145x X h hx (d + 3) c s
  have f1 : Call prog clsT X (d + 8) 145 [(2, 0), (0, (x : Int))] (mk E c s (hh g)) = _ := f1
  have v1 : onQ g g1 := fun y i hs => f2 y i (fun z => by rw [z] at hs; cases hs)
  have ne5a : ∀ r : Nat, (r : Int) ≠ -5 := fun r => by omega
  have hd1 : ∀ r : Nat, decide ((r : Int) = -1) = false := fun r => decide_eq_false (by omega)
  obtain ⟨n, hn⟩ : ∃ n, n = lnK (frN g x) 40 := ⟨_, rfl⟩
  rw [← hn] at f1 f3
  have start : ∀ c s, Call prog clsT X (d + 8) 97 [(2, 0), (0, (ka : Int))] (mk E c s (hh g)) = some ((2, (ra : Int)), mk E c s (hh g)) → True := fun _ _ _ => trivial
  have clsHead : Call prog clsT X (d + 9) 144 [(2, 0), (0, (x : Int)), (0, (ka : Int)), (0, (kb : Int)), (0, x4)] (mk E c s (hh g)) = Ev prog clsT X (d + 8) mc144 33 [(2, 0), (0, (x : Int)), (0, (ka : Int)), (0, (kb : Int)), (0, x4), (2, (ra : Int)), (2, (rb : Int)), (3, 0), (3, 0), (3, 0), (3, 0), (3, 0), (3, 0), (3, 0), (3, 0)] [(0, (n : Int))] (mk E c s (hh g1)) := by
    rw [show d + 9 = (d + 8) + 1 from rfl, rc144_, call2 s97a, push2, r144_3, call2 s97b, push2, r144_7, if_pos ⟨rfl, ne5a ra⟩, hd1 ra, if_neg Bool.false_ne_true, if_pos ⟨rfl, ne5a rb⟩, hd1 rb, if_neg Bool.false_ne_true, cmp_eq, if_neg q4, call0 s90, push0, r144_19, cmp_eq, bI_t q5, if_neg (by decide), call0 s84, push0, r144_24, cmp_ne, bI_t q1, if_pos (by decide), call0 f1, push0]
  -- the reference finds as many
  have refHead : ∀ (c s : Nat) (u : Gm), onQ g u → ∃ u', onQ g u' ∧ ((10 < n ∧ Call prog clsT X (d + 9) 238 [(2, 89), (0, (x : Int)), (0, (ka : Int)), (0, (kb : Int)), (0, x4)] (mk E c s (hh u)) = some ((1, 0), mk E c s (hh (up u' 89 0 1)))) ∨ (n ≤ 10 ∧ u' 89 76 = (n : Int) ∧ (∀ i, i < n → u' 149 i = (fpX g x i : Int)) ∧ Call prog clsT X (d + 9) 238 [(2, 89), (0, (x : Int)), (0, (ka : Int)), (0, (kb : Int)), (0, x4)] (mk E c s (hh u)) = ((Call prog clsT X (d + 8) 240 [(2, 89), (0, (ka : Int)), (0, (x : Int)), (0, 0)] (mk E c s (hh (up u' 89 0 0)))).bind fun r2 => if r2.1.1 = 4 then none else Ev prog clsT X (d + 8) mc238 40 [(2, 89), (0, (x : Int)), (0, (ka : Int)), (0, (kb : Int)), (0, x4), (3, 0), (3, 0), (3, 0), (3, 0), (3, 0), (3, 0), (3, 0), (3, 0)] (pushR r2.1 []) r2.2))) := fun c s u hu => by
    obtain ⟨u', a1, a2⟩ := m239x X h hx (d + 6) c s hu
    have head : Call prog clsT X (d + 9) 238 [(2, 89), (0, (x : Int)), (0, (ka : Int)), (0, (kb : Int)), (0, x4)] (mk E c s (hh u)) = ((Call prog clsT X (d + 8) 239 [(2, 89), (0, (x : Int))] (mk E c s (hh u))).bind fun r2 => if r2.1.1 = 4 then none else Ev prog clsT X (d + 8) mc238 24 [(2, 89), (0, (x : Int)), (0, (ka : Int)), (0, (kb : Int)), (0, x4), (3, 0), (3, 0), (3, 0), (3, 0), (3, 0), (3, 0), (3, 0), (3, 0)] (pushR r2.1 [(2, 89)]) r2.2) := by
      rw [show d + 9 = (d + 8) + 1 from rfl, rc238_, call0 (s154 _ _ u hu), push0, r238_4, cmp_eq, bI_t q1, if_neg (by decide), call0 (s157 _ _ _ u hu), push0, r238_8, cmp_eq, bI_t q2, if_neg (by decide), call0 (s157 _ _ _ u hu), push0, r238_12, cmp_eq, bI_t q3, if_neg (by decide), cmp_eq, if_neg q4, call0 (s152 _ _ u), push0, r238_20, cmp_eq, bI_t q5, if_neg (by decide)]
    rw [← hn] at a2
    rcases a2 with ⟨b1, b2⟩ | ⟨b1, b2, b3, b4⟩
    · have b2 : Call prog clsT X (d + 8) 239 [(2, 89), (0, (x : Int))] (mk E c s (hh u)) = _ := b2
      refine ⟨u', a1, Or.inl ⟨b1, ?_⟩⟩
      rw [head, call0 b2, push0, r238_24, cmp_eq, if_pos rfl, cmp_ne, if_neg (by decide)]
    · have b2 : Call prog clsT X (d + 8) 239 [(2, 89), (0, (x : Int))] (mk E c s (hh u)) = _ := b2
      refine ⟨u', a1, Or.inr ⟨b1, b3, b4, ?_⟩⟩
      rw [head, call0 b2, push0, r238_24, cmp_eq, if_neg (by decide), cmp_ne, if_pos (by decide)]
  by_cases h10 : n ≤ 10
  case neg =>
    obtain ⟨u', a1, a2⟩ := refHead (c + 8) (s + 64) g1 v1
    rcases a2 with ⟨_, a2⟩ | ⟨a2, _⟩
    case inr => exact absurd a2 h10
    refine ⟨g1, up u' 89 0 1, onQ_0 a1 1, Or.inr ⟨0, ?_, a2, up_same⟩⟩
    rw [clsHead, r144_33, cmp_le, if_neg (by omega)]
    rfl
  have hp := p2_le (show n < 11 by omega)
  obtain ⟨WA, MA, hA⟩ := SV X (E := E) h hka hra rga hx h90 hn h10
  obtain ⟨WB, MB, hB⟩ := SV X (E := E) h hkb hrb rgb hx h90 hn h10
  have hc1 : ∀ i, i < n → g1 86 i = (fpX g x i : Int) := fun i hi => f3 i (by omega) hi
  have hall : w32 (ishl32 1 (n : Int) - 1) = ((2 ^ n - 1 : Nat) : Int) := by
    rw [shl_ok n (by omega), w32_of (by omega) (by omega)]
    omega
  obtain ⟨g2, e1, e2, e3⟩ := c146x X (E := E) h10 hB (d + 1) c s v1 hc1
  have e1 : Call prog clsT X (d + 8) 146 [(2, 0), (0, (x : Int)), (0, (kb : Int)), (2, (rb : Int)), (0, ((2 ^ n - 1 : Nat) : Int))] (mk E c s (hh g1)) = _ := e1
  have v2 := onQ_fl v1 e2
  have hc2 : ∀ i, i < n → g2 86 i = (fpX g x i : Int) := fun i hi => by rw [e2 86 i (by decide) (by decide) (by decide) (by decide)]; exact hc1 i hi
  have hBw : ∀ S, S < 2 ^ n → bw (gd WB) (mm MB) S (g2 88 S).toNat (g2 87 S) ∧ g2 88 S = ((g2 88 S).toNat : Int) := fun S hS => by
    obtain ⟨p, p1, p2⟩ := e3 S hS
    rw [p1, Int.toNat_natCast]
    exact ⟨p2, rfl⟩
  obtain ⟨a, b, v, g3, b1, b2, b3⟩ := c144_loop X (E := E) (k := ka) (x := x) (B := fun S => g2 87 S) (K := fun S => (g2 88 S).toNat) h10 hA (fun S hS => (hB.1 S hS).1) (fun S hS => (hBw S hS).1) x4 (d + 1) c s (2 ^ n) 0 0 (-4611686018427387904) (0, (kb : Int)) (2, (rb : Int)) (0, (n : Int)) (3, 0) (3, 0) (3, 0) g2 (by omega) v2 hc2 (fun S hS => ⟨rfl, (hBw S hS).2⟩) (Or.inl ⟨rfl, fun s' hs' => absurd hs' (Nat.not_lt_zero _)⟩)
  have b3 : Ev prog clsT X (d + 8) mc144 60 [(2, 0), (0, (x : Int)), (0, (ka : Int)), (0, (kb : Int)), (0, x4), (2, (ra : Int)), (2, (rb : Int)), (0, (n : Int)), (0, ((2 ^ n - 1 : Nat) : Int)), (1, -4611686018427387904), (3, 0), (0, 0), (0, 0), (3, 0), (3, 0)] [] (mk E c s (hh g2)) = _ := b3
  obtain ⟨u', a1, a2⟩ := refHead c s g3 b2
  rcases a2 with ⟨a2, _⟩ | ⟨_, c76', c149, a2⟩
  · exact absurd a2 (by omega)
  have w0 := onQ_0 a1 0
  obtain ⟨u1, k1, k2, k3⟩ := m240x X (E := E) h hka hx rga h10 hA 0 (by decide) (d + 1) c s w0 ((up_place (by decide)).trans c76') (fun i hi => (up_cell (by decide)).trans (c149 i hi))
  have k1 : Call prog clsT X (d + 8) 240 [(2, 89), (0, (ka : Int)), (0, (x : Int)), (0, 0)] (mk E c s (hh (up u' 89 0 0))) = _ := k1
  have w1 := onQ_va w0 k2
  have m76 : u1 89 76 = (n : Int) := (k2 89 76 (by decide) (by omega)).trans ((up_place (by decide)).trans c76')
  have m149 : ∀ i, i < n → u1 149 i = (fpX g x i : Int) := fun i hi => (k2 149 i (by decide) (by omega)).trans ((up_cell (by decide)).trans (c149 i hi))
  obtain ⟨u2, l1, l2, l3⟩ := m240x X (E := E) h hkb hx rgb h10 hB 1024 (by decide) (d + 1) c s w1 m76 m149
  have l1 : Call prog clsT X (d + 8) 240 [(2, 89), (0, (kb : Int)), (0, (x : Int)), (0, 1024)] (mk E c s (hh u1)) = _ := l1
  have w2 := onQ_va w1 l2
  have k3' : vaP WA MA n 0 u2 := fun S hS => by
    rw [l2 150 _ (by decide) (by omega), l2 151 _ (by decide) (by omega)]
    exact k3 S hS
  have p76 : u2 89 76 = (n : Int) := (l2 89 76 (by decide) (by omega)).trans m76
  obtain ⟨a', b', v', d1, d2⟩ := m238_loop X (E := E) (g := g) (x := x) h10 (fun S hS => (hA.1 S hS).1) (fun S hS => (hB.1 S hS).1) x4 (d + 7) c s p76 (fun i hi => (l2 149 i (by decide) (by omega)).trans (m149 i hi)) k3' l3 ((2 ^ n + 1) * 2 ^ n) 0 0 (-1) (-1) 0 (3, 0) (3, 0) (3, 0) (3, 0) (3, 0) (3, 0) (by omega) (Nat.zero_le _) (by omega) (Or.inl ⟨rfl, fun s' t' _ hl => by unfold lx at hl; omega⟩)
  have d2 : Ev prog clsT X (d + 8) mc238 61 [(2, 89), (3, 0), (3, 0), (3, 0), (0, x4), (0, -1), (0, -1), (1, 0), (3, 0), (0, 0), (0, 0), (3, 0), (3, 0)] [] (mk E c s (hh u2)) = _ := d2
  obtain ⟨z1, z2, z3⟩ := bst2_eq b1 d1
  refine ⟨g3, u2, w2, Or.inl ⟨if x4 = 0 then v else pB (fpX g x) (if x4 = 1 then a else b) n, ?_, ?_, ?_⟩⟩
  · rw [clsHead, r144_33, cmp_le, if_pos (by omega), hall, call3 e1, push3, r144_54, b3]
  · rw [a2, call3 k1, push3, r238_40, call3 l1, push3, r238_45, r238_53, p76, shl_ok n (by omega), cmp_ge, if_neg (by omega), d2, z1, z2, z3]
  · rw [l2 89 0 (by decide) (by omega), k2 89 0 (by decide) (by omega), up_same]
end SETS3
