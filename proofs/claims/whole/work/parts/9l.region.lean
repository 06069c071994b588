/-! Part 9l: rules of both sides say the same; reading a text keeps that. -/
def lnR (pl : Bool) (g : Gm) (r cap k l i : Nat) : Prop := (g (r + 2) l = -1 ∧ g 110 i = 0) ∨ (g 110 i = 1 ∧ ∃ a b u v : Nat, g (r + 2) l = a ∧ g (r + 3) l = b ∧ a ≤ b ∧ b ≤ cap ∧ g 112 i = u ∧ g 113 i = v ∧ 1000 * k ≤ u ∧ u ≤ v ∧ v ≤ 1000 * k + 1000 ∧ semE pl 0 (seg (g (r + 4)) a (b - a)) (seg (g 114) u (v - u)))
/-- the rules object r says what the reference's region k says -/
def RG (tx : Nat) (E : List (Nat × Nat)) (r k : Nat) (g : Gm) : Prop := ∃ cap, RO E r cap ∧ cap ≤ 1000 ∧ RP g r ∧ g r 0 = g 107 k ∧ (tx = 0 → g r 1 = g 108 k) ∧ g r 2 = g 109 k ∧ 0 ≤ g 107 k ∧ g 107 k ≤ 8 ∧ (tx = 0 → (g 107 k = 0 → g 108 k = 10) ∧ (g 107 k ≠ 0 → 0 ≤ g 108 k ∧ g 108 k ≤ 9)) ∧ 0 ≤ g 109 k ∧ g 109 k ≤ 6 ∧ (∀ i : Nat, (i : Int) < g 109 k → g (r + 1) i = g 111 (9 * k + i) ∧ 0 ≤ g 111 (9 * k + i) ∧ g 111 (9 * k + i) ≤ 99 ∧ g 110 (9 * k + i) = 1) ∧ ∀ j, j < nl tx → lnR (plan tx) g r cap k (cl tx j) (9 * k + j)
theorem CE_lt {E : List (Nat × Nat)} {a kd n : Nat} (h : CE E a kd n) : a < 159 + E.length := by
  have hl : (LAY ++ E).length = 159 + E.length := by rw [List.length_append]; rfl
  rw [← hl]
  exact (List.getElem?_eq_some_iff.mp h.1).1
theorem RG_lt {tx : Nat} {E : List (Nat × Nat)} {r k : Nat} {g : Gm} (h : RG tx E r k g) : r + 4 < 159 + E.length ∧ ((11 ≤ r ∧ r ≤ 26) ∨ 159 ≤ r) ∧ ((11 ≤ r + 4 ∧ r + 4 ≤ 26) ∨ 159 ≤ r + 4) := by
  obtain ⟨cap, h1, _⟩ := h
  exact ⟨CE_lt h1.2.2.2.2, h1.1.2, h1.2.2.2.2.2⟩
theorem RG_keep {tx : Nat} {E E2 : List (Nat × Nat)} {r k : Nat} {g g' : Gm} (h : RG tx E r k g) (e1 : ∀ x i, r ≤ x → x ≤ r + 4 → g' x i = g x i) (e2 : ∀ x, 107 ≤ x → x ≤ 109 → g' x k = g x k) (e3 : ∀ x i, 110 ≤ x → x ≤ 113 → 9 * k ≤ i → i < 9 * k + 9 → g' x i = g x i) (e4 : ∀ i, 1000 * k ≤ i → i < 1000 * k + 1000 → g' 114 i = g 114 i) : RG tx (E ++ E2) r k g' := by
  obtain ⟨cap, a1, a2, a3, a4, a5, a6, a7, a8, a9, a10, a11, a12, a13⟩ := h
  have f0 : ∀ i, g' r i = g r i := fun i => e1 r i (by omega) (by omega)
  have f107 := e2 107 (by omega) (by omega)
  have f108 := e2 108 (by omega) (by omega)
  have f109 := e2 109 (by omega) (by omega)
  refine ⟨cap, RO_ext a1, a2, ?_, by rw [f0, f107]; exact a4, fun q => by rw [f0, f108]; exact a5 q, by rw [f0, f109]; exact a6, by rw [f107]; exact a7, by rw [f107]; exact a8, fun q => by rw [f107, f108]; exact a9 q, by rw [f109]; exact a10, by rw [f109]; exact a11, fun i hi => ?_, fun j hj => ?_⟩
  · unfold RP at a3 ⊢
    rw [f0, f0, f0, f0]; exact a3
  · rw [f109] at hi
    rw [e1 (r + 1) i (by omega) (by omega), e3 111 _ (by omega) (by omega) (by omega) (by omega), e3 110 _ (by omega) (by omega) (by omega) (by omega)]
    exact a12 i hi
  · have hj9 : j < 9 := by unfold nl at hj; split at hj <;> omega
    have b110 := e3 110 (9 * k + j) (by omega) (by omega) (by omega) (by omega)
    have b112 := e3 112 (9 * k + j) (by omega) (by omega) (by omega) (by omega)
    have b113 := e3 113 (9 * k + j) (by omega) (by omega) (by omega) (by omega)
    have c2 := e1 (r + 2) (cl tx j) (by omega) (by omega)
    have c3 := e1 (r + 3) (cl tx j) (by omega) (by omega)
    rcases a13 j hj with q | ⟨q, a, b, u, v, d1, d2, d3, d4, d5, d6, d7, d8, d9, d10⟩
    · exact Or.inl ⟨by rw [c2]; exact q.1, by rw [b110]; exact q.2⟩
    · refine Or.inr ⟨by rw [b110]; exact q, a, b, u, v, by rw [c2]; exact d1, by rw [c3]; exact d2, d3, d4, by rw [b112]; exact d5, by rw [b113]; exact d6, d7, d8, d9, ?_⟩
      rw [seg_congr (f := g' (r + 4)) (h := g (r + 4)) _ _ (fun i _ _ => e1 (r + 4) i (by omega) (by omega)), seg_congr (f := g' 114) (h := g 114) _ _ (fun i q1 q2 => e4 i (by omega) (by omega))]
      exact d10
theorem seg_shift {f h : Nat → Int} : ∀ n a b, (∀ i, i < n → f (a + i) = h (b + i)) → seg f a n = seg h b n
  | 0, _, _, _ => rfl
  | n + 1, a, b, e => by
    show f a :: seg f (a + 1) n = h b :: seg h (b + 1) n
    have e0 : f a = h b := e 0 (by omega)
    rw [e0, seg_shift n (a + 1) (b + 1) (fun i hi => by
      have := e (i + 1) (by omega)
      rw [show a + 1 + i = a + (i + 1) by omega, show b + 1 + i = b + (i + 1) by omega]; exact this)]
/-- region 12 copied to region k -/
def CPY (g : Gm) (k : Nat) : Gm := cp2 (cp1 (up (up (up g 107 k (g 107 12)) 108 k (g 108 12)) 109 k (g 109 12)) k 9) k 1000
theorem CPY_out {g : Gm} {k x i : Nat} (h1 : ¬ (107 ≤ x ∧ x ≤ 109 ∧ i = k)) (h2 : ¬ (110 ≤ x ∧ x ≤ 113 ∧ 9 * k ≤ i ∧ i < 9 * k + 9)) (h3 : ¬ (x = 114 ∧ 1000 * k ≤ i ∧ i < 1000 * k + 1000)) : CPY g k x i = g x i := by
  unfold CPY cp2
  rw [if_neg h3]
  unfold cp1
  rw [if_neg h2, up_ne (by omega), up_ne (by omega), up_ne (by omega)]
theorem CPY_c {g : Gm} {k : Nat} (hk : k ≤ 11) : CPY g k 107 k = g 107 12 ∧ CPY g k 108 k = g 108 12 ∧ CPY g k 109 k = g 109 12 := by
  refine ⟨?_, ?_, ?_⟩
  all_goals
    unfold CPY cp2
    rw [if_neg (by omega)]
    unfold cp1
    rw [if_neg (by omega)]
  · rw [up_ne (by omega), up_ne (by omega), up_same]
  · rw [up_ne (by omega), up_same]
  · rw [up_same]
theorem CPY_l {g : Gm} {k x j : Nat} (hx : 110 ≤ x ∧ x ≤ 113) (hj : j < 9) : CPY g k x (9 * k + j) = cpX g k x j := by
  unfold CPY cp2
  rw [if_neg (by omega)]
  unfold cp1
  rw [if_pos ⟨hx.1, hx.2, by omega, by omega⟩, Nat.add_sub_cancel_left]
  unfold cpX
  simp only [up_ne (show ¬ (110 = 109 ∧ 108 + j = k) by omega), up_ne (show ¬ (110 = 108 ∧ 108 + j = k) by omega), up_ne (show ¬ (110 = 107 ∧ 108 + j = k) by omega), up_ne (show ¬ (111 = 109 ∧ 108 + j = k) by omega), up_ne (show ¬ (111 = 108 ∧ 108 + j = k) by omega), up_ne (show ¬ (111 = 107 ∧ 108 + j = k) by omega), up_ne (show ¬ (112 = 109 ∧ 108 + j = k) by omega), up_ne (show ¬ (112 = 108 ∧ 108 + j = k) by omega), up_ne (show ¬ (112 = 107 ∧ 108 + j = k) by omega), up_ne (show ¬ (113 = 109 ∧ 108 + j = k) by omega), up_ne (show ¬ (113 = 108 ∧ 108 + j = k) by omega), up_ne (show ¬ (113 = 107 ∧ 108 + j = k) by omega)]
theorem CPY_s {g : Gm} {k i : Nat} (hi : i < 1000) : CPY g k 114 (1000 * k + i) = g 114 (12000 + i) := by
  unfold CPY cp2
  rw [if_pos ⟨rfl, by omega, by omega⟩, Nat.add_sub_cancel_left]
  unfold cp1
  rw [if_neg (by omega), up_ne (by omega), up_ne (by omega), up_ne (by omega)]
theorem RG_new {tx : Nat} {E : List (Nat × Nat)} {L r k : Nat} {a : Sm} {g : Gm} (hk : regOK tx k) (hd : DR E L r g) (hc : HC tx a r g) (hm : HM a g) (hS : SG tx a) (h35 : g 89 35 ≤ 12000 + L) : RG tx E r k (CPY g k) := by
  have hk11 : k ≤ 11 := by rcases hk with z | z | z <;> omega
  obtain ⟨d1, d2, d3, d4, d5, d6, d7⟩ := hd
  obtain ⟨c1, c2, c3, c4, c5⟩ := hc
  obtain ⟨m1, m2, m3, m4, m5⟩ := hm
  obtain ⟨s1, s2, s3, s4, s5, s6, s7, s8⟩ := hS
  obtain ⟨p1, p2, p3⟩ := CPY_c (g := g) hk11
  have fr : ∀ x i, r ≤ x → CPY g k x i = g x i := fun x i hx => CPY_out (by omega) (by omega) (by omega)
  have b01 : ∀ v : Int, (v = 0 ∨ v = 1) → bit1 v = v := fun v hv => by rcases hv with z | z <;> subst z <;> rfl
  have l110 : ∀ j, j < 9 → CPY g k 110 (9 * k + j) = g 110 (108 + j) := fun j hj => by
    rw [CPY_l (by omega) hj]
    unfold cpX
    rw [if_pos rfl]
    rcases m5 j hj with z | z
    · exact b01 _ (Or.inl z.2)
    · exact b01 _ (Or.inr z.2.1)
  have l111 : ∀ j, j < 9 → CPY g k 111 (9 * k + j) = g 111 (108 + j) := fun j hj => by
    rw [CPY_l (by omega) hj]
    unfold cpX
    rw [if_neg (by decide), if_pos rfl]
  refine ⟨L, d1, d7, ?_, ?_, fun _ => ?_, ?_, ?_, ?_, fun _ => ?_, ?_, ?_, fun i hi => ?_, fun j hj => ?_⟩
  · unfold RP at d2 ⊢
    rw [fr r 3 (by omega), fr r 4 (by omega), fr r 5 (by omega), fr r 6 (by omega)]; exact d2
  · rw [fr r 0 (by omega), p1, c1, m1]
  · rw [fr r 1 (by omega), p2, c2, m2]
  · rw [fr r 2 (by omega), p3, c3, m3]
  · rw [p1, m1]; exact s1
  · rw [p1, m1]; exact s2
  · rw [p1, p2, m1, m2]; exact ⟨s3, s4⟩
  · rw [p3, m3]; omega
  · rw [p3, m3]; omega
  · rw [p3, m3] at hi
    have hi : i < a.2.2.1 := by omega
    have hi9 : i < 9 := by omega
    rw [fr (r + 1) i (by omega), l111 i hi9, l110 i hi9, c4 i hi, m4 i hi]
    refine ⟨rfl, (s6 i hi).2.1, (s6 i hi).2.2, ?_⟩
    rcases m5 i hi9 with z | z
    · rw [(s6 i hi).1] at z; exact absurd z.1 (by decide)
    · exact z.2.1
  · have hj9 : j < 9 := by unfold nl at hj; split at hj <;> omega
    have q110 := l110 j hj9
    rcases m5 j hj9 with z | ⟨z1, z2, u, v, z3, z4, z5, z6, z7, z8⟩
    · rcases c5 j hj with y | y
      · exact Or.inl ⟨by rw [fr _ _ (by omega)]; exact y.2, by rw [q110]; exact z.2⟩
      · rw [z.1] at y; exact absurd y.1 (by decide)
    · rcases c5 j hj with y | ⟨y1, x1, x2, y2, y3, y4, y5, y6⟩
      · rw [z1] at y; exact absurd y.1 (by decide)
      · refine Or.inr ⟨by rw [q110]; exact z2, x1, x2, u - 12000 + 1000 * k, v - 12000 + 1000 * k, by rw [fr _ _ (by omega)]; exact y2, by rw [fr _ _ (by omega)]; exact y3, y4, by omega, ?_, ?_, by omega, by omega, by omega, ?_⟩
        · rw [CPY_l (by omega) hj9]
          unfold cpX
          rw [if_neg (by decide), if_neg (by decide), if_pos rfl, z3, w32_of (x := (u : Int) - 12000) (by omega) (by omega), w32_of (x := 1000 * (k : Int)) (by omega) (by omega), w32_of (by omega) (by omega)]
          omega
        · rw [CPY_l (by omega) hj9]
          unfold cpX
          rw [if_neg (by decide), if_neg (by decide), if_neg (by decide), z4, w32_of (x := (v : Int) - 12000) (by omega) (by omega), w32_of (x := 1000 * (k : Int)) (by omega) (by omega), w32_of (by omega) (by omega)]
          omega
        · have e1 : seg (CPY g k (r + 4)) x1 (x2 - x1) = a.2.2.2.2.2.1 j := by
            rw [← y6]; exact seg_congr _ _ (fun i _ _ => fr _ _ (by omega))
          have e2 : seg (CPY g k 114) (u - 12000 + 1000 * k) (v - 12000 + 1000 * k - (u - 12000 + 1000 * k)) = a.2.2.2.2.2.2 j := by
            rw [← z8, show v - 12000 + 1000 * k - (u - 12000 + 1000 * k) = v - u by omega]
            refine seg_shift _ _ _ (fun i hi => ?_)
            rw [show u - 12000 + 1000 * k + i = 1000 * k + (u - 12000 + i) by omega, CPY_s (by omega), show 12000 + (u - 12000 + i) = u + i by omega]
          rw [e1, e2]
          exact s8 j z1
/-- all rules -/
def RU (E : List (Nat × Nat)) (g : Gm) : Prop := (∀ k : Nat, k < 10 → g 16 k = -1 ∨ ∃ r : Nat, g 16 k = r ∧ RG 0 E r k g) ∧ (∃ r : Nat, g 0 3 = r ∧ RG 1 E r 10 g) ∧ (∃ r : Nat, g 0 4 = r ∧ RG 2 E r 11 g)
theorem RG_X {tx : Nat} {E : List (Nat × Nat)} {r k : Nat} {g g' : Gm} (h : RG tx E r k g) (hk : k ≤ 11) (e : fr sRX g g') : RG tx E r k g' := by
  have hl := RG_lt h
  have := RG_keep (E2 := []) (g' := g') h (fun x i h1 h2 => e x i (by
    have hx : (11 ≤ x ∧ x ≤ 26) ∨ 159 ≤ x := by omega
    rcases hx with q | q
    · have : x = 11 ∨ x = 12 ∨ x = 13 ∨ x = 14 ∨ x = 15 ∨ x = 16 ∨ x = 17 ∨ x = 18 ∨ x = 19 ∨ x = 20 ∨ x = 21 ∨ x = 22 ∨ x = 23 ∨ x = 24 ∨ x = 25 ∨ x = 26 := by omega
      rcases this with z | z | z | z | z | z | z | z | z | z | z | z | z | z | z | z <;> subst z <;> rfl
    · unfold sRX; rw [decide_eq_true q]; rfl)) (fun x h1 h2 => e x k (by
    have : x = 107 ∨ x = 108 ∨ x = 109 := by omega
    rcases this with z | z | z <;> subst z <;> rfl)) (fun x i h1 h2 _ _ => e x i (by
    have : x = 110 ∨ x = 111 ∨ x = 112 ∨ x = 113 := by omega
    rcases this with z | z | z | z <;> subst z <;> rfl)) (fun i _ _ => e 114 i rfl)
  rw [List.append_nil] at this
  exact this
theorem RU_X {E : List (Nat × Nat)} {g g' : Gm} (h : RU E g) (e : fr sRX g g') : RU E g' := by
  obtain ⟨h1, ⟨r1, h2, h3⟩, r2, h4, h5⟩ := h
  refine ⟨fun k hk => ?_, ⟨r1, by rw [e 0 3 rfl]; exact h2, RG_X h3 (by omega) e⟩, r2, by rw [e 0 4 rfl]; exact h4, RG_X h5 (by omega) e⟩
  rw [e 16 k rfl]
  rcases h1 k hk with q | ⟨r, q1, q2⟩
  · exact Or.inl q
  · exact Or.inr ⟨r, q1, RG_X q2 (by omega) e⟩
section READS
variable {X : MExt}
/-- a text read on both sides -/
theorem READ (hX : XT X) {tx k : Nat} (hk : regOK tx k) (E : List (Nat × Nat)) (c s t : Nat) {g : Gm} (ht : RT g) : ∃ (v : Int) (L : Nat) (g1 : Gm), Call prog clsT X (t + 70) 39 [(2, 9), (0, (tx : Int))] (mk E c s (hh g)) = some ((0, v), mk (E ++ nE5 L) (c + 5) (s + (36 + L)) (hh g1)) ∧ L ≤ 1000 ∧ g1 9 1 = 0 ∧ g1 9 2 = ((159 + E.length : Nat) : Int) ∧ RO (E ++ nE5 L) (159 + E.length) L ∧ (∀ x i, x < 159 + E.length → ¬ (x = 9 ∧ 1 ≤ i ∧ i ≤ 8) → g1 x i = g x i) ∧
    ∀ (t2 : Nat) (g1' : Gm), (∀ x i, ¬ (x = 16 ∨ x = 0 ∨ (x = 89 ∧ i = 0)) → g1' x i = g1 x i) → ∃ ga g2, Call prog clsT X (t2 + 13) 166 [(2, 89)] (mk (E ++ nE5 L) (c + 5) (s + (36 + L)) (hh g1')) = some ((3, 0), mk (E ++ nE5 L) (c + 5) (s + (36 + L)) (hh ga)) ∧ (∀ x i, ¬ (x = 89 ∧ (i = 17 ∨ (19 ≤ i ∧ i ≤ 24))) → ga x i = g1' x i) ∧ ga 89 17 = 0 ∧ Call prog clsT X (t2 + 13) 169 [(2, 89), (0, (k : Int))] (mk (E ++ nE5 L) (c + 5) (s + (36 + L)) (hh ga)) = some ((0, v), mk (E ++ nE5 L) (c + 5) (s + (36 + L)) (hh g2)) ∧ g2 89 17 = 0 ∧ (∀ x i, ¬ (zR x i ∨ (x = 89 ∧ (i = 17 ∨ i = 19 ∨ i = 36))) → ¬ (v = 0 ∧ ((107 ≤ x ∧ x ≤ 109 ∧ i = k) ∨ (110 ≤ x ∧ x ≤ 113 ∧ 9 * k ≤ i ∧ i < 9 * k + 9) ∨ (x = 114 ∧ 1000 * k ≤ i ∧ i < 1000 * k + 1000))) → g2 x i = g1' x i) ∧ (v = 0 → RG tx (E ++ nE5 L) (159 + E.length) k g2) := by
  have htx : tx < 3 := by rcases hk with z | z | z <;> omega
  obtain ⟨L, hL⟩ := Int.eq_ofNat_of_zero_le ht.2.1
  have hL1 : L ≤ 1000 := by have := ht.2.2.1; omega
  have h1 : g 9 1 = L := by rw [ht.1]; exact hL
  have hk4 : ∀ i, i < L → okB (g 10 i) := fun i hi => by
    have := ht.2.2.2 i (by omega)
    rw [this.1]; exact this.2
  obtain ⟨u, k1, k2, k3, k4⟩ := c39_pre (T := g 10) hX htx hL1 E c s h1 (fun i _ => rfl) hk4 (t + 64)
  have hn0 : tok0 (g 10) L ≤ L := by
    have := spn_le blk (g 10) L 0
    unfold tok0; omega
  -- the reference's start
  have ref0 : ∀ (t2 : Nat) (gc g1' : Gm) (E' : List (Nat × Nat)) (c' s' : Nat), (∀ x i, x < 159 + E.length → ¬ (x = 9 ∧ 1 ≤ i ∧ i ≤ 8) → gc x i = g x i) → (∀ x i, ¬ (x = 16 ∨ x = 0 ∨ (x = 89 ∧ i = 0)) → g1' x i = gc x i) → ∃ ga, Call prog clsT X (t2 + 13) 166 [(2, 89)] (mk E' c' s' (hh g1')) = some ((3, 0), mk E' c' s' (hh ga)) ∧ TM (g 10) L (tok0 (g 10) L) ga ∧ ga 89 17 = 0 ∧ ∀ x i, ¬ (x = 89 ∧ (i = 17 ∨ (19 ≤ i ∧ i ≤ 24))) → ga x i = g1' x i := by
    intro t2 gc g1' E' c' s' e1 e2
    have e17 : g1' 89 17 = L := by rw [e2 89 17 (by omega), e1 89 17 (by omega) (by omega)]; exact hL
    obtain ⟨ga, j1, j2, j3⟩ := m167t X E' c' s' (T := g 10) (g := up (up (up g1' 89 19 (g1' 89 17)) 89 17 0) 89 20 0) (t2 + 10) L 0 hL1 (Nat.zero_le _) (by rw [up_ne (by omega), up_ne (by omega), up_same]; exact e17) up_same (fun i hi => by
      rw [up_ne (by omega), up_ne (by omega), up_ne (by omega), e2 105 i (by omega), e1 105 i (by omega) (by omega)]
      exact (ht.2.2.2 i (by omega)).1.symm)
    rw [Nat.sub_zero] at j2
    refine ⟨ga, ?_, j2, ?_, fun x i q => ?_⟩
    · rw [rc166_, call3 j1, push3, r166_12]
    · rw [j3 89 17 (by unfold zM; omega), up_ne (by omega)]; exact up_same
    · rw [j3 x i (by unfold zM; omega), up_ne (by omega), up_ne (by omega), up_ne (by omega)]
  rcases text_loop (T := g 10) hX htx (L - tok0 (g 10) L) (tok0 (g 10) L) s0 (Nat.le_refl _) hn0 (SG_0 tx) with ⟨fl, b1, b2⟩ | ⟨a', b0, b1, b2⟩
  · obtain ⟨g', j1, j2, j3, j4⟩ := b1 (t + 69) 0 _ (c + 5) (s + (36 + L)) _ u (by omega) (Nat.zero_le _) k2 k3
    have hfr : ∀ x i, x < 159 + E.length → ¬ (x = 9 ∧ 1 ≤ i ∧ i ≤ 8) → up g' 9 1 0 x i = g x i := fun x i q1 q2 => by
      rw [up_ne (by omega), j4 x i (by unfold zL; omega), k4 x i q1 (by omega)]
    refine ⟨fl, L, up g' 9 1 0, k1.trans j1, hL1, up_same, ?_, j2.1, hfr, fun t2 g1' e => ?_⟩
    · rw [up_ne (by omega)]; exact j2.2.2.1
    · obtain ⟨ga, p1, p2, p3, p4⟩ := ref0 t2 _ g1' (E ++ nE5 L) (c + 5) (s + (36 + L)) hfr e
      obtain ⟨gb, w, q1, q2, q3, q4⟩ := m169_pre (tx := tx) (k := k) hk (E ++ nE5 L) (c + 5) (s + (36 + L)) p2 (t2 + 2)
      obtain ⟨g2, o1, o2⟩ := b2 (t2 + 2) _ (c + 5) (s + (36 + L)) gb k w hk q2 q3
      refine ⟨ga, g2, p1, p4, p3, q1.trans o1, ?_, fun x i z _ => ?_, fun z => absurd z j3.1⟩
      · rw [o2 89 17 (by unfold zR zM; omega), q4 89 17 (by unfold zR zM; omega)]; exact p3
      · have z1 : ¬ zR x i := fun y => z (Or.inl y)
        have z2 : ¬ (x = 89 ∧ (i = 17 ∨ i = 19 ∨ i = 36)) := fun y => z (Or.inr y)
        have z3 : ¬ (x = 89 ∧ 20 ≤ i ∧ i ≤ 24) := fun y => z1 (Or.inl y)
        rw [o2 x i z1, q4 x i (fun y => by rcases y with y | y; exact z1 y; exact z2 ⟨y.1, Or.inr (Or.inr y.2)⟩), p4 x i (by omega)]
  · obtain ⟨g', j1, j2, j3, j4⟩ := b1 (t + 69) 0 _ (c + 5) (s + (36 + L)) _ u (by omega) (Nat.zero_le _) k2 k3
    have hfr : ∀ x i, x < 159 + E.length → ¬ (x = 9 ∧ 1 ≤ i ∧ i ≤ 8) → up g' 9 1 0 x i = g x i := fun x i q1 q2 => by
      rw [up_ne (by omega), j4 x i (by unfold zL; omega), k4 x i q1 (by omega)]
    refine ⟨0, L, up g' 9 1 0, k1.trans j1, hL1, up_same, ?_, j2.1, hfr, fun t2 g1' e => ?_⟩
    · rw [up_ne (by omega)]; exact j2.2.2.1
    · have hk11 : k ≤ 11 := by rcases hk with z | z | z <;> omega
      obtain ⟨ga, p1, p2, p3, p4⟩ := ref0 t2 _ g1' (E ++ nE5 L) (c + 5) (s + (36 + L)) hfr e
      obtain ⟨gb, w, q1, q2, q3, q4⟩ := m169_pre (tx := tx) (k := k) hk (E ++ nE5 L) (c + 5) (s + (36 + L)) p2 (t2 + 2)
      obtain ⟨gd, w', o1, o2, o3, o4⟩ := b2 (t2 + 2) _ (c + 5) (s + (36 + L)) gb k w hk q2 q3
      have h22 : gd 89 22 = 0 := by rw [o2.1.2.2.2.2.2.2.1]; exact tokT_end.mpr rfl
      have hend := m169_end (X := X) hk11 (E ++ nE5 L) (c + 5) (s + (36 + L)) h22 (t2 + 2 + 10) w'
      -- class cells seen from the reference's end
      have hcell : ∀ x i, 159 ≤ x → gd x i = g' x i := fun x i hx => by
        rw [o4 x i (by unfold zR zM; omega), q4 x i (by unfold zR zM; omega), p4 x i (by omega), e x i (by omega), up_ne (by omega)]
      have h92 : gd 9 2 = g' 9 2 := by
        rw [o4 9 2 (by unfold zR zM; omega), q4 9 2 (by unfold zR zM; omega), p4 9 2 (by omega), e 9 2 (by omega), up_ne (by omega)]
      have hd : DR (E ++ nE5 L) L (159 + E.length) gd := by
        obtain ⟨y1, y2, y3, y4, y5, y6, y7⟩ := j2
        refine ⟨y1, ?_, by rw [h92]; exact y3, y4, by rw [hcell _ _ (by omega)]; exact y5, by rw [hcell _ _ (by omega)]; exact y6, y7⟩
        unfold RP at y2 ⊢
        rw [hcell _ _ (by omega), hcell _ _ (by omega), hcell _ _ (by omega), hcell _ _ (by omega)]
        exact y2
      have hc : HC tx a' (159 + E.length) gd := by
        obtain ⟨y1, y2, y3, y4, y5⟩ := j3
        exact ⟨by rw [hcell _ _ (by omega)]; exact y1, by rw [hcell _ _ (by omega)]; exact y2, by rw [hcell _ _ (by omega)]; exact y3, fun i hi => by rw [hcell _ _ (by omega)]; exact y4 i hi, fun j hj => lnC_eq (y5 j hj) (hcell _ _ (by omega)) (hcell _ _ (by omega)) (fun i => hcell _ _ (by omega)) (hcell _ _ (by omega))⟩
      refine ⟨ga, CPY gd k, p1, p4, p3, (q1.trans o1).trans hend, ?_, fun x i z zz => ?_, fun _ => RG_new hk hd hc o3 b0 o2.2.2.1⟩
      · rw [CPY_out (by omega) (by omega) (by omega), o4 89 17 (by unfold zR zM; omega), q4 89 17 (by unfold zR zM; omega)]; exact p3
      · have z1 : ¬ zR x i := fun y => z (Or.inl y)
        have z2 : ¬ (x = 89 ∧ (i = 17 ∨ i = 19 ∨ i = 36)) := fun y => z (Or.inr y)
        have z3 : ¬ (x = 89 ∧ 20 ≤ i ∧ i ≤ 24) := fun y => z1 (Or.inl y)
        rw [CPY_out (fun y => zz ⟨rfl, Or.inl y⟩) (fun y => zz ⟨rfl, Or.inr (Or.inl y)⟩) (fun y => zz ⟨rfl, Or.inr (Or.inr y)⟩), o4 x i z1, q4 x i (fun y => by rcases y with y | y; exact z1 y; exact z2 ⟨y.1, Or.inr (Or.inr y.2)⟩), p4 x i (by omega)]
end READS
