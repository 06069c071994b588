/-! Part as: can. -/
theorem cpI_no {K : CpT} {Z : Nat → Int} (hK : ∀ P F, ¬ K P F) : ∀ q c P F, ¬ cpI K Z q c P F := by
  intro q
  induction q with
  | zero => intro c P F; exact hK P F
  | succ q ih =>
    intro c P F hp
    rcases hp with hp | ⟨x, _, hp⟩
    · exact hK P F hp.2
    · exact ih _ _ _ hp
theorem cpO_no {C : Nat → Nat → Int} {Z : Nat → Int} {n : Nat} {L : CpT} (hL : ∀ P F, ¬ L P F) : ∀ m P F, ¬ cpO C Z n L m P F
  | 0, P, F => hL P F
  | m + 1, P, F => cpI_no (cpO_no hL m) 3 _ P F
section CAN
variable (X : MExt)
theorem op_can (x1 : Int) : OpV X 126 232 17 [(0, x1)] := by
  intro N E c s d g h
  have hre := h.1.1.1
  have hv := h.1.1.2.1
  have hle := hre.rn.le
  have hC := C_b h.1.1.2.2.2.2.1
  have e4 := hv.2.2.2.2.1
  have s84 : Call prog clsT X (d + 16) 84 [(2, 1), (0, x1)] (mk E c s (hh g)) = _ := c84 X E c s hv (d + 14) x1
  have s154 : ∀ u, onQ g u → Call prog clsT X (d + 16) 154 [(2, 89), (0, x1)] (mk E c s (hh u)) = some ((0, bI (0 ≤ x1 ∧ x1 ≤ 9 ∧ g 90 x1.toNat ≠ 0)), mk E c s (hh u)) := fun u hu => by
    rw [show d + 16 = (d + 14) + 2 from rfl, m154 X E c s (g := u) (d + 14) x1, hu 90 _ rfl]
  by_cases q : 0 ≤ x1 ∧ x1 ≤ 9 ∧ g 90 x1.toNat ≠ 0
  case neg =>
    refine ⟨-1, g, up g 89 0 0, onQ_0 (onQ_refl g) 0, ?_, ?_⟩
    · rw [rc126_, call0 s84, push0, bI_f q, r126_4, cmp_eq, if_pos rfl]
    · rw [rc232_, call0 (s154 _ (onQ_0 (onQ_refl g) 0)), push0, bI_f q, r232_6, cmp_eq, if_pos rfl]
  obtain ⟨T, rfl⟩ := Int.eq_ofNat_of_zero_le q.1
  have hT : T < 10 := by omega
  have t10 : 0 ≤ (T : Int) ∧ (T : Int) < ((10 : Nat) : Int) := by omega
  have h90 : g 90 T ≠ 0 := q.2.2
  obtain ⟨w, ev⟩ := EVw X h
  obtain ⟨u1, v1, lc⟩ := c127x X h ev (T := T) (d + 9) c s (onQ_refl g)
  -- the reference lists too
  have ref : ∀ g1, onQ g g1 → ∃ u2, onQ g u2 ∧ ((Call prog clsT X (d + 16) 233 [(2, 89)] (mk E c s (hh (up g1 89 0 0))) = some ((0, 0), mk E c s (hh u2)) ∧ ∃ k, k < 10 ∧ badK (oK g w) k) ∨ (Call prog clsT X (d + 16) 233 [(2, 89)] (mk E c s (hh (up g1 89 0 0))) = some ((0, 1), mk E c s (hh u2)) ∧ (¬ ∃ k, k < 10 ∧ badK (oK g w) k) ∧ opM g w 10 u2)) := fun g1 hg1 => m233x X h ev (d + 7) c s (onQ_0 hg1 0)
  rcases lc with ⟨lc, bad⟩ | ⟨lc, good, oc⟩
  · have lc : Call prog clsT X (d + 16) 127 [(2, 0), (0, (T : Int))] (mk E c s (hh g)) = _ := lc
    obtain ⟨u2, v2, lm⟩ := ref u1 v1
    rcases lm with ⟨lm, _⟩ | ⟨_, good, _⟩
    case inr => exact absurd bad good
    refine ⟨-1, u1, u2, v2, ?_, ?_⟩
    · rw [rc126_, call0 s84, push0, bI_t q, r126_4, cmp_eq, if_neg (by decide), call0 lc, push0, r126_8, cmp_ne, if_neg (by decide)]
    · rw [rc232_, call0 (s154 _ (onQ_0 v1 0)), push0, bI_t q, r232_6, cmp_eq, if_neg (by decide), call0 lm, push0, r232_9, cmp_ne, if_neg (by decide)]
  have lc : Call prog clsT X (d + 16) 127 [(2, 0), (0, (T : Int))] (mk E c s (hh g)) = _ := lc
  obtain ⟨pl, p0, _, pc, pn, pm⟩ := PL X h
  -- the numbers of the ways
  obtain ⟨n, hn⟩ : ∃ n, n = lnK (oK g w) 10 := ⟨_, rfl⟩
  obtain ⟨lw, hlw⟩ : ∃ lw, lw = lwK (oK g w) 10 := ⟨_, rfl⟩
  obtain ⟨sz, hsz⟩ : ∃ sz : Nat → Nat, sz = fun k => oK g w (lw k) := ⟨_, rfl⟩
  obtain ⟨C, hCd⟩ : ∃ C : Nat → Nat → Int, C = fun k x => if k < n then cK g w (lw k) x else 0 := ⟨_, rfl⟩
  obtain ⟨P, hP⟩ : ∃ P : Nat → Int, P = fun x => if g 90 x ≠ 0 ∧ g 93 x = 0 then sT g pl (cP g) x (nE g) else 0 := ⟨_, rfl⟩
  obtain ⟨F, hF⟩ : ∃ F : Nat → Int, F = fun x => if g 90 x ≠ 0 ∧ g 93 x = 0 then sT g pl cF x (nE g) else 0 := ⟨_, rfl⟩
  have hC0 : ∀ k x, 0 ≤ C k x := fun k x => by
    rw [hCd]
    dsimp only
    split
    · exact cK_0 g w _ x
    · exact Int.le_refl 0
  have bP : ∀ x, 0 ≤ sT g pl (cP g) x (nE g) ∧ sT g pl (cP g) x (nE g) ≤ 999 * 40 := fun x => sT_b hle hC.1
  have bF : ∀ x, 0 ≤ sT g pl cF x (nE g) ∧ sT g pl cF x (nE g) ≤ 999 * 40 := fun x => sT_b hle hC.2.2
  obtain ⟨o1, o2, o3⟩ := oc
  rw [← hn, ← hlw] at o3
  rw [← hn] at o1 o2
  have hsz5 : ∀ k, k < n → 1 ≤ sz k ∧ sz k ≤ 5 := fun k hk => by
    rw [hsz]
    exact ⟨(o3 k hk).2.1, (o3 k hk).2.2.1⟩
  have cCnt : ∀ (nm : Nat → Nat) (k : Nat), k < n → (∀ x : Nat, sm (fun j => bI (nm j = x)) (sz k) = cK g w (lw k) x) → C k = cnU nm (fun _ => false) (sz k) := fun nm k hk hx => by
    funext x
    rw [hCd]
    dsimp only
    rw [if_pos hk, ← hx x]
    unfold cnU
    exact sm_congr (fun j _ => bI_iff ⟨fun z => ⟨rfl, z⟩, fun z => z.2⟩)
  -- the reference's answer
  have refA : ∀ g1, onQ g g1 → ∃ v g2, onQ g g2 ∧ (v = 0 ∨ v = 1) ∧ (v = 1 ↔ cpO C (g 142) n (cpT g T) n P F) ∧ Call prog clsT X (d + 17) 232 [(2, 89), (0, (T : Int))] (mk E c s (hh g1)) = some ((0, v), mk E c s (hh g2)) := fun g1 hg1 => by
    obtain ⟨u2, v2, lm⟩ := ref g1 hg1
    rcases lm with ⟨_, bad⟩ | ⟨lm, _, om⟩
    · exact absurd bad good
    obtain ⟨m1, m2, m3⟩ := om
    rw [← hn, ← hlw] at m3
    rw [← hn] at m1
    obtain ⟨u3, b1, b2, b3⟩ := m228 X h ⟨p0, pm⟩ (d + 5) c s u2 (M_of v2)
    have b1 : Call prog clsT X (d + 16) 228 [(2, 89)] (mk E c s (hh u2)) = _ := b1
    have v3 := onQ_rs v2 b2
    have f147 : ∀ i, u3 147 i = u2 147 i := fun i => b2 147 i (by decide) (by decide) (by decide)
    obtain ⟨v, d1, d2, d3⟩ := m234 X (E := E) h (n := n) (T := T) (sz := sz) (en := fun k i => (u2 147 (5 * k + i)).toNat) (nm := fun k i => phi g (g 100 (u2 147 (5 * k + i)).toNat).toNat) (C := C) o2 hT h90 hsz5 (fun k i hk hi => by
      have hi : i < oK g w (lw k) := by rw [hsz] at hi; exact hi
      have := (m3 k hk).2.2.2.2.2 i hi
      exact ⟨by omega, rfl⟩) (fun k hk => cCnt _ k hk (fun x => by
      rw [hsz]
      exact (m3 k hk).2.2.2.2.1 x)) n (Nat.le_refl n) P F u3 (d + (14 - 4 * n)) c s (M_of v3) ⟨by rw [b2 89 72 (by decide) (by decide) (by decide)]; exact m1, fun k hk => by
        rw [b2 146 k (by decide) (by decide) (by decide), hsz]
        exact (m3 k hk).2.2.2.1, fun k i hk hi => by
        have hi : i < oK g w (lw k) := by rw [hsz] at hi; exact hi
        have := (m3 k hk).2.2.2.2.2 i hi
        rw [f147]
        exact (Int.toNat_of_nonneg this.1).symm⟩ (fun x hx => by
        have bp := bP x
        have bf := bF x
        rw [(b3 x hx).1, (b3 x hx).2]
        refine ⟨bp.1, by omega, bf.1, by omega, fun k1 k2 => ?_⟩
        rw [hP, hF]
        dsimp only
        rw [if_pos ⟨k1, k2⟩, if_pos ⟨k1, k2⟩]
        exact ⟨rfl, rfl⟩)
    rw [show d + (14 - 4 * n) + (2 + 4 * n) = d + 16 by omega, Nat.sub_self] at d1
    have d1 : Call prog clsT X (d + 16) 234 [(2, 89), (0, (T : Int)), (0, 0), (0, 0), (0, 0)] (mk E c s (hh u3)) = _ := d1
    refine ⟨v, u3, v3, d2, d3, ?_⟩
    rw [rc232_, call0 (s154 _ (onQ_0 hg1 0)), push0, bI_t q, r232_6, cmp_eq, if_neg (by decide), call0 lm, push0, r232_9, cmp_ne, if_pos (by decide), call3 b1, push3, r232_14, call0 d1, push0, r232_20, cmp_eq]
    rcases d2 with z | z
    · rw [if_pos z, z]
    · rw [if_neg (by omega), z]
  by_cases h93 : g 93 T = 0
  case neg =>
    -- who won last year can't
    obtain ⟨v, g2, a1, a2, a3, a4⟩ := refA u1 v1
    have hv0 : v = 0 := a2.resolve_right (fun z => cpO_no (fun P F k => h93 k.1) n P F (a3.1 z))
    rw [hv0] at a4
    refine ⟨0, u1, g2, a1, ?_, a4⟩
    rw [rc126_, call0 s84, push0, bI_t q, r126_4, cmp_eq, if_neg (by decide), call0 lc, push0, r126_8, cmp_ne, if_pos (by decide), inb_is, if_pos t10, Int.toNat_natCast, cmp_eq, v1 4 T rfl, e4, if_neg h93]
  -- the class sums up
  obtain ⟨u2, a1, a2, a3⟩ := c123 X h ⟨p0, pc, pn⟩ (d + 9) c s u1 (C_of v1)
  have a1 : Call prog clsT X (d + 16) 123 [(2, 0)] (mk E c s (hh u1)) = _ := a1
  have v2 := onQ_su v1 a2
  have loop : ∀ (p i : Nat) (w3 : MV) (u : Gm), i + p = 10 → (∀ y j, y ≠ 66 → y ≠ 67 → u y j = u2 y j) → (∀ x, x < i → u 66 x = P x ∧ u 67 x = F x) → ∃ u', Ev prog clsT X (d + 16) mc126 23 [(2, 0), (0, (T : Int)), (0, (i : Int)), w3] [] (mk E c s (hh u)) = ((Call prog clsT X (d + 16) 12 [(2, 65), (0, (T : Int)), (2, 60)] (mk E c s (hh u'))).bind fun r1 => if r1.1.1 = 4 then none else Ev prog clsT X (d + 16) mc126 78 [(2, 0), (0, (T : Int)), (0, 10), (3, 0)] (pushR r1.1 []) r1.2) ∧ (∀ y j, y ≠ 66 → y ≠ 67 → u' y j = u2 y j) ∧ ∀ x, x < 10 → u' 66 x = P x ∧ u' 67 x = F x := by
    intro p
    induction p with
    | zero =>
      intro i w3 u hi hu hx
      have hi : i = 10 := by omega
      subst hi
      refine ⟨u, ?_, hu, hx⟩
      rw [r126_23, cmp_ge, if_pos (by decide)]
      rfl
    | succ p ih =>
      intro i w3 u hi hu hx
      have i10 : 0 ≤ (i : Int) ∧ (i : Int) < ((10 : Nat) : Int) := by omega
      have i11 : 0 ≤ (i : Int) ∧ (i : Int) < ((11 : Nat) : Int) := by omega
      have huQ : onQ g u := fun x j hs => (hu x j (fun z => by rw [z] at hs; cases hs) (fun z => by rw [z] at hs; cases hs)).trans (v2 x j hs)
      have s84i : Call prog clsT X (d + 16) 84 [(2, 1), (0, (i : Int))] (mk E c s (hh u)) = some ((0, bI (0 ≤ (i : Int) ∧ (i : Int) ≤ 9 ∧ g 90 i ≠ 0)), mk E c s (hh u)) := by
        rw [show d + 16 = (d + 14) + 2 from rfl, c84 X E c s (ST_Q h huQ).1.1.2.1 (d + 14) (i : Int), Int.toNat_natCast, huQ 90 i rfl]
      have go : ∀ (w3 : MV) (a b : Int), a = P i → b = F i → ∃ u', Ev prog clsT X (d + 16) mc126 23 [(2, 0), (0, (T : Int)), (0, ((i + 1 : Nat) : Int)), w3] [] (mk E c s (hh (up (up u 66 i a) 67 i b))) = ((Call prog clsT X (d + 16) 12 [(2, 65), (0, (T : Int)), (2, 60)] (mk E c s (hh u'))).bind fun r1 => if r1.1.1 = 4 then none else Ev prog clsT X (d + 16) mc126 78 [(2, 0), (0, (T : Int)), (0, 10), (3, 0)] (pushR r1.1 []) r1.2) ∧ (∀ y j, y ≠ 66 → y ≠ 67 → u' y j = u2 y j) ∧ ∀ x, x < 10 → u' 66 x = P x ∧ u' 67 x = F x := fun w3 a b ha hb => by
        refine ih (i + 1) w3 _ (by omega) (fun y j h1 h2 => by rw [up_cell h2, up_cell h1]; exact hu y j h1 h2) (fun x hx2 => ?_)
        rw [up_cell (by decide), up_at, up_at, up_cell (by decide)]
        by_cases z : x = i
        · rw [if_pos z, if_pos z, z]; exact ⟨ha, hb⟩
        · rw [if_neg z, if_neg z]; exact hx x (by omega)
      have e62 : u 62 i = sT g pl (cP g) i (nE g) := by rw [hu 62 i (by decide) (by decide)]; exact (a3 i (by omega)).1
      have e63 : u 63 i = sT g pl cF i (nE g) := by rw [hu 63 i (by decide) (by decide)]; exact (a3 i (by omega)).2.1
      have zero : ¬ (g 90 i ≠ 0 ∧ g 93 i = 0) → ∃ u', Ev prog clsT X (d + 16) mc126 39 [(2, 0), (0, (T : Int)), (0, (i : Int)), (3, 0)] [] (mk E c s (hh u)) = ((Call prog clsT X (d + 16) 12 [(2, 65), (0, (T : Int)), (2, 60)] (mk E c s (hh u'))).bind fun r1 => if r1.1.1 = 4 then none else Ev prog clsT X (d + 16) mc126 78 [(2, 0), (0, (T : Int)), (0, 10), (3, 0)] (pushR r1.1 []) r1.2) ∧ (∀ y j, y ≠ 66 → y ≠ 67 → u' y j = u2 y j) ∧ ∀ x, x < 10 → u' 66 x = P x ∧ u' 67 x = F x := fun hz => by
        rw [r126_39, cmp_eq, if_pos rfl, inb_is, if_pos i11, cmp_eq, if_pos rfl, inb_is, if_pos i11, Int.toNat_natCast, w32_succ (by omega)]
        exact go _ 0 0 (by rw [hP]; exact (if_neg hz).symm) (by rw [hF]; exact (if_neg hz).symm)
      rw [r126_23, cmp_ge, if_neg (by omega), call0 s84i, push0, r126_30, cmp_eq, bI_eq0]
      by_cases z1 : g 90 i ≠ 0
      case neg =>
        rw [if_pos (fun z => z1 z.2.2)]
        exact zero (fun z => z1 z.1)
      rw [if_neg (fun z => z ⟨i10.1, by omega, z1⟩), inb_is, if_pos i10, Int.toNat_natCast, cmp_ne, huQ 4 i rfl, e4]
      by_cases z2 : g 93 i = 0
      case neg =>
        rw [if_pos z2]
        exact zero (fun z => z2 z.2)
      rw [if_neg (fun z => z z2), cmp_eq, if_neg (by decide), inb_is, if_pos i10, inb_is, if_pos i11, cmp_eq, if_neg (by decide), inb_is, if_pos i10, inb_is, if_pos i11, e62, e63, w32_succ (by omega)]
      exact go _ _ _ (by rw [hP]; exact (if_pos ⟨z1, z2⟩).symm) (by rw [hF]; exact (if_pos ⟨z1, z2⟩).symm)
  obtain ⟨u3, l1, l2, l3⟩ := loop 10 0 (3, 0) u2 (by omega) (fun _ _ _ _ => rfl) (fun x hx => absurd hx (Nat.not_lt_zero _))
  have l1 : Ev prog clsT X (d + 16) mc126 23 [(2, 0), (0, (T : Int)), (0, 0), (3, 0)] [] (mk E c s (hh u2)) = _ := l1
  have v3 : onQ g u3 := fun x j hs => (l2 x j (fun z => by rw [z] at hs; cases hs) (fun z => by rw [z] at hs; cases hs)).trans (v2 x j hs)
  have suf : ∀ y j, y = 65 ∨ y = 68 ∨ y = 69 → u3 y j = u1 y j := fun y j hy => by
    rw [l2 y j (by omega) (by omega)]
    exact a2 y j (by omega)
  obtain ⟨v, u4, b1, b2, b3, b4⟩ := c12x X (E := E) h (n := n) (T := T) (sz := sz) (nm := fun k i => (u1 69 (5 * k + i)).toNat) (C := C) o2 hT h90 h93 hsz5 (fun k i hk hi => by
    have hi : i < oK g w (lw k) := by rw [hsz] at hi; exact hi
    obtain ⟨e, e1, e2⟩ := (o3 k hk).2.2.2.2.2 i hi
    rw [e2, Int.toNat_natCast]
    exact phi_ok h e1) (fun k hk => cCnt _ k hk (fun x => by
    have := (o3 k hk).2.2.2.2.1 x
    rw [← this, hsz]
    refine sm_congr (fun j hj => bI_iff ?_)
    obtain ⟨e, _, e2⟩ := (o3 k hk).2.2.2.2.2 j hj
    rw [e2, Int.toNat_natCast]
    omega)) hC0 (P := P) (F := F) d c s v3 ((suf 65 2 (Or.inl rfl)).trans o1) (fun k hk => by
    rw [suf 68 k (Or.inr (Or.inl rfl)), hsz]
    exact (o3 k hk).2.2.2.1) (fun k i hk hi => by
    have hi : i < oK g w (lw k) := by rw [hsz] at hi; exact hi
    obtain ⟨e, e1, e2⟩ := (o3 k hk).2.2.2.2.2 i hi
    rw [suf 69 _ (Or.inr (Or.inr rfl)), e2, Int.toNat_natCast]) (fun x hx => by
    have bp := bP x
    have bf := bF x
    rw [(l3 x hx).1, (l3 x hx).2]
    have pb : 0 ≤ P x ∧ P x ≤ 999 * 40 := by
      rw [hP]
      dsimp only
      split
      · exact bp
      · decide
    have fb : 0 ≤ F x ∧ F x ≤ 999 * 40 := by
      rw [hF]
      dsimp only
      split
      · exact bf
      · decide
    exact ⟨rfl, rfl, pb.1, by omega, fb.1, by omega, fun k => by rw [hP]; exact if_neg k⟩)
  obtain ⟨v', g2, r1, r2, r3, r4⟩ := refA u4 b2
  have eT : cpT g T = cpL g T := by
    funext P F
    exact propext ⟨fun z => z.2, fun z => ⟨h93, z⟩⟩
  rw [eT, ← b4] at r3
  have evv : v' = v := by
    rcases b3 with z | z <;> rcases r2 with y | y
    · rw [z, y]
    · have := r3.1 y; omega
    · have := r3.2 z; omega
    · rw [z, y]
  rw [evv] at r4
  refine ⟨v, u4, g2, r1, ?_, r4⟩
  rw [rc126_, call0 s84, push0, bI_t q, r126_4, cmp_eq, if_neg (by decide), call0 lc, push0, r126_8, cmp_ne, if_pos (by decide), inb_is, if_pos t10, Int.toNat_natCast, cmp_eq, v1 4 T rfl, e4, if_pos h93, call3 a1, push3, r126_21, l1, call0 b1, push0, r126_78, cmp_eq]
  rcases b3 with z | z
  · rw [if_pos z, z]
  · rw [if_neg (by omega), z]
end CAN
