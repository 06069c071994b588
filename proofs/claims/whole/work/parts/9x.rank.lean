/-! Part 9x: rank, placeBy, place. -/
section RANK
variable (X : MExt) {E : List (Nat × Nat)} {g : Gm}
theorem c22Y {N : Int} (h : ST N E g) {e : Nat} (he : e < nE g) {u : Gm} (hu : onC g u) (c s d : Nat) (k : Int) : Call prog clsT X (d + 2) 22 [(2, 30), (0, (e : Int)), (0, k)] (mk E c s (hh u)) = some ((0, bI (g 104 e = 0 ∧ g 99 e = k)), mk E c s (hh u)) := by
  rw [c22x X c s h.1.1.1 hu d, Int.toNat_natCast]
  rw [bI_iff (q := g 104 e = 0 ∧ g 99 e = k) ⟨fun z => z.2.2, fun z => ⟨by omega, by omega, z⟩⟩]
/-- rank, and placeBy of the reference -/
theorem RKx {N : Int} (h : ST N E g) : ∃ (w t : Nat → Int) (mj : Nat → Nat → Int), (∀ e, e < nE g → evU X E g e (w e) (mj e) (t e)) ∧ ∀ j : Nat, j < 4 → (∀ k : Nat, k < 10 → ∀ d c s u, onC g u → ∃ u', Call prog clsT X (d + 6) 107 [(2, 0), (0, (k : Int)), (0, (j : Int))] (mk E c s (hh u)) = some ((3, 0), mk E c s (hh u')) ∧ onC g u' ∧ clQ u u' ∧ ∀ x, x < 40 → u' 56 x = plv g w (fun e => mj e j) t k (nE g) 0 x) ∧ ∀ e, e < nE g → ∀ d c s u, onM g u → (∃ u', Call prog clsT X (d + 8) 211 [(2, 89), (0, (e : Int))] (mk E c s (hh u)) = some ((0, bI (g 104 e = 0 ∧ w e = -1)), mk E c s (hh u')) ∧ onM g u' ∧ rfQ u u') ∧ ∃ u', Call prog clsT X (d + 9) 210 [(2, 89), (0, (e : Int)), (0, (j : Int))] (mk E c s (hh u)) = some ((0, if 0 < plv g w (fun e => mj e j) t (g 99 e) (nE g) 0 e then plv g w (fun e => mj e j) t (g 99 e) (nE g) 0 e else -1), mk E c s (hh u')) ∧ onM g u' ∧ rfQ u u' := by
  obtain ⟨w, t, mj, ev⟩ := EV X h
  have hle := h.1.1.1.rn.le
  have hn := h.1.1.1.n
  have hn2 := h.1.1.1.n2
  obtain ⟨rb, hb, _⟩ := h.1.2.2.2.2.2.1
  refine ⟨w, t, mj, fun e he => (ev e he).2.1, fun j hj => ?_⟩
  generalize hm : (fun e => mj e j) = m
  have em : ∀ e, mj e j = m e := fun e => congrFun hm e
  refine ⟨fun k hk d c s u hu => ?_, fun e he d c s u hu => ⟨(ev e he).2.2.2 d c s u hu |>.1, ?_⟩⟩
  · -- the class
    obtain ⟨rv, hrv, h97⟩ : ∃ rv : Int, rv = g 16 k ∧ Call prog clsT X (d + 5) 97 [(2, 0), (0, (k : Int))] (mk E c s (hh u)) = some ((2, rv), mk E c s (hh u)) := ⟨_, rfl, by
      rw [show d + 5 = (d + 3) + 2 from rfl, c97 X E c s (d + 3), if_pos (by omega), Int.toNat_natCast, hu 16 k rfl]⟩
    have loop : ∀ (p i : Nat) (u1 : Gm), i + p = nE g → onC g u1 → clQ u u1 → (∀ x, x < 40 → u1 56 x = if x < i then plv g w m t k 0 0 x else 0) → (∀ x, x < i → inK g w k x → u1 58 x = m x ∧ u1 59 x = t x) → ∃ u', Ev prog clsT X (d + 5) mc107 9 [(2, 0), (0, (k : Int)), (0, (j : Int)), (2, rv), (0, (i : Int))] [] (mk E c s (hh u1)) = some ((3, 0), mk E c s (hh u')) ∧ onC g u' ∧ clQ u u' ∧ ∀ x, x < 40 → u' 56 x = plv g w m t k (nE g) 0 x := by
      intro p
      induction p with
      | zero =>
        intro i u1 hp hu1 hc h56 hmt
        have hp : i = nE g := by omega
        subst hp
        obtain ⟨u', a1, a3, a4⟩ := c3 X h w m t k (d + 3) c s u1 (fun x hx => by
          rw [h56 x hx]
          by_cases z : x < nE g
          · rw [if_pos z]
          · rw [if_neg z]; exact (if_neg (fun y => z y.1)).symm) (fun x hx => hmt x hx.1 hx)
        refine ⟨u', ?_, onC_cl hu1 a3, clQ_tr hc a3, a4⟩
        rw [r107_9, hu1 30 0 rfl, hn, cmp_ge, if_pos (Int.le_refl _), call3 a1, push3, r107_53]
      | succ p ih =>
        intro i u1 hp hu1 hc h56 hmt
        have hi : i < nE g := by omega
        obtain ⟨w1, _, cs, _⟩ := ev i hi
        have cs := cs j hj
        rw [em] at cs
        have i40 : 0 ≤ (i : Int) ∧ (i : Int) < ((40 : Nat) : Int) := by omega
        have s22 := c22Y X h hi hu1 c s (d + 3) (k : Int)
        have hnot : ∀ u2, ¬ inK g w k i → onC g u2 → off2 u1 u2 → ∃ u', Ev prog clsT X (d + 5) mc107 45 [(2, 0), (0, (k : Int)), (0, (j : Int)), (2, rv), (0, (i : Int))] [] (mk E c s (hh u2)) = some ((3, 0), mk E c s (hh u')) ∧ onC g u' ∧ clQ u u' ∧ ∀ x, x < 40 → u' 56 x = plv g w m t k (nE g) 0 x := fun u2 hk2 hu2 ho => by
          rw [r107_45, w32_succ (by omega)]
          refine ih (i + 1) u2 (by omega) hu2 (clQ_tr hc (fun x i hx => ho x i (by omega) (by omega))) (fun x hx => ?_) (fun x hx hk3 => ?_)
          · rw [ho 56 x (by decide) (by decide), h56 x hx]
            by_cases z : x < i
            · rw [if_pos z, if_pos (by omega)]
            · rw [if_neg z]
              by_cases z2 : x < i + 1
              · have : x = i := by omega
                subst this
                rw [if_pos z2]
                exact (if_neg hk2).symm
              · rw [if_neg z2]
          · have : x ≠ i := fun z => by subst z; exact hk2 hk3
            rw [ho 58 x (by decide) (by decide), ho 59 x (by decide) (by decide)]
            exact hmt x (by omega) hk3
        rw [r107_9, hu1 30 0 rfl, hn, cmp_ge, if_neg (by omega), call0 s22, push0, r107_19, cmp_ne]
        by_cases q : g 104 i = 0 ∧ g 99 i = k
        · rw [bI_t q, if_pos (by decide)]
          obtain ⟨k', _, r, h99, _, _, _, h16, _⟩ := ent h hi
          have : k' = k := by have := q.2; rw [h99] at this; omega
          subst this
          have hr : rv = r := by rw [hrv]; exact h16
          obtain ⟨u2, u3, b1, b2, b3, b4, b5, u4, u5, b6, b7, b8, b9⟩ := cs k' r rb h99 h16 hb d c s u1 hu1
          rw [call3 b1, push3, r107_24, b3 0 3 rfl, hb, hr, call0 b2, push0, r107_30, cmp_ne, ← hr]
          by_cases q2 : w i = -1
          · have hin : inK g w k' i := ⟨hi, q.1, q.2, q2⟩
            rw [if_neg (fun z => z q2), hr, call0 b6, push0, r107_39, call0 b7, push0, r107_44]
            have c2 : Call prog clsT X (d + 5) 2 [(2, 55), (0, (i : Int)), (0, m i), (0, t i)] (mk E c s (hh u5)) = some ((3, 0), mk E c s (hh (up (up (up u5 56 i 1) 58 i (m i)) 59 i (t i)))) := by
              rw [show d + 5 = (d + 4) + 1 from rfl, rc2_, inb_is, if_pos i40, inb_is, if_pos i40, inb_is, if_pos i40, Int.toNat_natCast]
            rw [call3 c2, push3, r107_45, w32_succ (by omega), ← hr]
            refine ih (i + 1) _ (by omega) (onC_up (onC_up (onC_up b8 rfl) rfl) rfl) (clQ_tr hc (fun x y hx => ?_)) (fun x hx => ?_) (fun x hx hk3 => ?_)
            · rw [up_ne (fun z => hx (by omega)), up_ne (fun z => hx (by omega)), up_ne (fun z => hx (by omega))]
              exact b9 x y (by omega) (by omega)
            · rw [up_cell (by decide), up_cell (by decide), up_at, b9 56 x (by decide) (by decide), h56 x hx]
              by_cases z : x = i
              · subst z
                rw [if_pos rfl, if_pos (by omega)]
                unfold plv pls
                rw [if_pos hin]
                show (1 : Int) = 1 + sm _ (if x < 0 then nE g else if x = 0 then 0 else 0)
                rw [if_neg (Nat.not_lt_zero _), ite_self]
                rfl
              · rw [if_neg z]
                by_cases z2 : x < i
                · rw [if_pos z2, if_pos (by omega)]
                · rw [if_neg z2, if_neg (by omega)]
            · rw [up_cell (by decide), up_at, up_at]
              by_cases z : x = i
              · subst z
                rw [if_pos rfl, if_pos rfl]
                exact ⟨rfl, rfl⟩
              · rw [if_neg z, if_neg z, up_cell (by decide), up_cell (by decide), up_cell (by decide), b9 58 x (by decide) (by decide), b9 59 x (by decide) (by decide)]
                exact hmt x (by omega) hk3
          · rw [if_pos q2]
            exact hnot u3 (fun z => q2 z.2.2.2) b4 b5
        · rw [bI_f q, if_neg (by decide)]
          exact hnot u1 (fun z => q ⟨z.2.1, z.2.2.1⟩) hu1 (off2_refl u1)
    have e56 : ∀ i, scC 56 i = true := fun i => rfl
    have hf : onC u (fil u 56 40 0) := onC_cell (onC_refl u) e56 (fun x i hx => if_neg (fun z => hx z.1))
    obtain ⟨u', a1, a2, a3, a4⟩ := loop (nE g) 0 (fil u 56 40 0) (by omega) (onC_cell hu e56 (fun x i hx => if_neg (fun z => hx z.1))) (fun x i hx => if_neg (fun z => hx (by omega))) (fun x hx => by rw [if_neg (Nat.not_lt_zero _)]; exact if_pos ⟨rfl, hx⟩) (fun x hx => absurd hx (Nat.not_lt_zero _))
    refine ⟨u', ?_, a2, a3, a4⟩
    have c1 : Call prog clsT X (d + 5) 1 [(2, 55)] (mk E c s (hh u)) = some ((3, 0), mk E c s (hh (fil u 56 40 0))) := by
      rw [show d + 5 = (d + 4) + 1 from rfl, rc1_, call3 (show Call prog clsT X (d + 4) 248 [(2, 56), (0, 0)] (mk E c s (hh u)) = _ from m248 X E c s CA56 (by decide) (d + 3) 0), push3, r1_4]
    rw [rc107_, call2 h97, push2, r107_3, call3 c1, push3, r107_7]
    exact a1
  · -- the reference
    have ms0' : ∀ e : Nat, (∀ d c s u, onM g u → (∃ u', Call prog clsT X (d + 8) 211 [(2, 89), (0, (e : Int))] (mk E c s (hh u)) = some ((0, bI (g 104 e = 0 ∧ w e = -1)), mk E c s (hh u')) ∧ onM g u' ∧ rfQ u u') ∧ (∀ j : Nat, j < 4 → ∃ u', Call prog clsT X (d + 8) 206 [(2, 89), (0, (e : Int)), (0, (j : Int))] (mk E c s (hh u)) = some ((0, mj e j), mk E c s (hh u')) ∧ onM g u' ∧ rfQ u u') ∧ ∃ u', Call prog clsT X (d + 8) 212 [(2, 89), (0, (e : Int))] (mk E c s (hh u)) = some ((0, t e), mk E c s (hh u')) ∧ onM g u' ∧ rfQ u u') → ∀ d c s u, onM g u → (∃ u', Call prog clsT X (d + 8) 211 [(2, 89), (0, (e : Int))] (mk E c s (hh u)) = some ((0, bI (g 104 e = 0 ∧ w e = -1)), mk E c s (hh u')) ∧ onM g u' ∧ rfQ u u') ∧ (∃ u', Call prog clsT X (d + 8) 206 [(2, 89), (0, (e : Int)), (0, (j : Int))] (mk E c s (hh u)) = some ((0, m e), mk E c s (hh u')) ∧ onM g u' ∧ rfQ u u') ∧ ∃ u', Call prog clsT X (d + 8) 212 [(2, 89), (0, (e : Int))] (mk E c s (hh u)) = some ((0, t e), mk E c s (hh u')) ∧ onM g u' ∧ rfQ u u' := fun e hz d c s u hu => by
      obtain ⟨z1, z2, z3⟩ := hz d c s u hu
      exact ⟨z1, em e ▸ z2 j hj, z3⟩
    have i40 : 0 ≤ (e : Int) ∧ (e : Int) < ((40 : Nat) : Int) := by omega
    obtain ⟨w1, _, _, ms0⟩ := ev e he
    have ms := ms0' e ms0
    obtain ⟨⟨u1, a1, a2, a3⟩, _, _⟩ := ms d c s u hu
    obtain ⟨_, ⟨u2, b1, b2, b3⟩, _⟩ := ms d c s u1 a2
    obtain ⟨_, _, ⟨u3, c1, c2, c3⟩⟩ := ms d c s u2 b2
    rw [rc210_, call0 a1, push0, r210_3, cmp_ne]
    by_cases q : g 104 e = 0 ∧ w e = -1
    case neg =>
      rw [bI_f q, if_neg (by decide)]
      have : plv g w m t (g 99 e) (nE g) 0 e = 0 := if_neg (fun z => q ⟨z.2.1, z.2.2.2⟩)
      rw [this, if_neg (by decide)]
      exact ⟨u1, rfl, a2, a3⟩
    have hin : inK g w (g 99 e) e := ⟨he, q.1, rfl, q.2⟩
    have hv : plv g w m t (g 99 e) (nE g) 0 e = 1 + pls g w m t (g 99 e) e (nE g) := by
      unfold plv
      rw [if_pos hin, if_pos he]
    have h0 := sm_bound (f := fun a => bI (inK g w (g 99 e) a ∧ bt m t a e)) (a := 0) (b := 1) (n := nE g) (fun j _ => bI_b _)
    have hpos : 0 < plv g w m t (g 99 e) (nE g) 0 e := by
      rw [hv]; unfold pls; omega
    rw [bI_t q, if_pos (by decide), call0 b1, push0, r210_10, call0 c1, push0, r210_14, if_pos hpos, hv]
    have loop : ∀ (p i : Nat) (w7 : MV) (u4 : Gm), i + p = nE g → onM g u4 → rfQ u u4 → ∃ u', Ev prog clsT X (d + 8) mc210 19 [(2, 89), (0, (e : Int)), (0, (j : Int)), (0, m e), (0, t e), (0, 1 + pls g w m t (g 99 e) e i), (0, (i : Int)), w7] [] (mk E c s (hh u4)) = some ((0, 1 + pls g w m t (g 99 e) e (nE g)), mk E c s (hh u')) ∧ onM g u' ∧ rfQ u u' := by
      intro p
      induction p with
      | zero =>
        intro i w7 u4 hp hu4 hr
        have hp : i = nE g := by omega
        subst hp
        refine ⟨u4, ?_, hu4, hr⟩
        rw [r210_19, hu4 89 10 rfl, hn2, cmp_ge, if_pos (Int.le_refl _)]
      | succ p ih =>
        intro i w7 u4 hp hu4 hr
        have hi : i < nE g := by omega
        have j40 : 0 ≤ (i : Int) ∧ (i : Int) < ((40 : Nat) : Int) := by omega
        obtain ⟨v1, _, _, ns0⟩ := ev i hi
        have ns := ms0' i ns0
        have step : ∀ v, v = bI (inK g w (g 99 e) i ∧ bt m t i e) → w32 (1 + pls g w m t (g 99 e) e i + v) = 1 + pls g w m t (g 99 e) e (i + 1) := fun v hv => sm1_step hv (fun j => bI_b _) (by omega)
        have same : ¬ (inK g w (g 99 e) i ∧ bt m t i e) → pls g w m t (g 99 e) e (i + 1) = pls g w m t (g 99 e) e i := fun hz => by
          show sm _ i + bI (inK g w (g 99 e) i ∧ bt m t i e) = _
          rw [bI_f hz, Int.add_zero]
          rfl
        have skip : ¬ (inK g w (g 99 e) i ∧ bt m t i e) → ∀ (w8 : MV) (u5 : Gm), onM g u5 → rfQ u u5 → ∃ u', Ev prog clsT X (d + 8) mc210 19 [(2, 89), (0, (e : Int)), (0, (j : Int)), (0, m e), (0, t e), (0, 1 + pls g w m t (g 99 e) e i), (0, ((i + 1 : Nat) : Int)), w8] [] (mk E c s (hh u5)) = some ((0, 1 + pls g w m t (g 99 e) e (nE g)), mk E c s (hh u')) ∧ onM g u' ∧ rfQ u u' := fun hz w8 u5 h5 r5 => by
          rw [← same hz]
          exact ih (i + 1) w8 u5 (by omega) h5 r5
        rw [r210_19, hu4 89 10 rfl, hn2, cmp_ge, if_neg (by omega), cmp_eq, w32_succ (by omega)]
        by_cases z1 : (i : Int) = (e : Int)
        · have : i = e := by omega
          rw [if_pos z1]
          exact skip (fun z => by rw [this] at z; rcases z.2 with y | y <;> omega) _ u4 hu4 hr
        · rw [if_neg z1, inb_is, if_pos j40, inb_is, if_pos i40, Int.toNat_natCast, Int.toNat_natCast, cmp_ne, hu4 99 i rfl, hu4 99 e rfl]
          by_cases z2 : g 99 i = g 99 e
          case neg =>
            rw [if_pos z2]
            exact skip (fun z => z2 z.1.2.2.1) _ u4 hu4 hr
          rw [if_neg (fun z => z z2)]
          obtain ⟨⟨u5, d1, d2, d3⟩, _, _⟩ := ns d c s u4 hu4
          rw [call0 d1, push0, r210_38, cmp_ne]
          by_cases z3 : g 104 i = 0 ∧ w i = -1
          case neg =>
            rw [bI_f z3, if_neg (by decide), w32_succ (by omega)]
            exact skip (fun z => z3 ⟨z.1.2.1, z.1.2.2.2⟩) _ u5 d2 (rfQ_tr hr d3)
          obtain ⟨_, ⟨u6, e1, e2, e3⟩, _⟩ := ns d c s u5 d2
          have hii : inK g w (g 99 e) i := ⟨hi, z3.1, z2, z3.2⟩
          rw [bI_t z3, if_pos (by decide), call0 e1, push0, r210_44, cmp_gt]
          by_cases z4 : m e < m i
          · rw [if_pos z4, step 1 (bI_t ⟨hii, Or.inl z4⟩).symm, w32_succ (by omega)]
            exact ih (i + 1) _ u6 (by omega) e2 (rfQ_tr hr (rfQ_tr d3 e3))
          · rw [if_neg z4, cmp_ne]
            by_cases z5 : m i = m e
            case neg =>
              rw [if_pos z5, step 0 (bI_f (fun z => by rcases z.2 with y | y <;> omega)).symm, w32_succ (by omega)]
              exact ih (i + 1) _ u6 (by omega) e2 (rfQ_tr hr (rfQ_tr d3 e3))
            obtain ⟨_, _, ⟨u7, f1, f2, f3⟩⟩ := ns d c s u6 e2
            rw [if_neg (fun z => z z5), call0 f1, push0, r210_55, cmp_le, w32_succ (by omega)]
            by_cases z6 : t i ≤ t e
            · rw [if_pos z6, step 0 (bI_f (fun z => by rcases z.2 with y | y <;> omega)).symm]
              exact ih (i + 1) _ u7 (by omega) f2 (rfQ_tr hr (rfQ_tr d3 (rfQ_tr e3 f3)))
            · rw [if_neg z6, step 1 (bI_t ⟨hii, Or.inr ⟨z5, by omega⟩⟩).symm]
              exact ih (i + 1) _ u7 (by omega) f2 (rfQ_tr hr (rfQ_tr d3 (rfQ_tr e3 f3)))
    obtain ⟨u', l1, l2, l3⟩ := loop (nE g) 0 (3, 0) u3 (by omega) c2 (rfQ_tr a3 (rfQ_tr b3 c3))
    exact ⟨u', l1, l2, l3⟩
theorem RK {N : Int} (h : ST N E g) : ∃ (w t : Nat → Int) (mj : Nat → Nat → Int), ∀ j : Nat, j < 4 → (∀ k : Nat, k < 10 → ∀ d c s u, onQ g u → ∃ u', Call prog clsT X (d + 6) 107 [(2, 0), (0, (k : Int)), (0, (j : Int))] (mk E c s (hh u)) = some ((3, 0), mk E c s (hh u')) ∧ onQ g u' ∧ clQ u u' ∧ ∀ x, x < 40 → u' 56 x = plv g w (fun e => mj e j) t k (nE g) 0 x) ∧ ∀ e, e < nE g → ∀ d c s u, onQ g u → (∃ u', Call prog clsT X (d + 8) 211 [(2, 89), (0, (e : Int))] (mk E c s (hh u)) = some ((0, bI (g 104 e = 0 ∧ w e = -1)), mk E c s (hh u')) ∧ onQ g u' ∧ rfQ u u') ∧ ∃ u', Call prog clsT X (d + 9) 210 [(2, 89), (0, (e : Int)), (0, (j : Int))] (mk E c s (hh u)) = some ((0, if 0 < plv g w (fun e => mj e j) t (g 99 e) (nE g) 0 e then plv g w (fun e => mj e j) t (g 99 e) (nE g) 0 e else -1), mk E c s (hh u')) ∧ onQ g u' ∧ rfQ u u' := by
  obtain ⟨w, t, mj, _, rk⟩ := RKx X h
  refine ⟨w, t, mj, fun j hj => ⟨fun k hk d c s u hu => ?_, fun e he d c s u hu => ?_⟩⟩
  · obtain ⟨u', a1, _, a3, a4⟩ := (rk j hj).1 k hk d c s u (C_of hu)
    exact ⟨u', a1, onQ_cl hu a3, a3, a4⟩
  · obtain ⟨⟨u', a1, _, a3⟩, ⟨u2, b1, _, b3⟩⟩ := (rk j hj).2 e he d c s u (M_of hu)
    exact ⟨⟨u', a1, onQ_rf hu a3, a3⟩, ⟨u2, b1, onQ_rf hu b3, b3⟩⟩
end RANK
