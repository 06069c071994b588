/-! Part 9y: place and span. -/
section SPAN
variable (X : MExt) {E : List (Nat × Nat)} {g : Gm}
theorem kinP_Q {u : Gm} (h : onQ g u) (j k : Int) : kinP u j k ↔ kinP g j k := by
  have : ∀ e, kinAt u j k e ↔ kinAt g j k e := fun e => by
    unfold kinAt
    rw [h 104 e rfl, h 99 e rfl, h 100 e rfl, h 91 _ rfl, h 128 _ rfl]
  constructor
  · rintro ⟨e, h1, h2⟩
    exact ⟨e, by rw [← nE_Q h]; exact h1, (this e).1 h2⟩
  · rintro ⟨e, h1, h2⟩
    exact ⟨e, by rw [nE_Q h]; exact h1, (this e).2 h2⟩
/-- placeBy on both sides -/
theorem plN {N : Int} (h : ST N E g) {e : Nat} (he : e < nE g) : ∃ (I : Int) (v : Nat → Int), (I = 0 ∨ I = 1) ∧ (g 104 e ≠ 0 → I = 0) ∧ (∀ d c s u, onQ g u → ∃ u', Call prog clsT X (d + 8) 211 [(2, 89), (0, (e : Int))] (mk E c s (hh u)) = some ((0, I), mk E c s (hh u')) ∧ onQ g u' ∧ rfQ u u') ∧ ∀ j : Nat, j < 4 → (I = 0 → v j = -1) ∧ (I = 1 → 1 ≤ v j) ∧ (∀ d c s u, onQ g u → ∃ u', Call prog clsT X (d + 7) 106 [(2, 0), (0, (e : Int)), (0, (j : Int))] (mk E c s (hh u)) = some ((0, v j), mk E c s (hh u')) ∧ onQ g u' ∧ clQ u u') ∧ ∀ d c s u, onQ g u → ∃ u', Call prog clsT X (d + 9) 210 [(2, 89), (0, (e : Int)), (0, (j : Int))] (mk E c s (hh u)) = some ((0, v j), mk E c s (hh u')) ∧ onQ g u' ∧ rfQ u u' := by
  obtain ⟨w, t, mj, rk⟩ := RK X h
  obtain ⟨k, _, _, h99, _, hk, _⟩ := ent h he
  have hle := h.1.1.1.rn.le
  have i40 : 0 ≤ (e : Int) ∧ (e : Int) < ((40 : Nat) : Int) := by omega
  have e31 : ∀ e : Nat, g 31 e = g 99 e := by
    obtain ⟨_, _, _, _, _, e31, _⟩ := h.1.1.1
    exact e31
  refine ⟨bI (g 104 e = 0 ∧ w e = -1), fun j => if 0 < plv g w (fun e => mj e j) t (g 99 e) (nE g) 0 e then plv g w (fun e => mj e j) t (g 99 e) (nE g) 0 e else -1, bI_01 _, fun z => bI_f (fun y => z y.1), fun d c s u hu => ((rk 0 (by decide)).2 e he d c s u hu).1, fun j hj => ⟨fun z => ?_, fun z => ?_, fun d c s u hu => ?_, fun d c s u hu => ((rk j hj).2 e he d c s u hu).2⟩⟩
  · have hz : ¬ (g 104 e = 0 ∧ w e = -1) := fun y => by rw [bI_t y] at z; cases z
    have : plv g w (fun e => mj e j) t (g 99 e) (nE g) 0 e = 0 := if_neg (fun y => hz ⟨y.2.1, y.2.2.2⟩)
    dsimp only
    rw [this, if_neg (by decide)]
  · have hz : g 104 e = 0 ∧ w e = -1 := by
      by_cases y : g 104 e = 0 ∧ w e = -1
      · exact y
      · rw [bI_f y] at z; cases z
    have h0 := sm_bound (f := fun a => bI (inK g w (g 99 e) a ∧ bt (fun e => mj e j) t a e)) (a := 0) (b := 1) (n := nE g) (fun j _ => bI_b _)
    have : 0 < plv g w (fun e => mj e j) t (g 99 e) (nE g) 0 e := by
      unfold plv pls
      rw [if_pos ⟨he, hz.1, rfl, hz.2⟩, if_pos he]
      omega
    dsimp only
    rw [if_pos this]
    omega
  · obtain ⟨u', a1, a2, a3, a4⟩ := (rk j hj).1 k hk d c s u hu
    refine ⟨u', ?_, a2, a3⟩
    rw [rc106_, inb_is, if_pos i40, Int.toNat_natCast, hu 31 e rfl, e31, h99, call3 a1, push3, r106_8, inb_is, if_pos i40, Int.toNat_natCast, cmp_le, a4 e (by omega)]
    dsimp only
    by_cases z : 0 < plv g w (fun e => mj e j) t (k : Int) (nE g) 0 e
    · rw [if_neg (by omega), inb_is, if_pos i40, if_pos z]
    · rw [if_pos (by omega), if_neg z]
theorem c19Q {N : Int} (h : ST N E g) (d c s : Nat) (x : Int) {u : Gm} (hu : onQ g u) : Call prog clsT X (d + 2) 19 [(2, 30), (0, x)] (mk E c s (hh u)) = some ((0, bI (0 ≤ x ∧ x < nE g ∧ g 104 x.toNat = 0)), mk E c s (hh u)) := by
  rw [c19 X E c s (ST_Q h hu).1.1.1 d x, nE_Q hu, hu 104 _ rfl]
theorem c34Q {N : Int} (h : ST N E g) (d c s : Nat) (x : Int) {u : Gm} (hu : onQ g u) : Call prog clsT X (d + 2) 34 [(2, 36), (0, x)] (mk E c s (hh u)) = some ((0, bI (0 ≤ x ∧ x ≤ 3 ∧ g 127 x.toNat ≠ 0)), mk E c s (hh u)) := by
  rw [c34 X E c s (ST_Q h hu).1.1.2.2.1 d x, hu 127 _ rfl]
theorem m202Q (d c s : Nat) (x : Int) {u : Gm} (hu : onQ g u) : Call prog clsT X (d + 2) 202 [(2, 89), (0, x)] (mk E c s (hh u)) = some ((0, bI (0 ≤ x ∧ x ≤ 3 ∧ g 127 x.toNat ≠ 0)), mk E c s (hh u)) := by
  rw [m202 X E c s d x, hu 127 _ rfl]
theorem m162Q {N : Int} (h : ST N E g) (d c s : Nat) (x : Int) {u : Gm} (hu : onQ g u) : Call prog clsT X (d + 1) 162 [(2, 89), (0, x)] (mk E c s (hh u)) = some ((0, bI (0 ≤ x ∧ x < nE g)), mk E c s (hh u)) := by
  rw [m162 X E c s (RN_Q h hu) d x, nE_Q hu]
/-- the place by a judge; -1 by whoever judges the class -/
theorem op_place (x1 x2 : Int) : OpV X 105 208 11 [(0, x1), (0, x2)] := by
  intro N E c s d g h
  have hle := h.1.1.1.rn.le
  have g0 := onQ_0 (onQ_refl g) 0
  have hre := h.1.1.1
  have e31 : ∀ e : Nat, g 31 e = g 99 e := by
    obtain ⟨_, _, _, _, _, e31, _⟩ := hre
    exact e31
  have e39 : ∀ k : Nat, g 39 k = g 130 k := h.1.1.2.2.1.2.2.2.2.2.2.1
  have cS : Call prog clsT X (d + 10) 19 [(2, 30), (0, x1)] (mk E c s (hh g)) = _ := c19Q X h (d + 8) c s x1 (onQ_refl g)
  by_cases q : 0 ≤ x1 ∧ x1 < nE g
  case neg =>
    refine ⟨-1, g, up g 89 0 0, g0, ?_, ?_⟩
    · rw [rc105_, call0 cS, push0, bI_f (fun z => q ⟨z.1, z.2.1⟩), r105_4, cmp_ne, if_neg (by decide)]
    · rw [rc208_, call0 (show Call prog clsT X (d + 10) 162 _ _ = _ from m162Q X h (d + 9) c s x1 g0), push0, bI_f q, r208_6, cmp_eq, if_pos rfl]
  obtain ⟨e, rfl⟩ := Int.eq_ofNat_of_zero_le q.1
  have he : e < nE g := by omega
  have i40 : 0 ≤ (e : Int) ∧ (e : Int) < ((40 : Nat) : Int) := by omega
  obtain ⟨k, _, _, h99, _, hk, _⟩ := ent h he
  have i10 : 0 ≤ (k : Int) ∧ (k : Int) < ((10 : Nat) : Int) := by omega
  obtain ⟨I, v, hI, hI0, vI, hv⟩ := plN X h he
  have startM : ∀ u, onQ g u → Call prog clsT X (d + 11) 208 [(2, 89), (0, (e : Int)), (0, x2)] (mk E c s (hh u)) = Ev prog clsT X (d + 10) mc208 6 [(2, 89), (0, (e : Int)), (0, x2)] [(0, 1)] (mk E c s (hh (up u 89 0 0))) := fun u hu => by
    rw [rc208_, call0 (show Call prog clsT X (d + 10) 162 _ _ = _ from m162Q X h (d + 9) c s (e : Int) (onQ_0 hu 0)), push0, bI_t q]
  -- what the reference answers for a judge j, told or not
  have refJ : ∀ u, onQ g u → ∀ j : Nat, j < 4 → ∃ u', Call prog clsT X (d + 9) 210 [(2, 89), (0, (e : Int)), (0, (j : Int))] (mk E c s (hh u)) = some ((0, v j), mk E c s (hh u')) ∧ onQ g u' := fun u hu j hj => by
    obtain ⟨u', z1, z2, _⟩ := (hv j hj).2.2.2 d c s u hu
    exact ⟨u', z1, z2⟩
  have refJ' : ∀ u, onQ g u → ∀ j : Nat, j < 4 → ∃ u', Call prog clsT X (d + 10) 210 [(2, 89), (0, (e : Int)), (0, (j : Int))] (mk E c s (hh u)) = some ((0, v j), mk E c s (hh u')) ∧ onQ g u' := fun u hu j hj => by
    obtain ⟨u', z1, z2, _⟩ := (hv j hj).2.2.2 (d + 1) c s u hu
    exact ⟨u', z1, z2⟩
  -- which judge
  generalize hJ : (if x2 = -1 then g 130 k else x2) = J
  have refA : ∀ u, onQ g u → ∃ u', Call prog clsT X (d + 11) 208 [(2, 89), (0, (e : Int)), (0, x2)] (mk E c s (hh u)) = some ((0, if 0 ≤ J ∧ J ≤ 3 ∧ g 127 J.toNat ≠ 0 then v J.toNat else -1), mk E c s (hh u')) ∧ onQ g u' := fun u hu => by
    have u0 := onQ_0 hu 0
    rw [startM u hu, r208_6, cmp_eq, if_neg (by decide), cmp_eq]
    by_cases y : x2 = -1
    · rw [if_pos y] at hJ
      subst hJ
      have b130 := h.1.1.2.2.1.2.2.2.2.2.2.2.1 k hk
      have t127 := h.2.2.2.1 k hk
      have s209 : ∃ u', Call prog clsT X (d + 10) 209 [(2, 89), (0, (e : Int))] (mk E c s (hh (up u 89 0 0))) = some ((0, if 0 ≤ g 130 k ∧ g 130 k ≤ 3 ∧ g 127 (g 130 k).toNat ≠ 0 then v (g 130 k).toNat else -1), mk E c s (hh u')) ∧ onQ g u' := by
        rw [rc209_, inb_is, if_pos i40, Int.toNat_natCast, u0 99 e rfl, h99, inb_is, if_pos i10, Int.toNat_natCast, u0 130 k rfl, cmp_ge]
        by_cases y2 : 0 ≤ g 130 k
        · obtain ⟨j, hj⟩ := Int.eq_ofNat_of_zero_le y2
          obtain ⟨u', z1, z2⟩ := refJ _ u0 j (by omega)
          rw [if_pos y2, inb_is, if_pos i40, inb_is, if_pos i10, if_pos ⟨y2, b130.2, t127 y2⟩, hj, call0 z1, push0, r209_20, Int.toNat_natCast]
          exact ⟨u', rfl, z2⟩
        · rw [if_neg y2, if_neg (fun z => y2 z.1), r209_20]
          exact ⟨_, rfl, u0⟩
      obtain ⟨u', z1, z2⟩ := s209
      rw [if_pos y, cmp_ne, if_neg (fun z => z y), call0 z1, push0, r208_22, r208_27]
      exact ⟨u', rfl, z2⟩
    · rw [if_neg y] at hJ
      subst hJ
      rw [if_neg y, call0 (show Call prog clsT X (d + 10) 202 _ _ = _ from m202Q X (d + 8) c s x2 u0), push0, r208_13, cmp_ne]
      by_cases y2 : 0 ≤ x2 ∧ x2 ≤ 3 ∧ g 127 x2.toNat ≠ 0
      · obtain ⟨j, rfl⟩ := Int.eq_ofNat_of_zero_le y2.1
        obtain ⟨u', z1, z2⟩ := refJ' _ u0 j (by omega)
        rw [bI_t y2, if_pos (by decide), cmp_ne, if_pos y, if_pos y2, call0 z1, push0, r208_27, Int.toNat_natCast]
        exact ⟨u', rfl, z2⟩
      · rw [bI_f y2, if_neg (by decide), if_neg y2]
        exact ⟨_, rfl, u0⟩
  by_cases q4 : g 104 e = 0
  case neg =>
    have hm1 : (if 0 ≤ J ∧ J ≤ 3 ∧ g 127 J.toNat ≠ 0 then v J.toNat else -1) = -1 := by
      by_cases y : 0 ≤ J ∧ J ≤ 3 ∧ g 127 J.toNat ≠ 0
      · rw [if_pos y]; exact (hv J.toNat (by omega)).1 (hI0 q4)
      · rw [if_neg y]
    obtain ⟨g2, b1, b2⟩ := refA g (onQ_refl g)
    rw [hm1] at b1
    refine ⟨-1, g, g2, b2, ?_, b1⟩
    rw [rc105_, call0 cS, push0, Int.toNat_natCast, bI_f (fun z => q4 z.2.2), r105_4, cmp_ne, if_neg (by decide)]
  have clsA : ∃ u', Call prog clsT X (d + 11) 105 [(2, 0), (0, (e : Int)), (0, x2)] (mk E c s (hh g)) = some ((0, if 0 ≤ J ∧ J ≤ 3 ∧ g 127 J.toNat ≠ 0 then v J.toNat else -1), mk E c s (hh u')) ∧ onQ g u' := by
    have fin : ∃ u', Ev prog clsT X (d + 10) mc105 28 [(2, 0), (0, (e : Int)), (0, x2), (0, (k : Int)), (0, J)] [(0, bI (0 ≤ J ∧ J ≤ 3 ∧ g 127 J.toNat ≠ 0))] (mk E c s (hh g)) = some ((0, if 0 ≤ J ∧ J ≤ 3 ∧ g 127 J.toNat ≠ 0 then v J.toNat else -1), mk E c s (hh u')) ∧ onQ g u' := by
      rw [r105_28, cmp_eq]
      by_cases y : 0 ≤ J ∧ J ≤ 3 ∧ g 127 J.toNat ≠ 0
      · obtain ⟨j, rfl⟩ := Int.eq_ofNat_of_zero_le y.1
        obtain ⟨u', z1, z2, _⟩ := (hv j (by omega)).2.2.1 (d + 3) c s g (onQ_refl g)
        rw [bI_t y, if_neg (by decide), if_pos y, call0 z1, push0, r105_33, Int.toNat_natCast]
        exact ⟨u', rfl, z2⟩
      · rw [bI_f y, if_pos rfl, if_neg y]
        exact ⟨g, rfl, onQ_refl g⟩
    rw [rc105_, call0 cS, push0, Int.toNat_natCast, bI_t ⟨q.1, q.2, q4⟩, r105_4, cmp_ne, if_pos (by decide), inb_is, if_pos i40, Int.toNat_natCast, e31, h99, cmp_ne]
    by_cases y : x2 = -1
    · rw [if_pos y] at hJ
      rw [if_neg (fun z => z y), inb_is, if_pos i10, Int.toNat_natCast, e39, hJ, call0 (show Call prog clsT X (d + 10) 34 _ _ = _ from c34Q X h (d + 8) c s J (onQ_refl g)), push0]
      exact fin
    · rw [if_neg y] at hJ
      rw [if_pos y, hJ, call0 (show Call prog clsT X (d + 10) 34 _ _ = _ from c34Q X h (d + 8) c s J (onQ_refl g)), push0, ← hJ]
      rw [← hJ] at fin
      exact fin
  obtain ⟨g1, a1, a2⟩ := clsA
  obtain ⟨g2, b1, b2⟩ := refA g1 a2
  exact ⟨_, g1, g2, b2, a1, b1⟩
theorem op_span (x1 x2 : Int) : OpV X 111 214 10 [(0, x1), (0, x2)] := by
  intro N E c s d g h
  have hle := h.1.1.1.rn.le
  have g0 := onQ_0 (onQ_refl g) 0
  have e31 : ∀ e : Nat, g 31 e = g 99 e := by
    obtain ⟨_, _, _, _, _, e31, _⟩ := h.1.1.1
    exact e31
  have cS : Call prog clsT X (d + 9) 19 [(2, 30), (0, x1)] (mk E c s (hh g)) = _ := c19Q X h (d + 7) c s x1 (onQ_refl g)
  by_cases q : 0 ≤ x1 ∧ x1 < nE g
  case neg =>
    refine ⟨-1, g, up g 89 0 0, g0, ?_, ?_⟩
    · rw [rc111_, call0 cS, push0, bI_f (fun z => q ⟨z.1, z.2.1⟩), r111_4, cmp_eq, if_pos rfl]
    · rw [rc214_, call0 (show Call prog clsT X (d + 9) 162 _ _ = _ from m162Q X h (d + 8) c s x1 g0), push0, bI_f q, r214_6, cmp_eq, if_pos rfl]
  by_cases q2 : 0 ≤ x2 ∧ x2 ≤ 1
  case neg =>
    refine ⟨-1, g, up g 89 0 0, g0, ?_, ?_⟩
    · rw [rc111_, call0 cS, push0]
      by_cases z : 0 ≤ x1 ∧ x1 < nE g ∧ g 104 x1.toNat = 0
      · rw [bI_t z, r111_4, cmp_eq, if_neg (by decide), call0 (show Call prog clsT X (d + 9) 90 _ _ = _ from c90 X E c s (d + 8) _ _ _), push0, bI_f q2, r111_9, cmp_ne, if_neg (by decide)]
      · rw [bI_f z, r111_4, cmp_eq, if_pos rfl]
    · rw [rc214_, call0 (show Call prog clsT X (d + 9) 162 _ _ = _ from m162Q X h (d + 8) c s x1 g0), push0, bI_t q, r214_6, cmp_eq, if_neg (by decide), call0 (show Call prog clsT X (d + 9) 152 _ _ = _ from m152 X E c s (d + 8) _ _ _), push0, bI_f q2, r214_11, cmp_eq, if_pos rfl]
  obtain ⟨e, rfl⟩ := Int.eq_ofNat_of_zero_le q.1
  have he : e < nE g := by omega
  have i40 : 0 ≤ (e : Int) ∧ (e : Int) < ((40 : Nat) : Int) := by omega
  obtain ⟨k, _, _, h99, _, hk, _⟩ := ent h he
  obtain ⟨I, v, hI, hI0, vI, hv⟩ := plN X h he
  have mS : ∀ u, onQ g u → ∃ u', Call prog clsT X (d + 10) 214 [(2, 89), (0, (e : Int)), (0, x2)] (mk E c s (hh u)) = Ev prog clsT X (d + 9) mc214 15 [(2, 89), (0, (e : Int)), (0, x2), (3, 0), (3, 0), (3, 0)] [(0, I)] (mk E c s (hh u')) ∧ onQ g u' := fun u hu => by
    obtain ⟨u', z1, z2, _⟩ := vI (d + 1) c s (up u 89 0 0) (onQ_0 hu 0)
    refine ⟨u', ?_, z2⟩
    rw [rc214_, call0 (show Call prog clsT X (d + 9) 162 _ _ = _ from m162Q X h (d + 8) c s (e : Int) (onQ_0 hu 0)), push0, bI_t q, r214_6, cmp_eq, if_neg (by decide), call0 (show Call prog clsT X (d + 9) 152 _ _ = _ from m152 X E c s (d + 8) _ _ _), push0, bI_t q2, r214_11, cmp_eq, if_neg (by decide), call0 z1, push0]
  by_cases q4 : g 104 e = 0
  case neg =>
    obtain ⟨g2, b1, b2⟩ := mS g (onQ_refl g)
    refine ⟨-1, g, g2, b2, ?_, ?_⟩
    · rw [rc111_, call0 cS, push0, Int.toNat_natCast, bI_f (fun z => q4 z.2.2), r111_4, cmp_eq, if_pos rfl]
    · show Call prog clsT X (d + 10) 214 [(2, 89), (0, (e : Int)), (0, x2)] _ = _
      rw [b1, hI0 q4, r214_15, cmp_ne, if_neg (by decide)]
  have cA : Call prog clsT X (d + 10) 111 [(2, 0), (0, (e : Int)), (0, x2)] (mk E c s (hh g)) = Ev prog clsT X (d + 9) mc111 16 [(2, 0), (0, (e : Int)), (0, x2), (0, -1), (0, 0), (3, 0)] [] (mk E c s (hh g)) := by
    rw [rc111_, call0 cS, push0, Int.toNat_natCast, bI_t ⟨q.1, q.2, q4⟩, r111_4, cmp_eq, if_neg (by decide), call0 (show Call prog clsT X (d + 9) 90 _ _ = _ from c90 X E c s (d + 8) _ _ _), push0, bI_t q2, r111_9, cmp_ne, if_pos (by decide)]
  -- which judges count
  let J : Nat → Prop := fun j => g 127 j ≠ 0 ∧ ¬ kinP g (j : Int) (k : Int)
  have dJ : ∀ j, Decidable (J j) := fun j => Classical.propDecidable _
  let st : Nat → Int → Int := fun j a => if J j then (if a = -1 then v j else if x2 ≠ 0 then (if v j ≤ a then a else v j) else if a ≤ v j then a else v j) else a
  let A : Nat → Int := fo st (-1)
  have cStep : ∀ (j : Nat), j < 4 → ∀ u, onQ g u → ∀ (a : Int) (w5 : MV), ∃ u' w5', Ev prog clsT X (d + 9) mc111 16 [(2, 0), (0, (e : Int)), (0, x2), (0, a), (0, (j : Int)), w5] [] (mk E c s (hh u)) = Ev prog clsT X (d + 9) mc111 16 [(2, 0), (0, (e : Int)), (0, x2), (0, st j a), (0, ((j + 1 : Nat) : Int)), w5'] [] (mk E c s (hh u')) ∧ onQ g u' := fun j hj u hu a w5 => by
    rw [r111_16, cmp_ge, if_neg (by omega), call0 (show Call prog clsT X (d + 9) 34 _ _ = _ from c34Q X h (d + 7) c s (j : Int) hu), push0, Int.toNat_natCast, r111_23, cmp_eq, w32_succ (by omega)]
    by_cases y1 : g 127 j ≠ 0
    case neg =>
      have hs : st j a = a := if_neg (fun z => y1 z.1)
      rw [bI_f (fun z => y1 z.2.2), if_pos rfl, hs]
      exact ⟨u, _, rfl, hu⟩
    have j3 : 0 ≤ (j : Int) ∧ (j : Int) ≤ 3 ∧ u 127 (j : Int).toNat ≠ 0 := ⟨by omega, by omega, by rw [hu 127 _ rfl]; exact y1⟩
    have hst := ST_Q h hu
    rw [bI_t ⟨by omega, by omega, y1⟩, if_neg (by decide), inb_is, if_pos i40, Int.toNat_natCast, hu 31 e rfl, e31, h99, call0 (show Call prog clsT X (d + 9) 104 _ _ = _ from c104 X E c s hst.1.1.1 hst.1.1.2.1 hst.1.1.2.2.1 hst.1.1.2.2.2.2.2 (d + 6) (j : Int) (k : Int) j3), push0, bI_iff (kinP_Q hu _ _), r111_32, cmp_eq]
    by_cases y2 : kinP g (j : Int) (k : Int)
    · have hs : st j a = a := if_neg (fun z => z.2 y2)
      rw [bI_t y2, if_neg (by decide), hs, w32_succ (by omega)]
      exact ⟨u, _, rfl, hu⟩
    · obtain ⟨u', z1, z2, _⟩ := (hv j hj).2.2.1 (d + 2) c s u hu
      have hs : st j a = if a = -1 then v j else if x2 ≠ 0 then (if v j ≤ a then a else v j) else if a ≤ v j then a else v j := if_pos ⟨y1, y2⟩
      rw [bI_f y2, if_pos rfl, call0 z1, push0, r111_38, cmp_eq, cmp_ne, cmp_le, cmp_ge, hs, w32_succ (by omega)]
      by_cases y3 : a = -1
      · rw [if_pos y3, if_pos y3]; exact ⟨u', _, rfl, z2⟩
      · rw [if_neg y3, if_neg y3]
        by_cases y4 : x2 ≠ 0
        · rw [if_pos y4, if_pos y4]
          by_cases y5 : v j ≤ a
          · rw [if_pos y5, if_pos y5]; exact ⟨u', _, rfl, z2⟩
          · rw [if_neg y5, if_neg y5]; exact ⟨u', _, rfl, z2⟩
        · rw [if_neg y4, if_neg y4]
          by_cases y5 : a ≤ v j
          · rw [if_pos y5, if_pos y5]; exact ⟨u', _, rfl, z2⟩
          · rw [if_neg y5, if_neg y5]; exact ⟨u', _, rfl, z2⟩
  have cRun : ∃ u', Call prog clsT X (d + 10) 111 [(2, 0), (0, (e : Int)), (0, x2)] (mk E c s (hh g)) = some ((0, A 4), mk E c s (hh u')) ∧ onQ g u' := by
    obtain ⟨u1, w1, a1, b1⟩ := cStep 0 (by decide) g (onQ_refl g) (-1) (3, 0)
    obtain ⟨u2, w2, a2, b2⟩ := cStep 1 (by decide) u1 b1 (A 1) w1
    obtain ⟨u3, w3, a3, b3⟩ := cStep 2 (by decide) u2 b2 (A 2) w2
    obtain ⟨u4, w4, a4, b4⟩ := cStep 3 (by decide) u3 b3 (A 3) w3
    refine ⟨u4, ?_, b4⟩
    have a1 : Ev prog clsT X (d + 9) mc111 16 [(2, 0), (0, (e : Int)), (0, x2), (0, -1), (0, 0), (3, 0)] [] (mk E c s (hh g)) = _ := a1
    rw [cA, a1]
    refine (a2.trans (a3.trans a4)).trans ?_
    rw [r111_16, cmp_ge, if_pos (by decide)]
    rfl
  obtain ⟨g1, p1, p2⟩ := cRun
  obtain ⟨g2, b1, b2⟩ := mS g1 p2
  rcases hI with hI | hI
  · -- not in: no judge places it
    have hA : ∀ n, n ≤ 4 → A n = -1 := by
      intro n
      induction n with
      | zero => intro _; rfl
      | succ n ih =>
        intro hn
        have : A (n + 1) = st n (A n) := rfl
        rw [this, ih (by omega)]
        show (if J n then (if (-1 : Int) = -1 then v n else _) else (-1 : Int)) = -1
        rw [if_pos rfl, (hv n (by omega)).1 hI, ite_self]
    rw [hA 4 (by decide)] at p1
    refine ⟨-1, g1, g2, b2, p1, ?_⟩
    show Call prog clsT X (d + 10) 214 [(2, 89), (0, (e : Int)), (0, x2)] _ = _
    rw [b1, hI, r214_15, cmp_ne, if_neg (by decide)]
  · have hA : ∀ n, n ≤ 4 → A n = -1 ∨ 1 ≤ A n := by
      intro n
      induction n with
      | zero => intro _; exact Or.inl rfl
      | succ n ih =>
        intro hn
        have hvn := (hv n (by omega)).2.1 hI
        have ih := ih (by omega)
        have : A (n + 1) = if J n then (if A n = -1 then v n else if x2 ≠ 0 then (if v n ≤ A n then A n else v n) else if A n ≤ v n then A n else v n) else A n := rfl
        rw [this]
        generalize A n = a at ih
        split
        · split
          · exact Or.inr hvn
          · split
            · split
              · exact ih
              · exact Or.inr hvn
            · split
              · exact ih
              · exact Or.inr hvn
        · exact ih
    have mStep : ∀ (j : Nat), j < 4 → ∀ u, onQ g u → ∀ (w5 : MV), ∃ u' w5', Ev prog clsT X (d + 9) mc214 22 [(2, 89), (0, (e : Int)), (0, x2), (0, A j), (0, (j : Int)), w5] [] (mk E c s (hh u)) = Ev prog clsT X (d + 9) mc214 22 [(2, 89), (0, (e : Int)), (0, x2), (0, A (j + 1)), (0, ((j + 1 : Nat) : Int)), w5'] [] (mk E c s (hh u')) ∧ onQ g u' := fun j hj u hu w5 => by
      have hAj := hA j (by omega)
      have e1 : A (j + 1) = st j (A j) := rfl
      rw [e1]
      generalize A j = a at hAj
      have j4 : 0 ≤ (j : Int) ∧ (j : Int) < ((4 : Nat) : Int) := by omega
      rw [r214_22, cmp_ge, if_neg (by omega), inb_is, if_pos j4, Int.toNat_natCast, cmp_eq, hu 127 j rfl, w32_succ (by omega)]
      by_cases y1 : g 127 j = 0
      · have hs : st j a = a := if_neg (fun z => z.1 y1)
        rw [if_pos y1, hs]
        exact ⟨u, _, rfl, hu⟩
      have hst := ST_Q h hu
      rw [if_neg y1, inb_is, if_pos i40, Int.toNat_natCast, hu 99 e rfl, h99, call0 (show Call prog clsT X (d + 9) 204 _ _ = _ from m204 X E c s hst.1.1.1 (d + 8) (j : Int) (k : Int) ⟨by omega, by omega⟩), push0, bI_iff (kinP_Q hu _ _), r214_37, cmp_eq]
      by_cases y2 : kinP g (j : Int) (k : Int)
      · have hs : st j a = a := if_neg (fun z => z.2 y2)
        rw [bI_t y2, if_neg (by decide), hs, w32_succ (by omega)]
        exact ⟨u, _, rfl, hu⟩
      · obtain ⟨u', z1, z2, _⟩ := (hv j hj).2.2.2 d c s u hu
        have hs : st j a = if a = -1 then v j else if x2 ≠ 0 then (if v j ≤ a then a else v j) else if a ≤ v j then a else v j := if_pos ⟨y1, y2⟩
        rw [bI_f y2, if_pos rfl, call0 z1, push0, r214_43, cmp_lt, cmp_ne, cmp_le, cmp_ge, hs, w32_succ (by omega)]
        by_cases y3 : a = -1
        · rw [if_pos (by omega), if_pos y3]; exact ⟨u', _, rfl, z2⟩
        · rw [if_neg (by omega), if_neg y3]
          by_cases y4 : x2 ≠ 0
          · rw [if_pos y4, if_pos y4]
            by_cases y5 : v j ≤ a
            · rw [if_pos y5, if_pos y5]; exact ⟨u', _, rfl, z2⟩
            · rw [if_neg y5, if_neg y5]; exact ⟨u', _, rfl, z2⟩
          · rw [if_neg y4, if_neg y4]
            by_cases y5 : a ≤ v j
            · rw [if_pos y5, if_pos y5]; exact ⟨u', _, rfl, z2⟩
            · rw [if_neg y5, if_neg y5]; exact ⟨u', _, rfl, z2⟩
    obtain ⟨u1, w1, a1, c1⟩ := mStep 0 (by decide) g2 b2 (3, 0)
    obtain ⟨u2, w2, a2, c2⟩ := mStep 1 (by decide) u1 c1 w1
    obtain ⟨u3, w3, a3, c3⟩ := mStep 2 (by decide) u2 c2 w2
    obtain ⟨u4, w4, a4, c4⟩ := mStep 3 (by decide) u3 c3 w3
    refine ⟨A 4, g1, u4, c4, p1, ?_⟩
    show Call prog clsT X (d + 10) 214 [(2, 89), (0, (e : Int)), (0, x2)] _ = _
    have a1 : Ev prog clsT X (d + 9) mc214 22 [(2, 89), (0, (e : Int)), (0, x2), (0, -1), (0, 0), (3, 0)] [] (mk E c s (hh g2)) = _ := a1
    rw [b1, hI, r214_15, cmp_ne, if_pos (by decide), a1]
    refine (a2.trans (a3.trans a4)).trans ?_
    rw [r214_22, cmp_ge, if_pos (by decide)]
end SPAN
