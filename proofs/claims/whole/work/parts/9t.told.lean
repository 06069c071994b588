/-! Part 9t: an entry as both sides tell it: its row, its word, its marks. -/
theorem onQ_28 {g : Gm} {l : List Int} : onQ g (wr 28 0 11 g l) := fun x i hs => wr_ne (fun q => by rw [q] at hs; cases hs)
theorem onQ_126 {g : Gm} {l : List Int} : onQ g (wr 126 1 11 g l) := fun x i hs => wr_ne (fun q => by rw [q] at hs; cases hs)
theorem onQ_29 {g u : Gm} (h : off29 g u) : onQ g u := fun x i hs => h x i (fun q => by rw [q] at hs; cases hs)
theorem onQ_R {g u : Gm} (h : offR g u) : onQ g u := fun x i hs => h x i (fun q => by
  have : x = 117 ∨ x = 118 ∨ x = 119 ∨ x = 120 ∨ x = 121 ∨ x = 122 ∨ x = 123 ∨ x = 124 ∨ x = 125 := by omega
  rcases this with z | z | z | z | z | z | z | z | z <;> rw [z] at hs <;> cases hs)
/-- the row of the facts of entry e -/
def rowE (g : Gm) (e : Nat) : List Int := rowX g (g 99 e).toNat (g 100 e).toNat (g 101 e) (stOf g (g 100 e) (g 99 e))
theorem nE_Q {g u : Gm} (h : onQ g u) : nE u = nE g := by unfold nE; rw [h 89 10 rfl]
theorem stOf_Q {g u : Gm} (h : onQ g u) (x k : Int) : stOf u x k = stOf g x k := by
  unfold stOf
  rw [nE_Q h]
  exact sm_congr (fun i _ => by rw [h 104 i rfl, h 99 i rfl, h 100 i rfl])
theorem rowX_Q {g u : Gm} (h : onQ g u) (k x : Nat) (P am : Int) : rowX u k x P am = rowX g k x P am := by
  have e : ∀ w, pst u P w = pst g P w := fun w => by
    funext p a
    unfold pst
    rw [h 96 p rfl, h 97 p rfl, h 98 p rfl]
  unfold rowX stM
  rw [h 108 k rfl, e, h 92 x rfl, h 91 x rfl, h 93 x rfl]
theorem rowX_M {g u : Gm} (h : onM g u) (k x : Nat) (P am : Int) : rowX u k x P am = rowX g k x P am := by
  have e : ∀ w, pst u P w = pst g P w := fun w => by
    funext p a
    unfold pst
    rw [h 96 p rfl, h 97 p rfl, h 98 p rfl]
  unfold rowX stM
  rw [h 108 k rfl, e, h 92 x rfl, h 91 x rfl, h 93 x rfl]
theorem rowX_C {g u : Gm} (h : onC g u) (k x : Nat) (P am : Int) : rowX u k x P am = rowX g k x P am := by
  have e : ∀ w, pst u P w = pst g P w := fun w => by
    funext p a
    unfold pst
    rw [h 96 p rfl, h 97 p rfl, h 98 p rfl]
  unfold rowX stM
  rw [h 108 k rfl, e, h 92 x rfl, h 91 x rfl, h 93 x rfl]
theorem rowE_Q {g u : Gm} (h : onQ g u) (e : Nat) : rowE u e = rowE g e := by
  unfold rowE
  rw [rowX_Q h, stOf_Q h, h 99 e rfl, h 100 e rfl, h 101 e rfl]
theorem stM_32 (g : Gm) (P w : Int) : ∀ n, in32 (stM g P w n).1 ∧ in32 (stM g P w n).2.2.1 ∧ in32 (stM g P w n).2.2.2.1 ∧ in32 (stM g P w n).2.2.2.2.1
  | 0 => ⟨in32_0, in32_0, in32_0, in32_0⟩
  | n + 1 => by
    have ih := stM_32 g P w n
    rw [show stM g P w (n + 1) = pst g P w n (stM g P w n) from rfl]
    unfold pst
    split
    · exact ⟨in32_w _, in32_w _, in32_w _, in32_w _⟩
    · exact ih
theorem bits40_in (v : Int) : in32 (bits40 v) := by
  have := sm_bound (f := fun i => bI (tb v i = true)) (a := 0) (b := 1) (n := 40) (fun i _ => bI_b _)
  unfold bits40 in32
  omega
theorem stOf_in {g : Gm} (h : RN g) (x k : Int) : in32 (stOf g x k) := by
  have := sm_bound (f := fun e => bI (g 104 e = 0 ∧ g 99 e = k ∧ g 100 e = x)) (a := 0) (b := 1) (n := nE g) (fun i _ => bI_b _)
  have h2 := h.le
  unfold stOf in32
  omega
theorem in32_of {x : Int} (h1 : -1000 ≤ x) (h2 : x ≤ 1000) : in32 x := ⟨by omega, by omega⟩
theorem rowX_ok {g : Gm} (hv : RV g) {k x : Nat} {P am : Int} (ha : in32 am) (hs : ∀ p : Nat, p < 40 → tb P p = true → 1 ≤ g 97 p) : rowOK (fun f => (rowX g k x P am).getD f 0) := by
  intro f
  have h1 := stM_32 g P (g 108 k) 40
  have h2 := (st_eq (w := g 108 k) hv hs 40 (Nat.le_refl _)).2.2.2.2
  have h3 := hv.2.2.2.2.2.1 x
  have h4 := hv.2.2.2.2.2.2.1 x
  rcases f with _ | _ | _ | _ | _ | _ | _ | _ | _ | _ | _ | f
  · exact h1.1
  · exact bits40_in _
  · exact h1.2.1
  · exact h1.2.2.1
  · exact in32_w _
  · exact h1.2.2.2
  · exact in32_of (Int.le_trans (by decide) h2.1) (Int.le_trans h2.2 (by decide))
  · exact in32_of (Int.le_trans (by decide) h4.1) (Int.le_trans h4.2 (by decide))
  · exact in32_of (Int.le_trans (by decide) h3.1) (Int.le_trans h3.2 (by decide))
  · show in32 (if g 93 x = 0 then 0 else 1)
    split
    · exact in32_0
    · exact in32_of (by decide) (by decide)
  · exact ha
  · exact in32_0
theorem ent {N : Int} {E : List (Nat × Nat)} {g : Gm} (h : ST N E g) {e : Nat} (he : e < nE g) : ∃ k x r : Nat, g 99 e = k ∧ g 100 e = x ∧ k < 10 ∧ x < 10 ∧ g 16 k = r ∧ RG 0 E r k g ∧ g 106 k ≠ 0 ∧ g 90 x ≠ 0 := by
  obtain ⟨⟨i0, ib, _, _, iu⟩, _⟩ := h
  obtain ⟨_, _, _, _, _, _, _, _, _, _, _, _, _, b99, b100, _, _⟩ := i0.1
  obtain ⟨q1, _, q3⟩ := i0.2.2.2.2.2
  obtain ⟨k, hk⟩ := Int.eq_ofNat_of_zero_le (b99 e).1
  obtain ⟨x, hx⟩ := Int.eq_ofNat_of_zero_le (b100 e).1
  have k9 := (b99 e).2
  have x9 := (b100 e).2
  have z1 := q1 e he
  have z3 := q3 e he
  rw [hx, Int.toNat_natCast] at z1
  rw [hk, Int.toNat_natCast] at z3
  rcases iu.1 k (by omega) with y | ⟨r, y1, y2⟩
  · exact absurd ((ib.1 k (by omega)).1 y) z3
  · exact ⟨k, x, r, hk, hx, by omega, by omega, y1, y2, z3, z1⟩
theorem told {N : Int} {E : List (Nat × Nat)} {g : Gm} (h : ST N E g) {e : Nat} (he : e < nE g) : ∀ p : Nat, p < 40 → tb (g 101 e) p = true → 1 ≤ g 97 p := fun p hp hb => h.2.1 p hp ((h.2.2.1 e he).2 p hp hb)
theorem rowE_ok {N : Int} {E : List (Nat × Nat)} {g : Gm} (h : ST N E g) {e : Nat} (he : e < nE g) : rowOK (fun f => (rowE g e).getD f 0) := rowX_ok h.1.1.2.1 (stOf_in h.1.1.1.rn _ _) (told h he)
section TOLD
variable (X : MExt) {E : List (Nat × Nat)} (c s : Nat) {g : Gm}
theorem c77 {x : Nat} (hx : x < 10) (d : Nat) (am : Int) {l : List Int} (hl : l.length = 11) : Call prog clsT X (d + 1) 77 [(2, 27), (2, 1), (0, (x : Int)), (0, am)] (mk E c s (hh (wr 28 0 11 g l))) = some ((3, 0), mk E c s (hh (wr 28 0 11 g ((((l.set 7 (g 3 x)).set 8 (g 2 x)).set 9 (if g 4 x = 0 then 0 else 1)).set 10 am)))) := by
  rw [rc77_, inb_is, if_pos (by omega), inb_is, if_pos (by omega), inb_is, if_pos (by omega), Int.toNat_natCast, wr_ne (by decide), wr_ne (by decide), wr_ne (by decide), cmp_eq, w28 hl (by decide), w28 (by rw [List.length_set]; exact hl) (by decide)]
  by_cases q : g 4 x = 0
  · rw [if_pos q, if_pos q, w28 (by rw [List.length_set, List.length_set]; exact hl) (by decide), w28 (by rw [List.length_set, List.length_set, List.length_set]; exact hl) (by decide)]
  · rw [if_neg q, if_neg q, w28 (by rw [List.length_set, List.length_set]; exact hl) (by decide), w28 (by rw [List.length_set, List.length_set, List.length_set]; exact hl) (by decide)]
theorem c108 {N : Int} (h : ST N E g) {e : Nat} (he : e < nE g) {u : Gm} (hu : onC g u) (d : Nat) : Call prog clsT X (d + 4) 108 [(2, 0), (0, (e : Int))] (mk E c s (hh u)) = some ((3, 0), mk E c s (hh (wr 28 0 11 u (rowE g e)))) := by
  obtain ⟨k, x, r, h99, h100, hk, hx, h16, hrg, h106, h90⟩ := ent h he
  have hs : ∀ p : Nat, p < 40 → tb (g 101 e) p = true → 1 ≤ u 97 p := fun p hp hb => by rw [hu 97 p rfl]; exact told h he p hp hb
  have hne := (h.2.2.1 e he).1
  have hre := h.1.1.1
  have hrv : RV u := h.1.1.2.1.fr (fun x i hs => hu x i (RV_C x i hs))
  have hrg2 : RG 0 E r k u := RG_X hrg (by omega) (sameR_C hu)
  have hle := hre.rn.le
  obtain ⟨_, _, _, _, _, e31, e32, e33, _⟩ := hre
  have hre := h.1.1.1
  have s97 : Call prog clsT X (d + 3) 97 [(2, 0), (0, (k : Int))] (mk E c s (hh u)) = some ((2, (r : Int)), mk E c s (hh u)) := by
    rw [show d + 3 = (d + 1) + 2 from rfl, c97 X E c s (d + 1), if_pos (by omega), Int.toNat_natCast, hu 16 k rfl, h16]
  rw [rc108_, inb_is, if_pos (by omega), inb_is, if_pos (by omega), inb_is, if_pos (by omega), Int.toNat_natCast, hu 31 e rfl, hu 32 e rfl, hu 33 e rfl, e31 e, e32 e, e33 e, h99, h100, call2 s97, push2, r108_24]
  have q := (c76 X E c s hrv hrg2 (d + 1) (g 101 e)).resolve_right (fun z => z hs)
  have hQ : ∀ l, onC g (wr 28 0 11 u l) := fun l => onC_cl hu clQ_28
  have s23 : ∀ l, Call prog clsT X (d + 3) 23 [(2, 30), (0, (x : Int)), (0, (k : Int))] (mk E c s (hh (wr 28 0 11 u l))) = some ((0, stOf g x k), mk E c s (hh (wr 28 0 11 u l))) := fun l => c23x X c s hre (hQ l) d x k
  have st := st_eq (w := u 108 k) hrv hs 40 (Nat.le_refl _)
  have e1 : stC u (g 101 e) (u 108 k) 40 = stM u (g 101 e) (u 108 k) 40 := by
    obtain ⟨p, p1, p2⟩ := hne
    rcases st.2.1 with y | y
    · have := y.1 p p1
      rw [p2] at this
      cases this
    · rw [st.1, y.2]
  rw [call3 q, push3, r108_25, call0 (s23 _), push0, r108_35, call3 (show Call prog clsT X (d + 3) 77 _ _ = _ from c77 X c s hx (d + 2) _ rfl), push3, r108_36]
  show some (((3 : Nat), (0 : Int)), mk E c s (hh (wr 28 0 11 u (rowP (stC u (g 101 e) (u 108 k) 40) (pcn (stC u (g 101 e) (u 108 k) 40).2.1.toNat 10) [u 3 x, u 2 x, if u 4 x = 0 then 0 else 1, stOf g x k])))) = _
  have hb : (pcn (stM u (g 101 e) (u 108 k) 40).2.1.toNat 10 : Int) = bits40 (stM u (g 101 e) (u 108 k) 40).2.1 := by
    have y1 := st.2.2.1
    have y2 := st.2.2.2.1
    rw [pcn_40 _ (by omega), Int.toNat_of_nonneg y1]
  rw [e1, hb, hrv.2.2.2.1 x, hrv.2.2.2.2.1 x, hrv.2.2.1 x hx (by rw [hu 90 x rfl]; exact h90)]
  unfold rowE
  rw [h99, h100, Int.toNat_natCast, Int.toNat_natCast, ← rowX_C hu]
  rfl
theorem m189 {N : Int} (h : ST N E g) {e : Nat} (he : e < nE g) {u : Gm} (hu : onM g u) (d : Nat) : Call prog clsT X (d + 3) 189 [(2, 89), (0, (e : Int))] (mk E c s (hh u)) = some ((3, 0), mk E c s (hh (wr 126 1 11 u (rowE g e)))) := by
  obtain ⟨k, x, r, h99, h100, hk, hx, h16, hrg, h106, h90⟩ := ent h he
  have hre := h.1.1.1
  have hle := hre.rn.le
  have hrn : RN u := by unfold RN; rw [hu 89 10 rfl]; exact hre.rn
  have hw : (u 107 k ≤ 0 → u 108 k = 10) ∧ (0 < u 107 k → u 108 k ≠ 10) := by
    rw [hu 107 k rfl, hu 108 k rfl]
    obtain ⟨_, _, _, _, _, _, _, b1, _, b2, _⟩ := hrg
    have b2 := b2 rfl
    exact ⟨fun y => b2.1 (by omega), fun y z => by have := b2.2 (by omega); omega⟩
  rw [rc189_, inb_is, if_pos (by omega), inb_is, if_pos (by omega), inb_is, if_pos (by omega), inb_is, if_pos (by omega), inb_is, if_pos (by omega), Int.toNat_natCast, hu 99 e rfl, hu 100 e rfl, hu 101 e rfl, h99, h100, call0 (show Call prog clsT X (d + 2) 190 _ _ = _ from m190 X E c s hrn (d + 1) k x (by omega)), push0, r189_23, call3 (m191 X E c s (by omega) hx hw d (g 101 e) (stOf u x k)), push3, r189_24, stOf_M hu, rowX_M hu]
  unfold rowE
  rw [h99, h100, Int.toNat_natCast, Int.toNat_natCast]
/-- both tell entry e alike -/
theorem tellCx {N : Int} (h : ST N E g) {e : Nat} (he : e < nE g) {u : Gm} (hu : onC g u) (d : Nat) : ∃ u', Call prog clsT X (d + 4) 108 [(2, 0), (0, (e : Int))] (mk E c s (hh u)) = some ((3, 0), mk E c s (hh u')) ∧ onC g u' ∧ (∀ f, f < 11 → u' 28 f = (rowE g e).getD f 0) ∧ off2 u u' :=
  ⟨_, c108 X c s h he hu d, onC_2 hu off2_28, fun f hf => w28_at hf, off2_28⟩
theorem tellMx {N : Int} (h : ST N E g) {e : Nat} (he : e < nE g) {u : Gm} (hu : onM g u) (d : Nat) : ∃ u', Call prog clsT X (d + 3) 189 [(2, 89), (0, (e : Int))] (mk E c s (hh u)) = some ((3, 0), mk E c s (hh u')) ∧ onM g u' ∧ fits (fun f => (rowE g e).getD f 0) u' ∧ rfQ u u' :=
  ⟨_, m189 X c s h he hu d, onM_rf hu rfQ_126, fun f hf => by rw [w126_at (by omega) (by omega), Nat.add_sub_cancel], rfQ_126⟩
theorem s97x {N : Int} (h : ST N E g) {k r : Nat} (hk : k < 10) (h16 : g 16 k = r) {u : Gm} (hu : onC g u) (d : Nat) : Call prog clsT X (d + 2) 97 [(2, 0), (0, (k : Int))] (mk E c s (hh u)) = some ((2, (r : Int)), mk E c s (hh u)) := by
  rw [c97 X E c s d, if_pos (by omega), Int.toNat_natCast, hu 16 k rfl, h16]
/-- the word -/
theorem ewx {N : Int} (h : ST N E g) {e : Nat} (he : e < nE g) : ∃ v, -1 ≤ v ∧ v ≤ 100 ∧ (∀ d c s u, onC g u → ∃ u', Call prog clsT X (d + 6) 139 [(2, 0), (0, (e : Int))] (mk E c s (hh u)) = some ((0, v), mk E c s (hh u')) ∧ onC g u' ∧ off2 u u') ∧ (∀ d c s u, onM g u → ∃ u', Call prog clsT X (d + 7) 188 [(2, 89), (0, (e : Int))] (mk E c s (hh u)) = some ((0, v), mk E c s (hh u')) ∧ onM g u' ∧ rfQ u u') ∧ ∃ rb : Nat, g 0 3 = rb ∧ ∀ r : Nat, (∃ k : Nat, g 99 e = k ∧ g 16 k = r) → ∀ d c s u, sameR g u → (∀ f, f < 11 → u 28 f = (rowE g e).getD f 0) → ∃ u', Call prog clsT X (d + 5) 72 [(2, 27), (2, (r : Int)), (2, (rb : Int))] (mk E c s (hh u)) = some ((0, v), mk E c s (hh u')) ∧ off29 u u' := by
  obtain ⟨k, x, r, h99, h100, hk, hx, h16, hrg, h106, h90⟩ := ent h he
  have hle := h.1.1.1.rn.le
  have e31 : ∀ e : Nat, g 31 e = g 99 e := by
    obtain ⟨_, _, _, _, _, e31, _⟩ := h.1.1.1
    exact e31
  obtain ⟨rb, hb, hrb⟩ := h.1.2.2.2.2.2.1
  obtain ⟨v, v1, v2, wc, wm⟩ := word_eq X hrg hk hrb (rowE_ok h he)
  refine ⟨v, v1, v2, fun d c s u hu => ?_, fun d c s u hu => ?_, rb, hb, fun r' hr' d c s u hu hf => ?_⟩
  · obtain ⟨u1, a1, a2, a3, a4⟩ := tellCx X c s h he hu (d + 1)
    obtain ⟨u2, b1, b4⟩ := wc d c s u1 (sameR_C a2) a3
    refine ⟨u2, ?_, onC_2 a2 (off2_29 b4), off2_tr a4 (off2_29 b4)⟩
    rw [rc139_, call3 a1, push3, r139_3, inb_is, if_pos (by omega), Int.toNat_natCast, a2 31 e rfl, e31, h99, call2 (show Call prog clsT X (d + 5) 97 _ _ = _ from s97x X c s h hk h16 a2 (d + 3)), push2, r139_12, a2 0 3 rfl, hb, call0 b1, push0, r139_15]
  · obtain ⟨u1, a1, a2, a3, a4⟩ := tellMx X c s h he hu (d + 3)
    obtain ⟨u2, b1, b2⟩ := wm d c s u1 (sameR_M a2) a3
    refine ⟨u2, ?_, onM_rf a2 (rfQ_R b2), rfQ_tr a4 (rfQ_R b2)⟩
    rw [rc188_, call3 a1, push3, r188_3, inb_is, if_pos (by omega), Int.toNat_natCast, a2 99 e rfl, h99, call0 b1, push0, r188_9]
  · obtain ⟨k', z1, z2⟩ := hr'
    have : k' = k := by rw [h99] at z1; omega
    subst this
    have : r' = r := by rw [h16] at z2; omega
    subst this
    exact wc d c s u hu hf
/-- a line's worth -/
theorem elx {N : Int} (h : ST N E g) {e : Nat} (he : e < nE g) {j : Nat} (hj : j < 8) {k r : Nat} (h99 : g 99 e = k) (h16 : g 16 k = r) : ∃ v, in32 v ∧ (∀ d c s u, sameR g u → (∀ f, f < 11 → u 28 f = (rowE g e).getD f 0) → ∃ u', Call prog clsT X (d + 3) 74 [(2, 27), (2, (r : Int)), (0, (j : Int))] (mk E c s (hh u)) = some ((0, v), mk E c s (hh u')) ∧ off29 u u') ∧ ((g 110 (9 * k + j) = 0 ∧ v = 0) ∨ (g 110 (9 * k + j) = 1 ∧ ∀ t c s w, onM g w → fits (fun f => (rowE g e).getD f 0) w → ∃ w', Call prog clsT X (t + 4) 194 [(2, 89), (0, ((9 * k + j : Nat) : Int))] (mk E c s (hh w)) = some ((0, v), mk E c s (hh w')) ∧ onM g w' ∧ fits (fun f => (rowE g e).getD f 0) w' ∧ rfQ w w')) := by
  obtain ⟨k', x, r', z99, h100, hk, hx, z16, hrg, h106, h90⟩ := ent h he
  have : k' = k := by rw [h99] at z99; omega
  subst this
  have : r' = r := by rw [h16] at z16; omega
  subst this
  obtain ⟨v, v1, vc, vm⟩ := val_eq X hrg (by omega) (show j < nl 0 from hj) (rowE_ok h he)
  refine ⟨v, v1, fun d c s u hu hf => vc d c s u hu hf, ?_⟩
  rcases vm with y | ⟨y1, y2⟩
  · exact Or.inl y
  · refine Or.inr ⟨y1, fun t c s w hw hf => ?_⟩
    obtain ⟨w', q1, q2⟩ := y2 t c s w (sameR_M hw) hf
    exact ⟨w', q1, onM_rf hw (rfQ_R q2), fun f hf2 => by rw [q2 126 (f + 1) (by decide)]; exact hf f hf2, rfQ_R q2⟩
/-- plainMarks -/
theorem emx {N : Int} (h : ST N E g) {e : Nat} (he : e < nE g) {k r : Nat} (h99 : g 99 e = k) (h16 : g 16 k = r) : ∃ v, in32 v ∧ (∀ d c s u, sameR g u → (∀ f, f < 11 → u 28 f = (rowE g e).getD f 0) → ∃ u', Call prog clsT X (d + 3) 74 [(2, 27), (2, (r : Int)), (0, 6)] (mk E c s (hh u)) = some ((0, v), mk E c s (hh u')) ∧ off29 u u') ∧ ∀ d c s u, onM g u → fits (fun f => (rowE g e).getD f 0) u → ∃ u', Call prog clsT X (d + 5) 207 [(2, 89), (0, (k : Int))] (mk E c s (hh u)) = some ((0, v), mk E c s (hh u')) ∧ onM g u' ∧ fits (fun f => (rowE g e).getD f 0) u' ∧ rfQ u u' := by
  have hk : k < 10 := by
    obtain ⟨k', _, _, z99, _, hk, _⟩ := ent h he
    rw [h99] at z99; omega
  obtain ⟨v, v1, vc, vm⟩ := elx X h he (j := 6) (by decide) h99 h16
  refine ⟨v, v1, vc, fun d c s u hu hf => ?_⟩
  have e0 : w32 (w32 (9 * (k : Int)) + 6) = ((9 * k + 6 : Nat) : Int) := by
    rw [w32_of (x := 9 * (k : Int)) (by omega) (by omega), w32_of (by omega) (by omega)]; omega
  rw [rc207_, e0, inb_is, if_pos (by omega), Int.toNat_natCast, cmp_eq, hu 110 _ rfl]
  rcases vm with ⟨y1, y2⟩ | ⟨y1, y2⟩
  · rw [if_pos y1, y2]
    exact ⟨u, rfl, hu, hf, rfQ_refl u⟩
  · obtain ⟨w', q1, q2, q3, q4⟩ := y2 d c s u hu hf
    rw [if_neg (by rw [y1]; decide), call0 q1, push0, r207_16]
    exact ⟨w', rfl, q2, q3, q4⟩
theorem mj_ok {j y : Nat} (hj : j < 4) (hy : (y : Int) ≤ 5) : (0 ≤ ((6 * j + y : Nat) : Int) ∧ ((6 * j + y : Nat) : Int) < ((24 : Nat) : Int)) ∧ w32 (w32 ((j : Int) * 6) + y) = ((6 * j + y : Nat) : Int) ∧ w32 (w32 (6 * (j : Int)) + y) = ((6 * j + y : Nat) : Int) := by
  refine ⟨by omega, ?_, ?_⟩
  · rw [w32_of (x := (j : Int) * 6) (by omega) (by omega), w32_of (by omega) (by omega)]; omega
  · rw [w32_of (x := 6 * (j : Int)) (by omega) (by omega), w32_of (by omega) (by omega)]; omega
/-- the marks a judge gives -/
theorem ejx {N : Int} (h : ST N E g) {e : Nat} (he : e < nE g) {k r : Nat} (h99 : g 99 e = k) (h16 : g 16 k = r) : ∃ v : Nat → Int, (∀ j, in32 (v j)) ∧ (∀ j : Nat, j < 4 → ∀ d c s u, sameR g u → (∀ i, u 38 i = g 38 i) → (∀ f, f < 11 → u 28 f = (rowE g e).getD f 0) → ∃ u', Call prog clsT X (d + 4) 109 [(2, 0), (0, (j : Int)), (2, (r : Int))] (mk E c s (hh u)) = some ((0, v j), mk E c s (hh u')) ∧ off29 u u') ∧ ∀ j : Nat, j < 4 → ∀ d c s u, onM g u → ∃ u', Call prog clsT X (d + 6) 206 [(2, 89), (0, (e : Int)), (0, (j : Int))] (mk E c s (hh u)) = some ((0, v j), mk E c s (hh u')) ∧ onM g u' ∧ rfQ u u' := by
  obtain ⟨v, v1, vc, vm⟩ := emx X h he h99 h16
  obtain ⟨_, x, _, _, h100, _, hx, _⟩ := ent h he
  have hle := h.1.1.1.rn.le
  have h91 := h.1.1.2.1.2.2.2.2.2.1 x
  have h38 := h.1.1.2.2.1.2.2.2.2.1
  obtain ⟨y, hy⟩ := Int.eq_ofNat_of_zero_le h91.1
  have e8 : (rowE g e).getD 8 0 = g 91 x := by
    unfold rowE
    rw [h100, Int.toNat_natCast]
    rfl
  refine ⟨fun j => w32 (v + g 129 (6 * j + y)), fun j => in32_w _, fun j hj d c s u hu hu38 hf => ?_, fun j hj d c s u hu => ?_⟩
  · obtain ⟨u', q1, q2⟩ := vc d c s u hu hf
    refine ⟨u', ?_, q2⟩
    have e0 := mj_ok hj (hy ▸ h91.2)
    rw [rc109_, call0 q1, push0, r109_5, q2 28 8 (by decide), hf 8 (by decide), e8, hy, e0.2.1, inb_is, if_pos e0.1, Int.toNat_natCast, q2 38 _ (by decide), hu38, h38]
  · obtain ⟨u1, a1, a2, a3, a4⟩ := tellMx X c s h he hu (d + 2)
    obtain ⟨u', q1, q2, q3, q4⟩ := vm d c s u1 a2 a3
    refine ⟨u', ?_, q2, rfQ_tr a4 q4⟩
    have e0 := mj_ok hj (hy ▸ h91.2)
    have i40 : 0 ≤ (e : Int) ∧ (e : Int) < ((40 : Nat) : Int) := by clear h91 e0 e8; omega
    have i10 : 0 ≤ (x : Int) ∧ (x : Int) < ((10 : Nat) : Int) := by clear h91 e0 e8; omega
    rw [rc206_, call3 a1, push3, r206_3, inb_is, if_pos i40, Int.toNat_natCast, a2 99 e rfl, h99, call0 q1, push0, r206_9, inb_is, if_pos i40, Int.toNat_natCast, q2 100 e rfl, h100, inb_is, if_pos i10, Int.toNat_natCast, q2 91 x rfl, hy, e0.2.2, inb_is, if_pos e0.1, Int.toNat_natCast, q2 129 _ rfl]
/-- the same, where both sides stand alike -/
theorem tellC {N : Int} (h : ST N E g) {e : Nat} (he : e < nE g) {u : Gm} (hu : onQ g u) (d : Nat) : ∃ u', Call prog clsT X (d + 4) 108 [(2, 0), (0, (e : Int))] (mk E c s (hh u)) = some ((3, 0), mk E c s (hh u')) ∧ onQ g u' ∧ (∀ f, f < 11 → u' 28 f = (rowE g e).getD f 0) ∧ off2 u u' := by
  obtain ⟨u', a1, _, a3, a4⟩ := tellCx X c s h he (C_of hu) d
  exact ⟨u', a1, onQ_2 hu a4, a3, a4⟩
theorem tellM {N : Int} (h : ST N E g) {e : Nat} (he : e < nE g) {u : Gm} (hu : onQ g u) (d : Nat) : ∃ u', Call prog clsT X (d + 3) 189 [(2, 89), (0, (e : Int))] (mk E c s (hh u)) = some ((3, 0), mk E c s (hh u')) ∧ onQ g u' ∧ fits (fun f => (rowE g e).getD f 0) u' ∧ rfQ u u' := by
  obtain ⟨u', a1, _, a3, a4⟩ := tellMx X c s h he (M_of hu) d
  exact ⟨u', a1, onQ_rf hu a4, a3, a4⟩
theorem s97 {N : Int} (h : ST N E g) {k r : Nat} (hk : k < 10) (h16 : g 16 k = r) {u : Gm} (hu : onQ g u) (d : Nat) : Call prog clsT X (d + 2) 97 [(2, 0), (0, (k : Int))] (mk E c s (hh u)) = some ((2, (r : Int)), mk E c s (hh u)) := s97x X c s h hk h16 (C_of hu) d
theorem ew {N : Int} (h : ST N E g) {e : Nat} (he : e < nE g) : ∃ v, -1 ≤ v ∧ v ≤ 100 ∧ (∀ d c s u, onQ g u → ∃ u', Call prog clsT X (d + 6) 139 [(2, 0), (0, (e : Int))] (mk E c s (hh u)) = some ((0, v), mk E c s (hh u')) ∧ onQ g u' ∧ off2 u u') ∧ ∀ d c s u, onQ g u → ∃ u', Call prog clsT X (d + 7) 188 [(2, 89), (0, (e : Int))] (mk E c s (hh u)) = some ((0, v), mk E c s (hh u')) ∧ onQ g u' ∧ rfQ u u' := by
  obtain ⟨v, v1, v2, wc, wm, _⟩ := ewx X h he
  refine ⟨v, v1, v2, fun d c s u hu => ?_, fun d c s u hu => ?_⟩
  · obtain ⟨u', a1, _, a3⟩ := wc d c s u (C_of hu)
    exact ⟨u', a1, onQ_2 hu a3, a3⟩
  · obtain ⟨u', a1, _, a3⟩ := wm d c s u (M_of hu)
    exact ⟨u', a1, onQ_rf hu a3, a3⟩
theorem ej {N : Int} (h : ST N E g) {e : Nat} (he : e < nE g) {k r : Nat} (h99 : g 99 e = k) (h16 : g 16 k = r) : ∃ v : Nat → Int, (∀ j, in32 (v j)) ∧ (∀ j : Nat, j < 4 → ∀ d c s u, onQ g u → (∀ f, f < 11 → u 28 f = (rowE g e).getD f 0) → ∃ u', Call prog clsT X (d + 4) 109 [(2, 0), (0, (j : Int)), (2, (r : Int))] (mk E c s (hh u)) = some ((0, v j), mk E c s (hh u')) ∧ onQ g u' ∧ (∀ f, f < 11 → u' 28 f = (rowE g e).getD f 0) ∧ off2 u u') ∧ ∀ j : Nat, j < 4 → ∀ d c s u, onQ g u → ∃ u', Call prog clsT X (d + 6) 206 [(2, 89), (0, (e : Int)), (0, (j : Int))] (mk E c s (hh u)) = some ((0, v j), mk E c s (hh u')) ∧ onQ g u' ∧ rfQ u u' := by
  obtain ⟨v, v1, wc, wm⟩ := ejx X h he h99 h16
  refine ⟨v, v1, fun j hj d c s u hu hf => ?_, fun j hj d c s u hu => ?_⟩
  · obtain ⟨u', a1, a2⟩ := wc j hj d c s u (sameR_C (C_of hu)) (fun i => hu 38 i rfl) hf
    exact ⟨u', a1, onQ_2 hu (off2_29 a2), fun f hf2 => by rw [a2 28 f (by decide)]; exact hf f hf2, off2_29 a2⟩
  · obtain ⟨u', a1, _, a3⟩ := wm j hj d c s u (M_of hu)
    exact ⟨u', a1, onQ_rf hu a3, a3⟩
end TOLD
