/-! Part aw: what a set is worth. -/
abbrev fpX (g : Gm) (x : Nat) : Nat → Nat := lwK (frN g x) 40
abbrev rowS (g : Gm) (k x n S : Nat) : List Int := rowX g k x (pB (fpX g x) S n) (w32 (stOf g x k + 1))
/-- what the class gives for a set -/
abbrev wrt (w v : Int) (S : Nat) : Int := if bits40 (S : Int) ≤ 8 ∧ w = -1 then v else -4611686018427387904
section SETWORTH
variable (X : MExt) {E : List (Nat × Nat)} {g : Gm}
theorem set_told {N : Int} (h : ST N E g) {x n S : Nat} (hn : n = lnK (frN g x) 40) (h10 : n ≤ 10) (hS : S < 2 ^ n) (h0 : S ≠ 0) : (∃ p : Nat, p < 40 ∧ tb (pB (fpX g x) S n) p = true) ∧ ∀ p : Nat, p < 40 → tb (pB (fpX g x) S n) p = true → 1 ≤ g 97 p := by
  have hf : ∀ i, i < n → fpX g x i < 40 ∧ 0 < frN g x (fpX g x i) := fun i hi => lwK_ok (frN g x) 40 i (by rw [← hn]; exact hi)
  have ht := pB_tb (fp := fpX g x) (s := S) n (fun i hi _ => by have := (hf i hi).1; omega)
  constructor
  · rcases Classical.em (∃ i, i < n ∧ S.testBit i = true) with ⟨i, h1, h2⟩ | hno
    · exact ⟨fpX g x i, (hf i h1).1, (ht _).2 ⟨i, h1, h2, rfl⟩⟩
    · refine absurd (Nat.eq_of_testBit_eq (fun i => ?_)) h0
      rw [Nat.zero_testBit]
      by_cases z : i < n
      · exact bool_f (fun y => hno ⟨i, z, y⟩)
      · have := bit_far hS (i - n)
        rw [Nat.add_sub_of_le (Nat.le_of_not_lt z)] at this
        exact this
  · intro p hp hb
    obtain ⟨i, h1, h2, h3⟩ := (ht p).1 hb
    have := (hf i h1).2
    have hF : FRp g x p := by
      rcases Classical.em (FRp g x p) with q | q
      · exact q
      · rw [← h3, frN_0 q] at this
        exact absurd this (by decide)
    exact h.2.1 p hp hF.1
/-- a set that isn't empty -/
theorem sv1 {N : Int} (h : ST N E g) {k x n S r : Nat} (hk : k < 10) (h16 : g 16 k = r) (hrg : RG 0 E r k g) (hx : x < 10) (h90 : g 90 x ≠ 0) (hn : n = lnK (frN g x) 40) (h10 : n ≤ 10) (hS : S < 2 ^ n) (h0 : S ≠ 0) : ∃ w v, -1 ≤ w ∧ in32 v ∧ (∀ d c s u, onQ g u → (∀ i, i < n → u 86 i = (fpX g x i : Int)) → ∃ u', Call prog clsT X (d + 6) 147 [(2, 0), (0, (x : Int)), (0, (k : Int)), (2, (r : Int)), (0, (S : Int))] (mk E c s (hh u)) = some ((1, wrt w v S), mk E c s (hh u')) ∧ off2 u u') ∧ (∀ t c s u, onM g u → fits (fun f => (rowS g k x n S).getD f 0) u → ∃ u', Call prog clsT X (t + 6) 192 [(2, 89), (0, (k : Int))] (mk E c s (hh u)) = some ((0, w), mk E c s (hh u')) ∧ fits (fun f => (rowS g k x n S).getD f 0) u' ∧ rfQ u u') ∧ ∀ d c s u, onM g u → fits (fun f => (rowS g k x n S).getD f 0) u → ∃ u', Call prog clsT X (d + 5) 207 [(2, 89), (0, (k : Int))] (mk E c s (hh u)) = some ((0, v), mk E c s (hh u')) ∧ rfQ u u' := by
  obtain ⟨hne, hsz⟩ := set_told h hn h10 hS h0
  have hp := p2_le (show n < 11 by omega)
  have hS10 : S < 1024 := by omega
  have hre := h.1.1.1
  have hst := stOf_in hre.rn (x : Int) (k : Int)
  have hrow : rowOK (fun f => (rowS g k x n S).getD f 0) := rowX_ok h.1.1.2.1 (in32_w _) hsz
  obtain ⟨rb, hb, hrb⟩ := h.1.2.2.2.2.2.1
  obtain ⟨w, w1, _, wc, wm⟩ := word_eq X hrg hk hrb hrow
  obtain ⟨v, v1, vc, vm⟩ := val_eq X hrg (by omega) (show 6 < nl 0 by decide) hrow
  refine ⟨w, v, w1, v1, fun d c s u hu hf => ?_, fun t c s u hu hf => ?_, fun d c s u hu hf => ?_⟩
  · -- the class
    have huC := C_of hu
    have hrv : RV u := (ST_Q h hu).1.1.2.1
    have hrg2 : RG 0 E r k u := RG_X hrg (by omega) (sameR_C huC)
    have hs : ∀ p : Nat, p < 40 → tb (pB (fpX g x) S n) p = true → 1 ≤ u 97 p := fun p hp hb => by rw [hu 97 p rfl]; exact hsz p hp hb
    have s262 := m262 X E c s (g := u) (d + 4) hS10
    have s262 : Call prog clsT X (d + 5) 262 [(0, (S : Int))] (mk E c s (hh u)) = some ((0, bits40 (S : Int)), mk E c s (hh u)) := by
      rw [← pcn_40 S hS10]
      exact s262
    rw [rc147_, cmp_ne, if_pos (by omega), call0 s262, push0, r147_6, cmp_le]
    by_cases z8 : bits40 (S : Int) ≤ 8
    case neg =>
      rw [if_neg z8]
      refine ⟨u, ?_, off2_refl u⟩
      unfold wrt
      rw [if_neg (fun q => z8 q.1)]
    have s148 := c148x X (E := E) h10 hS (d + 4) c s hf
    have s148 : Call prog clsT X (d + 5) 148 [(2, 0), (0, (S : Int))] (mk E c s (hh u)) = _ := s148
    have q := (c76 X E c s hrv hrg2 (d + 3) (pB (fpX g x) S n)).resolve_right (fun z => z hs)
    have q : Call prog clsT X (d + 5) 76 [(2, 27), (2, 1), (1, pB (fpX g x) S n), (2, (r : Int))] (mk E c s (hh u)) = _ := q
    have hQ : ∀ l, onC g (wr 28 0 11 u l) := fun l => onC_cl huC clQ_28
    have s23 : ∀ l, Call prog clsT X (d + 5) 23 [(2, 30), (0, (x : Int)), (0, (k : Int))] (mk E c s (hh (wr 28 0 11 u l))) = some ((0, stOf g x k), mk E c s (hh (wr 28 0 11 u l))) := fun l => c23x X c s hre (hQ l) (d + 2) x k
    have st := st_eq (w := u 108 k) hrv hs 40 (Nat.le_refl _)
    have e1 : stC u (pB (fpX g x) S n) (u 108 k) 40 = stM u (pB (fpX g x) S n) (u 108 k) 40 := by
      obtain ⟨p, p1, p2⟩ := hne
      rcases st.2.1 with y | y
      · have := y.1 p p1
        rw [p2] at this
        cases this
      · rw [st.1, y.2]
    have hb2 : (pcn (stM u (pB (fpX g x) S n) (u 108 k) 40).2.1.toNat 10 : Int) = bits40 (stM u (pB (fpX g x) S n) (u 108 k) 40).2.1 := by
      have y1 := st.2.2.1
      have y2 := st.2.2.2.1
      rw [pcn_40 _ (by omega), Int.toNat_of_nonneg y1]
    have fin : wr 28 0 11 u (((((rowP (stC u (pB (fpX g x) S n) (u 108 k) 40) (pcn (stC u (pB (fpX g x) S n) (u 108 k) 40).2.1.toNat 10) [0, 0, 0, 0]).set 7 (u 3 x)).set 8 (u 2 x)).set 9 (if u 4 x = 0 then 0 else 1)).set 10 (w32 (stOf g x k + 1))) = wr 28 0 11 u (rowS g k x n S) := by
      show wr 28 0 11 u (rowP (stC u (pB (fpX g x) S n) (u 108 k) 40) (pcn (stC u (pB (fpX g x) S n) (u 108 k) 40).2.1.toNat 10) [u 3 x, u 2 x, if u 4 x = 0 then 0 else 1, w32 (stOf g x k + 1)]) = _
      rw [e1, hb2, hrv.2.2.2.1 x, hrv.2.2.2.2.1 x, hrv.2.2.1 x hx (by rw [hu 90 x rfl]; exact h90)]
      unfold rowS
      rw [← rowX_Q hu]
      rfl
    have s77 := c77 X (E := E) c s (g := u) hx (d + 4) (w32 (stOf g x k + 1)) (l := rowP (stC u (pB (fpX g x) S n) (u 108 k) 40) (pcn (stC u (pB (fpX g x) S n) (u 108 k) 40).2.1.toNat 10) [0, 0, 0, 0]) rfl
    rw [fin] at s77
    have s77 : Call prog clsT X (d + 5) 77 [(2, 27), (2, 1), (0, (x : Int)), (0, w32 (stOf g x k + 1))] _ = _ := s77
    have fr : ∀ f, f < 11 → wr 28 0 11 u (rowS g k x n S) 28 f = (rowS g k x n S).getD f 0 := fun f hf => w28_at hf
    have f0 : wr 28 0 11 u (rowS g k x n S) 0 3 = rb := by rw [wr_ne (by decide), hu 0 3 rfl, hb]
    obtain ⟨u2, b1, b2⟩ := wc d c s (wr 28 0 11 u (rowS g k x n S)) (sameR_C (hQ _)) fr
    rw [if_pos z8, call1 s148, push1, r147_17, call3 q, push3, r147_19, call0 (s23 _), push0, r147_29, call3 s77, push3, r147_32, f0, call0 b1, push0, r147_38, cmp_ne]
    have o2 : off2 u u2 := off2_tr off2_28 (off2_29 b2)
    by_cases z : w = -1
    case neg =>
      rw [if_pos z]
      refine ⟨u2, ?_, o2⟩
      unfold wrt
      rw [if_neg (fun q => z q.2)]
    obtain ⟨u3, d1, d2⟩ := vc (d + 2) c s u2 (sameR_C (onC_2 huC o2)) (fun f hf => by rw [b2 28 f (by decide)]; exact fr f hf)
    have d1 : Call prog clsT X (d + 5) 74 [(2, 27), (2, (r : Int)), (0, 6)] (mk E c s (hh u2)) = _ := d1
    rw [if_neg (fun y => y z), call0 d1, push0, r147_45]
    refine ⟨u3, ?_, off2_tr o2 (off2_29 d2)⟩
    unfold wrt
    rw [if_pos ⟨z8, z⟩]
  · obtain ⟨u', a1, a2⟩ := wm t c s u (sameR_M hu) hf
    exact ⟨u', a1, fun f hf2 => by rw [a2 126 (f + 1) (by decide)]; exact hf f hf2, rfQ_R a2⟩
  · have e0 : w32 (w32 (9 * (k : Int)) + 6) = ((9 * k + 6 : Nat) : Int) := by
      rw [w32_of (x := 9 * (k : Int)) (by omega) (by omega), w32_of (by omega) (by omega)]; omega
    have i117 : 0 ≤ ((9 * k + 6 : Nat) : Int) ∧ ((9 * k + 6 : Nat) : Int) < ((117 : Nat) : Int) := by omega
    rw [rc207_, e0, inb_is, if_pos i117, Int.toNat_natCast, cmp_eq, hu 110 _ rfl]
    rcases vm with ⟨y1, y2⟩ | ⟨y1, y2⟩
    · rw [if_pos y1, y2]
      exact ⟨u, rfl, rfQ_refl u⟩
    · obtain ⟨w', q1, q2⟩ := y2 d c s u (sameR_M hu) hf
      have q1 : Call prog clsT X (d + 4) 194 [(2, 89), (0, ((9 * k + 6 : Nat) : Int))] (mk E c s (hh u)) = _ := q1
      rw [if_neg (by rw [y1]; decide), call0 q1, push0, r207_16]
      exact ⟨w', rfl, rfQ_R q2⟩
end SETWORTH
