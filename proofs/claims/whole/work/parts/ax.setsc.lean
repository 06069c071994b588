/-! Part ax: the class's best sets. -/
theorem lcmpgt {x y : Int} {α : Type} {a b : α} : (if 0 < lcmpI x y then a else b) = if y < x then a else b := by
  unfold lcmpI
  by_cases z : x < y
  · rw [if_pos z, if_neg (by decide), if_neg (by omega)]
  · rw [if_neg z]
    by_cases w : x = y
    · rw [if_pos w, if_neg (by decide), if_neg (by omega)]
    · rw [if_neg w, if_pos (by decide), if_pos (by omega)]
theorem lcmple {x y : Int} {α : Type} {a b : α} : (if lcmpI x y ≤ 0 then a else b) = if x ≤ y then a else b := by
  unfold lcmpI
  by_cases z : x < y
  · rw [if_pos z, if_pos (by decide), if_pos (by omega)]
  · rw [if_neg z]
    by_cases w : x = y
    · rw [if_pos w, if_pos (by decide), if_pos (by omega)]
    · rw [if_neg w, if_neg (by decide), if_neg (by omega)]
/-- a set that may be chosen; its marks -/
abbrev gd (W : Nat → Int) (S : Nat) : Prop := S = 0 ∨ (bits40 (S : Int) ≤ 8 ∧ W S = -1)
def mm (M : Nat → Int) (S : Nat) : Int := if S = 0 then 0 else M S
def wo (W M : Nat → Int) (S : Nat) : Int := if gd W S then mm M S else -4611686018427387904
/-- what both sides make of the sets for class k -/
def SVP (X : MExt) (E : List (Nat × Nat)) (g : Gm) (k x n r : Nat) (W M : Nat → Int) : Prop := (∀ S : Nat, S < 2 ^ n → in32 (mm M S) ∧ -1 ≤ W S) ∧ (∀ S : Nat, S < 2 ^ n → ∀ d c s u, onQ g u → (∀ i, i < n → u 86 i = (fpX g x i : Int)) → ∃ u', Call prog clsT X (d + 6) 147 [(2, 0), (0, (x : Int)), (0, (k : Int)), (2, (r : Int)), (0, (S : Int))] (mk E c s (hh u)) = some ((1, wo W M S), mk E c s (hh u')) ∧ off2 u u') ∧ ∀ S : Nat, S < 2 ^ n → S ≠ 0 → (∀ t c s u, onM g u → fits (fun f => (rowS g k x n S).getD f 0) u → ∃ u', Call prog clsT X (t + 6) 192 [(2, 89), (0, (k : Int))] (mk E c s (hh u)) = some ((0, W S), mk E c s (hh u')) ∧ fits (fun f => (rowS g k x n S).getD f 0) u' ∧ rfQ u u') ∧ ∀ d c s u, onM g u → fits (fun f => (rowS g k x n S).getD f 0) u → ∃ u', Call prog clsT X (d + 5) 207 [(2, 89), (0, (k : Int))] (mk E c s (hh u)) = some ((0, mm M S), mk E c s (hh u')) ∧ rfQ u u'
section SETSC
variable (X : MExt) {E : List (Nat × Nat)} {g : Gm}
theorem SV {N : Int} (h : ST N E g) {k x n r : Nat} (hk : k < 10) (h16 : g 16 k = r) (hrg : RG 0 E r k g) (hx : x < 10) (h90 : g 90 x ≠ 0) (hn : n = lnK (frN g x) 40) (h10 : n ≤ 10) : ∃ W M : Nat → Int, SVP X E g k x n r W M := by
  have key : ∀ S : Nat, ∃ a : Int × Int, S < 2 ^ n → S ≠ 0 → -1 ≤ a.1 ∧ in32 a.2 ∧ (∀ d c s u, onQ g u → (∀ i, i < n → u 86 i = (fpX g x i : Int)) → ∃ u', Call prog clsT X (d + 6) 147 [(2, 0), (0, (x : Int)), (0, (k : Int)), (2, (r : Int)), (0, (S : Int))] (mk E c s (hh u)) = some ((1, wrt a.1 a.2 S), mk E c s (hh u')) ∧ off2 u u') ∧ (∀ t c s u, onM g u → fits (fun f => (rowS g k x n S).getD f 0) u → ∃ u', Call prog clsT X (t + 6) 192 [(2, 89), (0, (k : Int))] (mk E c s (hh u)) = some ((0, a.1), mk E c s (hh u')) ∧ fits (fun f => (rowS g k x n S).getD f 0) u' ∧ rfQ u u') ∧ ∀ d c s u, onM g u → fits (fun f => (rowS g k x n S).getD f 0) u → ∃ u', Call prog clsT X (d + 5) 207 [(2, 89), (0, (k : Int))] (mk E c s (hh u)) = some ((0, a.2), mk E c s (hh u')) ∧ rfQ u u' := fun S => by
    by_cases z : S < 2 ^ n ∧ S ≠ 0
    · obtain ⟨w, v, q⟩ := sv1 X (E := E) h hk h16 hrg hx h90 hn h10 z.1 z.2
      exact ⟨(w, v), fun _ _ => q⟩
    · exact ⟨(0, 0), fun a b => absurd ⟨a, b⟩ z⟩
  obtain ⟨f, hf⟩ := Classical.axiomOfChoice key
  refine ⟨fun S => if S = 0 then -1 else (f S).1, fun S => (f S).2, fun S hS => ?_, fun S hS d c s u hu hc => ?_, fun S hS h0 => ?_⟩
  · unfold mm
    dsimp only
    by_cases z : S = 0
    · rw [if_pos z, if_pos z]
      exact ⟨in32_0, Int.le_refl _⟩
    · rw [if_neg z, if_neg z]
      exact ⟨(hf S hS z).2.1, (hf S hS z).1⟩
  · by_cases z : S = 0
    · subst z
      refine ⟨u, ?_, off2_refl u⟩
      rw [show d + 6 = (d + 5) + 1 from rfl, rc147_, cmp_ne, if_neg (fun y => y rfl)]
      unfold wo mm
      rw [if_pos (Or.inl rfl), if_pos rfl]
    · obtain ⟨u', a1, a2⟩ := (hf S hS z).2.2.1 d c s u hu hc
      refine ⟨u', ?_, a2⟩
      rw [a1]
      unfold wrt wo mm
      rw [if_neg z]
      by_cases y : bits40 (S : Int) ≤ 8 ∧ (f S).1 = -1
      · rw [if_pos y, if_pos (Or.inr ⟨y.1, (if_neg z).trans y.2⟩)]
      · rw [if_neg y, if_neg (fun q => by
          rcases q with q | q
          · exact z q
          · exact y ⟨q.1, (if_neg z).symm.trans q.2⟩)]
  · obtain ⟨_, _, _, a4, a5⟩ := hf S hS h0
    have e1 : (if S = 0 then -1 else (f S).1) = (f S).1 := if_neg h0
    have e2 : mm (fun S => (f S).2) S = (f S).2 := if_neg h0
    refine ⟨fun t c s u hu hc => ?_, fun d c s u hu hc => ?_⟩
    · dsimp only
      rw [e1]
      exact a4 t c s u hu hc
    · rw [e2]
      exact a5 d c s u hu hc
/-- the best part of S stands in the class's cells -/
def bwP (W M : Nat → Int) (u : Gm) (S : Nat) : Prop := ∃ p : Nat, u 88 S = (p : Int) ∧ bw (gd W) (mm M) S p (u 87 S)
def flQ (u u' : Gm) : Prop := ∀ y i, y ≠ 28 → y ≠ 29 → y ≠ 87 → y ≠ 88 → u' y i = u y i
theorem flQ_refl (u : Gm) : flQ u u := fun _ _ _ _ _ _ => rfl
theorem flQ_tr {u v w : Gm} (h : flQ u v) (h2 : flQ v w) : flQ u w := fun y i a b c d => (h2 y i a b c d).trans (h y i a b c d)
theorem flQ_2 {u v : Gm} (h : off2 u v) : flQ u v := fun y i a b _ _ => h y i a b
theorem onQ_fl {u v : Gm} (h : onQ g u) (h2 : flQ u v) : onQ g v := fun x i hs => (h2 x i (fun z => by rw [z] at hs; cases hs) (fun z => by rw [z] at hs; cases hs) (fun z => by rw [z] at hs; cases hs) (fun z => by rw [z] at hs; cases hs)).trans (h x i hs)
/-- what is known behind the pieces below i -/
def inP (W M : Nat → Int) (S i : Nat) (best : Int) (pick : Nat) : Prop := (gd W S → mm M S ≤ best ∧ (mm M S = best → pick ≤ S)) ∧ (∀ j, j < i → S.testBit j = true → ∀ t, t < 1024 → sb t (S - 2 ^ j) → gd W t → mm M t ≤ best ∧ (mm M t = best → pick ≤ t)) ∧ ((best = -4611686018427387904 ∧ pick = S ∧ ¬ gd W S ∧ ∀ j, j < i → ¬ (S.testBit j = true)) ∨ (pick < 1024 ∧ sb pick S ∧ gd W pick ∧ best = mm M pick))
/-- fillBestWithin: one set -/
theorem c146_in {W M : Nat → Int} {S n : Nat} (hn : n ≤ 10) (hS : S < 2 ^ n) (hM : ∀ S, S < 2 ^ n → in32 (mm M S)) (d c s : Nat) {u : Gm} (hb : ∀ S', S' < S → bwP W M u S') (x k r all : Int) : ∀ (m i : Nat) (best : Int) (pick : Nat) (w7 w10 : MV), i + m = 10 → inP W M S i best pick → ∃ (best' : Int) (pick' : Nat), Ev prog clsT X d mc146 16 [(2, 0), (0, x), (0, k), (2, r), (0, all), (0, (S : Int)), (1, best), w7, (0, (pick : Int)), (0, (i : Int)), w10] [] (mk E c s (hh u)) = Ev prog clsT X d mc146 2 [(2, 0), (0, x), (0, k), (2, r), (0, all), (0, ((S + 1 : Nat) : Int)), (1, best'), (3, 0), (0, (pick' : Int)), (0, 10), (3, 0)] [] (mk E c s (hh (up (up u 87 S best') 88 S (pick' : Int)))) ∧ bw (gd W) (mm M) S pick' best' := by
  have hp := p2_le (show n < 11 by omega)
  have hS10 : S < 1024 := by omega
  intro m
  induction m with
  | zero =>
    intro i best pick w7 w10 hi hI
    have hi : i = 10 := by omega
    subst hi
    have i1024 : 0 ≤ (S : Int) ∧ (S : Int) < ((1024 : Nat) : Int) := by omega
    obtain ⟨h1, h2, h3⟩ := hI
    refine ⟨best, pick, ?_, ?_⟩
    · rw [r146_16, cmp_ge, if_pos (by decide), inb_is, if_pos i1024, inb_is, if_pos i1024, Int.toNat_natCast, w32_succ (by omega)]
      rfl
    · have h3 := h3.resolve_left (fun ⟨_, _, z3, z4⟩ => by
        refine z3 (Or.inl (sb_eq hS10 (by decide) (fun i hi => ?_)))
        rw [Nat.zero_testBit]
        exact bool_f (z4 i hi))
      refine ⟨h3.1, h3.2.1, h3.2.2.1, h3.2.2.2, fun t ht hs hg => ?_⟩
      by_cases z : t = S
      · rw [z] at hg ⊢
        exact h1 hg
      · obtain ⟨j, j1, j2, j3⟩ := sb_less ht hS10 hs z
        exact h2 j j1 j2 t ht j3 hg
  | succ m ih =>
    intro i best pick w7 w10 hi hI
    have hi10 : i < 10 := by omega
    obtain ⟨v1, v2⟩ := mns_ok i hi10 S hS10
    obtain ⟨h1, h2, h3⟩ := hI
    rw [r146_16, cmp_ge, if_neg (by omega), v1, cmp_eq, w32_succ (by omega)]
    by_cases z : S.testBit i = true
    case neg =>
      rw [if_neg z, if_pos rfl]
      refine ih (i + 1) best pick _ _ (by omega) ⟨h1, fun j hj hb t ht hs hg => ?_, ?_⟩
      · by_cases y : j = i
        · rw [y] at hb; exact absurd hb z
        · exact h2 j (by omega) hb t ht hs hg
      · rcases h3 with ⟨a, b, e, f⟩ | h3
        · refine Or.inl ⟨a, b, e, fun j hj => ?_⟩
          by_cases y : j = i
          · rw [y]; exact z
          · exact f j (by omega)
        · exact Or.inr h3
    have v2 := v2 z
    have pi := Nat.two_pow_pos i
    have hLS : S - 2 ^ i < S := by omega
    obtain ⟨KL, k1, k2, k3, k4, k5, k6⟩ := hb (S - 2 ^ i) hLS
    have hLn : S - 2 ^ i < 2 ^ n := by omega
    have hKn : KL < 2 ^ n := by have := sb_le k2 k3; omega
    have mK := hM KL hKn
    have iL : 0 ≤ ((S - 2 ^ i : Nat) : Int) ∧ ((S - 2 ^ i : Nat) : Int) < ((1024 : Nat) : Int) := by omega
    rw [if_pos z, if_neg (by omega), inb_is, if_pos iL, cmp_ge, lcmpge, Int.toNat_natCast]
    generalize hBL : u 87 (S - 2 ^ i) = BL at k5 k6 ⊢
    have mK2 : -2147483648 ≤ BL ∧ BL < 2147483648 := by rw [k5]; exact mK
    -- staying
    have stay : ∀ w7 w10, (∀ t, t < 1024 → sb t (S - 2 ^ i) → gd W t → mm M t ≤ best ∧ (mm M t = best → pick ≤ t)) → best ≠ -4611686018427387904 → ∃ (best' : Int) (pick' : Nat), Ev prog clsT X d mc146 16 [(2, 0), (0, x), (0, k), (2, r), (0, all), (0, (S : Int)), (1, best), w7, (0, (pick : Int)), (0, ((i + 1 : Nat) : Int)), w10] [] (mk E c s (hh u)) = Ev prog clsT X d mc146 2 [(2, 0), (0, x), (0, k), (2, r), (0, all), (0, ((S + 1 : Nat) : Int)), (1, best'), (3, 0), (0, (pick' : Int)), (0, 10), (3, 0)] [] (mk E c s (hh (up (up u 87 S best') 88 S (pick' : Int)))) ∧ bw (gd W) (mm M) S pick' best' := fun w7 w10 hnew hne => by
      refine ih (i + 1) best pick w7 w10 (by omega) ⟨h1, fun j hj hb t ht hs hg => ?_, Or.inr (h3.resolve_left (fun q => hne q.1))⟩
      by_cases y : j = i
      · rw [y] at hs; exact hnew t ht hs hg
      · exact h2 j (by omega) hb t ht hs hg
    -- taking
    have take : ∀ w7 w10, (best < BL ∨ (best = BL ∧ KL < pick)) → ∃ (best' : Int) (pick' : Nat), Ev prog clsT X d mc146 16 [(2, 0), (0, x), (0, k), (2, r), (0, all), (0, (S : Int)), (1, BL), w7, (0, (KL : Int)), (0, ((i + 1 : Nat) : Int)), w10] [] (mk E c s (hh u)) = Ev prog clsT X d mc146 2 [(2, 0), (0, x), (0, k), (2, r), (0, all), (0, ((S + 1 : Nat) : Int)), (1, best'), (3, 0), (0, (pick' : Int)), (0, 10), (3, 0)] [] (mk E c s (hh (up (up u 87 S best') 88 S (pick' : Int)))) ∧ bw (gd W) (mm M) S pick' best' := fun w7 w10 hc => by
      refine ih (i + 1) BL KL w7 w10 (by omega) ⟨fun hg => ?_, fun j hj hb t ht hs hg => ?_, Or.inr ⟨k2, sb_mns hS10 hi10 z k3, k4, k5⟩⟩
      · have := h1 hg
        omega
      · by_cases y : j = i
        · rw [y] at hs; exact k6 t ht hs hg
        · have := h2 j (by omega) hb t ht hs hg
          omega
    by_cases c1 : best ≤ BL
    case neg =>
      rw [if_neg c1]
      exact stay _ _ (fun t ht hs hg => by have := (k6 t ht hs hg).1; omega) (by omega)
    rw [if_pos c1, inb_is, if_pos iL, cmp_gt, lcmpgt]
    by_cases c2 : best < BL
    · rw [if_pos c2, inb_is, if_pos iL, inb_is, if_pos iL, k1]
      exact take _ _ (Or.inl c2)
    rw [if_neg c2, inb_is, if_pos iL, cmp_ge, k1]
    by_cases c3 : (pick : Int) ≤ (KL : Int)
    · rw [if_pos c3]
      exact stay _ _ (fun t ht hs hg => by have := k6 t ht hs hg; omega) (by omega)
    · rw [if_neg c3, inb_is, if_pos iL, inb_is, if_pos iL]
      exact take _ _ (Or.inr ⟨by omega, by omega⟩)
/-- fillBestWithin -/
theorem c146x {k x n r : Nat} {W M : Nat → Int} (hn : n ≤ 10) (hV : SVP X E g k x n r W M) (d c s : Nat) {u : Gm} (hu : onQ g u) (hc : ∀ i, i < n → u 86 i = (fpX g x i : Int)) : ∃ u', Call prog clsT X (d + 7) 146 [(2, 0), (0, (x : Int)), (0, (k : Int)), (2, (r : Int)), (0, ((2 ^ n - 1 : Nat) : Int))] (mk E c s (hh u)) = some ((3, 0), mk E c s (hh u')) ∧ flQ u u' ∧ ∀ S, S < 2 ^ n → bwP W M u' S := by
  have hp := p2_le (show n < 11 by omega)
  have hM : ∀ S, S < 2 ^ n → in32 (mm M S) := fun S hS => (hV.1 S hS).1
  have loop : ∀ (m S : Nat) (w6 w7 w8 w9 w10 : MV) (v : Gm), S + m = 2 ^ n → flQ u v → (∀ S', S' < S → bwP W M v S') → ∃ u', Ev prog clsT X (d + 6) mc146 2 [(2, 0), (0, (x : Int)), (0, (k : Int)), (2, (r : Int)), (0, ((2 ^ n - 1 : Nat) : Int)), (0, (S : Int)), w6, w7, w8, w9, w10] [] (mk E c s (hh v)) = some ((3, 0), mk E c s (hh u')) ∧ flQ u u' ∧ ∀ S, S < 2 ^ n → bwP W M u' S := by
    intro m
    induction m with
    | zero =>
      intro S w6 w7 w8 w9 w10 v hS hv hb
      refine ⟨v, ?_, hv, fun S' h' => hb S' (by omega)⟩
      rw [r146_2, cmp_gt, if_pos (by omega)]
    | succ m ih =>
      intro S w6 w7 w8 w9 w10 v hS hv hb
      have hS2 : S < 2 ^ n := by omega
      have hvQ := onQ_fl hu hv
      obtain ⟨u1, a1, a2⟩ := hV.2.1 S hS2 d c s v hvQ (fun i hi => by rw [hv 86 i (by decide) (by decide) (by decide) (by decide)]; exact hc i hi)
      have hb1 : ∀ S', S' < S → bwP W M u1 S' := fun S' h' => by
        obtain ⟨p, p1, p2⟩ := hb S' h'
        refine ⟨p, by rw [a2 88 _ (by decide) (by decide)]; exact p1, ?_⟩
        rw [a2 87 _ (by decide) (by decide)]
        exact p2
      have in0 : inP W M S 0 (wo W M S) S := by
        unfold wo
        refine ⟨fun hg => ?_, fun j hj => absurd hj (Nat.not_lt_zero j), ?_⟩
        · rw [if_pos hg]
          exact ⟨Int.le_refl _, fun _ => Nat.le_refl _⟩
        · by_cases z : gd W S
          · rw [if_pos z]
            exact Or.inr ⟨by omega, sb_refl S, z, rfl⟩
          · rw [if_neg z]
            exact Or.inl ⟨rfl, rfl, z, fun j hj => absurd hj (Nat.not_lt_zero j)⟩
      obtain ⟨b', p', e1, e2⟩ := c146_in X (E := E) (W := W) (M := M) hn hS2 hM (d + 6) c s hb1 (x : Int) (k : Int) (r : Int) ((2 ^ n - 1 : Nat) : Int) 10 0 (wo W M S) S (3, 0) (3, 0) (by omega) in0
      have e1 : Ev prog clsT X (d + 6) mc146 16 [(2, 0), (0, (x : Int)), (0, (k : Int)), (2, (r : Int)), (0, ((2 ^ n - 1 : Nat) : Int)), (0, (S : Int)), (1, wo W M S), (3, 0), (0, (S : Int)), (0, 0), (3, 0)] [] (mk E c s (hh u1)) = _ := e1
      rw [r146_2, cmp_gt, if_neg (by omega), call1 a1, push1, r146_11, e1]
      refine ih (S + 1) _ _ _ _ _ _ (by omega) (flQ_tr (flQ_tr hv (flQ_2 a2)) (fun y i _ _ z1 z2 => by rw [up_cell z2, up_cell z1])) (fun S' h' => ?_)
      by_cases z : S' = S
      · subst z
        refine ⟨p', up_same, ?_⟩
        rw [up_cell (by decide), up_same]
        exact e2
      · obtain ⟨p, p1, p2⟩ := hb1 S' (by omega)
        refine ⟨p, by rw [up_place z, up_cell (by decide)]; exact p1, ?_⟩
        rw [up_cell (by decide), up_place z]
        exact p2
  obtain ⟨u', a1, a2, a3⟩ := loop (2 ^ n) 0 (3, 0) (3, 0) (3, 0) (3, 0) (3, 0) u (by omega) (flQ_refl u) (fun S' h' => absurd h' (Nat.not_lt_zero _))
  refine ⟨u', ?_, a2, a3⟩
  rw [show d + 7 = (d + 6) + 1 from rfl, rc146_]
  exact a1
end SETSC
