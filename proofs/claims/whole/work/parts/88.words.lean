/-! Part 88: packed words and letters; numbers of both sides. -/
def pkF (f : Nat → Int) : Nat → Int
  | 0 => 0
  | n + 1 => pkF f n * 27 + f n - 96
def ltr (f : Nat → Int) (n : Nat) : Prop := ∀ i, i < n → 97 ≤ f i ∧ f i ≤ 122
theorem ltr.pre {f : Nat → Int} {n : Nat} (h : ltr f (n + 1)) : ltr f n := fun i hi => h i (by omega)
theorem pkF_pos {f : Nat → Int} : ∀ {n : Nat}, ltr f n → 0 ≤ pkF f n ∧ (0 < n → 0 < pkF f n)
  | 0, _ => ⟨Int.le_refl _, fun h => absurd h (by decide)⟩
  | n + 1, h => by
    have h1 := (pkF_pos h.pre).1
    have h2 := h n (by omega)
    unfold pkF
    exact ⟨by omega, fun _ => by omega⟩
theorem pkF_inj {f h : Nat → Int} : ∀ {n m : Nat}, ltr f n → ltr h m → pkF f n = pkF h m → n = m ∧ ∀ i, i < n → f i = h i
  | 0, 0, _, _, _ => ⟨rfl, fun i hi => absurd hi (Nat.not_lt_zero _)⟩
  | 0, m + 1, _, hh, e => by have := (pkF_pos hh).2 (by omega); rw [← e] at this; exact absurd this (show ¬ ((0 : Int) < 0) by decide)
  | n + 1, 0, hf, _, e => by have := (pkF_pos hf).2 (by omega); rw [e] at this; exact absurd this (show ¬ ((0 : Int) < 0) by decide)
  | n + 1, m + 1, hf, hh, e => by
    have a1 := hf n (by omega)
    have a2 := hh m (by omega)
    have e' : pkF f n * 27 + f n - 96 = pkF h m * 27 + h m - 96 := e
    obtain ⟨i1, i2⟩ := pkF_inj hf.pre hh.pre (show pkF f n = pkF h m by omega)
    subst i1
    refine ⟨rfl, fun i hi => ?_⟩
    by_cases q : i = n
    · subst q; omega
    · exact i2 i (by omega)
def pw27 : Nat → Int
  | 0 => 1
  | n + 1 => pw27 n * 27
def pw10 : Nat → Int
  | 0 => 1
  | n + 1 => pw10 n * 10
theorem pw27_le : ∀ n : Nat, n < 9 → pw27 n ≤ 282429536481 := by decide
theorem pw10_le : ∀ n : Nat, n < 5 → pw10 n ≤ 10000 := by decide
theorem pkF_lt {f : Nat → Int} : ∀ {n : Nat}, ltr f n → pkF f n < pw27 n
  | 0, _ => (by decide : (0 : Int) < 1)
  | n + 1, h => by
    have h1 := pkF_lt h.pre
    have h2 := h n (by omega)
    show pkF f n * 27 + f n - 96 < pw27 n * 27
    omega
theorem pkF_bd {f : Nat → Int} {n : Nat} (h : ltr f n) (hn : n ≤ 8) : pkF f n < 282429536481 := Int.lt_of_lt_of_le (pkF_lt h) (pw27_le n (by omega))
theorem pack_pk {T : Nat → Int} {a : Nat} : ∀ {n : Nat}, ltr (fun i => T (a + i)) n → n ≤ 8 → packTo T a n = pkF (fun i => T (a + i)) n
  | 0, _, _ => rfl
  | n + 1, h, hn => by
    have h1 := pack_pk h.pre (by omega)
    have h2 := h n (by omega)
    have h3 := pkF_bd h.pre (by omega)
    have h4 := (pkF_pos h.pre).1
    have h2' : 97 ≤ T (a + n) ∧ T (a + n) ≤ 122 := h2
    show (if 8 ≤ n then packTo T a n else w64 (w64 (w64 (packTo T a n * 27) + T (a + n)) - 96)) = pkF (fun i => T (a + i)) n * 27 + T (a + n) - 96
    rw [if_neg (by omega), h1, w64_of (x := pkF _ n * 27) (by omega) (by omega), w64_of (x := pkF _ n * 27 + _) (by omega) (by omega), w64_of (by omega) (by omega)]
/-- what lies in a span -/
theorem spn_all {P : Int → Bool} {T : Nat → Int} : ∀ n p i, p ≤ i → i < spn P T n p → P (T i) = true
  | 0, p, i, h1, h2 => absurd h2 (by unfold spn; omega)
  | n + 1, p, i, h1, h2 => by
    unfold spn at h2
    by_cases q : P (T p) = true
    · rw [if_pos q] at h2
      by_cases q2 : i = p
      · subst q2; exact q
      · exact spn_all n (p + 1) i (by omega) h2
    · rw [if_neg q] at h2; omega
theorem num_num {T : Nat → Int} {a : Nat} : ∀ {n : Nat}, (∀ i, i < n → 48 ≤ T (a + i) ∧ T (a + i) ≤ 57) → n ≤ 4 → numTo T a n = num4 T a n ∧ 0 ≤ numTo T a n ∧ numTo T a n < pw10 n
  | 0, _, _ => ⟨rfl, Int.le_refl _, (by decide : (0 : Int) < 1)⟩
  | n + 1, h, hn => by
    obtain ⟨h1, h2, h3⟩ := num_num (n := n) (fun i hi => h i (by omega)) (by omega)
    have h4 := h n (by omega)
    have hb := pw10_le n (by omega)
    have e1 : numTo T a (n + 1) = numTo T a n * 10 + (T (a + n) - 48) := by
      show w32 (w32 (numTo T a n * 10) + w32 (T (a + n) - 48)) = _
      rw [w32_of (x := numTo T a n * 10) (by omega) (by omega), w32_of (x := T (a + n) - 48) (by omega) (by omega), w32_of (by omega) (by omega)]
    have e2 : num4 T a (n + 1) = numTo T a n * 10 + (T (a + n) - 48) := by
      show (if 4 ≤ n then num4 T a n else w32 (w32 (w32 (num4 T a n * 10) + T (a + n)) - 48)) = _
      rw [if_neg (by omega), ← h1, w32_of (x := numTo T a n * 10) (by omega) (by omega), w32_of (x := numTo T a n * 10 + T (a + n)) (by omega) (by omega), w32_of (by omega) (by omega)]
      omega
    refine ⟨e1.trans e2.symm, by rw [e1]; omega, ?_⟩
    rw [e1]
    show _ < pw10 n * 10
    omega
