/-! Part an: bits of an int; who can still lead. -/
def tb3 (v : Int) (i : Nat) : Bool := (b32 v).getLsbD i
theorem tb3_or (a b : Int) (i : Nat) : tb3 (ior32 a b) i = (tb3 a i || tb3 b i) := by
  unfold tb3 ior32; rw [b32_toInt]; simp
theorem tb3_and (a b : Int) (i : Nat) : tb3 (iand32 a b) i = (tb3 a i && tb3 b i) := by
  unfold tb3 iand32; rw [b32_toInt]; simp
theorem tb3_xor (a b : Int) (i : Nat) : tb3 (ixor32 a b) i = (tb3 a i ^^ tb3 b i) := by
  unfold tb3 ixor32; rw [b32_toInt]; simp
theorem tb3_0 (i : Nat) : tb3 0 i = false := by
  unfold tb3; show (b32 0).getLsbD i = false; rw [show b32 0 = 0#32 from rfl]; simp
theorem tb3_m1 (i : Nat) (h : i < 32) : tb3 (-1) i = true := by
  unfold tb3; rw [show b32 (-1) = BitVec.allOnes 32 from by decide, BitVec.getLsbD_allOnes]; simp [h]
theorem tb3_1sh (k i : Nat) (hk : k < 32) : tb3 (ishl32 1 (k : Int)) i = decide (i = k) := by
  unfold tb3 ishl32
  rw [b32_toInt, show ((k : Int) % 32).toNat = k by omega, show b32 1 = 1#32 from rfl]
  simp only [BitVec.getLsbD_shiftLeft]
  by_cases h : i = k
  · subst h; simp [hk]
  · by_cases h2 : i < k
    · simp [h, h2]
    · simp [h, h2]; omega
/-- (v >> k) & 1 -/
theorem bit3_at (v : Int) (k : Nat) (hk : k < 32) : iand32 (ishr32 v (k : Int)) 1 = bI (tb3 v k = true) := by
  unfold iand32 ishr32 tb3
  rw [b32_toInt, show ((k : Int) % 32).toNat = k by omega, show b32 1 = 1#32 from rfl]
  have e : ((b32 v).sshiftRight k &&& 1#32) = if (b32 v).getLsbD k then 1#32 else 0#32 := by
    apply BitVec.eq_of_getLsbD_eq
    intro i hi
    rw [BitVec.getLsbD_and, BitVec.getLsbD_sshiftRight]
    by_cases h0 : i = 0
    · subst h0
      rw [show (1#32).getLsbD 0 = true from rfl, Bool.and_true]
      by_cases hb : (b32 v).getLsbD k = true
      · rw [if_pos hb]; simp only [Nat.add_zero, hb, hk]; rfl
      · rw [if_neg hb]; simp only [Nat.add_zero, Bool.not_eq_true] at hb ⊢; simp only [hb, hk]; rfl
    · have h1 : (1#32).getLsbD i = false := by simp [h0]
      rw [h1, Bool.and_false]
      split
      · rw [h1]
      · exact (BitVec.getLsbD_zero).symm
  rw [e]
  unfold bI
  split <;> rfl
theorem tb3_set {v : Int} {k j : Nat} (hk : k < 32) : tb3 (ior32 v (ishl32 1 (k : Int))) j = (tb3 v j || decide (j = k)) := by
  rw [tb3_or, tb3_1sh _ _ hk]
theorem min3_at (a b : Int) : (if b < a then b else a) = if a ≤ b then a else b := by
  by_cases z : a ≤ b
  · rw [if_pos z, if_neg (by omega)]
  · rw [if_neg z, if_pos (by omega)]
/-- ways to give the places of classes; c: how many of each name are left -/
abbrev CpT : Type := (Nat → Int) → (Nat → Int) → Prop
def cpI (K : CpT) (Z : Nat → Int) : Nat → (Nat → Int) → CpT
  | 0, _, P, F => K P F
  | q + 1, c, P, F => ((∀ x, c x = 0) ∧ K P F) ∨ ∃ x, 0 < c x ∧ cpI K Z q (pt c x (c x - 1)) (pt P x (P x + Z (2 - q))) (pt F x (F x + (if q = 2 then 1 else 0)))
def cpO (C : Nat → Nat → Int) (Z : Nat → Int) (n : Nat) (L : CpT) : Nat → CpT
  | 0 => L
  | m + 1 => cpI (cpO C Z n L m) Z 3 (C (n - (m + 1)))
theorem cpO_s (C : Nat → Nat → Int) (Z : Nat → Int) (n : Nat) (L : CpT) (m : Nat) : cpO C Z n L (m + 1) = cpI (cpO C Z n L m) Z 3 (C (n - (m + 1))) := rfl
/-- T leads -/
def cpL (g : Gm) (T : Nat) : CpT := fun P F => 0 < P T ∧ ∀ y, y < 10 → g 90 y ≠ 0 → g 93 y = 0 → P y ≤ P T ∧ (P y = P T → F y ≤ F T)
def mn (a b : Int) : Int := if b < a then b else a
/-- what is hoped for bounds what can be -/
def cpB (g : Gm) (T : Nat) (h : Int) (P : Nat → Int) : Prop := 0 < P T + h ∧ ∀ y, y < 10 → y ≠ T → g 90 y ≠ 0 → g 93 y = 0 → P y ≤ P T + h
theorem cpI_up {g : Gm} {T : Nat} {K : CpT} {Z : Nat → Int} {B h : Int} (hK : ∀ P F, K P F → cpB g T h P) (hZ : ∀ i, i < 3 → 0 ≤ Z i ∧ Z i ≤ B) : ∀ q c P F, q ≤ 3 → (∀ x, 0 ≤ c x) → cpI K Z q c P F → cpB g T (h + B * mn (c T) q) P := by
  have hB : 0 ≤ B := by have := hZ 0 (by decide); omega
  intro q
  induction q with
  | zero =>
    intro c P F _ hc hp
    have hp : K P F := hp
    have e : mn (c T) ((0 : Nat) : Int) = 0 := by
      have := hc T
      unfold mn
      split <;> omega
    rw [e, Int.mul_zero, Int.add_zero]
    exact hK P F hp
  | succ q ih =>
    intro c P F hq hc hp
    have h0 : 0 ≤ mn (c T) ((q + 1 : Nat) : Int) := by
      have := hc T
      unfold mn
      split <;> omega
    have hB0 := Int.mul_nonneg hB h0
    rcases hp with ⟨_, hp⟩ | ⟨x, hx, hp⟩
    · have k := hK P F hp
      exact ⟨by have := k.1; omega, fun y h1 h2 h3 h4 => by have := k.2 y h1 h2 h3 h4; omega⟩
    · have hz := hZ (2 - q) (by omega)
      have k := ih _ _ _ (by omega) (fun y => by
        rw [pt_at]
        split
        · omega
        · exact hc y) hp
      by_cases w : T = x
      · subst w
        rw [pt_same] at k
        have e : mn (c T) ((q + 1 : Nat) : Int) = mn (c T - 1) (q : Int) + 1 := by
          unfold mn
          split <;> split <;> omega
        have e2 : B * mn (c T) ((q + 1 : Nat) : Int) = B * mn (c T - 1) (q : Int) + B := by rw [e, Int.mul_add, Int.mul_one]
        rw [e2]
        unfold cpB at k ⊢
        rw [pt_same] at k
        refine ⟨by have := k.1; omega, fun y h1 h2 h3 h4 => ?_⟩
        have := k.2 y h1 h2 h3 h4
        rw [pt_ne h2] at this
        omega
      · rw [pt_ne w] at k
        have e : mn (c T) (q : Int) ≤ mn (c T) ((q + 1 : Nat) : Int) := by
          unfold mn
          split <;> split <;> omega
        have e2 := Int.mul_le_mul_of_nonneg_left e hB
        unfold cpB at k ⊢
        rw [pt_ne w] at k
        refine ⟨by have := k.1; omega, fun y h1 h2 h3 h4 => ?_⟩
        have := k.2 y h1 h2 h3 h4
        rw [pt_at] at this
        by_cases v : y = x
        · rw [if_pos v] at this
          subst v
          omega
        · rw [if_neg v] at this
          omega
/-- the hopes from class n - m on -/
def hop (C : Nat → Nat → Int) (B : Int) (n T : Nat) : Nat → Int
  | 0 => 0
  | m + 1 => hop C B n T m + B * mn (C (n - (m + 1)) T) 3
theorem cpO_up {g : Gm} {T : Nat} (hT : T < 10) (h90 : g 90 T ≠ 0) (h93 : g 93 T = 0) {C : Nat → Nat → Int} {Z : Nat → Int} {B : Int} {n : Nat} (hZ : ∀ i, i < 3 → 0 ≤ Z i ∧ Z i ≤ B) (hC : ∀ k x, 0 ≤ C k x) : ∀ m P F, cpO C Z n (cpL g T) m P F → cpB g T (hop C B n T m) P
  | 0, P, F, hp => by
    have hp : cpL g T P F := hp
    show cpB g T 0 P
    exact ⟨by have := hp.1; omega, fun y h1 _ h3 h4 => by have := (hp.2 y h1 h3 h4).1; omega⟩
  | m + 1, P, F, hp => cpI_up (fun P F hk => cpO_up hT h90 h93 hZ hC m P F hk) hZ 3 _ P F (by decide) (hC _) hp
/-- the cup's bits say who leads -/
theorem ldA_lead (g : Gm) (P F : Nat → Int) : ∀ n, n ≤ 10 → (∀ y, y < n → g 90 y ≠ 0 → g 93 y = 0 → 0 < P y → P y < (ldA g P F n).2.1 ∨ (P y = (ldA g P F n).2.1 ∧ F y ≤ (ldA g P F n).2.2)) ∧ (∀ y, tb3 (ldA g P F n).1 y = true ↔ y < n ∧ g 90 y ≠ 0 ∧ g 93 y = 0 ∧ 0 < P y ∧ P y = (ldA g P F n).2.1 ∧ F y = (ldA g P F n).2.2) ∧ (((ldA g P F n).2.1 = 0 ∧ (ldA g P F n).2.2 = 0) ∨ ∃ y, y < n ∧ g 90 y ≠ 0 ∧ g 93 y = 0 ∧ 0 < P y ∧ P y = (ldA g P F n).2.1 ∧ F y = (ldA g P F n).2.2)
  | 0, _ => ⟨fun y hy => absurd hy (Nat.not_lt_zero _), fun y => ⟨fun z => (by rw [show (ldA g P F 0).1 = 0 from rfl, tb3_0] at z; cases z), fun z => absurd z.1 (Nat.not_lt_zero _)⟩, Or.inl ⟨rfl, rfl⟩⟩
  | n + 1, hn => by
    obtain ⟨a1, a2, a3⟩ := ldA_lead g P F n (by omega)
    have e : ldA g P F (n + 1) = ldS g P F n (ldA g P F n) := rfl
    rw [e]
    generalize ldA g P F n = a at a1 a2 a3
    obtain ⟨b, p, f⟩ := a
    dsimp only at a1 a2 a3
    have p0 : 0 ≤ p := by
      rcases a3 with z | ⟨y, _, _, _, z, w, _⟩ <;> omega
    unfold ldS
    by_cases z : g 90 n ≠ 0 ∧ g 93 n = 0 ∧ 0 < P n
    · rw [if_pos z]
      by_cases z1 : p < P n ∨ (P n = p ∧ f < F n)
      · rw [if_pos z1]
        dsimp only
        refine ⟨fun y h1 h2 h3 h4 => ?_, fun y => ?_, Or.inr ⟨n, by omega, z.1, z.2.1, z.2.2, rfl, rfl⟩⟩
        · by_cases w : y = n
          · subst w; exact Or.inr ⟨rfl, Int.le_refl _⟩
          · rcases a1 y (by omega) h2 h3 h4 with v | v <;> omega
        · rw [tb3_set (by omega), tb3_0, Bool.false_or]
          constructor
          · intro w
            have w : y = n := of_decide_eq_true w
            subst w
            exact ⟨by omega, z.1, z.2.1, z.2.2, rfl, rfl⟩
          · intro ⟨w1, w2, w3, w4, w5, w6⟩
            refine decide_eq_true ?_
            by_cases w : y = n
            · exact w
            · exfalso
              rcases a1 y (by omega) w2 w3 w4 with v | v <;> omega
      · rw [if_neg z1]
        by_cases z2 : P n = p ∧ F n = f
        · rw [if_pos z2]
          dsimp only
          refine ⟨fun y h1 h2 h3 h4 => ?_, fun y => ?_, Or.inr ⟨n, by omega, z.1, z.2.1, z.2.2, z2.1, z2.2⟩⟩
          · by_cases w : y = n
            · subst w; exact Or.inr ⟨z2.1, by omega⟩
            · exact a1 y (by omega) h2 h3 h4
          · rw [tb3_set (by omega), Bool.or_eq_true, a2 y, decide_eq_true_eq]
            constructor
            · intro w
              rcases w with ⟨w1, w2⟩ | w
              · exact ⟨by omega, w2⟩
              · subst w
                exact ⟨by omega, z.1, z.2.1, z.2.2, z2.1, z2.2⟩
            · intro ⟨w1, w2⟩
              by_cases w : y = n
              · exact Or.inr w
              · exact Or.inl ⟨by omega, w2⟩
        · rw [if_neg z2]
          dsimp only
          refine ⟨fun y h1 h2 h3 h4 => ?_, fun y => ?_, ?_⟩
          · by_cases w : y = n
            · subst w; omega
            · exact a1 y (by omega) h2 h3 h4
          · rw [a2 y]
            constructor
            · intro ⟨w1, w2⟩; exact ⟨by omega, w2⟩
            · intro ⟨w1, w2, w3, w4, w5, w6⟩
              refine ⟨?_, w2, w3, w4, w5, w6⟩
              by_cases w : y = n
              · subst w; exact absurd ⟨w5, w6⟩ z2
              · omega
          · rcases a3 with w | ⟨y, w1, w2⟩
            · exact Or.inl w
            · exact Or.inr ⟨y, by omega, w2⟩
    · rw [if_neg z]
      dsimp only
      refine ⟨fun y h1 h2 h3 h4 => ?_, fun y => ?_, ?_⟩
      · by_cases w : y = n
        · subst w; exact absurd ⟨h2, h3, h4⟩ z
        · exact a1 y (by omega) h2 h3 h4
      · rw [a2 y]
        constructor
        · intro ⟨w1, w2⟩; exact ⟨by omega, w2⟩
        · intro ⟨w1, w2, w3, w4, w5⟩
          refine ⟨?_, w2, w3, w4, w5⟩
          by_cases w : y = n
          · subst w; exact absurd ⟨w2, w3, w4⟩ z
          · omega
      · rcases a3 with w | ⟨y, w1, w2⟩
        · exact Or.inl w
        · exact Or.inr ⟨y, by omega, w2⟩
theorem ldA_cpL {g : Gm} {P F : Nat → Int} {T : Nat} (hT : T < 10) (h90 : g 90 T ≠ 0) (h93 : g 93 T = 0) (hP : ∀ y, y < 10 → 0 ≤ P y) : tb3 (ldA g P F 10).1 T = true ↔ cpL g T P F := by
  obtain ⟨a1, a2, a3⟩ := ldA_lead g P F 10 (Nat.le_refl _)
  rw [a2 T]
  constructor
  · intro ⟨_, _, _, w4, w5, w6⟩
    refine ⟨w4, fun y h1 h2 h3 => ?_⟩
    by_cases z : 0 < P y
    · have := a1 y h1 h2 h3 z
      omega
    · omega
  · intro ⟨b1, b2⟩
    refine ⟨hT, h90, h93, b1, ?_⟩
    have := a1 T hT h90 h93 b1
    rcases a3 with w | ⟨y, w1, w2, w3, w4, w5, w6⟩
    · omega
    · have := b2 y w1 w2 w3
      omega
theorem ldA_won {g : Gm} {P F : Nat → Int} {T : Nat} (h93 : g 93 T ≠ 0) : tb3 (ldA g P F 10).1 T = false := by
  obtain ⟨a1, a2, a3⟩ := ldA_lead g P F 10 (Nat.le_refl _)
  refine Bool.eq_false_iff.mpr (fun z => ?_)
  exact h93 ((a2 T).1 z).2.2.1
