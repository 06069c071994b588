/-! Part aa: ways in their order: the first of the least. -/
abbrev Wy : Type := Int × (Nat → Int)
def pt (f : Nat → Int) (i : Nat) (v : Int) : Nat → Int := fun j => if j = i then v else f j
theorem pt_at {f : Nat → Int} {i j : Nat} {v : Int} : pt f i v j = if j = i then v else f j := rfl
theorem pt_same {f : Nat → Int} {i : Nat} {v : Int} : pt f i v i = v := if_pos rfl
theorem pt_ne {f : Nat → Int} {i j : Nat} {v : Int} (h : j ≠ i) : pt f i v j = f j := if_neg h
def wyT (F : Nat → List Wy) : Nat → Nat → List Wy
  | 0, _ => []
  | r + 1, t => F t ++ wyT F r (t + 1)
/-- the first whose price is at most x -/
def wyF (x : Int) : List Wy → Option Wy
  | [] => none
  | w :: l => if w.1 ≤ x then some w else wyF x l
/-- the best so far, the next ones looked at in their order -/
def wyB (a : Wy) : List Wy → Wy
  | [] => a
  | w :: l => wyB (if 0 ≤ a.1 ∧ a.1 ≤ w.1 then a else w) l
theorem wyF_hit {x : Int} {l r : List Wy} {w : Wy} (h : wyF x l = some w) : wyF x (l ++ r) = some w := by
  induction l with
  | nil => cases h
  | cons a l ih =>
    show (if a.1 ≤ x then some a else wyF x (l ++ r)) = some w
    have h1 : (if a.1 ≤ x then some a else wyF x l) = some w := h
    by_cases z : a.1 ≤ x
    · rw [if_pos z] at h1 ⊢; exact h1
    · rw [if_neg z] at h1 ⊢; exact ih h1
theorem wyF_miss {x : Int} {l r : List Wy} (h : wyF x l = none) : wyF x (l ++ r) = wyF x r := by
  induction l with
  | nil => rfl
  | cons a l ih =>
    show (if a.1 ≤ x then some a else wyF x (l ++ r)) = _
    have h1 : (if a.1 ≤ x then some a else wyF x l) = none := h
    by_cases z : a.1 ≤ x
    · rw [if_pos z] at h1; cases h1
    · rw [if_neg z] at h1 ⊢; exact ih h1
theorem wyF_none {x : Int} {l : List Wy} (h : ∀ w, w ∈ l → x < w.1) : wyF x l = none := by
  induction l with
  | nil => rfl
  | cons a l ih =>
    show (if a.1 ≤ x then some a else wyF x l) = none
    have := h a List.mem_cons_self
    rw [if_neg (by omega)]
    exact ih (fun w hw => h w (List.mem_cons_of_mem _ hw))
theorem wyF_mem {x : Int} {l : List Wy} {w : Wy} (h : wyF x l = some w) : w ∈ l ∧ w.1 ≤ x := by
  induction l with
  | nil => cases h
  | cons a l ih =>
    have h1 : (if a.1 ≤ x then some a else wyF x l) = some w := h
    by_cases z : a.1 ≤ x
    · rw [if_pos z] at h1
      injection h1 with h1
      subst h1
      exact ⟨List.mem_cons_self, z⟩
    · rw [if_neg z] at h1
      exact ⟨List.mem_cons_of_mem _ (ih h1).1, (ih h1).2⟩
theorem wyB_app {l r : List Wy} : ∀ a : Wy, wyB a (l ++ r) = wyB (wyB a l) r := by
  induction l with
  | nil => intro a; rfl
  | cons w l ih => intro a; exact ih _
theorem wyB_keep {l : List Wy} {a : Wy} (h0 : 0 ≤ a.1) (h : ∀ w, w ∈ l → a.1 ≤ w.1) : wyB a l = a := by
  induction l with
  | nil => rfl
  | cons w l ih =>
    show wyB (if 0 ≤ a.1 ∧ a.1 ≤ w.1 then a else w) l = a
    rw [if_pos ⟨h0, h w List.mem_cons_self⟩]
    exact ih (fun w hw => h w (List.mem_cons_of_mem _ hw))
theorem wyB_first {l : List Wy} : ∀ a : Wy, 0 ≤ a.1 → (∀ w, w ∈ l → 0 ≤ w.1) → 0 ≤ (wyB a l).1 ∧ (wyB a l).1 ≤ a.1 ∧ (wyB a l = a ∨ ((wyB a l).1 < a.1 ∧ wyF (wyB a l).1 l = some (wyB a l))) ∧ ∀ x, x < (wyB a l).1 → wyF x l = none := by
  induction l with
  | nil => intro a h0 _; exact ⟨h0, Int.le_refl _, Or.inl rfl, fun _ _ => rfl⟩
  | cons w l ih =>
    intro a h0 hl
    have hw := hl w List.mem_cons_self
    have hl2 : ∀ v, v ∈ l → 0 ≤ v.1 := fun v hv => hl v (List.mem_cons_of_mem _ hv)
    have eB : wyB a (w :: l) = wyB (if 0 ≤ a.1 ∧ a.1 ≤ w.1 then a else w) l := rfl
    have eF : ∀ x, wyF x (w :: l) = if w.1 ≤ x then some w else wyF x l := fun _ => rfl
    by_cases z : 0 ≤ a.1 ∧ a.1 ≤ w.1
    · rw [if_pos z] at eB
      rw [eB]
      obtain ⟨i1, i2, i3, i4⟩ := ih a h0 hl2
      refine ⟨i1, i2, ?_, fun x hx => ?_⟩
      · rcases i3 with q | ⟨q1, q2⟩
        · exact Or.inl q
        · exact Or.inr ⟨q1, by rw [eF, if_neg (by omega)]; exact q2⟩
      · rw [eF, if_neg (by omega)]; exact i4 x hx
    · rw [if_neg z] at eB
      rw [eB]
      obtain ⟨i1, i2, i3, i4⟩ := ih w hw hl2
      have lt : w.1 < a.1 := by omega
      refine ⟨i1, by omega, Or.inr ⟨by omega, ?_⟩, fun x hx => ?_⟩
      · rw [eF]
        rcases i3 with q | ⟨q1, q2⟩
        · rw [q, if_pos (Int.le_refl _)]
        · rw [if_neg (by omega)]; exact q2
      · rw [eF, if_neg (by omega)]; exact i4 x hx
/-- from no best at all -/
theorem wyB_start {l : List Wy} (q : Nat → Int) (hl : ∀ w, w ∈ l → 0 ≤ w.1) : (l = [] ∧ wyB (-1, q) l = (-1, q)) ∨ (l ≠ [] ∧ 0 ≤ (wyB (-1, q) l).1 ∧ wyF (wyB (-1, q) l).1 l = some (wyB (-1, q) l) ∧ ∀ x, x < (wyB (-1, q) l).1 → wyF x l = none) := by
  match l, hl with
  | [], _ => exact Or.inl ⟨rfl, rfl⟩
  | w :: l, hl =>
    have eB : wyB (-1, q) (w :: l) = wyB w l := by
      show wyB (if 0 ≤ ((-1, q) : Wy).1 ∧ ((-1, q) : Wy).1 ≤ w.1 then (-1, q) else w) l = wyB w l
      rw [if_neg (fun z => absurd z.1 (show ¬ (0 : Int) ≤ -1 by decide))]
    have eF : ∀ x, wyF x (w :: l) = if w.1 ≤ x then some w else wyF x l := fun _ => rfl
    have hw := hl w List.mem_cons_self
    obtain ⟨i1, i2, i3, i4⟩ := wyB_first (l := l) w hw (fun v hv => hl v (List.mem_cons_of_mem _ hv))
    refine Or.inr ⟨(fun z => by cases z), ?_⟩
    rw [eB]
    refine ⟨i1, ?_, fun x hx => ?_⟩
    · rw [eF]
      rcases i3 with z | ⟨z1, z2⟩
      · rw [z, if_pos (Int.le_refl _)]
      · rw [if_neg (by omega)]; exact z2
    · rw [eF, if_neg (by omega)]; exact i4 x hx
theorem wyT_mem {F : Nat → List Wy} {P : Wy → Prop} : ∀ r t, (∀ i, t ≤ i → i < t + r → ∀ w, w ∈ F i → P w) → ∀ w, w ∈ wyT F r t → P w := by
  intro r
  induction r with
  | zero => intro t _ w hw; cases hw
  | succ r ih =>
    intro t h w hw
    have hw : w ∈ F t ++ wyT F r (t + 1) := hw
    rcases List.mem_append.mp hw with q | q
    · exact h t (Nat.le_refl _) (by omega) w q
    · exact ih (t + 1) (fun i h1 h2 => h i (by omega) (by omega)) w q
