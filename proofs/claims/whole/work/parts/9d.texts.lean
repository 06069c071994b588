/-! Part 9d: what has been read of a text, on both sides. -/
theorem seg_eq {f h : Nat → Int} : ∀ n a, seg f a n = seg h a n → ∀ i, a ≤ i → i < a + n → f i = h i
  | 0, a, _, i, h1, h2 => absurd h2 (by omega)
  | n + 1, a, e, i, h1, h2 => by
    have e' : f a :: seg f (a + 1) n = h a :: seg h (a + 1) n := e
    injection e' with e1 e2
    by_cases q : i = a
    · rw [q]; exact e1
    · exact seg_eq n (a + 1) e2 i (by omega) (by omega)
theorem seg_split {f h : Nat → Int} {a l : Nat} {P : List Int} (e : seg f a (l + P.length) = seg h a l ++ P) : (∀ i, a ≤ i → i < a + l → f i = h i) ∧ seg f (a + l) P.length = P := by
  rw [seg_app] at e
  have := List.append_inj e (by rw [seg_len, seg_len])
  exact ⟨seg_eq l a this.1, this.2⟩
/-- want, kind, how many bars, their words, which lines there are, their steps on both sides -/
abbrev Sm : Type := Int × Int × Nat × (Nat → Int) × (Nat → Bool) × (Nat → List Int) × (Nat → List Int)
def cl (tx j : Nat) : Nat := if tx = 2 then 8 + j else j
def nl (tx : Nat) : Nat := if tx = 2 then 3 else 8
def lnC (g : Gm) (r l : Nat) (p : Bool) (A : List Int) : Prop := (p = false ∧ g (r + 2) l = -1) ∨ (p = true ∧ ∃ a b : Nat, g (r + 2) l = a ∧ g (r + 3) l = b ∧ a ≤ b ∧ (b : Int) ≤ g r 7 ∧ seg (g (r + 4)) a (b - a) = A)
def lnM (g : Gm) (j : Nat) (p : Bool) (B : List Int) : Prop := (p = false ∧ g 110 (108 + j) = 0) ∨ (p = true ∧ g 110 (108 + j) = 1 ∧ ∃ u v : Nat, g 112 (108 + j) = u ∧ g 113 (108 + j) = v ∧ 12000 ≤ u ∧ u ≤ v ∧ (v : Int) ≤ g 89 35 ∧ seg (g 114) u (v - u) = B)
def HC (tx : Nat) (a : Sm) (r : Nat) (g : Gm) : Prop := g r 0 = a.1 ∧ g r 1 = a.2.1 ∧ g r 2 = a.2.2.1 ∧ (∀ i, i < a.2.2.1 → g (r + 1) i = a.2.2.2.1 i) ∧ ∀ j, j < nl tx → lnC g r (cl tx j) (a.2.2.2.2.1 j) (a.2.2.2.2.2.1 j)
def HM (a : Sm) (g : Gm) : Prop := g 107 12 = a.1 ∧ g 108 12 = a.2.1 ∧ g 109 12 = a.2.2.1 ∧ (∀ i, i < a.2.2.1 → g 111 (108 + i) = a.2.2.2.1 i) ∧ ∀ j, j < 9 → lnM g j (a.2.2.2.2.1 j) (a.2.2.2.2.2.2 j)
def SG (tx : Nat) (a : Sm) : Prop := 0 ≤ a.1 ∧ a.1 ≤ 8 ∧ (a.1 = 0 → a.2.1 = 10) ∧ (a.1 ≠ 0 → 0 ≤ a.2.1 ∧ a.2.1 ≤ 9) ∧ a.2.2.1 ≤ 6 ∧ (∀ i, i < a.2.2.1 → a.2.2.2.2.1 i = true ∧ 0 ≤ a.2.2.2.1 i ∧ a.2.2.2.1 i ≤ 99) ∧ (tx = 2 → a.2.2.1 = 0) ∧ (∀ j, a.2.2.2.2.1 j = true → semE (decide (tx = 2)) 0 (a.2.2.2.2.2.1 j) (a.2.2.2.2.2.2 j))
def fu {α : Type} (f : Nat → α) (j : Nat) (v : α) : Nat → α := fun i => if i = j then v else f i
theorem fu_s {α : Type} (f : Nat → α) (j : Nat) (v : α) : fu f j v j = v := if_pos rfl
theorem fu_n {α : Type} (f : Nat → α) {j i : Nat} (v : α) (h : i ≠ j) : fu f j v i = f i := if_neg h
/-- a line more; a bar more; what is wanted -/
def adL (a : Sm) (j : Nat) (A B : List Int) : Sm := (a.1, a.2.1, a.2.2.1, a.2.2.2.1, fu a.2.2.2.2.1 j true, fu a.2.2.2.2.2.1 j A, fu a.2.2.2.2.2.2 j B)
def adB (a : Sm) (v : Int) (A B : List Int) : Sm := (a.1, a.2.1, a.2.2.1 + 1, fu a.2.2.2.1 a.2.2.1 v, fu a.2.2.2.2.1 a.2.2.1 true, fu a.2.2.2.2.2.1 a.2.2.1 A, fu a.2.2.2.2.2.2 a.2.2.1 B)
def adW (a : Sm) (w k : Int) : Sm := (w, k, a.2.2)
theorem cl_inj {tx j i : Nat} (h : cl tx j = cl tx i) : j = i := by
  unfold cl at h
  split at h <;> omega
theorem cl_lt {tx j : Nat} (h : j < nl tx) : cl tx j < 11 := by
  unfold cl nl at *
  split at h <;> split <;> omega
theorem lnC_keep {g g' : Gm} {r l : Nat} {p : Bool} {A P : List Int} (h : lnC g r l p A) (h0 : 0 ≤ g r 7) (e2 : g' (r + 2) l = g (r + 2) l) (e3 : g' (r + 3) l = g (r + 3) l) (el : lst g' r = lst g r ++ P) (e7 : g' r 7 = g r 7 + P.length) : lnC g' r l p A := by
  have hs : seg (g' (r + 4)) 0 ((g r 7).toNat + P.length) = seg (g (r + 4)) 0 (g r 7).toNat ++ P := by
    have : (g' r 7).toNat = (g r 7).toNat + P.length := by omega
    rw [← this]; exact el
  have hp := (seg_split hs).1
  rcases h with h | ⟨h1, a, b, k1, k2, k3, k4, k5⟩
  · exact Or.inl ⟨h.1, by rw [e2]; exact h.2⟩
  · refine Or.inr ⟨h1, a, b, by rw [e2]; exact k1, by rw [e3]; exact k2, k3, by omega, ?_⟩
    rw [← k5]
    exact seg_congr _ _ (fun i q1 q2 => hp i (by omega) (by omega))
theorem lnC_new {g g' : Gm} {r l : Nat} {P : List Int} (h0 : 0 ≤ g r 7) (e2 : g' (r + 2) l = g r 7) (e3 : g' (r + 3) l = g' r 7) (el : lst g' r = lst g r ++ P) (e7 : g' r 7 = g r 7 + P.length) : lnC g' r l true P := by
  have hs : seg (g' (r + 4)) 0 ((g r 7).toNat + P.length) = seg (g (r + 4)) 0 (g r 7).toNat ++ P := by
    have : (g' r 7).toNat = (g r 7).toNat + P.length := by omega
    rw [← this]; exact el
  have hp := (seg_split hs).2
  rw [Nat.zero_add] at hp
  refine Or.inr ⟨rfl, (g r 7).toNat, (g' r 7).toNat, by omega, by omega, by omega, by omega, ?_⟩
  rw [show (g' r 7).toNat - (g r 7).toNat = P.length by omega]
  exact hp
theorem lnM_keep {g g' : Gm} {j : Nat} {p : Bool} {B Q : List Int} (h : lnM g j p B) (h0 : 12000 ≤ g 89 35) (e0 : g' 110 (108 + j) = g 110 (108 + j)) (e2 : g' 112 (108 + j) = g 112 (108 + j)) (e3 : g' 113 (108 + j) = g 113 (108 + j)) (el : lsM g' = lsM g ++ Q) (e7 : g' 89 35 = g 89 35 + Q.length) : lnM g' j p B := by
  have hs : seg (g' 114) 12000 ((g 89 35 - 12000).toNat + Q.length) = seg (g 114) 12000 (g 89 35 - 12000).toNat ++ Q := by
    have : (g' 89 35 - 12000).toNat = (g 89 35 - 12000).toNat + Q.length := by omega
    rw [← this]; exact el
  have hp := (seg_split hs).1
  rcases h with h | ⟨h1, h2, a, b, k1, k2, k3, k4, k5, k6⟩
  · exact Or.inl ⟨h.1, by rw [e0]; exact h.2⟩
  · refine Or.inr ⟨h1, by rw [e0]; exact h2, a, b, by rw [e2]; exact k1, by rw [e3]; exact k2, k3, k4, by omega, ?_⟩
    rw [← k6]
    exact seg_congr _ _ (fun i q1 q2 => hp i (by omega) (by omega))
theorem lnM_new {g g' : Gm} {j : Nat} {Q : List Int} (h0 : 12000 ≤ g 89 35) (e0 : g' 110 (108 + j) = 1) (e2 : g' 112 (108 + j) = g 89 35) (e3 : g' 113 (108 + j) = g' 89 35) (el : lsM g' = lsM g ++ Q) (e7 : g' 89 35 = g 89 35 + Q.length) : lnM g' j true Q := by
  have hs : seg (g' 114) 12000 ((g 89 35 - 12000).toNat + Q.length) = seg (g 114) 12000 (g 89 35 - 12000).toNat ++ Q := by
    have : (g' 89 35 - 12000).toNat = (g 89 35 - 12000).toNat + Q.length := by omega
    rw [← this]; exact el
  have hp := (seg_split hs).2
  rw [show 12000 + (g 89 35 - 12000).toNat = (g 89 35).toNat by omega] at hp
  refine Or.inr ⟨rfl, e0, (g 89 35).toNat, (g' 89 35).toNat, by omega, by omega, by omega, by omega, by omega, ?_⟩
  rw [show (g' 89 35).toNat - (g 89 35).toNat = Q.length by omega]
  exact hp
theorem lnC_eq {g g' : Gm} {r l : Nat} {p : Bool} {A : List Int} (h : lnC g r l p A) (e2 : g' (r + 2) l = g (r + 2) l) (e3 : g' (r + 3) l = g (r + 3) l) (e4 : ∀ i, g' (r + 4) i = g (r + 4) i) (e7 : g' r 7 = g r 7) : lnC g' r l p A := by
  have e : g' (r + 4) = g (r + 4) := funext e4
  unfold lnC
  rw [e2, e3, e, e7]
  exact h
theorem lnM_eq {g g' : Gm} {j : Nat} {p : Bool} {B : List Int} (h : lnM g j p B) (e0 : g' 110 (108 + j) = g 110 (108 + j)) (e2 : g' 112 (108 + j) = g 112 (108 + j)) (e3 : g' 113 (108 + j) = g 113 (108 + j)) (e4 : ∀ i, g' 114 i = g 114 i) (e7 : g' 89 35 = g 89 35) : lnM g' j p B := by
  have e : g' 114 = g 114 := funext e4
  unfold lnM
  rw [e0, e2, e3, e, e7]
  exact h
theorem HC_C {tx r : Nat} {a : Sm} {g g' : Gm} (h : HC tx a r g) (hr : 159 ≤ r) (e : ∀ x i, ¬ zC x i → g' x i = g x i) : HC tx a r g' := by
  obtain ⟨h1, h2, h3, h4, h5⟩ := h
  refine ⟨by rw [e r 0 (by unfold zC; omega)]; exact h1, by rw [e r 1 (by unfold zC; omega)]; exact h2, by rw [e r 2 (by unfold zC; omega)]; exact h3, fun i hi => by rw [e (r + 1) i (by unfold zC; omega)]; exact h4 i hi, fun j hj => lnC_eq (h5 j hj) (e _ _ (by unfold zC; omega)) (e _ _ (by unfold zC; omega)) (fun i => e _ _ (by unfold zC; omega)) (e _ _ (by unfold zC; omega))⟩
/-- the reference's frame for texts -/
def zR (x i : Nat) : Prop := zM x i ∨ (x = 89 ∧ (i = 25 ∨ i = 35)) ∨ (x = 114 ∧ 12000 ≤ i) ∨ x = 115 ∨ x = 116 ∨ (107 ≤ x ∧ x ≤ 109 ∧ i = 12) ∨ (110 ≤ x ∧ x ≤ 113 ∧ 108 ≤ i)
def frR (g g' : Gm) : Prop := ∀ x i, ¬ zR x i → g' x i = g x i
theorem frR_refl (g : Gm) : frR g g := fun _ _ _ => rfl
theorem frR_tr {g g1 g2 : Gm} (h : frR g g1) (h2 : frR g1 g2) : frR g g2 := fun x i a => (h2 x i a).trans (h x i a)
theorem frR_Q {lo lo' : Nat} {g g1 : Gm} (h : frM lo lo' g g1) : frR g g1 := fun x i a => h x i (fun q => a (by
  rcases q with q | q | q | q | q
  · exact Or.inl q
  · exact Or.inr (Or.inl q)
  · exact Or.inr (Or.inr (Or.inl q))
  · exact Or.inr (Or.inr (Or.inr (Or.inl q.1)))
  · exact Or.inr (Or.inr (Or.inr (Or.inr (Or.inl q.1))))))
theorem frR_M {g g1 : Gm} (h : ∀ x i, ¬ zM x i → g1 x i = g x i) : frR g g1 := frR_Q (lo := 0) (lo' := 0) (frM_M h)
abbrev slM (x i : Nat) : Prop := (107 ≤ x ∧ x ≤ 109 ∧ i = 12) ∨ (110 ≤ x ∧ x ≤ 113 ∧ 108 ≤ i) ∨ x = 116
theorem frR_up {g g' : Gm} {x i : Nat} {v : Int} (h : frR g g') (hx : slM x i) : frR g (up g' x i v) := fun y j a => (up_ne (fun q => a (by
  rcases hx with z | z | z
  · exact Or.inr (Or.inr (Or.inr (Or.inr (Or.inr (Or.inl ⟨by omega, by omega, by omega⟩)))))
  · exact Or.inr (Or.inr (Or.inr (Or.inr (Or.inr (Or.inr ⟨by omega, by omega, by omega⟩)))))
  · exact Or.inr (Or.inr (Or.inr (Or.inr (Or.inl (by omega)))))))).trans (h y j a)
section RPIECES
variable {X : MExt} {T : Nat → Int} {L : Nat} {pl : Bool} (E : List (Nat × Nat)) (c s : Nat) {g : Gm}
theorem MI_up {n x i : Nat} {v : Int} (h : MI T L pl n g) (hx : slM x i) : MI T L pl n (up g x i v) := by
  refine ⟨TM_fr h.1 (fun j _ _ => up_ne (by omega)) (fun j => up_ne (by omega)), ?_, ?_, ?_⟩
  · rw [up_ne (by omega)]; exact h.2.1
  · rw [up_ne (by omega)]; exact h.2.2.1
  · rw [up_ne (by omega)]; exact h.2.2.2
theorem MI_nx {n : Nat} {g' : Gm} (h : MI T L pl n g) (h1 : TM T L (nxt T L n) g') (h2 : ∀ x i, ¬ zM x i → g' x i = g x i) : MI T L pl (nxt T L n) g' := MI_of h (MO_step (lo := 0) (lo' := 0) h1 h2) (by have := nxt_bd (T := T) (L := L) (b := n) h.1.2.1; show n + 0 ≤ _; omega)
theorem w108 (j : Nat) (hj : j < 9) : w32 (108 + (j : Int)) = ((108 + j : Nat) : Int) := by rw [w32_of (by omega) (by omega)]; omega
/-- Model.readsE -/
theorem m175b {n : Nat} {fl : Int} (hb : ∀ t E c s g w3 w4 w5, MI T L pl n g → g 116 0 = 0 → ∃ g', RHd X E c s t 0 1 g w3 w4 w5 = some ((0, 0), mk E c s (hh g')) ∧ g' 89 25 = fl ∧ frM 0 0 g g') (h : MI T L pl n g) (t j : Nat) (hj : j < 9) : ∃ g', Call prog clsT X (t + 6) 175 [(2, 89), (0, (j : Int))] (mk E c s (hh g)) = some ((0, 0), mk E c s (hh g')) ∧ g' 89 25 = fl ∧ frR g g' := by
  have s1 : slM 112 (108 + j) := Or.inr (Or.inl (by omega))
  have s2 : slM 116 0 := Or.inr (Or.inr rfl)
  have h1 : MI T L pl n (up g 112 (108 + j) (g 89 35)) := MI_up h s1
  have h2 : MI T L pl n (up (up g 112 (108 + j) (g 89 35)) 116 0 (bit1 0)) := MI_up h1 s2
  obtain ⟨g', k1, k2, k3⟩ := hb t E c s _ (3, 0) (3, 0) (3, 0) h2 up_same
  have k1 : Ev prog clsT X (t + 4) mc176 9 [(2, 89), (0, 0), (0, 1), (3, 0), (3, 0), (3, 0)] [] (mk E c s (hh (up (up g 112 (108 + j) (g 89 35)) 116 0 (bit1 0)))) = some ((0, 0), mk E c s (hh g')) := k1
  have e : Call prog clsT X (t + 5) 176 [(2, 89)] (mk E c s (hh (up g 112 (108 + j) (g 89 35)))) = some ((0, 0), mk E c s (hh g')) := by rw [rc176_]; exact k1
  refine ⟨g', ?_, k2, frR_tr (frR_up (frR_up (frR_refl _) s1) s2) (frR_Q k3)⟩
  rw [rc175_, w108 j hj, inb_is, if_pos (by omega), Int.toNat_natCast, call0 e, push0, r175_10, cmp_ne, if_neg (fun z => z rfl)]
theorem m175t {n m : Nat} {Q : List Int} (hb : ∀ t E c s g w3 w4 w5, MI T L pl n g → g 116 0 = 0 → ∃ g', RHd X E c s t 0 1 g w3 w4 w5 = some ((0, 1), mk E c s (hh g')) ∧ MO T L m Q 0 0 g g') (hm : n + Q.length < m) (h : MI T L pl n g) (t j : Nat) (hj : j < 9) : ∃ g', Call prog clsT X (t + 6) 175 [(2, 89), (0, (j : Int))] (mk E c s (hh g)) = some ((0, 1), mk E c s (hh g')) ∧ MI T L pl m g' ∧ frR g g' ∧ lsM g' = lsM g ++ Q ∧ g' 89 35 = g 89 35 + Q.length ∧ g' 112 (108 + j) = g 89 35 ∧ g' 113 (108 + j) = g' 89 35 ∧ g' 110 (108 + j) = 1 ∧ (∀ x i, 107 ≤ x → x ≤ 113 → i ≠ 108 + j → g' x i = g x i) ∧ (∀ i, g' 111 i = g 111 i) := by
  have s1 : slM 112 (108 + j) := Or.inr (Or.inl (by omega))
  have s2 : slM 116 0 := Or.inr (Or.inr rfl)
  have s3 : slM 113 (108 + j) := Or.inr (Or.inl (by omega))
  have s4 : slM 110 (108 + j) := Or.inr (Or.inl (by omega))
  have h1 : MI T L pl n (up g 112 (108 + j) (g 89 35)) := MI_up h s1
  have h2 : MI T L pl n (up (up g 112 (108 + j) (g 89 35)) 116 0 (bit1 0)) := MI_up h1 s2
  obtain ⟨g', k1, k2⟩ := hb t E c s _ (3, 0) (3, 0) (3, 0) h2 up_same
  have k1 : Ev prog clsT X (t + 4) mc176 9 [(2, 89), (0, 0), (0, 1), (3, 0), (3, 0), (3, 0)] [] (mk E c s (hh (up (up g 112 (108 + j) (g 89 35)) 116 0 (bit1 0)))) = some ((0, 1), mk E c s (hh g')) := k1
  have e : Call prog clsT X (t + 5) 176 [(2, 89)] (mk E c s (hh (up g 112 (108 + j) (g 89 35)))) = some ((0, 1), mk E c s (hh g')) := by rw [rc176_]; exact k1
  have h3 : MI T L pl m g' := MI_of h2 k2 (by omega)
  have f : ∀ x i, 107 ≤ x → x ≤ 113 → g' x i = up g 112 (108 + j) (g 89 35) x i := fun x i q1 q2 => by
    rw [k2.2.1 x i (by unfold zQ zM; omega), up_ne (by omega)]
  refine ⟨up (up g' 113 (108 + j) (g' 89 35)) 110 (108 + j) (bit1 1), ?_, MI_up (MI_up h3 s3) s4, frR_up (frR_up (frR_tr (frR_up (frR_up (frR_refl _) s1) s2) (frR_Q k2.2.1)) s3) s4, ?_, ?_, ?_, ?_, up_same, fun x i q1 q2 q3 => ?_, fun i => ?_⟩
  · rw [rc175_, w108 j hj, inb_is, if_pos (by omega), Int.toNat_natCast, call0 e, push0, r175_10, cmp_ne, if_pos (by decide), w108 j hj, inb_is, if_pos (by omega), inb_is, if_pos (by omega), Int.toNat_natCast]
  · have u1 : lsM (up (up g' 113 (108 + j) (g' 89 35)) 110 (108 + j) (bit1 1)) = lsM g' := by
      unfold lsM
      rw [up_ne (by omega), up_ne (by omega)]
      exact seg_congr _ _ (fun i _ _ => by rw [up_ne (by omega), up_ne (by omega)])
    have u2 : lsM (up (up g 112 (108 + j) (g 89 35)) 116 0 (bit1 0)) = lsM g := by
      unfold lsM
      rw [up_ne (by omega), up_ne (by omega)]
      exact seg_congr _ _ (fun i _ _ => by rw [up_ne (by omega), up_ne (by omega)])
    rw [u1, k2.2.2.1, u2]
  · rw [up_ne (by omega), up_ne (by omega), k2.2.2.2, up_ne (by omega), up_ne (by omega)]
  · rw [up_ne (by omega), up_ne (by omega), f 112 _ (by omega) (by omega), up_same]
  · rw [up_ne (by omega), up_same, up_ne (by omega), up_ne (by omega)]
  · rw [up_ne (by omega), up_ne (by omega), f x i q1 q2, up_ne (by omega)]
  · rw [up_ne (by omega), up_ne (by omega), f 111 i (by omega) (by omega), up_ne (by omega)]
theorem w_when (d : Nat) {n : Nat} (h : TM T L n g) : Call prog clsT X (d + 1) 171 [(2, 89), (1, 458690)] (mk E c s (hh g)) = some ((0, bI (wd T L n lWhen)), mk E c s (hh g)) := m171t X E c s d h (by unfold ltr; decide +kernel) (by decide +kernel)
theorem w_kind (d : Nat) {n : Nat} (h : TM T L n g) : Call prog clsT X (d + 1) 171 [(2, 89), (1, 223456)] (mk E c s (hh g)) = some ((0, bI (wd T L n lKind)), mk E c s (hh g)) := m171t X E c s d h (by unfold ltr; decide +kernel) (by decide +kernel)
/-- Model.readsWhen: not the word when; with it -/
theorem m174n {n : Nat} (h : MI T L pl n g) (hw : ¬ wd T L n lWhen) (t : Nat) (j : Int) : ∃ g', Call prog clsT X (t + 7) 174 [(2, 89), (0, j)] (mk E c s (hh g)) = some ((0, 0), mk E c s (hh g')) ∧ g' 89 25 = 1 + 16 * n ∧ frR g g' := by
  refine ⟨fM g n 1, ?_, up_same, frR_Q (lo := 0) (lo' := 0) (fM_fr g n 1)⟩
  rw [rc174_, call0 (w_when E c s (t + 5) h.1), push0, r174_3, cmp_ne, bI_ne0, if_neg (fun z => z hw), call0 (m172t X E c s h.1 (t + 5) 1 (by omega)), push0, r174_7, if_pos ⟨rfl, one_z⟩]
theorem m174w {n : Nat} (h : MI T L pl n g) (hw : wd T L n lWhen) : ∃ g1, MI T L pl (nxt T L n) g1 ∧ (∀ x i, ¬ zM x i → g1 x i = g x i) ∧ ∀ (t : Nat) (j v : Int) (M : Mem), one01 v = true → Call prog clsT X (t + 6) 175 [(2, 89), (0, j)] (mk E c s (hh g1)) = some ((0, v), M) → ∀ E' c' s' g2, M = mk E' c' s' (hh g2) → Call prog clsT X (t + 7) 174 [(2, 89), (0, j)] (mk E c s (hh g)) = some ((0, v), M) := by
  obtain ⟨g1, k1, k2, k3⟩ := m167x X E c s 0 h.1
  obtain ⟨_, _, _, _⟩ := h.1
  refine ⟨g1, MI_nx h k2 k3, k3, fun t j v M hv he E' c' s' g2 hM => ?_⟩
  obtain ⟨g1', k1', k2', k3'⟩ := m167x X E c s (t + 4) h.1
  have e1 : Call prog clsT X (t + 6) 167 [(2, 89)] (mk E c s (hh g)) = some ((3, 0), mk E c s (hh g1)) := by
    have p1 := m167 X E c s t L (tokE T L n) h.1.1 (tokE_bd h.1.2.1).2.1 h.1.2.2.1 h.1.2.2.2.2.2.1
    have p0 := m167 X E c s 0 L (tokE T L n) h.1.1 (tokE_bd h.1.2.1).2.1 h.1.2.2.1 h.1.2.2.2.2.2.1
    have p2 := m167 X E c s (t + 4) L (tokE T L n) h.1.1 (tokE_bd h.1.2.1).2.1 h.1.2.2.1 h.1.2.2.2.2.2.1
    have q : some (((3 : Nat), (0 : Int)), mk E c s (hh g1)) = _ := k1.symm.trans p0
    rw [q]
    exact p2
  subst hM
  rw [rc174_, call0 (w_when E c s (t + 5) h.1), push0, r174_3, cmp_ne, bI_ne0, if_pos (fun z => z hw), call3 e1, push3, r174_10, call0 he, push0, r174_13, if_pos ⟨rfl, hv⟩]
end RPIECES
