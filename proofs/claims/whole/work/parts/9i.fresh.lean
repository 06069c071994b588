/-! Part 9i: filling, new cells, a new rules object. -/
def fil (g : Gm) (a n : Nat) (v : Int) : Gm := fun x j => if x = a ∧ j < n then v else g x j
def sF (g : Gm) (a : Nat) (f : Nat → Int) : Gm := fun x j => if x = a then f j else g x j
theorem fil_in {g : Gm} {a n j : Nat} {v : Int} (h : j < n) : fil g a n v a j = v := if_pos ⟨rfl, h⟩
theorem fil_ne {g : Gm} {a n x j : Nat} {v : Int} (h : x ≠ a) : fil g a n v x j = g x j := if_neg (fun q => h q.1)
theorem sF_ne {g : Gm} {a x j : Nat} {f : Nat → Int} (h : x ≠ a) : sF g a f x j = g x j := if_neg h
theorem sF_eq {g : Gm} {a j : Nat} {f : Nat → Int} : sF g a f a j = f j := if_pos rfl
/-- the cell a holds n ints, data alone -/
def CA (E : List (Nat × Nat)) (a n : Nat) : Prop := (LAY ++ E)[a]? = some (100, n) ∧ ptrs a = []
section FRESH
variable (X : MExt) (E : List (Nat × Nat)) (c s : Nat) {g : Gm}
theorem layA {a n : Nat} (h : CA E a n) : lay? (mk E c s (hh g)) (a : Int) = (100, n) := by
  unfold lay?
  rw [if_pos (Int.natCast_nonneg a), Int.toNat_natCast]
  show ((LAY ++ E)[a]?).getD (999, 0) = _
  rw [h.1]; rfl
theorem putA {a n : Nat} (h : CA E a n) (i : Nat) (v : Int) : put (mk E c s (hh g)) (a : Int) i v = mk E c s (hh (up g a i v)) := by
  have hd : dat a i = true := by unfold dat; rw [h.2]; rfl
  have e : PU (hh g) a i v = hh (up g a i v) := hhP hd
  show (LAY ++ E, PU (hh g) (Int.toNat (a : Int)) i v, c, s) = _
  rw [Int.toNat_natCast, e]; rfl
/-- Arrays.fill -/
theorem m248 {a n : Nat} (h : CA E a n) (hn : n < 1000000) (d : Nat) (v : Int) : Call prog clsT X (d + 1) 248 [(2, (a : Int)), (0, v)] (mk E c s (hh g)) = some ((3, 0), mk E c s (hh (fil g a n v))) := by
  have hl : ∀ {k : Int → Option MRes}, (alen X (mk E c s (hh g)) (a : Int)).bind k = k n := by
    intro k
    unfold alen
    rw [if_pos (Int.natCast_nonneg a), layA E c s h, if_pos (show (100 : Nat) ≤ 100 ∧ (100 : Nat) < 106 by decide)]
    rfl
  rw [rc248_, hl]
  have loop : ∀ (m i : Nat), i + m = n → Ev prog clsT X d mc248 5 [(2, (a : Int)), (0, v), (0, (i : Int)), (0, (n : Int))] [] (mk E c s (hh (fil g a i v))) = some ((3, 0), mk E c s (hh (fil g a n v))) := by
    intro m
    induction m with
    | zero => intro i hi; rw [r248_5, cmp_ge, if_pos (by omega), show i = n by omega]
    | succ m ih =>
      intro i hi
      have hp : ∀ {u : Gm} {k : Mem → Option MRes}, (aput 100 (mk E c s (hh u)) (a : Int) (i : Int) v).bind k = k (mk E c s (hh (up u a i v))) := by
        intro u k
        unfold aput
        rw [if_pos (Int.natCast_nonneg a), layA E c s h, if_pos rfl, inb_is, if_pos (by omega), putA E c s h, Int.toNat_natCast]
        rfl
      rw [r248_5, cmp_ge, if_neg (by omega), hp, w32_succ (by omega)]
      have e : up (fil g a i v) a i v = fil g a (i + 1) v := by
        funext x j
        unfold up fil
        by_cases q : x = a ∧ j = i
        · rw [if_pos q, if_pos ⟨q.1, by omega⟩]
        · rw [if_neg q]
          by_cases q2 : x = a ∧ j < i
          · rw [if_pos q2, if_pos ⟨q2.1, by omega⟩]
          · rw [if_neg q2, if_neg (fun z => by
              by_cases y : j = i
              · exact q ⟨z.1, y⟩
              · exact q2 ⟨z.1, by omega⟩)]
      rw [e]
      exact ih (i + 1) (by omega)
  have e0 : fil g a 0 v = g := by
    funext x j
    exact if_neg (fun q => absurd q.2 (Nat.not_lt_zero _))
  have := loop n 0 (by omega)
  rw [e0] at this
  exact this
theorem nx_mk : nx (mk E c s (hh g)) = ((159 + E.length : Nat) : Int) := by
  show (((LAY ++ E).length : Nat) : Int) = _
  rw [List.length_append]; rfl
theorem grow_mk (k n : Nat) (f : Nat → Int) : growF (mk E c s (hh g)) k n f = mk (E ++ [(k, n)]) (c + 1) (s + n) (hh (sF g (159 + E.length) f)) := by
  have hl : (LAY ++ E).length = 159 + E.length := by rw [List.length_append]; rfl
  have e : (fun a j => if a = (LAY ++ E).length then f j else hh g a j) = hh (sF g (159 + E.length) f) := by
    funext a j
    rw [hl]
    by_cases q : a = 159 + E.length
    · subst q
      rw [if_pos rfl, hh_nil (ptrs_nil (Or.inr (by omega)))]
      exact sF_eq.symm
    · rw [if_neg q]
      unfold hh
      rw [sF_ne q]
  show ((LAY ++ E) ++ [(k, n)], (fun a j => if a = (LAY ++ E).length then f j else hh g a j), c + 1, s + n) = _
  rw [e, List.append_assoc]
  rfl
theorem CE_ext {E E2 : List (Nat × Nat)} {a kd n : Nat} (h : CE E a kd n) : CE (E ++ E2) a kd n := by
  refine ⟨?_, h.2⟩
  rw [← List.append_assoc, List.getElem?_append_left]
  · exact h.1
  · exact (List.getElem?_eq_some_iff.mp h.1).1
theorem CE_new {E : List (Nat × Nat)} {k n : Nat} : CE (E ++ [(k, n)]) (159 + E.length) k n := by
  refine ⟨?_, Or.inr (by omega)⟩
  have hl : (LAY ++ E).length = 159 + E.length := by rw [List.length_append]; rfl
  rw [← List.append_assoc, List.getElem?_append_right (Nat.le_of_eq hl), hl, Nat.sub_self]
  rfl
theorem RO_ext {E E2 : List (Nat × Nat)} {r cap : Nat} (h : RO E r cap) : RO (E ++ E2) r cap := ⟨CE_ext h.1, CE_ext h.2.1, CE_ext h.2.2.1, CE_ext h.2.2.2.1, CE_ext h.2.2.2.2⟩
theorem CE_CA {E : List (Nat × Nat)} {a n : Nat} (h : CE E a 100 n) : CA E a n := ⟨h.1, ptrs_nil h.2⟩
theorem vr_mk {x : Int} (h : x < ((159 + E.length : Nat) : Int)) : vref (mk E c s (hh g)) x = true := by
  unfold vref
  rw [nx_mk E c s]
  exact decide_eq_true h
end FRESH
section NEWR
variable (X : MExt)
set_option maxRecDepth 100000 in
theorem q65_0 (d : Nat) (x0 x1 : Int) (M : Mem) : Ev prog clsT X d mc65 0 [(2, x0), (0, x1)] [] M =
  (if (2 : Nat) = 2 ∧ 0 ≤ x0 ∧ wt [] ≤ 60 then
  ((fput 3588 M x0 10).bind fun M1 =>
  if (2 : Nat) = 2 ∧ (2 : Nat) = fTg 3598 ∧ ((2 : Nat) = 2 → vref ((growF M1 100 6 (fun _ => 0))) ((nx M1)) = true) ∧ (fTy 3598 = 3 → one01 ((nx M1)) = true) then (fput 3598 ((growF M1 100 6 (fun _ => 0))) x0 ((nx M1))).bind fun M2 =>
  (if (2 : Nat) = 2 ∧ (2 : Nat) = fTg 3602 ∧ ((2 : Nat) = 2 → vref ((growF M2 100 11 (fun _ => 0))) ((nx M2)) = true) ∧ (fTy 3602 = 3 → one01 ((nx M2)) = true) then (fput 3602 ((growF M2 100 11 (fun _ => 0))) x0 ((nx M2))).bind fun M3 =>
  (if (2 : Nat) = 2 ∧ (2 : Nat) = fTg 3606 ∧ ((2 : Nat) = 2 → vref ((growF M3 100 11 (fun _ => 0))) ((nx M3)) = true) ∧ (fTy 3606 = 3 → one01 ((nx M3)) = true) then (fput 3606 ((growF M3 100 11 (fun _ => 0))) x0 ((nx M3))).bind fun M4 =>
  (if cmpI .lt x1 0 = true then
  (if (2 : Nat) = 2 ∧ (2 : Nat) = fTg 3610 ∧ ((2 : Nat) = 2 → vref ((growF M4 100 0 (fun _ => 0))) ((nx M4)) = true) ∧ (fTy 3610 = 3 → one01 ((nx M4)) = true) then (fput 3610 ((growF M4 100 0 (fun _ => 0))) x0 ((nx M4))).bind fun M5 =>
    ((fget 3602 M5 x0).bind fun v6 =>
    (Call prog clsT X d 248 [(2, v6), (0, (-1))] M5).bind fun r7 => if r7.1.1 = 4 then none else
    Ev prog clsT X d mc65 29 [(2, x0), (0, x1)] (pushR r7.1 []) r7.2) else none)
else
  (if (0 : Nat) = 0 ∧ 0 ≤ x1 ∧ x1 ≤ 20000 then
    (if (2 : Nat) = 2 ∧ (2 : Nat) = fTg 3610 ∧ ((2 : Nat) = 2 → vref ((growF M4 100 (Int.toNat x1) (fun _ => 0))) ((nx M4)) = true) ∧ (fTy 3610 = 3 → one01 ((nx M4)) = true) then (fput 3610 ((growF M4 100 (Int.toNat x1) (fun _ => 0))) x0 ((nx M4))).bind fun M8 =>
    ((fget 3602 M8 x0).bind fun v9 =>
    (Call prog clsT X d 248 [(2, v9), (0, (-1))] M8).bind fun r10 => if r10.1.1 = 4 then none else
    Ev prog clsT X d mc65 29 [(2, x0), (0, x1)] (pushR r10.1 []) r10.2) else none) else none)) else none) else none) else none) else none) :=
  evk_at X [0, 29] 29 rfl
set_option maxRecDepth 100000 in
theorem qc65 (d : Nat) (x0 x1 : Int) (M : Mem) : Call prog clsT X (d + 1) 65 [(2, x0), (0, x1)] M =
  (if (2 : Nat) = 2 ∧ 0 ≤ x0 ∧ wt [] ≤ 60 then
  ((fput 3588 M x0 10).bind fun M1 =>
  if (2 : Nat) = 2 ∧ (2 : Nat) = fTg 3598 ∧ ((2 : Nat) = 2 → vref ((growF M1 100 6 (fun _ => 0))) ((nx M1)) = true) ∧ (fTy 3598 = 3 → one01 ((nx M1)) = true) then (fput 3598 ((growF M1 100 6 (fun _ => 0))) x0 ((nx M1))).bind fun M2 =>
  (if (2 : Nat) = 2 ∧ (2 : Nat) = fTg 3602 ∧ ((2 : Nat) = 2 → vref ((growF M2 100 11 (fun _ => 0))) ((nx M2)) = true) ∧ (fTy 3602 = 3 → one01 ((nx M2)) = true) then (fput 3602 ((growF M2 100 11 (fun _ => 0))) x0 ((nx M2))).bind fun M3 =>
  (if (2 : Nat) = 2 ∧ (2 : Nat) = fTg 3606 ∧ ((2 : Nat) = 2 → vref ((growF M3 100 11 (fun _ => 0))) ((nx M3)) = true) ∧ (fTy 3606 = 3 → one01 ((nx M3)) = true) then (fput 3606 ((growF M3 100 11 (fun _ => 0))) x0 ((nx M3))).bind fun M4 =>
  (if cmpI .lt x1 0 = true then
  (if (2 : Nat) = 2 ∧ (2 : Nat) = fTg 3610 ∧ ((2 : Nat) = 2 → vref ((growF M4 100 0 (fun _ => 0))) ((nx M4)) = true) ∧ (fTy 3610 = 3 → one01 ((nx M4)) = true) then (fput 3610 ((growF M4 100 0 (fun _ => 0))) x0 ((nx M4))).bind fun M5 =>
    ((fget 3602 M5 x0).bind fun v6 =>
    (Call prog clsT X d 248 [(2, v6), (0, (-1))] M5).bind fun r7 => if r7.1.1 = 4 then none else
    Ev prog clsT X d mc65 29 [(2, x0), (0, x1)] (pushR r7.1 []) r7.2) else none)
else
  (if (0 : Nat) = 0 ∧ 0 ≤ x1 ∧ x1 ≤ 20000 then
    (if (2 : Nat) = 2 ∧ (2 : Nat) = fTg 3610 ∧ ((2 : Nat) = 2 → vref ((growF M4 100 (Int.toNat x1) (fun _ => 0))) ((nx M4)) = true) ∧ (fTy 3610 = 3 → one01 ((nx M4)) = true) then (fput 3610 ((growF M4 100 (Int.toNat x1) (fun _ => 0))) x0 ((nx M4))).bind fun M8 =>
    ((fget 3602 M8 x0).bind fun v9 =>
    (Call prog clsT X d 248 [(2, v9), (0, (-1))] M8).bind fun r10 => if r10.1.1 = 4 then none else
    Ev prog clsT X d mc65 29 [(2, x0), (0, x1)] (pushR r10.1 []) r10.2) else none) else none)) else none) else none) else none) else none) :=
  (show Call prog clsT X (d + 1) 65 [(2, x0), (0, x1)] M = Ev prog clsT X d mc65 0 [(2, x0), (0, x1)] [] M from rfl).trans (q65_0 X d x0 x1  M)
set_option maxRecDepth 100000 in
theorem q65_29 (d : Nat) (x0 x1 : Int) (M : Mem) : Ev prog clsT X d mc65 29 [(2, x0), (0, x1)] [] M =
  (some ((3, 0), M)) :=
  evk_at X [0, 29] 2 rfl
end NEWR
/-- the cells of a new rules object -/
def nE5 (L : Nat) : List (Nat × Nat) := [(7, 8), (100, 6), (100, 11), (100, 11), (100, L)]
theorem fT (f : Nat) (v : Int) (M : Mem) (h : vref M v = true) (h2 : fTg f = 2) (h3 : fTy f ≠ 3) {α : Type} {a b : α} : (if (2 : Nat) = 2 ∧ (2 : Nat) = fTg f ∧ ((2 : Nat) = 2 → vref M v = true) ∧ (fTy f = 3 → one01 v = true) then a else b) = a := if_pos ⟨rfl, h2.symm, fun _ => h, fun q => absurd q h3⟩
/-- a new object and its constructor -/
theorem new_rules (X : MExt) (E : List (Nat × Nat)) (c s L : Nat) {g : Gm} (hL : L ≤ 1000) (d : Nat) : ∃ g', Call prog clsT X (d + 2) 65 [(2, ((159 + E.length : Nat) : Int)), (0, (L : Int))] (growF (mk E c s (hh g)) 7 8 (fDef (clsT.getD 7 []))) = some ((3, 0), mk (E ++ nE5 L) (c + 5) (s + (36 + L)) (hh g')) ∧ RO (E ++ nE5 L) (159 + E.length) L ∧ RP g' (159 + E.length) ∧ g' (159 + E.length) 0 = 0 ∧ g' (159 + E.length) 1 = 10 ∧ g' (159 + E.length) 2 = 0 ∧ g' (159 + E.length) 7 = 0 ∧ (∀ i, i < 11 → g' (159 + E.length + 2) i = -1) ∧ ∀ x i, x < 159 + E.length → g' x i = g x i := by
  generalize hr : 159 + E.length = r
  have h0 : ∀ {E2 : List (Nat × Nat)}, CE ((E ++ [(7, 8)]) ++ E2) r 7 8 := fun {E2} => CE_ext (by rw [← hr]; exact CE_new)
  have l1 : 159 + (E ++ [(7, 8)]).length = r + 1 := by rw [List.length_append]; show 159 + (E.length + 1) = _; omega
  have l2 : 159 + ((E ++ [(7, 8)]) ++ [(100, 6)]).length = r + 2 := by rw [List.length_append]; show 159 + (_ + 1) = _; omega
  have l3 : 159 + (((E ++ [(7, 8)]) ++ [(100, 6)]) ++ [(100, 11)]).length = r + 3 := by rw [List.length_append]; show 159 + (_ + 1) = _; omega
  have l4 : 159 + ((((E ++ [(7, 8)]) ++ [(100, 6)]) ++ [(100, 11)]) ++ [(100, 11)]).length = r + 4 := by rw [List.length_append]; show 159 + (_ + 1) = _; omega
  have l5 : 159 + (((((E ++ [(7, 8)]) ++ [(100, 6)]) ++ [(100, 11)]) ++ [(100, 11)]) ++ [(100, L)]).length = r + 5 := by rw [List.length_append]; show 159 + (_ + 1) = _; omega
  have c1 : CE ((E ++ [(7, 8)]) ++ [(100, 6)]) (r + 1) 100 6 := by rw [← l1]; exact CE_new
  have c2 : CE (((E ++ [(7, 8)]) ++ [(100, 6)]) ++ [(100, 11)]) (r + 2) 100 11 := by rw [← l2]; exact CE_new
  have c3 : CE ((((E ++ [(7, 8)]) ++ [(100, 6)]) ++ [(100, 11)]) ++ [(100, 11)]) (r + 3) 100 11 := by rw [← l3]; exact CE_new
  have c4 : CE (((((E ++ [(7, 8)]) ++ [(100, 6)]) ++ [(100, 11)]) ++ [(100, 11)]) ++ [(100, L)]) (r + 4) 100 L := by rw [← l4]; exact CE_new
  have eE : ((((E ++ [(7, 8)]) ++ [(100, 6)]) ++ [(100, 11)]) ++ [(100, 11)]) ++ [(100, L)] = E ++ nE5 L := by simp only [List.append_assoc]; rfl
  have d1 : CE ((E ++ [(7, 8)]) ++ [(100, 6)]) r 7 8 := h0
  have d2 : CE (((E ++ [(7, 8)]) ++ [(100, 6)]) ++ [(100, 11)]) r 7 8 := CE_ext d1
  have d3 : CE ((((E ++ [(7, 8)]) ++ [(100, 6)]) ++ [(100, 11)]) ++ [(100, 11)]) r 7 8 := CE_ext d2
  have d4 : CE (((((E ++ [(7, 8)]) ++ [(100, 6)]) ++ [(100, 11)]) ++ [(100, 11)]) ++ [(100, L)]) r 7 8 := CE_ext d3
  have d0 : CE (E ++ [(7, 8)]) r 7 8 := by rw [← hr]; exact CE_new
  have hro : RO (E ++ nE5 L) r L := by
    rw [← eE]
    exact ⟨d4, CE_ext (CE_ext (CE_ext c1)), CE_ext (CE_ext c2), CE_ext c3, c4⟩
  rw [qc65, if_pos ⟨rfl, by omega, by decide⟩, grow_mk, hr, fp_1 _ _ _ d0]
  rw [nx_mk, l1, grow_mk, l1, fT 3598 _ _ (vr_mk _ _ _ (by omega)) rfl (by decide), fpR (f := 3598) _ _ _ d1]
  rw [nx_mk, l2, grow_mk, l2, fT 3602 _ _ (vr_mk _ _ _ (by omega)) rfl (by decide), fpR (f := 3602) _ _ _ d2]
  rw [nx_mk, l3, grow_mk, l3, fT 3606 _ _ (vr_mk _ _ _ (by omega)) rfl (by decide), fpR (f := 3606) _ _ _ d3]
  rw [cmp_lt, if_neg (by omega), if_pos (by omega), nx_mk, l4, Int.toNat_natCast, grow_mk, l4, fT 3610 _ _ (vr_mk _ _ _ (by omega)) rfl (by decide), fpR (f := 3610) _ _ _ d4]
  rw [fgR (f := 3602) _ _ _ (by decide) d4]
  generalize hG : up (sF (up (sF (up (sF (up (sF (up (sF g r (fDef (clsT.getD 7 []))) r 1 10) (r + 1) (fun _ => 0)) r (fPl 3598) ((r + 1 : Nat) : Int)) (r + 2) (fun _ => 0)) r (fPl 3602) ((r + 2 : Nat) : Int)) (r + 3) (fun _ => 0)) r (fPl 3606) ((r + 3 : Nat) : Int)) (r + 4) (fun _ => 0)) r (fPl 3610) ((r + 4 : Nat) : Int) = G
  have eG : ∀ x i, G x i = if x = r ∧ i = 6 then ((r + 4 : Nat) : Int) else if x = r + 4 then 0 else if x = r ∧ i = 5 then ((r + 3 : Nat) : Int) else if x = r + 3 then 0 else if x = r ∧ i = 4 then ((r + 2 : Nat) : Int) else if x = r + 2 then 0 else if x = r ∧ i = 3 then ((r + 1 : Nat) : Int) else if x = r + 1 then 0 else if x = r ∧ i = 1 then 10 else if x = r then fDef (clsT.getD 7 []) i else g x i := by
    intro x i; rw [← hG]; rfl
  have e4 : G r (fPl 3602) = ((r + 2 : Nat) : Int) := by
    have q := eG r 4
    rw [if_neg (by omega), if_neg (by omega), if_neg (by omega), if_neg (by omega), if_pos ⟨rfl, rfl⟩] at q
    exact q
  rw [e4, call3 (m248 X _ _ _ (CE_CA (CE_ext (CE_ext c2))) (by decide) d (-1)), push3, q65_29, eE]
  refine ⟨fil G (r + 2) 11 (-1), ?_, hro, ⟨?_, ?_, ?_, ?_⟩, ?_, ?_, ?_, ?_, fun i hi => fil_in hi, fun x i hx => ?_⟩
  · rw [show s + 8 + 6 + 11 + 11 + L = s + (36 + L) by omega]
  all_goals rw [fil_ne (by omega), eG]
  · rw [if_neg (by omega), if_neg (by omega), if_neg (by omega), if_neg (by omega), if_neg (by omega), if_neg (by omega), if_pos ⟨rfl, rfl⟩]
  · rw [if_neg (by omega), if_neg (by omega), if_neg (by omega), if_neg (by omega), if_pos ⟨rfl, rfl⟩]
  · rw [if_neg (by omega), if_neg (by omega), if_pos ⟨rfl, rfl⟩]
  · rw [if_pos ⟨rfl, rfl⟩]
  · rw [if_neg (by omega), if_neg (by omega), if_neg (by omega), if_neg (by omega), if_neg (by omega), if_neg (by omega), if_neg (by omega), if_neg (by omega), if_neg (by omega), if_pos rfl]; rfl
  · rw [if_neg (by omega), if_neg (by omega), if_neg (by omega), if_neg (by omega), if_neg (by omega), if_neg (by omega), if_neg (by omega), if_neg (by omega), if_pos ⟨rfl, rfl⟩]
  · rw [if_neg (by omega), if_neg (by omega), if_neg (by omega), if_neg (by omega), if_neg (by omega), if_neg (by omega), if_neg (by omega), if_neg (by omega), if_neg (by omega), if_pos rfl]; rfl
  · rw [if_neg (by omega), if_neg (by omega), if_neg (by omega), if_neg (by omega), if_neg (by omega), if_neg (by omega), if_neg (by omega), if_neg (by omega), if_neg (by omega), if_pos rfl]; rfl
  · rw [if_neg (by omega), if_neg (by omega), if_neg (by omega), if_neg (by omega), if_neg (by omega), if_neg (by omega), if_neg (by omega), if_neg (by omega), if_neg (by omega), if_neg (by omega)]
