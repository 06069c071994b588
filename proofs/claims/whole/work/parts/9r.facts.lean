/-! Part 9r: the facts of an entry, on both sides. -/
/-- a list written into the cell a from place b on -/
def wr (a b n : Nat) (g : Gm) (l : List Int) : Gm := fun x i => if x = a ∧ b ≤ i ∧ i < b + n then l.getD (i - b) 0 else g x i
theorem getD_set (l : List Int) (i j : Nat) (v : Int) (hi : i < l.length) : (l.set i v).getD j 0 = if j = i then v else l.getD j 0 := by
  by_cases q : j = i
  · subst q; simp [hi]
  · rw [if_neg q]; simp [Ne.symm q]
theorem wr_up {a b n : Nat} {g : Gm} {l : List Int} {i : Nat} {v : Int} (hl : l.length = n) (hi : i < n) : up (wr a b n g l) a (b + i) v = wr a b n g (l.set i v) := by
  funext x j
  unfold up wr
  by_cases q : x = a ∧ j = b + i
  · obtain ⟨rfl, rfl⟩ := q
    rw [if_pos ⟨rfl, rfl⟩, if_pos ⟨rfl, by omega, by omega⟩, getD_set _ _ _ _ (by omega), if_pos (by omega)]
  · rw [if_neg q]
    by_cases q2 : x = a ∧ b ≤ j ∧ j < b + n
    · rw [if_pos q2, if_pos q2, getD_set _ _ _ _ (by omega), if_neg (by omega)]
    · rw [if_neg q2, if_neg q2]
theorem wr_at {a b n : Nat} {g : Gm} {l : List Int} {i : Nat} (hi : i < n) : wr a b n g l a (b + i) = l.getD i 0 := by
  unfold wr
  rw [if_pos ⟨rfl, by omega, by omega⟩, Nat.add_sub_cancel_left]
theorem wr_ne {a b n x i : Nat} {g : Gm} {l : List Int} (h : x ≠ a) : wr a b n g l x i = g x i := if_neg (fun q => h q.1)
theorem wr_wr {a b n : Nat} {g : Gm} {l l' : List Int} : wr a b n (wr a b n g l) l' = wr a b n g l' := by
  funext x j
  unfold wr
  by_cases q : x = a ∧ b ≤ j ∧ j < b + n
  · rw [if_pos q, if_pos q]
  · rw [if_neg q, if_neg q, if_neg q]
theorem lcn0 {p : Prop} [Decidable p] {α : Type} {a b : α} : (if ¬ (lcmpI (bI p) 0 = 0) then a else b) = if p then a else b := by
  unfold lcmpI bI
  split <;> simp_all
/-- the facts so far: how many, kinds, odd ones, sizes, grades, the worst, the least size, the greatest -/
abbrev St : Type := Int × Int × Int × Int × Int × Int × Int × Int
def pst (g : Gm) (P w : Int) (p : Nat) (a : St) : St := if tb P p = true then
  (w32 (a.1 + 1), ior32 a.2.1 (ishl32 1 (g 96 p)), w32 (a.2.2.1 + if w ≠ 10 ∧ g 96 p ≠ w then 1 else 0), w32 (a.2.2.2.1 + g 97 p), w32 (a.2.2.2.2.1 + g 98 p), if g 98 p < a.2.2.2.2.2.1 then g 98 p else a.2.2.2.2.2.1, if g 97 p < a.2.2.2.2.2.2.1 then g 97 p else a.2.2.2.2.2.2.1, if a.2.2.2.2.2.2.2 < g 97 p then g 97 p else a.2.2.2.2.2.2.2) else a
def stC (g : Gm) (P w : Int) : Nat → St := fo (pst g P w) (0, 0, 0, 0, 0, 9, 99, 1)
def stM (g : Gm) (P w : Int) : Nat → St := fo (pst g P w) (0, 0, 0, 0, 0, 9, 100, 0)
/-- the first six and the kinds are the same; the sizes' bounds once there is a piece -/
theorem st_eq {g : Gm} {P w : Int} (hv : RV g) (hs : ∀ p : Nat, p < 40 → tb P p = true → 1 ≤ g 97 p) : ∀ n, n ≤ 40 → stC g P w n = ((stM g P w n).1, (stM g P w n).2.1, (stM g P w n).2.2.1, (stM g P w n).2.2.2.1, (stM g P w n).2.2.2.2.1, (stM g P w n).2.2.2.2.2.1, (stC g P w n).2.2.2.2.2.2) ∧ (((∀ p, p < n → tb P p = false) ∧ (stC g P w n).2.2.2.2.2.2 = (99, 1) ∧ (stM g P w n).2.2.2.2.2.2 = (100, 0)) ∨ ((∃ p, p < n ∧ tb P p = true) ∧ (stC g P w n).2.2.2.2.2.2 = (stM g P w n).2.2.2.2.2.2)) ∧ 0 ≤ (stM g P w n).2.1 ∧ (stM g P w n).2.1 < 1024 ∧ 0 ≤ (stM g P w n).2.2.2.2.2.1 ∧ (stM g P w n).2.2.2.2.2.1 ≤ 9
  | 0, _ => ⟨rfl, Or.inl ⟨fun p hp => absurd hp (Nat.not_lt_zero _), rfl, rfl⟩, (by show (0 : Int) ≤ 0; decide), (by show (0 : Int) < 1024; decide), (by show (0 : Int) ≤ 9; decide), (by show (9 : Int) ≤ 9; decide)⟩
  | n + 1, hn => by
    obtain ⟨h1, h2, h3, h4, h5, h6⟩ := st_eq hv hs n (by omega)
    have e1 : stC g P w (n + 1) = pst g P w n (stC g P w n) := rfl
    have e2 : stM g P w (n + 1) = pst g P w n (stM g P w n) := rfl
    rw [e1, e2]
    by_cases q : tb P n = true
    · have hk := hv.2.2.2.2.2.2.2.2.2.2.2.2.2.2.2.1 n
      have hsz := hv.2.2.2.2.2.2.2.2.2.2.2.2.2.2.2.2.1 n
      have hgr := hv.2.2.2.2.2.2.2.2.2.2.2.2.2.2.2.2.2 n
      have hs1 := hs n (by omega) q
      unfold pst
      rw [if_pos q, if_pos q]
      generalize stC g P w n = a at h1 h2 ⊢
      generalize stM g P w n = b at h1 h2 h3 h4 h5 h6 ⊢
      obtain ⟨a1, a2, a3, a4, a5, a6, a7, a8⟩ := a
      obtain ⟨b1, b2, b3, b4, b5, b6, b7, b8⟩ := b
      simp only [Prod.mk.injEq] at h1
      obtain ⟨rfl, rfl, rfl, rfl, rfl, rfl, _⟩ := h1
      dsimp only at h2 h3 h4 h5 h6 ⊢
      refine ⟨rfl, Or.inr ⟨⟨n, by omega, q⟩, ?_⟩, ?_, ?_, ?_, ?_⟩
      · rcases h2 with ⟨_, y1, y2⟩ | ⟨_, y⟩
        · simp only [Prod.mk.injEq] at y1 y2
          obtain ⟨rfl, rfl⟩ := y1
          obtain ⟨rfl, rfl⟩ := y2
          have z1 : (if g 97 n < 99 then g 97 n else 99) = (if g 97 n < 100 then g 97 n else 100) := by split <;> split <;> omega
          have z2 : (if 1 < g 97 n then g 97 n else 1) = (if 0 < g 97 n then g 97 n else 0) := by split <;> split <;> omega
          rw [z1, z2]
        · simp only [Prod.mk.injEq] at y
          obtain ⟨rfl, rfl⟩ := y
          rfl
      · obtain ⟨nb, rfl⟩ := Int.eq_ofNat_of_zero_le h3
        obtain ⟨kk, hkk⟩ := Int.eq_ofNat_of_zero_le hk.1
        rw [hkk]; exact (kb_ok kk (by omega) nb (by omega)).1
      · obtain ⟨nb, rfl⟩ := Int.eq_ofNat_of_zero_le h3
        obtain ⟨kk, hkk⟩ := Int.eq_ofNat_of_zero_le hk.1
        rw [hkk]; exact (kb_ok kk (by omega) nb (by omega)).2
      · split <;> omega
      · split <;> omega
    · have qf : tb P n = false := by cases h : tb P n; rfl; exact absurd h q
      have e3 : ∀ a, pst g P w n a = a := fun a => if_neg q
      rw [e3, e3]
      refine ⟨h1, ?_, h3, h4, h5, h6⟩
      rcases h2 with ⟨y0, y1, y2⟩ | ⟨⟨p, y0, y1⟩, y⟩
      · refine Or.inl ⟨fun p hp => ?_, y1, y2⟩
        by_cases z : p = n
        · rw [z]; exact qf
        · exact y0 p (by omega)
      · exact Or.inr ⟨⟨p, by omega, y1⟩, y⟩
/-- the row of facts: of pieces, of the exhibitor -/
def rowP (a : St) (k : Int) (t : List Int) : List Int := [a.1, k, a.2.2.1, a.2.2.2.1, w32 (a.2.2.2.2.2.2.2 - a.2.2.2.2.2.2.1), a.2.2.2.2.1, a.2.2.2.2.2.1] ++ t
def rowL (a : St) (t : List Int) : List Int := [a.1, 0, a.2.2.1, a.2.2.2.1, 0, a.2.2.2.2.1, a.2.2.2.2.2.1] ++ t
section FACTS
variable (X : MExt) (E : List (Nat × Nat)) (c s : Nat) {g : Gm}
theorem CA28 : CA E 28 11 := ⟨rfl, rfl⟩
theorem fil_wr : fil g 28 11 0 = wr 28 0 11 g [0, 0, 0, 0, 0, 0, 0, 0, 0, 0, 0] := by
  funext x j
  unfold fil wr
  by_cases q : x = 28 ∧ j < 11
  · rw [if_pos q, if_pos ⟨q.1, by omega, by omega⟩]
    have : j = 0 ∨ j = 1 ∨ j = 2 ∨ j = 3 ∨ j = 4 ∨ j = 5 ∨ j = 6 ∨ j = 7 ∨ j = 8 ∨ j = 9 ∨ j = 10 := by omega
    rcases this with z | z | z | z | z | z | z | z | z | z | z <;> subst z <;> rfl
  · rw [if_neg q, if_neg (by omega)]
theorem w28 {l : List Int} {i : Nat} {v : Int} (hl : l.length = 11) (hi : i < 11) : up (wr 28 0 11 g l) 28 i v = wr 28 0 11 g (l.set i v) := by
  have := wr_up (a := 28) (b := 0) (g := g) (v := v) hl hi
  rw [Nat.zero_add] at this
  exact this
theorem w28_at {l : List Int} {i : Nat} (hi : i < 11) : wr 28 0 11 g l 28 i = l.getD i 0 := by
  have := wr_at (a := 28) (b := 0) (g := g) (l := l) hi
  rw [Nat.zero_add] at this
  exact this
/-- Sheet.describePieces, for the rules r of region k -/
theorem c76 (hv : RV g) {r k : Nat} (h : RG 0 E r k g) (d : Nat) (P : Int) : Call prog clsT X (d + 2) 76 [(2, 27), (2, 1), (1, P), (2, (r : Int))] (mk E c s (hh g)) = some ((3, 0), mk E c s (hh (wr 28 0 11 g (rowP (stC g P (g 108 k) 40) (pcn (stC g P (g 108 k) 40).2.1.toNat 10) [0, 0, 0, 0])))) ∨ ¬ (∀ p : Nat, p < 40 → tb P p = true → 1 ≤ g 97 p) := by
  by_cases hs : ∀ p : Nat, p < 40 → tb P p = true → 1 ≤ g 97 p
  case neg => exact Or.inr hs
  refine Or.inl ?_
  have hw : g r 1 = g 108 k := by
    obtain ⟨_, _, _, _, _, a5, _⟩ := h
    exact a5 rfl
  have hce : CE E r 7 8 := by
    obtain ⟨_, a1, _⟩ := h
    exact a1.1
  generalize hwv : g 108 k = w at hw ⊢
  have fg1 : ∀ {kk : Int → Option MRes}, (fget 3588 (mk E c s (hh g)) (r : Int)).bind kk = kk (g r 1) := fun {kk} => fgR E c s (by decide) hce
  rw [rc76_, if_pos ⟨rfl, by omega⟩, if_pos (by rw [Bool.not_eq_true', decide_eq_false_iff_not]; omega), fg1, hw, call3 (show Call prog clsT X (d + 1) 248 [(2, 28), (0, 0)] (mk E c s (hh g)) = _ from m248 X E c s (CA28 E) (by decide) d 0), push3, r76_17, fil_wr, w28 rfl (by decide)]
  have loop : ∀ (m i : Nat) (w3 w4 : MV), i + m = 40 → Ev prog clsT X (d + 1) mc76 24 [(2, 27), (2, 1), (1, P), w3, w4, (0, w), (0, (stC g P w i).2.1), (0, (stC g P w i).2.2.2.2.2.2.1), (0, (stC g P w i).2.2.2.2.2.2.2), (0, (i : Int))] [] (mk E c s (hh (wr 28 0 11 g (rowL (stC g P w i) [0, 0, 0, 0])))) = some ((3, 0), mk E c s (hh (wr 28 0 11 g (rowP (stC g P w 40) (pcn (stC g P w 40).2.1.toNat 10) [0, 0, 0, 0])))) := by
    intro m
    induction m with
    | zero =>
      intro i w3 w4 hi
      have hi : i = 40 := by omega
      subst hi
      have hst := st_eq (w := w) hv hs 40 (Nat.le_refl _)
      have hkb : (stC g P w 40).2.1 = (stM g P w 40).2.1 := by rw [hst.1]
      obtain ⟨nb, hnb⟩ := Int.eq_ofNat_of_zero_le (show 0 ≤ (stC g P w 40).2.1 by rw [hkb]; exact hst.2.2.1)
      have hnb2 : nb < 1024 := by have := hst.2.2.2.1; omega
      rw [r76_24, cmp_ge, if_pos (by decide), hnb, call0 (m262 X E c s _ d hnb2), push0, r76_128, inb_is, if_pos (by decide), Int.toNat_natCast]
      show some (((3 : Nat), (0 : Int)), mk E c s (hh (up (up (wr 28 0 11 g (rowL (stC g P w 40) [0, 0, 0, 0])) 28 1 (pcn nb 10 : Int)) 28 4 _))) = _
      rw [w28 rfl (by decide), w28 rfl (by decide)]
      rfl
    | succ m ih =>
      intro i w3 w4 hi
      have hk := hv.2.2.2.2.2.2.2.2.2.2.2.2.1 i
      have hz := hv.2.2.2.2.2.2.2.2.2.2.2.2.2.1 i
      have hg := hv.2.2.2.2.2.2.2.2.2.2.2.2.2.2.1 i
      have e : stC g P w (i + 1) = pst g P w i (stC g P w i) := rfl
      have hnx := ih (i + 1)
      rw [e] at hnx
      rw [r76_24, cmp_ge, if_neg (by omega), bit_at _ _ (by omega), cmp_ne, lcn0]
      by_cases q : tb P i = true
      · unfold pst at hnx
        rw [if_pos q] at hnx
        generalize stC g P w i = a at hnx ⊢
        obtain ⟨a1, a2, a3, a4, a5, a6, a7, a8⟩ := a
        dsimp only at hnx ⊢
        rw [if_pos q, inb_is, if_pos (by omega), Int.toNat_natCast, w28_at (by decide), w28 rfl (by decide)]
        show Ev prog clsT X (d + 1) mc76 53 [(2, 27), (2, 1), (1, P), (3, 0), (3, 0), (0, w), (0, ior32 a2 (ishl32 1 (wr 28 0 11 g _ 6 i))), (0, a7), (0, a8), (0, (i : Int))] [] (mk E c s (hh (wr 28 0 11 g [w32 (a1 + 1), 0, a3, a4, 0, a5, a6, 0, 0, 0, 0]))) = _
        rw [wr_ne (by decide), hk]
        have go90 : ∀ (o : Int), Ev prog clsT X (d + 1) mc76 90 [(2, 27), (2, 1), (1, P), (3, 0), (3, 0), (0, w), (0, ior32 a2 (ishl32 1 (g 96 i))), (0, if g 97 i < a7 then g 97 i else a7), (0, a8), (0, (i : Int))] [] (mk E c s (hh (wr 28 0 11 g [w32 (a1 + 1), 0, o, w32 (a4 + g 97 i), 0, a5, a6, 0, 0, 0, 0]))) = Ev prog clsT X (d + 1) mc76 24 [(2, 27), (2, 1), (1, P), (3, 0), (3, 0), (0, w), (0, ior32 a2 (ishl32 1 (g 96 i))), (0, if g 97 i < a7 then g 97 i else a7), (0, if a8 < g 97 i then g 97 i else a8), (0, ((i + 1 : Nat) : Int))] [] (mk E c s (hh (wr 28 0 11 g [w32 (a1 + 1), 0, o, w32 (a4 + g 97 i), 0, w32 (a5 + g 98 i), if g 98 i < a6 then g 98 i else a6, 0, 0, 0, 0]))) := fun o => by
          rw [r76_90, inb_is, if_pos (by omega), inb_is, if_pos (by omega), inb_is, if_pos (by omega), Int.toNat_natCast, w32_succ (by omega), w28_at (by decide), w28_at (by decide), wr_ne (by decide), wr_ne (by decide), hz, hg, w28 rfl (by decide), w28 rfl (by decide)]
          rfl
        have fin2 : ∀ (o : Int), o = w32 (a3 + if w ≠ 10 ∧ g 96 i ≠ w then 1 else 0) → Ev prog clsT X (d + 1) mc76 90 [(2, 27), (2, 1), (1, P), (3, 0), (3, 0), (0, w), (0, ior32 a2 (ishl32 1 (g 96 i))), (0, if g 97 i < a7 then g 97 i else a7), (0, a8), (0, (i : Int))] [] (mk E c s (hh (wr 28 0 11 g [w32 (a1 + 1), 0, o, w32 (a4 + g 97 i), 0, a5, a6, 0, 0, 0, 0]))) = some ((3, 0), mk E c s (hh (wr 28 0 11 g (rowP (stC g P w 40) (pcn (stC g P w 40).2.1.toNat 10) [0, 0, 0, 0])))) := fun o ho => by
          rw [go90 o, ho]
          exact hnx (3, 0) (3, 0) (by omega)
        rw [r76_53, cmp_eq]
        by_cases q2 : w = 10
        · rw [if_pos q2, inb_is, if_pos (by omega), inb_is, if_pos (by omega), Int.toNat_natCast, w28_at (by decide), w28_at (by decide), wr_ne (by decide), hz, w28 rfl (by decide), w28 rfl (by decide)]
          exact fin2 _ (by rw [if_neg (fun z => z.1 q2)]; rfl)
        · rw [if_neg q2, inb_is, if_pos (by omega), Int.toNat_natCast, wr_ne (by decide), hk, cmp_eq]
          by_cases q3 : g 96 i = w
          · rw [if_pos q3, inb_is, if_pos (by omega), inb_is, if_pos (by omega), w28_at (by decide), w28_at (by decide), wr_ne (by decide), hz, w28 rfl (by decide), w28 rfl (by decide)]
            exact fin2 _ (by rw [if_neg (fun z => z.2 q3)]; rfl)
          · rw [if_neg q3, inb_is, if_pos (by omega), inb_is, if_pos (by omega), w28_at (by decide), w28_at (by decide), wr_ne (by decide), hz, w28 rfl (by decide), w28 rfl (by decide)]
            exact fin2 _ (by rw [if_pos ⟨q2, q3⟩]; rfl)
      · unfold pst at hnx
        rw [if_neg q] at hnx
        rw [if_neg q, w32_succ (by omega)]
        exact hnx _ _ (by omega)
  exact loop 40 0 (3, 0) _ (by omega)
end FACTS
