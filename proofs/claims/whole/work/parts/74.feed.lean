/-! Part 74: feed. -/
/-- a byte of a long, from the left -/
def byt (v : Int) (k : Nat) : Int := w32 (land64 (lushr64 v (56 - 8 * (k : Int))) 255)
abbrev okB (b : Int) : Prop := b = 10 ∨ (32 ≤ b ∧ b ≤ 126)
def pC (g : Nat → Nat → Int) (b : Int) : Nat → Nat → Int := if okB b ∧ g 9 1 < 1000 then up (up g 10 (g 9 1).toNat b) 9 1 (g 9 1 + 1) else g
def pM (g : Nat → Nat → Int) (b : Int) : Nat → Nat → Int := if okB b ∧ g 89 17 < 1000 then up (up g 105 (g 89 17).toNat b) 89 17 (g 89 17 + 1) else g
def apC (g : Nat → Nat → Int) (v : Int) : Nat → Nat → Nat → Int
  | 0 => g
  | n + 1 => pC (apC g v n) (byt v n)
def by3 (x y z : Int) (n : Nat) : Int := byt (if n < 8 then x else if n < 16 then y else z) (n % 8)
def feC (g : Nat → Nat → Int) (x y z : Int) : Nat → Nat → Nat → Int
  | 0 => g
  | n + 1 => pC (feC g x y z n) (by3 x y z n)
def feM (g : Nat → Nat → Int) (x y z : Int) : Nat → Nat → Nat → Int
  | 0 => g
  | n + 1 => pM (feM g x y z n) (by3 x y z n)
theorem pC_len {g : Nat → Nat → Int} {b : Int} (h : 0 ≤ g 9 1 ∧ g 9 1 ≤ 1000) : 0 ≤ pC g b 9 1 ∧ pC g b 9 1 ≤ 1000 := by
  unfold pC
  split
  · rw [up_same]; omega
  · exact h
theorem apC_len {g : Nat → Nat → Int} {v : Int} (h : 0 ≤ g 9 1 ∧ g 9 1 ≤ 1000) : ∀ n, 0 ≤ apC g v n 9 1 ∧ apC g v n 9 1 ≤ 1000
  | 0 => h
  | n + 1 => pC_len (apC_len h n)
theorem pM_len {g : Nat → Nat → Int} {b : Int} (h : 0 ≤ g 89 17 ∧ g 89 17 ≤ 1000) : 0 ≤ pM g b 89 17 ∧ pM g b 89 17 ≤ 1000 := by
  unfold pM
  split
  · rw [up_same]; omega
  · exact h
theorem feM_len {g : Nat → Nat → Int} {x y z : Int} (h : 0 ≤ g 89 17 ∧ g 89 17 ≤ 1000) : ∀ n, 0 ≤ feM g x y z n 89 17 ∧ feM g x y z n 89 17 ≤ 1000
  | 0 => h
  | n + 1 => pM_len (feM_len h n)
/-- the tape: class u, reference v -/
def TR (u v : Nat → Nat → Int) : Prop := u 9 1 = v 89 17 ∧ 0 ≤ v 89 17 ∧ v 89 17 ≤ 1000 ∧ ∀ i : Nat, (i : Int) < v 89 17 → u 10 i = v 105 i ∧ okB (v 105 i)
def RT (g : Nat → Nat → Int) : Prop := TR g g
theorem TR_p {u v : Nat → Nat → Int} (h : TR u v) (b : Int) : TR (pC u b) (pM v b) := by
  unfold pC pM
  rw [h.1]
  by_cases hc : okB b ∧ v 89 17 < 1000
  · rw [if_pos hc, if_pos hc]
    have h2 := h.2.1
    refine ⟨by rw [up_same, up_same], by rw [up_same]; omega, by rw [up_same]; omega, fun i hi => ?_⟩
    rw [up_same] at hi
    have e1 : up (up u 10 (v 89 17).toNat b) 9 1 (v 89 17 + 1) 10 i = if i = (v 89 17).toNat then b else u 10 i := by rw [up_cell (by decide), up_at]
    have e2 : up (up v 105 (v 89 17).toNat b) 89 17 (v 89 17 + 1) 105 i = if i = (v 89 17).toNat then b else v 105 i := by rw [up_cell (by decide), up_at]
    rw [e1, e2]
    by_cases q : i = (v 89 17).toNat
    · rw [if_pos q, if_pos q]; exact ⟨rfl, hc.1⟩
    · rw [if_neg q, if_neg q]; exact h.2.2.2 i (by omega)
  · rw [if_neg hc, if_neg hc]; exact ⟨h.1, h.2⟩
theorem TR_fe {u v : Nat → Nat → Int} (h : TR u v) (x y z : Int) : ∀ n, TR (feC u x y z n) (feM v x y z n)
  | 0 => h
  | n + 1 => TR_p (TR_fe h x y z n) _
/-- all but the tapes -/
def sNT (x i : Nat) : Bool := match x with
  | 9 => !decide (i = 1) | 10 => false | 105 => false | 89 => !decide (i = 17) && !decide (i = 0) | _ => true
theorem pC_fr {g g' : Nat → Nat → Int} {b : Int} (h : fr sNT g g') : fr sNT g (pC g' b) := by
  unfold pC
  split
  · exact fr_up rfl (fr_up rfl h)
  · exact h
theorem pM_fr {g g' : Nat → Nat → Int} {b : Int} (h : fr sNT g g') : fr sNT g (pM g' b) := by
  unfold pM
  split
  · exact fr_up rfl (fr_up rfl h)
  · exact h
theorem feC_fr {g g' : Nat → Nat → Int} {x y z : Int} (h : fr sNT g g') : ∀ n, fr sNT g (feC g' x y z n)
  | 0 => h
  | n + 1 => pC_fr (feC_fr h n)
theorem feM_fr {g g' : Nat → Nat → Int} {x y z : Int} (h : fr sNT g g') : ∀ n, fr sNT g (feM g' x y z n)
  | 0 => h
  | n + 1 => pM_fr (feM_fr h n)
/-- what the class does leaves the reference's tape, and the other way round -/
theorem pC_M {g : Nat → Nat → Int} {b : Int} : (∀ i, pC g b 105 i = g 105 i) ∧ pC g b 89 17 = g 89 17 := by
  unfold pC
  split
  · exact ⟨fun i => by rw [up_cell (by decide), up_cell (by decide)], by rw [up_cell (by decide), up_cell (by decide)]⟩
  · exact ⟨fun _ => rfl, rfl⟩
theorem pM_C {g : Nat → Nat → Int} {b : Int} : (∀ i, pM g b 10 i = g 10 i) ∧ pM g b 9 1 = g 9 1 := by
  unfold pM
  split
  · exact ⟨fun i => by rw [up_cell (by decide), up_cell (by decide)], by rw [up_cell (by decide), up_cell (by decide)]⟩
  · exact ⟨fun _ => rfl, rfl⟩
theorem feC_M {g : Nat → Nat → Int} {x y z : Int} : ∀ n, (∀ i, feC g x y z n 105 i = g 105 i) ∧ feC g x y z n 89 17 = g 89 17
  | 0 => ⟨fun _ => rfl, rfl⟩
  | n + 1 => ⟨fun i => (pC_M.1 i).trans ((feC_M n).1 i), pC_M.2.trans (feC_M n).2⟩
theorem feM_C {g : Nat → Nat → Int} {x y z : Int} : ∀ n, (∀ i, feM g x y z n 10 i = g 10 i) ∧ feM g x y z n 9 1 = g 9 1
  | 0 => ⟨fun _ => rfl, rfl⟩
  | n + 1 => ⟨fun i => (pM_C.1 i).trans ((feM_C n).1 i), pM_C.2.trans (feM_C n).2⟩
theorem sx_ok {b : Int} (h : okB b) : sx8 (sx8 b) = b := by
  have e : sx8 b = b := by
    unfold sx8
    rw [Int.bmod_def]
    rcases h with h | h <;> (split <;> omega)
  rw [e, e]
section FEED
variable (X : MExt) (E : List (Nat × Nat)) (c s : Nat) {g : Nat → Nat → Int}
/-- Reader.append -/
theorem c38 (h : 0 ≤ g 9 1 ∧ g 9 1 ≤ 1000) (d : Nat) (v : Int) : Call prog clsT X (d + 1) 38 [(2, 9), (1, v)] (mk E c s (hh g)) = some ((3, 0), mk E c s (hh (apC g v 8))) := by
  rw [rc38_]
  have loop : ∀ (m k : Nat) (w w' : MV), k + m = 8 → Ev prog clsT X d mc38 2 [(2, 9), (1, v), w, (0, 56 - 8 * (k : Int)), w'] [] (mk E c s (hh (apC g v k))) = some ((3, 0), mk E c s (hh (apC g v 8))) := by
    intro m
    induction m with
    | zero =>
      intro k w w' hk
      have hk : k = 8 := by omega
      subst hk
      rw [r38_2, cmp_lt, if_pos (by omega)]
    | succ m ih =>
      intro k w w' hk
      have hl := apC_len (v := v) h k
      have e8 : w32 (56 - 8 * (k : Int) + -8) = 56 - 8 * ((k + 1 : Nat) : Int) := by rw [w32_of (by omega) (by omega)]; omega
      have eb : w32 (land64 (lushr64 v (56 - 8 * (k : Int))) 255) = byt v k := rfl
      have skip : ∀ b w w', byt v k = b → ¬ (okB b ∧ apC g v k 9 1 < 1000) → Ev prog clsT X d mc38 2 [(2, 9), (1, v), w, (0, 56 - 8 * ((k + 1 : Nat) : Int)), w'] [] (mk E c s (hh (apC g v k))) = some ((3, 0), mk E c s (hh (apC g v 8))) := by
        intro b w w' hb hn
        have := ih (k + 1) w w' (by omega)
        rw [show apC g v (k + 1) = pC (apC g v k) (byt v k) from rfl, hb, show pC (apC g v k) b = apC g v k from if_neg hn] at this
        exact this
      have put : ∀ b, byt v k = b → okB b → Ev prog clsT X d mc38 20 [(2, 9), (1, v), (3, 0), (0, 56 - 8 * (k : Int)), (0, b)] [] (mk E c s (hh (apC g v k))) = some ((3, 0), mk E c s (hh (apC g v 8))) := by
        intro b hb ho
        rw [r38_20, cmp_ge, e8]
        by_cases hf : 1000 ≤ apC g v k 9 1
        · rw [if_pos hf]
          exact skip b _ _ hb (by omega)
        · rw [if_neg hf, inb_is, if_pos (by omega), sx_ok ho, w32_of (by omega) (by omega)]
          have := ih (k + 1) (3, 0) (0, b) (by omega)
          rw [show apC g v (k + 1) = pC (apC g v k) (byt v k) from rfl, hb, show pC (apC g v k) b = up (up (apC g v k) 10 (apC g v k 9 1).toNat b) 9 1 (apC g v k 9 1 + 1) from if_pos ⟨ho, by omega⟩] at this
          exact this
      rw [r38_2, cmp_lt, if_neg (by omega), eb, e8]
      generalize hb : byt v k = b
      rw [cmp_eq]
      by_cases h1 : b = 10
      · rw [if_pos h1]; exact put b hb (Or.inl h1)
      · rw [if_neg h1, cmp_lt]
        by_cases h2 : b < 32
        · rw [if_pos h2]; exact skip b _ _ hb (fun q => by rcases q.1 with q | q <;> omega)
        · rw [if_neg h2, cmp_gt]
          by_cases h3 : 126 < b
          · rw [if_pos h3]; exact skip b _ _ hb (fun q => by rcases q.1 with q | q <;> omega)
          · rw [if_neg h3]; exact put b hb (Or.inr (by omega))
  exact loop 8 0 _ _ (by omega)
theorem fe_ap (g : Nat → Nat → Int) (x y z : Int) : apC (apC (apC g x 8) y 8) z 8 = feC g x y z 24 := rfl
/-- VillageShow.feed -/
theorem c92 (h : 0 ≤ g 9 1 ∧ g 9 1 ≤ 1000) (d : Nat) (x y z : Int) : Call prog clsT X (d + 2) 92 [(2, 0), (1, x), (1, y), (1, z)] (mk E c s (hh g)) = some ((0, feC g x y z 24 9 1), mk E c s (hh (feC g x y z 24))) := by
  rw [rc92_, call3 (c38 X E c s h d x), push3, r92_4, call3 (c38 X E c s (apC_len h 8) d y), push3, r92_8, call3 (c38 X E c s (apC_len (apC_len h 8) 8) d z), push3, r92_12, fe_ap]
theorem and7 : ∀ i : Nat, i < 24 → iand32 (i : Int) 7 = ((i % 8 : Nat) : Int) := by decide +kernel
/-- Model.feed -/
theorem m164 (h : 0 ≤ g 89 17 ∧ g 89 17 ≤ 1000) (d : Nat) (x y z : Int) : Call prog clsT X (d + 1) 164 [(2, 89), (1, x), (1, y), (1, z)] (mk E c s (hh g)) = some ((0, feM (up g 89 0 0) x y z 24 89 17), mk E c s (hh (feM (up g 89 0 0) x y z 24))) := by
  rw [rc164_]
  generalize hg : up g 89 0 0 = u
  have hu : 0 ≤ u 89 17 ∧ u 89 17 ≤ 1000 := by rw [← hg]; exact h
  have loop : ∀ (m k : Nat) (w2 w4 w6 w8 w9 w10 : MV), k + m = 24 → Ev prog clsT X d mc164 5 [(2, 89), (1, x), w2, (1, y), w4, (1, z), w6, (0, (k : Int)), w8, w9, w10] [] (mk E c s (hh (feM u x y z k))) = some ((0, feM u x y z 24 89 17), mk E c s (hh (feM u x y z 24))) := by
    intro m
    induction m with
    | zero =>
      intro k w2 w4 w6 w8 w9 w10 hk
      have hk : k = 24 := by omega
      subst hk
      rw [r164_5, cmp_ge, if_pos (by omega)]
    | succ m ih =>
      intro k w2 w4 w6 w8 w9 w10 hk
      have hl := feM_len (x := x) (y := y) (z := z) hu k
      have e8 : ∀ v, w32 (land64 (lushr64 v (w32 (56 - w32 (8 * iand32 (k : Int) 7)))) 255) = byt v (k % 8) := by
        intro v
        rw [and7 k (by omega), w32_of (x := 8 * ((k % 8 : Nat) : Int)) (by omega) (by omega), w32_of (x := 56 - _) (by omega) (by omega)]
        rfl
      have skip : ∀ b w8, by3 x y z k = b → ¬ (okB b ∧ feM u x y z k 89 17 < 1000) → Ev prog clsT X d mc164 5 [(2, 89), (1, x), (3, 0), (1, y), (3, 0), (1, z), (3, 0), (0, ((k + 1 : Nat) : Int)), (1, w8), (3, 0), (0, b)] [] (mk E c s (hh (feM u x y z k))) = some ((0, feM u x y z 24 89 17), mk E c s (hh (feM u x y z 24))) := by
        intro b w8 hb hn
        have := ih (k + 1) (3, 0) (3, 0) (3, 0) (1, w8) (3, 0) (0, b) (by omega)
        rw [show feM u x y z (k + 1) = pM (feM u x y z k) (by3 x y z k) from rfl, hb, show pM (feM u x y z k) b = feM u x y z k from if_neg hn] at this
        exact this
      have go : ∀ b w8, by3 x y z k = b → Ev prog clsT X d mc164 33 [(2, 89), (1, x), (3, 0), (1, y), (3, 0), (1, z), (3, 0), (0, (k : Int)), (1, w8), (3, 0), (0, b)] [] (mk E c s (hh (feM u x y z k))) = some ((0, feM u x y z 24 89 17), mk E c s (hh (feM u x y z 24))) := by
        intro b w8 hb
        rw [r164_33, cmp_ge, w32_succ (by omega)]
        by_cases hf : 1000 ≤ feM u x y z k 89 17
        · rw [if_pos hf]; exact skip b w8 hb (by omega)
        have put : okB b → Ev prog clsT X d mc164 46 [(2, 89), (1, x), (3, 0), (1, y), (3, 0), (1, z), (3, 0), (0, (k : Int)), (1, w8), (3, 0), (0, b)] [] (mk E c s (hh (feM u x y z k))) = some ((0, feM u x y z 24 89 17), mk E c s (hh (feM u x y z 24))) := by
          intro ho
          rw [r164_46, inb_is, if_pos (by omega), w32_succ (by omega), w32_of (by omega) (by omega)]
          have := ih (k + 1) (3, 0) (3, 0) (3, 0) (1, w8) (3, 0) (0, b) (by omega)
          rw [show feM u x y z (k + 1) = pM (feM u x y z k) (by3 x y z k) from rfl, hb, show pM (feM u x y z k) b = up (up (feM u x y z k) 105 (feM u x y z k 89 17).toNat b) 89 17 (feM u x y z k 89 17 + 1) from if_pos ⟨ho, by omega⟩] at this
          exact this
        rw [if_neg hf, cmp_eq]
        by_cases h1 : b = 10
        · rw [if_pos h1]; exact put (Or.inl h1)
        · rw [if_neg h1, cmp_lt]
          by_cases h2 : b < 32
          · rw [if_pos h2]; exact skip b w8 hb (fun q => by rcases q.1 with q | q <;> omega)
          · rw [if_neg h2, cmp_gt]
            by_cases h3 : 126 < b
            · rw [if_pos h3]; exact skip b w8 hb (fun q => by rcases q.1 with q | q <;> omega)
            · rw [if_neg h3]; exact put (Or.inr (by omega))
      rw [r164_5, cmp_ge, if_neg (by omega), e8, e8, e8, cmp_ge]
      by_cases h1 : 8 ≤ k
      · rw [if_pos (by omega), cmp_ge]
        by_cases h2 : 16 ≤ k
        · rw [if_pos (by omega)]
          exact go _ _ (by unfold by3; rw [if_neg (by omega), if_neg (by omega)])
        · rw [if_neg (by omega)]
          exact go _ _ (by unfold by3; rw [if_neg (by omega), if_pos (by omega)])
      · rw [if_neg (by omega)]
        exact go _ _ (by unfold by3; rw [if_pos (by omega)])
  exact loop 24 0 _ _ _ _ _ _ (by omega)
end FEED
theorem sNT_RE (x i : Nat) (h : sRE x i = true) : sNT x i = true := by
  unfold sRE at h; split at h <;> simp_all [sNT]
theorem sNT_RV (x i : Nat) (h : sRV x i = true) : sNT x i = true := by
  unfold sRV at h; split at h <;> simp_all [sNT]
theorem sNT_RJ (x i : Nat) (h : sRJ x i = true) : sNT x i = true := by
  unfold sRJ at h; split at h <;> simp_all [sNT]
theorem sNT_RH (x i : Nat) (h : sRH x i = true) : sNT x i = true := by
  unfold sRH at h; split at h <;> simp_all [sNT]
theorem sNT_RC (x i : Nat) (h : sRC x i = true) : sNT x i = true := by
  unfold sRC at h; split at h <;> simp_all [sNT] <;> omega
theorem sNT_RQ (x i : Nat) (h : sRQ x i = true) : sNT x i = true := by
  unfold sRQ at h; split at h <;> simp_all [sNT]
theorem I0_NT {g g' : Nat → Nat → Int} (h : I0 g) (e : fr sNT g g') : I0 g' := ⟨h.1.fr (fun x i q => e x i (sNT_RE x i q)), h.2.1.fr (fun x i q => e x i (sNT_RV x i q)), h.2.2.1.fr (fun x i q => e x i (sNT_RJ x i q)), h.2.2.2.1.fr (fun x i q => e x i (sNT_RH x i q)), h.2.2.2.2.1.fr (fun x i q => e x i (sNT_RC x i q)), h.2.2.2.2.2.fr (fun x i q => e x i (sNT_RQ x i q))⟩
theorem op_feed (X : MExt) (x y z : Int) (E : List (Nat × Nat)) (c s d : Nat) (g : Nat → Nat → Int) (h : I0 g) (ht : RT g) : ∃ v g1 g2, Call prog clsT X (d + 2) 92 [(2, 0), (1, x), (1, y), (1, z)] (mk E c s (hh g)) = some ((0, v), mk E c s (hh g1)) ∧ Call prog clsT X (d + 2) 164 [(2, 89), (1, x), (1, y), (1, z)] (mk E c s (hh g1)) = some ((0, v), mk E c s (hh g2)) ∧ I0 g2 ∧ RT g2 ∧ fr sNT g g2 := by
  have f1 := feC_M (g := g) (x := x) (y := y) (z := z) 24
  have hl : 0 ≤ feC g x y z 24 89 17 ∧ feC g x y z 24 89 17 ≤ 1000 := by rw [f1.2]; exact ⟨ht.2.1, ht.2.2.1⟩
  have h9 : 0 ≤ g 9 1 ∧ g 9 1 ≤ 1000 := by rw [ht.1]; exact ⟨ht.2.1, ht.2.2.1⟩
  have t0 : TR g (up (feC g x y z 24) 89 0 0) := by
    refine ⟨ht.1.trans f1.2.symm, hl.1, hl.2, fun i hi => ?_⟩
    have e1 : up (feC g x y z 24) 89 0 0 105 i = g 105 i := f1.1 i
    rw [e1]
    exact ht.2.2.2 i (by rw [← f1.2]; exact hi)
  have t1 := TR_fe t0 x y z 24
  have f2 := feM_C (g := up (feC g x y z 24) 89 0 0) (x := x) (y := y) (z := z) 24
  have fin : fr sNT g (feM (up (feC g x y z 24) 89 0 0) x y z 24) := feM_fr (fr_up rfl (feC_fr (fr_refl _ _) 24)) 24
  refine ⟨_, _, _, c92 X E c s h9 d x y z, (m164 X E c s hl (d + 1) x y z).trans ?_, I0_NT h fin, ?_, fin⟩
  · rw [← t1.1]
  · refine ⟨?_, t1.2.1, t1.2.2.1, fun i hi => ?_⟩
    · rw [f2.2]; exact t1.1
    · rw [f2.1]; exact t1.2.2.2 i hi
