/-! Part 09: how a mini memory lies in the machine's heap. -/
def mrf (ad : Nat → Nat) (xa : Int → Option Nat) (x : Int) : Option Nat := if 0 ≤ x then some (ad x.toNat) else if x = -1 then none else xa x
def mrv (ad : Nat → Nat) (xa : Int → Option Nat) (v : MV) : Value := if v.1 = 0 then .int (Int32.ofInt v.2) else if v.1 = 1 then .long (Int64.ofInt v.2) else va_rf (mrf ad xa v.2)
/-- a value is in its range; a reference's cell is there -/
def VOK (n : Int) (v : MV) : Prop := v.1 ≤ 3 ∧ (v.1 = 0 → in32 v.2) ∧ (v.1 = 1 → in64 v.2) ∧ (v.1 = 2 → v.2 < n)
def fTag (k j : Nat) : Nat := if (clsT.getD k []).getD j 0 = 3 then 0 else (clsT.getD k []).getD j 0
def tgt (k j : Nat) : Nat := if k < 100 then fTag k j else aTag k
def ent1 (cs : Nat → ClassId) (ad : Nat → Nat) (xa : Int → Option Nat) (q : Nat × Nat) (row : Nat → Int) : va_E :=
  if q.1 < 100 then .inr (q.1, (List.range q.2).map (fun j => mrv ad xa (fTag q.1 j, row j)))
  else if q.1 = 101 then .inl (cs 1, q.2, .inr (.inl (fun i => Int64.ofInt (row i))))
  else if q.1 = 104 ∨ q.1 = 105 then .inl (cs (q.1 - 100), q.2, .inr (.inr (.inr (.inr (fun i => if i < q.2 then mrf ad xa (row i) else none)))))
  else .inl (cs (q.1 - 100), q.2, .inl (fun i => Int32.ofInt (row i)))
def WS (cs : Nat → ClassId) (ad : Nat → Nat) (xa : Int → Option Nat) (M : Mem) : va_W := (List.range M.1.length).map (fun a => (ad a, ent1 cs ad xa (M.1.getD a (0, 0)) (M.2.1 a)))
def MOK (M : Mem) : Prop := ∀ a q, M.1[a]? = some q → (q.1 < 13 ∧ q.2 = (clsT.getD q.1 []).length ∨ 100 ≤ q.1 ∧ q.1 < 106) ∧ q.2 ≤ 20000 ∧ ∀ j, j < q.2 → VOK (nx M) (tgt q.1 j, M.2.1 a j)
theorem WS_get {cs : Nat → ClassId} {ad : Nat → Nat} {xa : Int → Option Nat} {M : Mem} {a : Nat} {q : Nat × Nat} (h : M.1[a]? = some q) : (WS cs ad xa M)[a]? = some (ad a, ent1 cs ad xa q (M.2.1 a)) := by
  have hl : a < M.1.length := (List.getElem?_eq_some_iff.mp h).1
  unfold WS
  rw [List.getElem?_map, List.getElem?_range hl]
  simp only [Option.map_some, List.getD_eq_getElem?_getD, h, Option.getD_some]
theorem mrf_eq {ad ad' : Nat → Nat} {xa : Int → Option Nat} {n : Nat} {x : Int} (hx : x < n) (h : ∀ a, a < n → ad' a = ad a) : mrf ad' xa x = mrf ad xa x := by
  unfold mrf
  by_cases h0 : 0 ≤ x
  · rw [if_pos h0, if_pos h0, h x.toNat (by omega)]
  · rw [if_neg h0, if_neg h0]
theorem mrv_eq {ad ad' : Nat → Nat} {xa : Int → Option Nat} {n : Nat} {v : MV} (hv : VOK n v) (h3 : v.1 < 3) (h : ∀ a, a < n → ad' a = ad a) : mrv ad' xa v = mrv ad xa v := by
  obtain ⟨t, x⟩ := v
  unfold mrv
  dsimp only at *
  by_cases h0 : t = 0
  · rw [if_pos h0, if_pos h0]
  · by_cases h1 : t = 1
    · rw [if_neg h0, if_neg h0, if_pos h1, if_pos h1]
    · rw [if_neg h0, if_neg h0, if_neg h1, if_neg h1, mrf_eq (hv.2.2.2 (by show t = 2; omega)) h]
theorem fTag_lt (k j : Nat) : fTag k j < 3 := by
  have h : ∀ l ∈ clsT, ∀ t ∈ l, t < 4 := by decide +kernel
  unfold fTag
  split
  · omega
  · rename_i h3
    have h4 : (clsT.getD k []).getD j 0 < 4 := by
      rw [List.getD_eq_getElem?_getD]
      cases hj : (clsT.getD k [])[j]? with
      | none => simp
      | some t =>
        have ht := List.mem_of_getElem? hj
        rw [List.getD_eq_getElem?_getD] at ht
        cases hk : clsT[k]? with
        | none => rw [hk] at ht; simp at ht
        | some l => rw [hk] at ht; exact h l (List.mem_of_getElem? hk) t ht
    omega
theorem aTag_lt (k : Nat) : aTag k < 3 := by unfold aTag; split <;> first | omega | (split <;> omega)
theorem tgt_lt (k j : Nat) : tgt k j < 3 := by unfold tgt; split; exact fTag_lt k j; exact aTag_lt k
theorem ent_eq {cs : Nat → ClassId} {ad ad' : Nat → Nat} {xa : Int → Option Nat} {n : Nat} {q : Nat × Nat} {row : Nat → Int} (hv : ∀ j, j < q.2 → VOK n (tgt q.1 j, row j)) (h : ∀ a, a < n → ad' a = ad a) : ent1 cs ad' xa q row = ent1 cs ad xa q row := by
  unfold ent1
  by_cases h1 : q.1 < 100
  · rw [if_pos h1, if_pos h1]
    congr 2
    apply List.map_congr_left
    intro j hj
    have hj' := hv j (List.mem_range.mp hj)
    rw [tgt, if_pos h1] at hj'
    exact mrv_eq hj' (fTag_lt _ _) h
  · rw [if_neg h1, if_neg h1]
    by_cases h2 : q.1 = 101
    · rw [if_pos h2, if_pos h2]
    · rw [if_neg h2, if_neg h2]
      by_cases h3 : q.1 = 104 ∨ q.1 = 105
      · rw [if_pos h3, if_pos h3]
        congr 7
        funext i
        by_cases hi : i < q.2
        · rw [if_pos hi, if_pos hi]
          have hj' := hv i hi
          have ht : tgt q.1 i = 2 := by rw [tgt, if_neg h1, aTag, if_neg h2, if_pos h3]
          rw [ht] at hj'
          exact mrf_eq (hj'.2.2.2 rfl) h
        · rw [if_neg hi, if_neg hi]
      · rw [if_neg h3, if_neg h3]
theorem WS_eq {cs : Nat → ClassId} {ad ad' : Nat → Nat} {xa : Int → Option Nat} {M : Mem} (hM : MOK M) (h : ∀ a, a < M.1.length → ad' a = ad a) : WS cs ad' xa M = WS cs ad xa M := by
  unfold WS
  apply List.map_congr_left
  intro a ha
  have ha := List.mem_range.mp ha
  have hq : M.1[a]? = some M.1[a] := List.getElem?_eq_getElem ha
  have hg : M.1.getD a (0, 0) = M.1[a] := by rw [List.getD_eq_getElem?_getD, hq]; rfl
  rw [h a ha, hg, ent_eq (n := M.1.length) (hM a _ hq).2.2 h]
/-- one place of a cell changed -/
theorem WS_put {cs : Nat → ClassId} {ad : Nat → Nat} {xa : Int → Option Nat} {M : Mem} {x : Int} {i : Nat} {v : Int} {q : Nat × Nat} (h : M.1[x.toNat]? = some q) : WS cs ad xa (put M x i v) = (WS cs ad xa M).set x.toNat (ad x.toNat, ent1 cs ad xa q (fun j => if j = i then v else M.2.1 x.toNat j)) := by
  have hl : x.toNat < M.1.length := (List.getElem?_eq_some_iff.mp h).1
  apply List.ext_getElem?
  intro b
  by_cases hb : b < M.1.length
  · have hb' : M.1[b]? = some M.1[b] := List.getElem?_eq_getElem hb
    rw [WS_get (M := put M x i v) (q := M.1[b]) hb']
    by_cases hx : b = x.toNat
    · subst hx
      rw [List.getElem?_set_self (by unfold WS; simpa using hl)]
      rw [h] at hb'
      cases hb'
      simp only [put, true_and]
    · rw [List.getElem?_set_ne (Ne.symm hx), WS_get hb']
      simp only [put, hx, false_and, if_false]
  · rw [List.getElem?_eq_none (by unfold WS put; simpa using hb), List.getElem?_eq_none (by unfold WS; simpa using hb)]
theorem WS_len (cs : Nat → ClassId) (ad : Nat → Nat) (xa : Int → Option Nat) (M : Mem) : (WS cs ad xa M).length = M.1.length := by unfold WS; simp
