/-! Part 19: what stays in range; what the pieces of an instruction say. -/
def SOK (M : Mem) (ls st : List MV) : Prop := MOK M ∧ (∀ v ∈ ls, VOK (nx M) v) ∧ ∀ v ∈ st, VOK (nx M) v ∧ v.1 < 3
theorem vok0 {n x : Int} (h : in32 x) : VOK n (0, x) := by simp [VOK, h]
theorem vok1 {n x : Int} (h : in64 x) : VOK n (1, x) := by simp [VOK, h]
theorem vok2 {n x : Int} (h : x < n) : VOK n (2, x) := by simp [VOK, h]
theorem vok3 {n : Int} : VOK n (3, 0) := by simp [VOK]
theorem VOK.mono {n n' : Int} {v : MV} (h : VOK n v) (hn : n ≤ n') : VOK n' v := ⟨h.1, h.2.1, h.2.2.1, fun z => by have := h.2.2.2 z; omega⟩
theorem SOK.push {M : Mem} {ls st : List MV} {v : MV} (h : SOK M ls st) (hv : VOK (nx M) v) (h3 : v.1 < 3) : SOK M ls (v :: st) := ⟨h.1, h.2.1, fun w hw => by rcases List.mem_cons.mp hw with rfl | hw; exact ⟨hv, h3⟩; exact h.2.2 w hw⟩
theorem SOK.pop {M : Mem} {ls st : List MV} {v : MV} (h : SOK M ls (v :: st)) : SOK M ls st := ⟨h.1, h.2.1, fun w hw => h.2.2 w (List.mem_cons_of_mem _ hw)⟩
theorem SOK.top {M : Mem} {ls st : List MV} {v : MV} (h : SOK M ls (v :: st)) : VOK (nx M) v ∧ v.1 < 3 := h.2.2 v List.mem_cons_self
theorem SOK.push0 {M : Mem} {ls st : List MV} {x : Int} (h : SOK M ls st) (hv : in32 x) : SOK M ls ((0, x) :: st) := h.push (vok0 hv) (Nat.le_of_ble_eq_true rfl : (0 : Nat) < 3)
theorem SOK.push1 {M : Mem} {ls st : List MV} {x : Int} (h : SOK M ls st) (hv : in64 x) : SOK M ls ((1, x) :: st) := h.push (vok1 hv) (Nat.le_of_ble_eq_true rfl : (1 : Nat) < 3)
theorem SOK.push2 {M : Mem} {ls st : List MV} {x : Int} (h : SOK M ls st) (hv : x < nx M) : SOK M ls ((2, x) :: st) := h.push (vok2 hv) (Nat.le_of_ble_eq_true rfl : (2 : Nat) < 3)
theorem SOK.i32 {M : Mem} {ls st : List MV} {x : Int} (h : SOK M ls ((0, x) :: st)) : in32 x := h.top.1.2.1 rfl
theorem SOK.i64 {M : Mem} {ls st : List MV} {x : Int} (h : SOK M ls ((1, x) :: st)) : in64 x := h.top.1.2.2.1 rfl
theorem SOK.ref {M : Mem} {ls st : List MV} {x : Int} (h : SOK M ls ((2, x) :: st)) : x < nx M := h.top.1.2.2.2 rfl
theorem mem_set {ls : List MV} {n : Nat} {v w : MV} (h : w ∈ ls.set n v) : w ∈ ls ∨ w = v := by
  exact List.mem_or_eq_of_mem_set h
theorem SOK.set {M : Mem} {ls st : List MV} {n : Nat} {v : MV} (h : SOK M ls st) (hv : VOK (nx M) v) : SOK M (ls.set n v) st := ⟨h.1, fun w hw => by rcases mem_set hw with hw | rfl; exact h.2.1 w hw; exact hv, h.2.2⟩
theorem SOK.set1 {M : Mem} {ls st : List MV} {n : Nat} {v : MV} (h : SOK M ls st) (hv : VOK (nx M) v) : SOK M (set1 ls n v) st := by
  unfold Jvm.Pilot.CVillageShowLaw_law_r8692_addf0e.set1
  split
  · exact (h.set vok3).set hv
  · exact h.set hv
theorem SOK.kl {M : Mem} {st : List MV} : ∀ (ks : List Nat) (ls : List MV), SOK M ls st → SOK M (kl ks ls) st
  | [], _, h => h
  | _ :: ks, _, h => SOK.kl ks _ (h.set vok3)
theorem lay_put (M : Mem) (x : Int) (i : Nat) (v : Int) : (put M x i v).1 = M.1 := rfl
theorem MOK_put {M : Mem} {x : Int} {i : Nat} {v : Int} {q : Nat × Nat} (hM : MOK M) (hq : M.1[x.toNat]? = some q) (hv : VOK (nx M) (tgt q.1 i, v)) : MOK (put M x i v) := by
  intro a q' ha
  obtain ⟨h1, h2, h3⟩ := hM a q' ha
  refine ⟨h1, h2, fun j hj => ?_⟩
  show VOK (nx M) (tgt q'.1 j, if a = x.toNat ∧ j = i then v else M.2.1 a j)
  by_cases hc : a = x.toNat ∧ j = i
  · rw [if_pos hc]
    obtain ⟨rfl, rfl⟩ := hc
    have e : q = q' := Option.some.inj (hq.symm.trans ha)
    rw [← e]
    exact hv
  · rw [if_neg hc]; exact h3 j hj
theorem nx_grow (M : Mem) (k n : Nat) (d : Nat → Int) : nx (growF M k n d) = nx M + 1 := by
  unfold nx growF; simp
theorem MOK_grow {M : Mem} {k n : Nat} {d : Nat → Int} (hM : MOK M) (hk : k < 13 ∧ n = (clsT.getD k []).length ∨ 100 ≤ k ∧ k < 106) (hn : n ≤ 20000) (hd : ∀ j, j < n → VOK (nx M + 1) (tgt k j, d j)) : MOK (growF M k n d) := by
  intro a q ha
  rw [nx_grow]
  have ha : (M.1 ++ [(k, n)])[a]? = some q := ha
  by_cases hl : a < M.1.length
  · rw [List.getElem?_append_left hl] at ha
    obtain ⟨h1, h2, h3⟩ := hM a q ha
    refine ⟨h1, h2, fun j hj => ?_⟩
    show VOK _ (tgt q.1 j, if a = M.1.length then d j else M.2.1 a j)
    rw [if_neg (by omega)]
    exact (h3 j hj).mono (by omega)
  · rw [List.getElem?_append_right (by omega)] at ha
    have hz : a - M.1.length < 1 := (List.getElem?_eq_some_iff.mp ha).1
    have e : a = M.1.length := by omega
    subst e
    rw [Nat.sub_self] at ha
    cases ha
    refine ⟨hk, hn, fun j hj => ?_⟩
    show VOK _ (tgt k j, if M.1.length = M.1.length then d j else _)
    rw [if_pos rfl]
    exact hd j hj
theorem SOK_grow {M : Mem} {ls st : List MV} {k n : Nat} {d : Nat → Int} (h : SOK M ls st) (hG : MOK (growF M k n d)) : SOK (growF M k n d) ls ((2, nx M) :: st) := by
  refine SOK.push2 ⟨hG, fun v hv => ?_, fun v hv => ?_⟩ (by rw [nx_grow]; omega)
  · exact (h.2.1 v hv).mono (by rw [nx_grow]; omega)
  · exact ⟨(h.2.2 v hv).1.mono (by rw [nx_grow]; omega), (h.2.2 v hv).2⟩
theorem SOK_put {M : Mem} {ls st : List MV} {x : Int} {i : Nat} {v : Int} (h : SOK M ls st) (hG : MOK (put M x i v)) : SOK (put M x i v) ls st := ⟨hG, h.2.1, h.2.2⟩
theorem lod_some {t n pc : Nat} {ls st : List MV} {M : Mem} {k : MK} {r : MRes} (h : lod t n pc ls st M k = some r) : ∃ x, ls[n]? = some (t, x) ∧ k (pc + 1) ls ((t, x) :: st) M = some r := by
  unfold lod at h
  cases hl : ls[n]? with
  | none => rw [hl] at h; cases h
  | some v =>
    rw [hl] at h
    obtain ⟨t', x⟩ := v
    have h : (if t' = t then k (pc + 1) ls ((t', x) :: st) M else none) = some r := h
    by_cases ht : t' = t
    · subst ht; rw [if_pos rfl] at h; exact ⟨x, rfl, h⟩
    · rw [if_neg ht] at h; cases h
theorem incr_some {n pc : Nat} {d : Int} {ls st : List MV} {M : Mem} {k : MK} {r : MRes} (h : incr n d pc ls st M k = some r) : ∃ x, ls[n]? = some (0, x) ∧ k (pc + 1) (ls.set n (0, w32 (x + d))) st M = some r := by
  unfold incr at h
  cases hl : ls[n]? with
  | none => rw [hl] at h; cases h
  | some v =>
    rw [hl] at h
    obtain ⟨t', x⟩ := v
    have h : (if t' = 0 then k (pc + 1) (ls.set n (0, w32 (x + d))) st M else none) = some r := h
    by_cases ht : t' = 0
    · subst ht; rw [if_pos rfl] at h; exact ⟨x, rfl, h⟩
    · rw [if_neg ht] at h; cases h
theorem bin_some {t pc : Nat} {op : Int → Int → Int} {ls st : List MV} {M : Mem} {k : MK} {r : MRes} (h : bin t op pc ls st M k = some r) : ∃ x y st', st = (t, y) :: (t, x) :: st' ∧ k (pc + 1) ls ((t, op x y) :: st') M = some r := by
  unfold bin at h
  match st, h with
  | (ty, y) :: (tx, x) :: st', h =>
    have h : (if tx = t ∧ ty = t then k (pc + 1) ls ((t, op x y) :: st') M else none) = some r := h
    by_cases hc : tx = t ∧ ty = t
    · rw [if_pos hc] at h; obtain ⟨rfl, rfl⟩ := hc; exact ⟨x, y, st', rfl, h⟩
    · rw [if_neg hc] at h; cases h
theorem shf_some {pc : Nat} {op : Int → Int → Int} {ls st : List MV} {M : Mem} {k : MK} {r : MRes} (h : shf op pc ls st M k = some r) : ∃ x y st', st = (0, y) :: (1, x) :: st' ∧ k (pc + 1) ls ((1, op x y) :: st') M = some r := by
  unfold shf at h
  match st, h with
  | (ty, y) :: (tx, x) :: st', h =>
    have h : (if tx = 1 ∧ ty = 0 then k (pc + 1) ls ((1, op x y) :: st') M else none) = some r := h
    by_cases hc : tx = 1 ∧ ty = 0
    · rw [if_pos hc] at h; obtain ⟨rfl, rfl⟩ := hc; exact ⟨x, y, st', rfl, h⟩
    · rw [if_neg hc] at h; cases h
theorem una_some {t t' pc : Nat} {op : Int → Int} {ls st : List MV} {M : Mem} {k : MK} {r : MRes} (h : una t t' op pc ls st M k = some r) : ∃ x st', st = (t, x) :: st' ∧ k (pc + 1) ls ((t', op x) :: st') M = some r := by
  unfold una at h
  match st, h with
  | (tx, x) :: st', h =>
    have h9 : (if tx = t then k (pc + 1) ls ((t', op x) :: st') M else none) = some r := h
    by_cases hc : tx = t
    · rw [if_pos hc] at h9; subst hc; exact ⟨x, st', rfl, h9⟩
    · rw [if_neg hc] at h9; cases h9
theorem bind_some {α : Type} {o : Option α} {f : α → Option MRes} {r : MRes} (h : (o.bind f) = some r) : ∃ v, o = some v ∧ f v = some r := by
  cases o with
  | none => cases h
  | some v => exact ⟨v, rfl, h⟩
theorem ald_some {X : MExt} {kd pc : Nat} {ls st : List MV} {M : Mem} {k : MK} {r : MRes} (h : ald X kd pc ls st M k = some r) : ∃ x i v st', st = (0, i) :: (2, x) :: st' ∧ aget X kd M x i = some v ∧ k (pc + 1) ls ((aTag kd, v) :: st') M = some r := by
  unfold ald at h
  match st, h with
  | (ti, i) :: (tx, x) :: st', h =>
    have h : (if ti = 0 ∧ tx = 2 then (aget X kd M x i).bind fun v => k (pc + 1) ls ((aTag kd, v) :: st') M else none) = some r := h
    by_cases hc : ti = 0 ∧ tx = 2
    · rw [if_pos hc] at h; obtain ⟨rfl, rfl⟩ := hc
      obtain ⟨v, h1, h2⟩ := bind_some h
      exact ⟨x, i, v, st', rfl, h1, h2⟩
    · rw [if_neg hc] at h; cases h
theorem ast_some {kd pc : Nat} {nr : Int → Int} {ls st : List MV} {M : Mem} {k : MK} {r : MRes} (h : ast kd nr pc ls st M k = some r) : ∃ x i v M' st', st = (aTag kd, v) :: (0, i) :: (2, x) :: st' ∧ aput kd M x i (nr v) = some M' ∧ k (pc + 1) ls st' M' = some r := by
  unfold ast at h
  match st, h with
  | (tv, v) :: (ti, i) :: (tx, x) :: st', h =>
    have h9 : (if tv = aTag kd ∧ ti = 0 ∧ tx = 2 then (aput kd M x i (nr v)).bind fun M' => k (pc + 1) ls st' M' else none) = some r := h
    by_cases hc : tv = aTag kd ∧ ti = 0 ∧ tx = 2
    · rw [if_pos hc] at h9; obtain ⟨rfl, rfl, rfl⟩ := hc
      obtain ⟨M', h1, h2⟩ := bind_some h9
      exact ⟨x, i, v, M', st', rfl, h1, h2⟩
    · rw [if_neg hc] at h9; cases h9
/-- what is read is in range -/
theorem aget_ok {X : MExt} {M : Mem} {kd : Nat} {x i v : Int} (hM : MOK M) (hX : ∀ x j, in32 ((X x).2.getD j 0)) (hk : kd = 100 ∨ kd = 102 ∨ kd = 103) (h : aget X kd M x i = some v) : in32 v := by
  rcases aget_some h with ⟨h0, h1, h2, h3, h4⟩ | ⟨h0, h1, h2, h3, h4⟩
  · obtain ⟨-, hq⟩ := lay_some (M := M) (x := x) (by omega)
    have := (hM _ _ hq).2.2 i.toNat (by omega)
    rw [h4]
    refine this.2.1 ?_
    show tgt _ _ = 0
    rw [h1]
    rcases hk with rfl | rfl | rfl <;> rfl
  · rw [h4]; exact hX _ _
theorem agetL_ok {X : MExt} {M : Mem} {x i v : Int} (hM : MOK M) (hX : (X x).1 ≠ 101) (h : aget X 101 M x i = some v) : in64 v := by
  rcases aget_some h with ⟨h0, h1, h2, h3, h4⟩ | ⟨h0, h1, h2, h3, h4⟩
  · obtain ⟨-, hq⟩ := lay_some (M := M) (x := x) (by omega)
    have := (hM _ _ hq).2.2 i.toNat (by omega)
    rw [h4]
    refine this.2.2.1 ?_
    show tgt _ _ = 1
    rw [h1]; rfl
  · exact absurd h1 hX
theorem agetR_ok {X : MExt} {M : Mem} {kd : Nat} {x i v : Int} (hM : MOK M) (hk : kd = 104 ∨ kd = 105) (hX : (X x).1 ≠ kd) (h : aget X kd M x i = some v) : v < nx M := by
  rcases aget_some h with ⟨h0, h1, h2, h3, h4⟩ | ⟨h0, h1, h2, h3, h4⟩
  · obtain ⟨-, hq⟩ := lay_some (M := M) (x := x) (by omega)
    have := (hM _ _ hq).2.2 i.toNat (by omega)
    rw [h4]
    refine this.2.2.2 ?_
    show tgt _ _ = 2
    rw [h1]
    rcases hk with rfl | rfl <;> rfl
  · exact absurd h1 hX
theorem aput_ok {M M' : Mem} {kd : Nat} {x i v : Int} (hM : MOK M) (hv : VOK (nx M) (aTag kd, v)) (hk : 100 ≤ kd ∧ kd < 106) (h : aput kd M x i v = some M') : MOK M' ∧ nx M' = nx M ∧ M'.1 = M.1 ∧ M'.2.2 = M.2.2 := by
  obtain ⟨h0, h1, h2, h3, rfl⟩ := aput_some h
  obtain ⟨-, hq⟩ := lay_some (M := M) (x := x) (by omega)
  refine ⟨MOK_put hM hq ?_, rfl, rfl, rfl⟩
  rw [tgt, if_neg (by omega), h1]
  exact hv
