/-! Part 11: locals. -/
def lvOf (ad : Nat → Nat) (xa : Int → Option Nat) (ls : List MV) : List (Nat × Value) := (List.range ls.length).filterMap (fun i => (ls[i]?).bind fun v => if v.1 < 3 then some (i, mrv ad xa v) else none)
theorem lvOf_mem {ad : Nat → Nat} {xa : Int → Option Nat} {ls : List MV} {i : Nat} {v : MV} (h : ls[i]? = some v) (h3 : v.1 < 3) : (i, mrv ad xa v) ∈ lvOf ad xa ls := by
  unfold lvOf
  refine List.mem_filterMap.mpr ⟨i, List.mem_range.mpr (List.getElem?_eq_some_iff.mp h).1, ?_⟩
  rw [h]
  show (if v.1 < 3 then _ else _) = _
  rw [if_pos h3]
theorem lvOf_of {ad : Nat → Nat} {xa : Int → Option Nat} {ls : List MV} {q : Nat × Value} (h : q ∈ lvOf ad xa ls) : ∃ v, ls[q.1]? = some v ∧ v.1 < 3 ∧ q.2 = mrv ad xa v := by
  unfold lvOf at h
  obtain ⟨i, -, hi⟩ := List.mem_filterMap.mp h
  cases hv : ls[i]? with
  | none => rw [hv] at hi; cases hi
  | some v =>
    rw [hv] at hi
    have hi : (if v.1 < 3 then some (i, mrv ad xa v) else none) = some q := hi
    by_cases h3 : v.1 < 3
    · rw [if_pos h3] at hi
      cases hi
      exact ⟨v, hv, h3, rfl⟩
    · rw [if_neg h3] at hi; cases hi
theorem LREL_has {nL : Nat} {ad : Nat → Nat} {xa : Int → Option Nat} {ls : List MV} {arr : Array Slot} (h : LREL nL ad xa ls arr) : lv_has arr nL (lvOf ad xa ls) := by
  refine ⟨h.1.1, h.1.2.1, fun q hq => ?_⟩
  obtain ⟨v, h1, h2, h3⟩ := lvOf_of hq
  rw [h3]
  exact h.2.2 q.1 v h1 h2
theorem set1_len (ls : List MV) (n : Nat) (v : MV) : (set1 ls n v).length = ls.length := by
  unfold set1; rw [List.length_set]; split <;> simp
theorem set1_get {ls : List MV} {n i : Nat} {v w : MV} (hi : i ≠ n) (h : (set1 ls n v)[i]? = some w) (h3 : w.1 < 3) : ls[i]? = some w ∧ ¬ (i + 1 = n ∧ w.1 = 1) := by
  unfold set1 at h
  rw [List.getElem?_set_ne (Ne.symm hi)] at h
  by_cases hc : n ≠ 0 ∧ (ls.getD (n - 1) (3, 0)).1 = 1
  · rw [if_pos hc] at h
    by_cases hn : n - 1 = i
    · subst hn
      by_cases hl : n - 1 < ls.length
      · rw [List.getElem?_set_self hl] at h
        cases h
        exact absurd h3 (by decide)
      · rw [List.getElem?_eq_none (by simpa using hl)] at h; cases h
    · rw [List.getElem?_set_ne hn] at h
      exact ⟨h, fun q => hn (by omega)⟩
  · rw [if_neg hc] at h
    refine ⟨h, fun q => hc ⟨by omega, ?_⟩⟩
    rw [List.getD_eq_getElem?_getD, show n - 1 = i by omega, h]
    exact q.2
theorem mrv_cat2 {ad : Nat → Nat} {xa : Int → Option Nat} {v : MV} (h : (mrv ad xa v).category = 2) : v.1 = 1 := by
  by_cases h1 : v.1 = 1
  · exact h1
  · rw [mrv_cat h1] at h; cases h
theorem LREL_set1 {nL : Nat} {ad : Nat → Nat} {xa : Int → Option Nat} {ls : List MV} {arr arr' : Array Slot} {n : Nat} {v : MV} (h : LREL nL ad xa ls arr) (hn : n < nL) (h' : lv_has arr' nL ((n, mrv ad xa v) :: (lvOf ad xa ls).filter (fun q => !(q.1 == n) && !(q.1 + 1 == n && q.2.category == 2)))) : LREL nL ad xa (set1 ls n v) arr' := by
  refine ⟨⟨h'.1, h'.2.1, fun _ hq => by cases hq⟩, by rw [set1_len]; exact h.2.1, fun i w hw h3 => ?_⟩
  by_cases hi : i = n
  · subst hi
    have : w = v := by
      unfold set1 at hw
      rw [List.getElem?_set_self (by split <;> (try rw [List.length_set]) <;> (rw [h.2.1]; exact hn))] at hw
      exact (Option.some.inj hw).symm
    subst this
    exact h'.2.2 _ List.mem_cons_self
  · obtain ⟨h1, h2⟩ := set1_get hi hw h3
    refine h'.2.2 (i, mrv ad xa w) (List.mem_cons_of_mem _ (List.mem_filter.mpr ⟨lvOf_mem h1 h3, ?_⟩))
    simp only [Bool.and_eq_true, Bool.not_eq_true', beq_eq_false_iff_ne, ne_eq, Bool.and_eq_false_iff]
    refine ⟨hi, ?_⟩
    by_cases hi1 : i + 1 = n
    · exact Or.inr fun q => h2 ⟨hi1, mrv_cat2 q⟩
    · exact Or.inl hi1
theorem LREL_set2 {nL : Nat} {ad : Nat → Nat} {xa : Int → Option Nat} {ls : List MV} {arr arr' : Array Slot} {n : Nat} {v : MV} (h : LREL nL ad xa ls arr) (hn : n + 1 < nL) (h' : lv_has arr' nL ((n, mrv ad xa v) :: (lvOf ad xa ls).filter (fun q => !(q.1 == n) && (!(q.1 == n + 1) && !(q.1 + 1 == n && q.2.category == 2))))) : LREL nL ad xa ((set1 ls n v).set (n + 1) (3, 0)) arr' := by
  refine ⟨⟨h'.1, h'.2.1, fun _ hq => by cases hq⟩, by rw [List.length_set, set1_len]; exact h.2.1, fun i w hw h3 => ?_⟩
  by_cases hj : i = n + 1
  · subst hj
    rw [List.getElem?_set_self (by rw [set1_len, h.2.1]; exact hn)] at hw
    cases hw
    exact absurd h3 (by decide)
  rw [List.getElem?_set_ne (Ne.symm hj)] at hw
  by_cases hi : i = n
  · subst hi
    have : w = v := by
      unfold set1 at hw
      rw [List.getElem?_set_self (by split <;> (try rw [List.length_set]) <;> (rw [h.2.1]; omega))] at hw
      exact (Option.some.inj hw).symm
    subst this
    exact h'.2.2 _ List.mem_cons_self
  · obtain ⟨h1, h2⟩ := set1_get hi hw h3
    refine h'.2.2 (i, mrv ad xa w) (List.mem_cons_of_mem _ (List.mem_filter.mpr ⟨lvOf_mem h1 h3, ?_⟩))
    simp only [Bool.and_eq_true, Bool.not_eq_true', beq_eq_false_iff_ne, ne_eq, Bool.and_eq_false_iff]
    refine ⟨hi, hj, ?_⟩
    by_cases hi1 : i + 1 = n
    · exact Or.inr fun q => h2 ⟨hi1, mrv_cat2 q⟩
    · exact Or.inl hi1
/-- forgetting locals -/
theorem LREL_kl {nL : Nat} {ad : Nat → Nat} {xa : Int → Option Nat} {arr : Array Slot} : ∀ (ks : List Nat) (ls : List MV), LREL nL ad xa ls arr → LREL nL ad xa (kl ks ls) arr
  | [], ls, h => h
  | k :: ks, ls, h => by
    refine LREL_kl ks (ls.set k (3, 0)) ⟨h.1, by rw [List.length_set]; exact h.2.1, fun i v hv h3 => ?_⟩
    by_cases hi : i = k
    · subst hi
      by_cases hl : i < ls.length
      · rw [List.getElem?_set_self hl] at hv
        cases hv
        exact absurd h3 (by decide)
      · rw [List.getElem?_eq_none (by simpa using hl)] at hv; cases hv
    · rw [List.getElem?_set_ne (Ne.symm hi)] at hv
      exact h.2.2 i v hv h3
section OPL
variable {p : Program} {l : Launch} {e : Env} {R : Room} {s : State} {m : MethodId} {args : Array Value} {below : List Frame} {meth : Method} {c : Code} {Q : State → Prop} {nL : Nat} {D : va_G} {cs : Nat → ClassId} {xa : Int → Option Nat} {A : Nat → Prop} {c0 s0 : Nat} {ad : Nat → Nat} {M : Mem} {pc : Nat} {ls st : List MV} {cc : ByteArray}
theorem go_kl (ks : List Nat) (k : GO p l e R s m args below meth c Q nL D cs xa A c0 s0 ad M pc (kl ks ls) st) : GO p l e R s m args below meth c Q nL D cs xa A c0 s0 ad M pc ls st := fun H locs arr hP hD hS hL => k H locs arr hP hD hS (LREL_kl ks ls hL)
theorem go_aload (hx : p.tables.exec = Jvm.exec) (hb : c.code = cc) {n : Nat} {x : Int} (hl : ls[n]? = some (2, x)) (hdg : decode cc pc = .ok (.aload n, 2)) (k : GO p l e R s m args below meth c Q nL D cs xa A c0 s0 ad M (pc + 2) ls ((2, x) :: st)) : GO p l e R s m args below meth c Q nL D cs xa A c0 s0 ad M pc ls st := by
  intro H locs arr hP hD hS hL
  have k2 := k H locs arr hP hD hS hL
  have h2 := hL.2.2 n _ hl (Nat.le_of_ble_eq_true rfl : (2 : Nat) < 3)
  rw [List.map_cons, mrv2] at k2
  rw [mrv2] at h2
  cases hq : mrf ad xa x with
  | none => rw [hq] at h2 k2; exact lv_aloadN hx hb hdg h2 k2
  | some q => rw [hq] at h2 k2; exact lv_aload hx hb hdg h2 k2
theorem go_aloadn (hx : p.tables.exec = Jvm.exec) (hb : c.code = cc) {n : Nat} {f : Fin 4} {x : Int} (hf : (f : Nat) = n) (hl : ls[n]? = some (2, x)) (hdg : decode cc pc = .ok (.aload_n f, 1)) (k : GO p l e R s m args below meth c Q nL D cs xa A c0 s0 ad M (pc + 1) ls ((2, x) :: st)) : GO p l e R s m args below meth c Q nL D cs xa A c0 s0 ad M pc ls st := by
  intro H locs arr hP hD hS hL
  have k2 := k H locs arr hP hD hS hL
  have h2 := hL.2.2 n _ hl (Nat.le_of_ble_eq_true rfl : (2 : Nat) < 3)
  rw [List.map_cons, mrv2] at k2
  rw [mrv2] at h2
  cases hq : mrf ad xa x with
  | none => rw [hq] at h2 k2; exact lv_aload_nN hx hb hdg hf h2 k2
  | some q => rw [hq] at h2 k2; exact lv_aload_n hx hb hdg hf h2 k2
theorem go_istore (hx : p.tables.exec = Jvm.exec) (hb : c.code = cc) {n : Nat} {x : Int} (hn : n < nL) (hdg : decode cc pc = .ok (.istore n, 2)) (k : GO p l e R s m args below meth c Q nL D cs xa A c0 s0 ad M (pc + 2) (set1 ls n (0, x)) st) : GO p l e R s m args below meth c Q nL D cs xa A c0 s0 ad M pc ls ((0, x) :: st) :=
  fun H locs arr hP hD hS hL => lv_istore hx hb hdg (LREL_has hL) hn rfl (fun arr' h' => k H locs arr' hP hD hS (LREL_set1 hL hn h'))
theorem go_istoren (hx : p.tables.exec = Jvm.exec) (hb : c.code = cc) {n : Nat} {f : Fin 4} {x : Int} (hf : (f : Nat) = n) (hn : n < nL) (hdg : decode cc pc = .ok (.istore_n f, 1)) (k : GO p l e R s m args below meth c Q nL D cs xa A c0 s0 ad M (pc + 1) (set1 ls n (0, x)) st) : GO p l e R s m args below meth c Q nL D cs xa A c0 s0 ad M pc ls ((0, x) :: st) :=
  fun H locs arr hP hD hS hL => lv_istore_n hx hb hdg hf (LREL_has hL) hn rfl (fun arr' h' => k H locs arr' hP hD hS (LREL_set1 hL hn h'))
theorem go_lstore (hx : p.tables.exec = Jvm.exec) (hb : c.code = cc) {n : Nat} {x : Int} (hn : n + 1 < nL) (hdg : decode cc pc = .ok (.lstore n, 2)) (k : GO p l e R s m args below meth c Q nL D cs xa A c0 s0 ad M (pc + 2) ((set1 ls n (1, x)).set (n + 1) (3, 0)) st) : GO p l e R s m args below meth c Q nL D cs xa A c0 s0 ad M pc ls ((1, x) :: st) :=
  fun H locs arr hP hD hS hL => lv_lstore hx hb hdg (LREL_has hL) hn rfl (fun arr' h' => k H locs arr' hP hD hS (LREL_set2 hL hn h'))
theorem go_lstoren (hx : p.tables.exec = Jvm.exec) (hb : c.code = cc) {n : Nat} {f : Fin 4} {x : Int} (hf : (f : Nat) = n) (hn : n + 1 < nL) (hdg : decode cc pc = .ok (.lstore_n f, 1)) (k : GO p l e R s m args below meth c Q nL D cs xa A c0 s0 ad M (pc + 1) ((set1 ls n (1, x)).set (n + 1) (3, 0)) st) : GO p l e R s m args below meth c Q nL D cs xa A c0 s0 ad M pc ls ((1, x) :: st) :=
  fun H locs arr hP hD hS hL => lv_lstore_n hx hb hdg hf (LREL_has hL) hn rfl (fun arr' h' => k H locs arr' hP hD hS (LREL_set2 hL hn h'))
theorem go_astore (hx : p.tables.exec = Jvm.exec) (hb : c.code = cc) {n : Nat} {x : Int} (hn : n < nL) (hdg : decode cc pc = .ok (.astore n, 2)) (k : GO p l e R s m args below meth c Q nL D cs xa A c0 s0 ad M (pc + 2) (set1 ls n (2, x)) st) : GO p l e R s m args below meth c Q nL D cs xa A c0 s0 ad M pc ls ((2, x) :: st) := by
  intro H locs arr hP hD hS hL
  rw [List.map_cons, mrv2]
  have h2 : ∀ arr', lv_has arr' nL ((n, va_rf (mrf ad xa x)) :: (lvOf ad xa ls).filter (fun q => !(q.1 == n) && !(q.1 + 1 == n && q.2.category == 2))) → LREL nL ad xa (set1 ls n (2, x)) arr' := fun arr' h' => LREL_set1 hL hn h'
  cases hq : mrf ad xa x with
  | none => rw [hq] at h2; exact lv_astoreN hx hb hdg (LREL_has hL) hn rfl (fun arr' h' => k H locs arr' hP hD hS (h2 arr' h'))
  | some q => rw [hq] at h2; exact lv_astore hx hb hdg (LREL_has hL) hn rfl (fun arr' h' => k H locs arr' hP hD hS (h2 arr' h'))
theorem go_astoren (hx : p.tables.exec = Jvm.exec) (hb : c.code = cc) {n : Nat} {f : Fin 4} {x : Int} (hf : (f : Nat) = n) (hn : n < nL) (hdg : decode cc pc = .ok (.astore_n f, 1)) (k : GO p l e R s m args below meth c Q nL D cs xa A c0 s0 ad M (pc + 1) (set1 ls n (2, x)) st) : GO p l e R s m args below meth c Q nL D cs xa A c0 s0 ad M pc ls ((2, x) :: st) := by
  intro H locs arr hP hD hS hL
  rw [List.map_cons, mrv2]
  have h2 : ∀ arr', lv_has arr' nL ((n, va_rf (mrf ad xa x)) :: (lvOf ad xa ls).filter (fun q => !(q.1 == n) && !(q.1 + 1 == n && q.2.category == 2))) → LREL nL ad xa (set1 ls n (2, x)) arr' := fun arr' h' => LREL_set1 hL hn h'
  cases hq : mrf ad xa x with
  | none => rw [hq] at h2; exact lv_astore_nN hx hb hdg hf (LREL_has hL) hn rfl (fun arr' h' => k H locs arr' hP hD hS (h2 arr' h'))
  | some q => rw [hq] at h2; exact lv_astore_n hx hb hdg hf (LREL_has hL) hn rfl (fun arr' h' => k H locs arr' hP hD hS (h2 arr' h'))
theorem set_eq_set1 {ls : List MV} {n : Nat} {x y : Int} (h : ls[n]? = some (0, x)) (hw : ∀ i z, ls[i]? = some (1, z) → ∀ v, ls[i + 1]? = some v → v.1 = 3) : set1 ls n (0, y) = ls.set n (0, y) := by
  unfold set1
  rw [if_neg]
  rintro ⟨h0, h1⟩
  rw [List.getD_eq_getElem?_getD] at h1
  cases hv : ls[n - 1]? with
  | none => rw [hv] at h1; cases h1
  | some v =>
    obtain ⟨t, z⟩ := v
    rw [hv] at h1
    have h1 : t = 1 := h1
    subst h1
    have := hw _ _ hv (0, x) (by rw [show n - 1 + 1 = n by omega]; exact h)
    cases this
theorem go_iinc (hx : p.tables.exec = Jvm.exec) (hb : c.code = cc) {n : Nat} {x d : Int} (hn : n < nL) (hl : ls[n]? = some (0, x)) (hdg : decode cc pc = .ok (.iinc n d, 3)) (k : GO p l e R s m args below meth c Q nL D cs xa A c0 s0 ad M (pc + 3) (ls.set n (0, w32 (x + d))) st) : GO p l e R s m args below meth c Q nL D cs xa A c0 s0 ad M pc ls st := by
  intro H locs arr hP hD hS hL
  obtain ⟨j, hj⟩ := List.getElem?_of_mem (lvOf_mem (ad := ad) (xa := xa) hl (Nat.le_of_ble_eq_true rfl : (0 : Nat) < 3))
  refine lv_iinc (v := Int32.ofInt (w32 (x + d))) hx hb hdg (LREL_has hL) hj (by rw [i3_add]) hn rfl (fun arr' h' => ?_)
  refine k H locs arr' hP hD hS ?_
  have h1 : LREL nL ad xa (set1 ls n (0, w32 (x + d))) arr' := LREL_set1 hL hn h'
  refine ⟨h1.1, by rw [List.length_set]; exact hL.2.1, fun i v hv h3 => ?_⟩
  by_cases hi : i = n
  · subst hi
    rw [List.getElem?_set_self (by rw [hL.2.1]; exact hn)] at hv
    cases hv
    exact h'.2.2 _ List.mem_cons_self
  · rw [List.getElem?_set_ne (Ne.symm hi)] at hv
    -- a long's second half is no int
    have hns : ¬ (i + 1 = n ∧ v.1 = 1) := by
      rintro ⟨q1, q2⟩
      have a1 := hL.2.2 i v hv (by omega)
      have a2 := hL.1.2.1.1 i _ a1 (by obtain ⟨t, z⟩ := v; have q2 : t = 1 := q2; subst q2; rfl)
      have a3 := hL.2.2 n _ hl (Nat.le_of_ble_eq_true rfl : (0 : Nat) < 3)
      rw [q1, a3] at a2
      cases a2
    refine h'.2.2 (i, mrv ad xa v) (List.mem_cons_of_mem _ (List.mem_filter.mpr ⟨lvOf_mem hv h3, ?_⟩))
    simp only [Bool.and_eq_true, Bool.not_eq_true', beq_eq_false_iff_ne, ne_eq, Bool.and_eq_false_iff]
    refine ⟨hi, ?_⟩
    by_cases hi1 : i + 1 = n
    · exact Or.inr fun q => hns ⟨hi1, mrv_cat2 q⟩
    · exact Or.inl hi1
end OPL
