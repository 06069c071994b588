/-! Part 14: arrays, things from before. -/
/-- the things from before the run that the mini machine reads: arrays of ints and bytes, the texts, three statics, the texts' links -/
def EXTOK (X : MExt) (xa : Int → Option Nat) (A : Nat → Prop) (U : State) (H : Heap) : Prop :=
  (∀ x, x < -1 → (X x).1 = 100 → ∃ t, xa x = some t ∧ va_T .int t (X x).2.length (fun j => .int (Int32.ofInt ((X x).2.getD j 0))) A U H) ∧
  (∀ x, x < -1 → (X x).1 = 103 → ∃ t, xa x = some t ∧ va_T .byte t (X x).2.length (fun j => .int (Int32.ofInt ((X x).2.getD j 0))) A U H) ∧
  (∀ x, -30 < x → x ≤ -10 → ∃ a b, xa x = some a ∧ xa (x - 20) = some b ∧ va_O "java/lang/String" a A U H ∧ va_OF "java/lang/String" "coder" "B" (.int 0) a A U H ∧ va_OF "java/lang/String" "value" "[B" (.ref b) a A U H) ∧
  (va_Z "java/lang/String" "COMPACT_STRINGS" "Z" (.int 1) A U H ∧ va_Z "VillageShow$Reader" "TEXTS_OF" "[I" (va_rf (xa (-3))) A U H ∧ va_Z "VillageShow$Reader" "LINE_OF" "[I" (va_rf (xa (-4))) A U H ∧ va_Z "jdk/internal/util/Preconditions" "SIOOBE_FORMATTER" "Ljava/util/function/BiFunction;" (va_rf (xa (-5))) A U H) ∧
  (∀ own q, q ∈ lksL.getD own [] → q.1.1 = 6 → ∃ a, xa q.1.2.2 = some a ∧ vk_R (onm own) q.1.2.1 (strN.getD (-10 - q.1.2.2).toNat "") a U) ∧
  (∀ x, (X x).1 ≠ 101 ∧ (X x).1 ≠ 102 ∧ (X x).1 ≠ 104 ∧ (X x).1 ≠ 105) ∧ (∀ x, (X x).2.length < 2147483648) ∧ (∀ x j, in32 ((X x).2.getD j 0))
section OPA
variable {p : Program} {l : Launch} {e : Env} {R : Room} {s : State} {m : MethodId} {args : Array Value} {below : List Frame} {meth : Method} {c : Code} {Q : State → Prop} {nL : Nat} {D : va_G} {cs : Nat → ClassId} {xa : Int → Option Nat} {A : Nat → Prop} {c0 s0 : Nat} {ad : Nat → Nat} {M : Mem} {pc : Nat} {ls st : List MV} {cc : ByteArray} {X : MExt}
theorem inb_iff {i : Int} {n : Nat} : inb i n = true ↔ 0 ≤ i ∧ i < n := by unfold inb; simp
/-- what a read says -/
theorem aget_some {kd : Nat} {x i v : Int} (h : aget X kd M x i = some v) : (0 ≤ x ∧ (lay? M x).1 = kd ∧ 0 ≤ i ∧ i < (lay? M x).2 ∧ v = get? M x i.toNat) ∨ (x < -1 ∧ (X x).1 = kd ∧ 0 ≤ i ∧ i < (X x).2.length ∧ v = (X x).2.getD i.toNat 0) := by
  unfold aget at h
  by_cases h0 : 0 ≤ x
  · rw [if_pos h0] at h
    by_cases h1 : (lay? M x).1 = kd
    · rw [if_pos h1] at h
      by_cases h2 : inb i (lay? M x).2 = true
      · rw [if_pos h2] at h
        obtain ⟨h3, h4⟩ := inb_iff.mp h2
        exact Or.inl ⟨h0, h1, h3, h4, (Option.some.inj h).symm⟩
      · rw [if_neg h2] at h; cases h
    · rw [if_neg h1] at h; cases h
  · rw [if_neg h0] at h
    by_cases hx1 : x < -1
    · rw [if_pos hx1] at h
      by_cases h1 : (X x).1 = kd
      · rw [if_pos h1] at h
        by_cases h2 : inb i (X x).2.length = true
        · rw [if_pos h2] at h
          obtain ⟨h3, h4⟩ := inb_iff.mp h2
          exact Or.inr ⟨hx1, h1, h3, h4, (Option.some.inj h).symm⟩
        · rw [if_neg h2] at h; cases h
      · rw [if_neg h1] at h; cases h
    · rw [if_neg hx1] at h; cases h
theorem aput_some {kd : Nat} {x i v : Int} {M' : Mem} (h : aput kd M x i v = some M') : 0 ≤ x ∧ (lay? M x).1 = kd ∧ 0 ≤ i ∧ i < (lay? M x).2 ∧ M' = put M x i.toNat v := by
  unfold aput at h
  by_cases h0 : 0 ≤ x
  · rw [if_pos h0] at h
    by_cases h1 : (lay? M x).1 = kd
    · rw [if_pos h1] at h
      by_cases h2 : inb i (lay? M x).2 = true
      · rw [if_pos h2] at h
        obtain ⟨h3, h4⟩ := inb_iff.mp h2
        exact ⟨h0, h1, h3, h4, (Option.some.inj h).symm⟩
      · rw [if_neg h2] at h; cases h
    · rw [if_neg h1] at h; cases h
  · rw [if_neg h0] at h; cases h
theorem mrf_ext {x : Int} {t : Nat} (h : x < -1) (ht : xa x = some t) : va_rf (mrf ad xa x) = .ref t := by
  rw [mrf, if_neg (by omega), if_neg (by omega), ht]; rfl
theorem go_iaload (hx : p.tables.exec = Jvm.exec) (hb : c.code = cc) (hK : va_K D vwCl (tysOf cs) s) (hE : EXTOK X xa A s s.heap) {x i v : Int} (hi : in32 i) (hv : aget X 100 M x i = some v) (hdg : decode cc pc = .ok (.iaload, 1)) (k : GO p l e R s m args below meth c Q nL D cs xa A c0 s0 ad M (pc + 1) ls ((0, v) :: st)) : GO p l e R s m args below meth c Q nL D cs xa A c0 s0 ad M pc ls ((0, i) :: (2, x) :: st) := by
  intro H locs arr hP hD hS hL
  have k2 := k H locs arr hP hD hS hL
  rw [List.map_cons, mrv0] at k2
  rw [List.map_cons, List.map_cons, mrv0, mrv2]
  rcases aget_some hv with ⟨h0, h1, h2, h3, h4⟩ | ⟨h0, h1, h2, h3, h4⟩
  · obtain ⟨-, hq⟩ := lay_some (M := M) (x := x) (by omega)
    have he := WS_get (cs := cs) (ad := ad) (xa := xa) hq
    rw [ent_int 0 h1 (Or.inl rfl)] at he
    rw [mrf_pos h0]
    refine va_iald hx hb hK hP x.toNat 0 he rfl (i3_in hi h2 h3) hdg ?_
    rw [i3_cl hi h2]
    rw [h4] at k2
    exact k2
  · obtain ⟨t, e1, e2⟩ := hE.1 x h0 h1
    rw [mrf_ext h0 e1]
    refine va_ti hx hb e2 hS (i3_in hi h2 h3) (v := .int (Int32.ofInt v)) ?_ hdg k2
    rw [i3_cl hi h2, h4]
theorem go_caload (hx : p.tables.exec = Jvm.exec) (hb : c.code = cc) (hK : va_K D vwCl (tysOf cs) s) (hE : EXTOK X xa A s s.heap) {x i v : Int} (hi : in32 i) (hv : aget X 103 M x i = some v) (hdg : decode cc pc = .ok (.baload, 1)) (k : GO p l e R s m args below meth c Q nL D cs xa A c0 s0 ad M (pc + 1) ls ((0, v) :: st)) : GO p l e R s m args below meth c Q nL D cs xa A c0 s0 ad M pc ls ((0, i) :: (2, x) :: st) := by
  intro H locs arr hP hD hS hL
  have k2 := k H locs arr hP hD hS hL
  rw [List.map_cons, mrv0] at k2
  rw [List.map_cons, List.map_cons, mrv0, mrv2]
  rcases aget_some hv with ⟨h0, h1, h2, h3, h4⟩ | ⟨h0, h1, h2, h3, h4⟩
  · obtain ⟨-, hq⟩ := lay_some (M := M) (x := x) (by omega)
    have he := WS_get (cs := cs) (ad := ad) (xa := xa) hq
    rw [ent_int 3 h1 (Or.inr (Or.inr rfl))] at he
    rw [mrf_pos h0]
    refine va_bald hx hb hK hP x.toNat 3 he rfl (i3_in hi h2 h3) hdg ?_
    rw [i3_cl hi h2]
    rw [h4] at k2
    exact k2
  · obtain ⟨t, e1, e2⟩ := hE.2.1 x h0 h1
    rw [mrf_ext h0 e1]
    refine va_tb hx hb e2 hS (i3_in hi h2 h3) (v := .int (Int32.ofInt v)) ?_ hdg k2
    rw [i3_cl hi h2, h4]
theorem go_baload (hx : p.tables.exec = Jvm.exec) (hb : c.code = cc) (hK : va_K D vwCl (tysOf cs) s) (hE : EXTOK X xa A s s.heap) {x i v : Int} (hi : in32 i) (hv : aget X 102 M x i = some v) (hdg : decode cc pc = .ok (.baload, 1)) (k : GO p l e R s m args below meth c Q nL D cs xa A c0 s0 ad M (pc + 1) ls ((0, v) :: st)) : GO p l e R s m args below meth c Q nL D cs xa A c0 s0 ad M pc ls ((0, i) :: (2, x) :: st) := by
  intro H locs arr hP hD hS hL
  have k2 := k H locs arr hP hD hS hL
  rw [List.map_cons, mrv0] at k2
  rw [List.map_cons, List.map_cons, mrv0, mrv2]
  rcases aget_some hv with ⟨h0, h1, h2, h3, h4⟩ | ⟨h0, h1, h2, h3, h4⟩
  · obtain ⟨-, hq⟩ := lay_some (M := M) (x := x) (by omega)
    have he := WS_get (cs := cs) (ad := ad) (xa := xa) hq
    rw [ent_int 2 h1 (Or.inr (Or.inl rfl))] at he
    rw [mrf_pos h0]
    refine va_zald hx hb hK hP x.toNat 2 he rfl (i3_in hi h2 h3) hdg ?_
    rw [i3_cl hi h2]
    rw [h4] at k2
    exact k2
  · exact absurd h1 (hE.2.2.2.2.2.1 x).2.1
theorem go_laload (hx : p.tables.exec = Jvm.exec) (hb : c.code = cc) (hK : va_K D vwCl (tysOf cs) s) (hE : EXTOK X xa A s s.heap) {x i v : Int} (hi : in32 i) (hv : aget X 101 M x i = some v) (hdg : decode cc pc = .ok (.laload, 1)) (k : GO p l e R s m args below meth c Q nL D cs xa A c0 s0 ad M (pc + 1) ls ((1, v) :: st)) : GO p l e R s m args below meth c Q nL D cs xa A c0 s0 ad M pc ls ((0, i) :: (2, x) :: st) := by
  intro H locs arr hP hD hS hL
  have k2 := k H locs arr hP hD hS hL
  rw [List.map_cons, mrv1] at k2
  rw [List.map_cons, List.map_cons, mrv0, mrv2]
  rcases aget_some hv with ⟨h0, h1, h2, h3, h4⟩ | ⟨h0, h1, h2, h3, h4⟩
  · obtain ⟨-, hq⟩ := lay_some (M := M) (x := x) (by omega)
    have he := WS_get (cs := cs) (ad := ad) (xa := xa) hq
    rw [ent_long h1] at he
    rw [mrf_pos h0]
    refine va_lald hx hb hK hP x.toNat 1 he rfl (i3_in hi h2 h3) hdg ?_
    rw [i3_cl hi h2]
    rw [h4] at k2
    exact k2
  · exact absurd h1 (hE.2.2.2.2.2.1 x).1
theorem go_aaload (hx : p.tables.exec = Jvm.exec) (hb : c.code = cc) (hK : va_K D vwCl (tysOf cs) s) (hE : EXTOK X xa A s s.heap) {x i v : Int} (hi : in32 i) (hc45 : (lay? M x).1 = 104 ∨ (lay? M x).1 = 105) (hv : aget X (lay? M x).1 M x i = some v) (hdg : decode cc pc = .ok (.aaload, 1)) (k : GO p l e R s m args below meth c Q nL D cs xa A c0 s0 ad M (pc + 1) ls ((2, v) :: st)) : GO p l e R s m args below meth c Q nL D cs xa A c0 s0 ad M pc ls ((0, i) :: (2, x) :: st) := by
  intro H locs arr hP hD hS hL
  have k2 := k H locs arr hP hD hS hL
  rw [List.map_cons, mrv2] at k2
  rw [List.map_cons, List.map_cons, mrv0, mrv2]
  rcases aget_some hv with ⟨h0, h1, h2, h3, h4⟩ | ⟨h0, h1, h2, h3, h4⟩
  · obtain ⟨-, hq⟩ := lay_some (M := M) (x := x) (by omega)
    have he := WS_get (cs := cs) (ad := ad) (xa := xa) hq
    rw [mrf_pos h0]
    have hfi : ∀ {g : Nat → Option Nat}, g = (fun i => if i < (lay? M x).2 then mrf ad xa (M.2.1 x.toNat i) else none) → g (Int32.ofInt i).toNatClampNeg = mrf ad xa v := by
      intro g hg
      rw [hg, i3_cl hi h2]
      show (if i.toNat < (lay? M x).2 then _ else _) = _
      rw [if_pos (by omega), h4]
      rfl
    rcases hc45 with h45 | h45
    · rw [ent_ref 4 h45 (Or.inl rfl)] at he
      refine va_aldq hx hb hK hP x.toNat 4 he rfl (i3_in hi h2 h3) hdg ?_
      rw [hfi rfl]
      exact k2
    · rw [ent_ref 5 h45 (Or.inr rfl)] at he
      have hcell := hP x.toNat _ he
      have hcell : H[ad x.toNat]? = some (arrV (cs 5) (lay? M x).2 (fun j => va_rf (if j < (lay? M x).2 then mrf ad xa (M.2.1 x.toNat j) else none))) := hcell
      refine W.aald (v := va_rf (mrf ad xa v)) hx hb hcell ((hK.2 5 _ rfl).1 _ _) rfl (fun z => by cases z) (by rw [arrV_size]; exact i3_in hi h2 h3) ?_ rfl rfl hdg k2
      rw [i3_cl hi h2]
      rw [arrV_read _ _ (by omega), if_pos (by omega), h4]
      rfl
  · exact absurd h1.symm (by rcases hc45 with z | z <;> rw [z] <;> first | exact fun y => (hE.2.2.2.2.2.1 x).2.2.1 y.symm | exact fun y => (hE.2.2.2.2.2.1 x).2.2.2 y.symm)
end OPA
