/-! Part 17: contracts of methods, and calls by them. -/
def isNest : Cond → Bool
  | .methodLinkNest _ _ _ _ => true
  | _ => false
def AOA (U : State) : Prop := (Cond.arrayOver (.array .int)).before #[] U = true
theorem EXTOK_move {X : MExt} {xa : Int → Option Nat} {A B : Nat → Prop} {s U : State} {H : Heap} {locs : List Loc} (h : EXTOK X xa A s s.heap) (hS : va_S A s.heap H locs) (hAB : ∀ q, B q → A q) (hW : s.WarmedH U.vm) (hU : U.heap = H) : EXTOK X xa B U U.heap := by
  rw [hU]
  obtain ⟨h1, h2, h3, ⟨z1, z2, z3, z4⟩, h5, h6⟩ := h
  have kz : ∀ {C n d : String} {v : Value}, va_Z C n d v A s s.heap → va_Z C n d v B U H := fun z => ((z.kept hS.2.1).narrow hAB).moved hW.alike
  have kt : ∀ {ty : FieldType} {t N : Nat} {f : Nat → Value}, va_T ty t N f A s s.heap → va_T ty t N f B U H := fun z => ((z.kept hS.2.1).narrow hAB).moved hW.alike
  refine ⟨fun x hx hk => ?_, fun x hx hk => ?_, fun x hx hk => ?_, ⟨kz z1, kz z2, kz z3, kz z4⟩, fun own q hq hk => ?_, h6⟩
  · obtain ⟨t, e1, e2⟩ := h1 x hx hk; exact ⟨t, e1, kt e2⟩
  · obtain ⟨t, e1, e2⟩ := h2 x hx hk; exact ⟨t, e1, kt e2⟩
  · obtain ⟨a, b, e1, e2, e3, e4, e5⟩ := h3 x hx hk
    exact ⟨a, b, e1, e2, ((e3.kept hS.2.1).narrow hAB).moved hW.alike, ((e4.kept hS.2.1).narrow hAB).moved hW.alike, ((e5.kept hS.2.1).narrow hAB).moved hW.alike⟩
  · obtain ⟨a, e1, e2⟩ := h5 own q hq hk
    exact ⟨a, e1, e2.warm hW⟩
theorem aoa_spec {args : Array Value} {first s : State} {o : Option Outcome} {idx : List Nat} (h : (Cond.arrayOver (.array .int)).holds args first o s idx = true) :
    ∃ comp c k, s.vm.findClass (FieldType.array .int).toString = some comp ∧ (s.vm.classes.findIdx? fun x => match x.kind with | .array component _ => component == comp | _ => false) = some c ∧ s.vm.classes[c]? = some k ∧ k.kind = .array comp (.array .int) ∧ s.vm.findClass ("[" ++ (FieldType.array .int).toString) = some c := by
  simp only [Cond.holds, Cond.value, beq_iff_eq] at h
  cases hc : s.vm.findClass (FieldType.array .int).toString with
  | none => simp [hc] at h
  | some comp =>
    simp only [hc, Option.bind_some, Option.bind_eq_some_iff, Option.map_eq_some_iff] at h
    obtain ⟨c, hi, k, hk, hb⟩ := h
    have hp := (Array.findIdx?_eq_some_iff_getElem.mp hi).2.1
    rw [(Array.getElem?_eq_some_iff.mp hk).2] at hp
    cases hkind : k.kind with
    | array component ty =>
      rw [hkind] at hb hp
      simp at hb hp
      exact ⟨comp, c, k, rfl, hi, hk, by rw [hkind, hp, hb.1], hb.2⟩
    | _ => rw [hkind] at hb; simp at hb
theorem AOA_moved {u U : State} (hvm : u.vm.Alike U.vm) (h : AOA u) : AOA U := by
  obtain ⟨comp, c, k, h1, h2, h3, h4, h5⟩ := aoa_spec h
  obtain ⟨k', hk', he⟩ := hvm.2.2 _ _ h3
  have hi : (U.vm.classes.findIdx? fun (x : Class) => match x.kind with | .array component _ => component == comp | _ => false) = some c := by
    have a1 := va_idx_bare U.vm comp
    have a2 := va_idx_bare u.vm comp
    first | rw [hvm.bare_eq] at a1 | rw [← hvm.bare_eq] at a1
    exact a1.symm.trans (a2.trans h2)
  have hkind : k'.kind = .array comp (.array .int) := by rw [he]; exact h4
  have f1 : U.vm.findClass (FieldType.array .int).toString = some comp := by rw [hvm.findClass]; exact h1
  have f2 : U.vm.findClass ("[" ++ (FieldType.array .int).toString) = some c := by rw [hvm.findClass]; exact h5
  unfold AOA Cond.before Cond.holds
  simp only [Cond.value]
  rw [f1, Option.bind_some]
  refine (congrArg (fun o : Option Nat => (o.bind (fun c => (U.vm.classes[c]?).map fun (k : Class) => match k.kind with | .array _ ty => decide (ty = FieldType.array .int) && decide (U.vm.findClass ("[" ++ (FieldType.array .int).toString) = some c) | _ => false) == some true)) hi).trans ?_
  simp [hk', hkind, f2]
/-- the exception that the class throws -/
def nseN : String := "java/util/NoSuchElementException"
/-- words of its making that aren't steady -/
def nyD : List Cond := [.declares (Bundle.initS "java/lang/RuntimeException"), .declares (Bundle.initS "java/lang/Exception"), .declares (Bundle.initS Bundle.tN)]
theorem nyD_on : ∀ w ∈ nyD, w.onTables = true := by decide
/-- the texts of its throws -/
def thrT : List (Nat × String) := [(182, "no such entry"), (190, "no such entry or fact"), (234, "no such entry or judge"), (333, "no such exhibitor"), (338, "no such exhibitor, classes or question"), (343, "too many pieces")]
/-- where Throwable's two statics lie; the texts -/
def TZOK (A : Nat → Prop) (U : State) (H : Heap) : Prop := vx_Zq Bundle.tN "UNASSIGNED_STACK" Bundle.steD A U H ∧ vx_Zq Bundle.tN "SUPPRESSED_SENTINEL" Bundle.listD A U H ∧ ∀ q ∈ thrT, ∃ a, vk_R "VillageShow" q.1 q.2 a U
theorem TZOK_move {A B : Nat → Prop} {s U : State} {H : Heap} {locs : List Loc} (h : TZOK A s s.heap) (hS : va_S A s.heap H locs) (hAB : ∀ q, B q → A q) (hW : s.WarmedH U.vm) (hU : U.heap = H) : TZOK B U U.heap := by
  rw [hU]
  exact ⟨vx_Zq.moved hW.alike ((h.1.kept hS.2.1).narrow hAB), vx_Zq.moved hW.alike ((h.2.1.kept hS.2.1).narrow hAB), fun q hq => by obtain ⟨a, e⟩ := h.2.2 q hq; exact ⟨a, e.warm hW⟩⟩
/-- what of the tables isn't steady: links between nest mates, two array classes -/
def NWOK (U : State) : Prop := (∀ w ∈ tables_1, isNest w = true → va_Nw w U) ∧ va_AO "VillageShow$Rules" U ∧ AOA U ∧ va_Nw (.castable nseN nseN) U ∧ ∀ w ∈ nyD, va_Nw w U
theorem NWOK_warm {s U : State} (hW : s.WarmedH U.vm) (h : NWOK s) : NWOK U := by
  refine ⟨fun w hw hn => ?_, h.2.1.moved hW.alike, AOA_moved hW.alike h.2.2.1, va_Nw.warmC hW h.2.2.2.1, fun w hw => ?_⟩
  · have h1 := h.1 w hw hn
    cases w <;> first | exact h1.warmM hW | cases hn
  · have h1 := h.2.2.2.2 w hw
    simp only [nyD, List.mem_cons, List.not_mem_nil, or_false] at hw
    rcases hw with rfl | rfl | rfl <;> exact h1.warmD hW
theorem NWOK_same {u U : State} (hv : u.vm = U.vm) (h : NWOK u) : NWOK U := by
  have hva : u.vm.Alike U.vm := by rw [hv]; exact Vm.Alike.refl _
  refine ⟨fun w hw hn => ?_, h.2.1.moved hva, AOA_moved hva h.2.2.1, va_Nw.same rfl hv h.2.2.2.1, fun w hw => va_Nw.same (nyD_on w hw) hv (h.2.2.2.2 w hw)⟩
  have h1 := h.1 w hw hn
  cases w <;> first | exact h1.same rfl hv | cases hn
/-- a method's start: the memory lies in the heap, its arguments are these -/
def MPC (X : MExt) (D : va_G) (cs : Nat → ClassId) (xa : Int → Option Nat) (ad : Nat → Nat) (M : Mem) (as : List MV) (sz : Nat) : Array Value → State → Prop := va_Pc (as.map (mrv ad xa)) (fun U => U.heap.size = sz ∧ va_P D vwCl (WS cs ad xa M) U.heap ∧ va_K D vwCl (tysOf cs) U ∧ va_D (fun _ => True) (WS cs ad xa M) ∧ NWOK U ∧ TZOK (va_A (WS cs ad xa M) sz) U U.heap ∧ EXTOK X xa (va_A (WS cs ad xa M) sz) U U.heap)
/-- what the mini machine alone says of a method's end -/
def PURE (M : Mem) (v : MV) (M' : Mem) : Prop := MOK M' ∧ (v.1 ≠ 4 → VOK (nx M') v) ∧ M.1.length ≤ M'.1.length
/-- its end: it has handed back v, the memory is M' -/
def MQC (D : va_G) (cs : Nat → ClassId) (xa : Int → Option Nat) (ad : Nat → Nat) (M : Mem) (v : MV) (M' : Mem) (sz : Nat) : Array Value → State → Outcome → State → Prop := fun _ st oc t => (∃ ad' : Nat → Nat, (∀ a, a < M.1.length → ad' a = ad a) ∧ oc = .returned (if v.1 = 3 then none else some (mrv ad' xa v)) ∧ va_P D vwCl (WS cs ad' xa M') t.heap ∧ va_D (va_A (WS cs ad xa M) sz) (WS cs ad' xa M') ∧ PURE M v M') ∧ va_F (va_A (WS cs ad xa M) sz) st t
/-- .. or it has thrown -/
def XQC (D : va_G) (cs : Nat → ClassId) (xa : Int → Option Nat) (ad : Nat → Nat) (M : Mem) (v : MV) (M' : Mem) (sz : Nat) : String → State → State → Prop := fun E st t => E = nseN ∧ (∃ ad' : Nat → Nat, (∀ a, a < M.1.length → ad' a = ad a) ∧ va_P D vwCl (WS cs ad' xa M') t.heap ∧ va_D (va_A (WS cs ad xa M) sz) (WS cs ad' xa M') ∧ PURE M v M') ∧ va_F (va_A (WS cs ad xa M) sz) st t
def mroom (d mc ms : Nat) : Room := { frames := d + 8, cells := mc, slots := ms, locals := 64 * d + 512 }
def codeW (j : Nat) : Cond := .code (mth j).1 (mth j).2.1 (mth j).2.2.1 (mth j).2.2.2.1
/-- the contract of method j for one run of it -/
def CON (l : Launch) (X : MExt) (D : va_G) (cs : Nat → ClassId) (xa : Int → Option Nat) (d j : Nat) (as : List MV) (M : Mem) (v : MV) (M' : Mem) : Prop := ∀ (ad : Nat → Nat) (sz : Nat), Met l (mth j).1 (codeW j :: GW) (mroom d (M'.2.2.1 - M.2.2.1) (M'.2.2.2 - M.2.2.2)) (MPC X D cs xa ad M as sz) (MQC D cs xa ad M v M' sz) (M'.2.2.1 - M.2.2.1) (M'.2.2.2 - M.2.2.2) (va_A (WS cs ad xa M) sz)
/-- .. of one that throws -/
def CONX (l : Launch) (X : MExt) (D : va_G) (cs : Nat → ClassId) (xa : Int → Option Nat) (d j : Nat) (as : List MV) (M : Mem) (v : MV) (M' : Mem) : Prop := ∀ (ad : Nat → Nat) (sz : Nat), vx_Met l (mth j).1 (codeW j :: GW) (mroom d (M'.2.2.1 - M.2.2.1) (M'.2.2.2 - M.2.2.2)) (MPC X D cs xa ad M as sz) (fun _ _ _ _ => False) (XQC D cs xa ad M v M' sz) (M'.2.2.1 - M.2.2.1) (M'.2.2.2 - M.2.2.2) (va_A (WS cs ad xa M) sz)
theorem MPC_blind {X : MExt} {D : va_G} {cs : Nat → ClassId} {xa : Int → Option Nat} {ad : Nat → Nat} {M : Mem} {as : List MV} {sz : Nat} : FrameBlind (MPC X D cs xa ad M as sz) := by
  intro a U g mk ⟨q0, q1, q2, q3, q4, q5, q7, q6⟩
  refine ⟨q0, q1, q2, va_K.moved (u := U) (U := U.calling g mk a) (Vm.Alike.refl U.vm) q3, q4, NWOK_same (u := U) (U := U.calling g mk a) rfl q5, ⟨vx_Zq.moved (u := U) (U := U.calling g mk a) (Vm.Alike.refl U.vm) q7.1, vx_Zq.moved (u := U) (U := U.calling g mk a) (Vm.Alike.refl U.vm) q7.2.1, fun q hq => by obtain ⟨a, e⟩ := q7.2.2 q hq; exact ⟨a, e.same rfl⟩⟩, ?_⟩
  obtain ⟨h1, h2, h3, ⟨z1, z2, z3, z4⟩, h5, h6⟩ := q6
  have al : U.vm.Alike (U.calling g mk a).vm := Vm.Alike.refl U.vm
  refine ⟨fun x hx hk => ?_, fun x hx hk => ?_, fun x hx hk => ?_, ⟨z1.moved al, z2.moved al, z3.moved al, z4.moved al⟩, fun own q hq hk => ?_, h6⟩
  · obtain ⟨t, e1, e2⟩ := h1 x hx hk; exact ⟨t, e1, e2.moved al⟩
  · obtain ⟨t, e1, e2⟩ := h2 x hx hk; exact ⟨t, e1, e2.moved al⟩
  · obtain ⟨a, b, e1, e2, e3, e4, e5⟩ := h3 x hx hk
    exact ⟨a, b, e1, e2, e3.moved al, e4.moved al, e5.moved al⟩
  · obtain ⟨a, e1, e2⟩ := h5 own q hq hk
    exact ⟨a, e1, e2.same rfl⟩
section CALLS
variable {p : Program} {l : Launch} {e : Env} {R : Room} {s : State} {m : MethodId} {args : Array Value} {below : List Frame} {meth : Method} {c : Code} {Q : State → Prop} {nL : Nat} {D : va_G} {cs : Nat → ClassId} {xa : Int → Option Nat} {A : Nat → Prop} {c0 s0 : Nat} {ad : Nat → Nat} {M : Mem} {pc : Nat} {ls st : List MV} {cc : ByteArray} {X : MExt} {H : Heap} {locs : List Loc}
theorem WS_free (hD : va_D A (WS cs ad xa M)) (hS : va_S A s.heap H locs) (hA : ∀ q, s.heap.size ≤ q → A q) : ∀ q, va_A (WS cs ad xa M) H.size q → A q := by
  intro q h
  rcases h with ⟨k, x, h⟩ | h
  · exact hD.2 k _ h
  · exact hA q (Nat.le_trans hS.1 h)
/-- what a callee's start asks for, at a call -/
theorem MPC_at (hP : va_P D vwCl (WS cs ad xa M) H) (hD : va_D A (WS cs ad xa M)) (hS : va_S A s.heap H locs) (hA : ∀ q, s.heap.size ≤ q → A q) (hK : va_K D vwCl (tysOf cs) s) (hNW : NWOK s) (hZ : TZOK A s s.heap) (hE : EXTOK X xa A s s.heap) {as : List MV} (U : State) (hU : U.heap = H) (hW : s.WarmedH U.vm) : MPC X D cs xa ad M as H.size (as.map (mrv ad xa)).toArray U :=
  ⟨rfl, by rw [hU], by rw [hU]; exact hP, va_K.moved hW.alike hK, hD.weaken (fun _ _ _ _ => trivial), NWOK_warm hW hNW, TZOK_move hZ hS (WS_free hD hS hA) hW hU, EXTOK_move hE hS (WS_free hD hS hA) hW hU⟩
/-- behind a call -/
theorem run_go {v : MV} {M' : Mem} {arr : Array Slot} {st0 rest : List Value} {a : Array Value} {cells slots mc ms : Nat} (hr : va_Run p l e R s m args below meth c H locs cells slots mc ms (F0 m pc arr st0) rest (MQC D cs xa ad M v M' H.size a) (va_A (WS cs ad xa M) H.size)) (hD : va_D A (WS cs ad xa M)) (hS : va_S A s.heap H locs) (hA : ∀ q, s.heap.size ≤ q → A q)
    (kk : ∀ (ad' : Nat → Nat) (H1 : Heap) (locs1 : List Loc), (∀ a, a < M.1.length → ad' a = ad a) → va_P D vwCl (WS cs ad' xa M') H1 → va_D A (WS cs ad' xa M') → va_S A s.heap H1 locs1 → PURE M v M' → W p l e R s m args below meth c H1 locs1 (cells + mc) (slots + ms) Q (F0 m (pc + 3) arr ((if v.1 = 3 then none else some (mrv ad' xa v)).toList ++ rest))) : W p l e R s m args below meth c H locs cells slots Q (F0 m pc arr st0) := by
  intro T hT Xs
  have hfr := WS_free hD hS hA
  obtain ⟨w, st₀, t, T', L, h0, X', hL, e1, e2, ⟨⟨ad', ha, ho, hp, hd, hpu⟩, hz, hk⟩, stp⟩ := hr T hT Xs
  have hw : w = (if v.1 = 3 then none else some (mrv ad' xa v)) := by injection ho
  rw [h0] at hz hk
  obtain ⟨t2, a1, b1⟩ := kk ad' T'.heap (locs ++ L) ha (by rw [e1]; exact hp) (hd.weaken (fun _ q _ h => hfr _ h))
    ⟨Nat.le_trans hS.1 (by rw [e1]; exact hz), fun q h1 h2 => by rw [e1, hk q (Nat.lt_of_lt_of_le h1 hS.1) (fun z => h2 (hfr q z))]; exact hS.2.1 q h1 h2, fun q hq => by
      rcases List.mem_append.mp hq with h | h
      · exact hS.2.2 q h
      · exact hfr _ (hL q h)⟩ hpu T' rfl X'
  rw [hw] at stp
  exact ⟨t2, stp t2 a1, b1⟩
end CALLS
