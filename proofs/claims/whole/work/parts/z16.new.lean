/-! Part 16: new objects and arrays, Object's constructor, System.arraycopy, a text's fields. -/
def mup (ad : Nat → Nat) (n q : Nat) : Nat → Nat := fun a => if a = n then q else ad a
theorem mup_lt {ad : Nat → Nat} {n q a : Nat} (h : a < n) : mup ad n q a = ad a := by unfold mup; rw [if_neg (by omega)]
theorem WS_app {cs : Nat → ClassId} {ad ad' : Nat → Nat} {xa : Int → Option Nat} {M M' : Mem} {L : List (Nat × Nat)} (hM : MOK M) (h1 : M'.1 = M.1 ++ L) (h2 : ∀ a, a < M.1.length → M'.2.1 a = M.2.1 a) (h3 : ∀ a, a < M.1.length → ad' a = ad a) :
    WS cs ad' xa M' = WS cs ad xa M ++ (List.range L.length).map (fun i => (ad' (M.1.length + i), ent1 cs ad' xa (L.getD i (0, 0)) (M'.2.1 (M.1.length + i)))) := by
  rw [← WS_eq hM h3]
  apply List.ext_getElem?
  intro b
  by_cases hb : b < M.1.length
  · have hb' : M.1[b]? = some M.1[b] := List.getElem?_eq_getElem hb
    rw [List.getElem?_append_left (by rw [WS_len]; exact hb), WS_get hb', WS_get (M := M') (q := M.1[b]) (by rw [h1, List.getElem?_append_left hb]; exact hb'), h2 b hb]
  · rw [List.getElem?_append_right (by rw [WS_len]; omega), WS_len]
    by_cases hb2 : b - M.1.length < L.length
    · have hb' : L[b - M.1.length]? = some L[b - M.1.length] := List.getElem?_eq_getElem hb2
      rw [WS_get (M := M') (q := L[b - M.1.length]) (by rw [h1, List.getElem?_append_right (by omega)]; exact hb'), rng_get _ hb2]
      have e : M.1.length + (b - M.1.length) = b := by omega
      rw [e, List.getD_eq_getElem?_getD, hb']
      rfl
    · rw [List.getElem?_eq_none (by rw [WS_len, h1, List.length_append]; omega), List.getElem?_eq_none (by simp; omega)]
theorem WS_grow {cs : Nat → ClassId} {ad : Nat → Nat} {xa : Int → Option Nat} {M : Mem} {k n q : Nat} {d : Nat → Int} (hM : MOK M) :
    WS cs (mup ad M.1.length q) xa (growF M k n d) = WS cs ad xa M ++ [(q, ent1 cs (mup ad M.1.length q) xa (k, n) d)] := by
  rw [WS_app (M := M) (M' := growF M k n d) (L := [(k, n)]) hM rfl (fun a ha => by funext j; show (if a = M.1.length then _ else _) = _; rw [if_neg (by omega)]) (fun a ha => mup_lt ha)]
  have e1 : mup ad M.1.length q (M.1.length + 0) = q := if_pos (Nat.add_zero _)
  have e2 : (growF M k n d).2.1 (M.1.length + 0) = d := by funext j; exact if_pos (Nat.add_zero _)
  congr 1
  show [(mup ad M.1.length q (M.1.length + 0), ent1 cs (mup ad M.1.length q) xa (k, n) ((growF M k n d).2.1 (M.1.length + 0)))] = _
  rw [e1, e2]
theorem st_up {xa : Int → Option Nat} {ad ad' : Nat → Nat} {n : Nat} : ∀ {st : List MV}, (∀ v ∈ st, VOK n v ∧ v.1 < 3) → (∀ a, a < n → ad' a = ad a) → st.map (mrv ad' xa) = st.map (mrv ad xa) := by
  intro st h1 h2
  apply List.map_congr_left
  intro v hv
  exact mrv_eq (h1 v hv).1 (h1 v hv).2 h2
theorem LREL_up {nL : Nat} {xa : Int → Option Nat} {ad ad' : Nat → Nat} {n : Nat} {ls : List MV} {arr : Array Slot} (h : LREL nL ad xa ls arr) (h1 : ∀ v ∈ ls, VOK n v) (h2 : ∀ a, a < n → ad' a = ad a) : LREL nL ad' xa ls arr := by
  refine ⟨h.1, h.2.1, fun i v hv h3 => ?_⟩
  rw [mrv_eq (h1 v (List.mem_of_getElem? hv)) h3 h2]
  exact h.2.2 i v hv h3
theorem tys_cls {D : va_G} {cs : Nat → ClassId} {s : State} {cA : ClassId} {ty : FieldType} {k : Nat} (hK : va_K D vwCl (tysOf cs) s) (hk : (tysOf cs)[k]? = some (cs k, ty)) (hty : ∀ C, ty ≠ .object C) (hK2 : va_K D vwCl (tysOf cs ++ [(cA, ty)]) s) : cA = cs k := by
  have a := (hK.2 k _ hk).2
  have b := (hK2.2 6 (cA, ty) rfl).2
  have e : ∀ (c : ClassId), va_RA s c ty → s.vm.findClass ("[" ++ ty.toString) = some c := by
    intro c h
    unfold va_RA at h
    cases ty <;> first | exact h | exact absurd rfl (hty _)
  exact Option.some.inj ((e _ b).symm.trans (e _ a))
section OPN
variable {p : Program} {l : Launch} {e : Env} {R : Room} {s : State} {m : MethodId} {args : Array Value} {below : List Frame} {meth : Method} {c : Code} {Q : State → Prop} {nL : Nat} {D : va_G} {cs : Nat → ClassId} {xa : Int → Option Nat} {A : Nat → Prop} {c0 s0 : Nat} {ad : Nat → Nat} {M : Mem} {pc : Nat} {ls st : List MV} {cc : ByteArray} {X : MExt}
theorem go_newarray (hx : p.tables.exec = Jvm.exec) (hb : c.code = cc) (hK : va_K D vwCl (tysOf cs) s) (hA : ∀ q, s.heap.size ≤ q → A q) {t : ArrayType} (k4 : Nat) (hk4 : (t = .int ∧ k4 = 0) ∨ (t = .long ∧ k4 = 1) ∨ (t = .boolean ∧ k4 = 2) ∨ (t = .byte ∧ k4 = 3)) (harr : (Cond.arrayClass (newarray.typeOf t)).before args s = true) {n : Int} (hn0 : 0 ≤ n) (hn1 : n ≤ 20000)
    (hM : MOK M) (hls : ∀ v ∈ ls, VOK (nx M) v) (hst : ∀ v ∈ st, VOK (nx M) v ∧ v.1 < 3) (hc0 : c0 ≤ M.2.2.1) (hs0 : s0 ≤ M.2.2.2) (hRc : M.2.2.1 + 1 - c0 ≤ R.cells) (hRs : M.2.2.2 + n.toNat - s0 ≤ R.slots) (hdg : decode cc pc = .ok (.newarray t, 2))
    (k : ∀ q, GO p l e R s m args below meth c Q nL D cs xa A c0 s0 (mup ad M.1.length q) (growF M (100 + k4) n.toNat (fun _ => 0)) (pc + 2) ls ((2, nx M) :: st)) : GO p l e R s m args below meth c Q nL D cs xa A c0 s0 ad M pc ls ((0, n) :: st) := by
  intro H locs arr hP hD hS hL
  have hi : in32 n := by unfold in32; omega
  have hnn : ¬ Int32.ofInt n < 0 := fun z => by have := (i3_lt hi in32_0).mp z; omega
  have hcl : (Int32.ofInt n).toNatClampNeg = n.toNat := i3_cl hi hn0
  have fin : ∀ (q : Nat) (H1 : Heap), va_P D vwCl (WS cs ad xa M ++ [(q, ent1 cs (mup ad M.1.length q) xa (100 + k4, n.toNat) (fun _ => 0))]) H1 → va_D A (WS cs ad xa M ++ [(q, ent1 cs (mup ad M.1.length q) xa (100 + k4, n.toNat) (fun _ => 0))]) → va_S A s.heap H1 locs →
      W p l e R s m args below meth c H1 locs (M.2.2.1 - c0 + 1) (M.2.2.2 - s0 + n.toNat) Q (F0 m (pc + 2) arr (.ref q :: st.map (mrv ad xa))) := by
    intro q H1 hP1 hD1 hS1
    rw [← WS_grow hM] at hP1 hD1
    have k2 := k q H1 locs arr hP1 hD1 hS1 (LREL_up hL hls (fun a ha => mup_lt ha))
    rw [List.map_cons, mrv2, mrf_pos (by unfold nx; omega), st_up hst (fun a ha => mup_lt ha)] at k2
    have e1 : mup ad M.1.length q (nx M).toNat = q := by unfold mup nx; rw [if_pos (by omega)]
    rw [e1] at k2
    rw [show M.2.2.1 - c0 + 1 = (growF M (100 + k4) n.toNat (fun _ => 0)).2.2.1 - c0 by show _ = M.2.2.1 + 1 - c0; omega, show M.2.2.2 - s0 + n.toNat = (growF M (100 + k4) n.toNat (fun _ => 0)).2.2.2 - s0 by show _ = M.2.2.2 + n.toNat - s0; omega]
    exact k2
  rw [List.map_cons, mrv0]
  rcases hk4 with ⟨rfl, rfl⟩ | ⟨rfl, rfl⟩ | ⟨rfl, rfl⟩ | ⟨rfl, rfl⟩
  · refine va_newa (atype := .int) (ty := .int) (a0 := (n.toNat, .inl (fun _ => 0))) hx hb harr rfl hK hP hD hS hA (fun cA => rfl) hnn hcl (by show n.toNat * 4 ≤ _; omega) (by omega) (by omega) hdg fun q cA H1 hK1 hP1 hD1 hS1 => ?_
    have e := tys_cls (k := 0) hK rfl (fun C z => by cases z) hK1
    subst e
    refine fin q H1 ?_ ?_ hS1 <;> rw [ent_int 0 rfl (by omega)]
    · exact hP1
    · exact hD1
  · refine va_newa (atype := .long) (ty := .long) (a0 := (n.toNat, .inr (.inl (fun _ => 0)))) hx hb harr rfl hK hP hD hS hA (fun cA => rfl) hnn hcl (by show n.toNat * 8 ≤ _; omega) (by omega) (by omega) hdg fun q cA H1 hK1 hP1 hD1 hS1 => ?_
    have e := tys_cls (k := 1) hK rfl (fun C z => by cases z) hK1
    subst e
    refine fin q H1 ?_ ?_ hS1 <;> rw [ent_long rfl]
    · exact hP1
    · exact hD1
  · refine va_newa (atype := .boolean) (ty := .boolean) (a0 := (n.toNat, .inl (fun _ => 0))) hx hb harr rfl hK hP hD hS hA (fun cA => rfl) hnn hcl (by show n.toNat * 1 ≤ _; omega) (by omega) (by omega) hdg fun q cA H1 hK1 hP1 hD1 hS1 => ?_
    have e := tys_cls (k := 2) hK rfl (fun C z => by cases z) hK1
    subst e
    refine fin q H1 ?_ ?_ hS1 <;> rw [ent_int 2 rfl (by omega)]
    · exact hP1
    · exact hD1
  · refine va_newa (atype := .byte) (ty := .byte) (a0 := (n.toNat, .inl (fun _ => 0))) hx hb harr rfl hK hP hD hS hA (fun cA => rfl) hnn hcl (by show n.toNat * 1 ≤ _; omega) (by omega) (by omega) hdg fun q cA H1 hK1 hP1 hD1 hS1 => ?_
    have e := tys_cls (k := 3) hK rfl (fun C z => by cases z) hK1
    subst e
    refine fin q H1 ?_ ?_ hS1 <;> rw [ent_int 3 rfl (by omega)]
    · exact hP1
    · exact hD1
theorem go_new (hx : p.tables.exec = Jvm.exec) (hb : c.code = cc) (hts : ∀ w ∈ GW, w.before args s = true) {own : String} (hown : s.vm.findClass own = some m.cls) (hK : va_K D vwCl (tysOf cs) s) (hA : ∀ q, s.heap.size ≤ q → A q) {ci ix : Nat} (hci : ci < 13) (hlink : (Cond.classLink own ix (vwCl.getD ci ("", fun _ => ("", "", "", false), 0)).1).before args s = true) (hins : (Cond.instantiable (vwCl.getD ci ("", fun _ => ("", "", "", false), 0)).1 (clsT.getD ci []).length).before args s = true) (hini : (Cond.initialized (vwCl.getD ci ("", fun _ => ("", "", "", false), 0)).1).before args s = true)
    (hM : MOK M) (hls : ∀ v ∈ ls, VOK (nx M) v) (hst : ∀ v ∈ st, VOK (nx M) v ∧ v.1 < 3) (hc0 : c0 ≤ M.2.2.1) (hs0 : s0 ≤ M.2.2.2) (hRc : M.2.2.1 + 1 - c0 ≤ R.cells) (hRs : M.2.2.2 + (clsT.getD ci []).length - s0 ≤ R.slots) (hdg : decode cc pc = .ok (.new ix, 3))
    (k : ∀ q, GO p l e R s m args below meth c Q nL D cs xa A c0 s0 (mup ad M.1.length q) (growF M ci (clsT.getD ci []).length (fDef (clsT.getD ci []))) (pc + 3) ls ((2, nx M) :: st)) : GO p l e R s m args below meth c Q nL D cs xa A c0 s0 ad M pc ls st := by
  intro H locs arr hP hD hS hL
  obtain ⟨C, T, N, ty, e1, e2, e3, e4, e5, e6, e7⟩ := cls_ok ci hci
  have eg : vwCl.getD ci ("", fun _ => ("", "", "", false), 0) = (C, T, N) := by rw [List.getD_eq_getElem?_getD, e1]; rfl
  rw [eg] at hlink hins hini
  rw [← e6] at hins hRs
  refine va_new (N := N) (ci := ci) (fs := (List.range N).map (fun j => mrv ad xa (fTag ci j, fDef (clsT.getD ci []) j))) hx hb hts e2 ty e3 hown hlink hins hini hK hP hD hS hA e1 (fun j hj => ?_) (by omega) (by omega) hdg fun q H1 hP1 hD1 hS1 => ?_
  · have e8 := e7 j hj
    unfold vp_V
    rw [List.getD_eq_getElem?_getD, rng_get _ hj]
    show defaultValue (ty j) = mrv ad xa (fTag ci j, fDef (clsT.getD ci []) j)
    unfold fTag fDef
    rw [← e8]
    cases hty : ty j <;> simp only [codeOf] <;> first | rfl | (rw [hty] at e8; exact absurd e8 (by
      have h9 : ∀ l ∈ clsT, ∀ t ∈ l, t ≠ 9 := by decide +kernel
      intro z
      simp only [codeOf] at z
      have hm : (clsT.getD ci []).getD j 0 = 9 := z.symm
      rw [List.getD_eq_getElem?_getD, List.getElem?_eq_getElem (by rw [← e6]; exact hj)] at hm
      have hl : clsT.getD ci [] ∈ clsT := by
        rw [List.getD_eq_getElem?_getD]
        cases hk : clsT[ci]? with
        | none => rw [List.getD_eq_getElem?_getD, hk] at e6; simp at e6; omega
        | some l => exact List.mem_of_getElem? hk
      exact h9 _ hl _ (List.getElem_mem _) hm))
  · have hent : ent1 cs (mup ad M.1.length q) xa (ci, N) (fDef (clsT.getD ci [])) = .inr (ci, (List.range N).map (fun j => mrv ad xa (fTag ci j, fDef (clsT.getD ci []) j))) := by
      rw [ent_obj (by show ci < 100; omega)]
      congr 2
      apply List.map_congr_left
      intro j hj
      show mrv _ xa (fTag ci j, _) = mrv _ xa (fTag ci j, _)
      refine mrv_eq (n := 0) ⟨?_, ?_, ?_, ?_⟩ (fTag_lt _ _) (fun a ha => absurd ha (by omega))
      · show fTag ci j ≤ 3; have := fTag_lt ci j; omega
      · intro z; show in32 _; unfold fDef; split <;> (unfold in32; omega)
      · intro z; show in64 _; unfold fDef; split <;> (unfold in64; omega)
      · intro z
        show fDef _ j < _
        have z : fTag ci j = 2 := z
        unfold fTag at z
        have z2 : (clsT.getD ci []).getD j 0 = 2 := by
          by_cases h3 : (clsT.getD ci []).getD j 0 = 3
          · rw [if_pos h3] at z; omega
          · rw [if_neg h3] at z; exact z
        unfold fDef; rw [if_pos z2]; decide
    rw [← hent] at hP1 hD1
    rw [← WS_grow hM] at hP1 hD1
    rw [← e6] at k
    have k2 := k q H1 locs arr hP1 hD1 hS1 (LREL_up hL hls (fun a ha => mup_lt ha))
    rw [List.map_cons, mrv2, mrf_pos (by unfold nx; omega), st_up hst (fun a ha => mup_lt ha)] at k2
    have e9 : mup ad M.1.length q (nx M).toNat = q := by unfold mup nx; rw [if_pos (by omega)]
    rw [e9] at k2
    rw [show M.2.2.1 - c0 + 1 = (growF M ci N (fDef (clsT.getD ci []))).2.2.1 - c0 by show _ = M.2.2.1 + 1 - c0; omega, show M.2.2.2 - s0 + N = (growF M ci N (fDef (clsT.getD ci []))).2.2.2 - s0 by show _ = M.2.2.2 + N - s0; omega]
    exact k2
theorem go_anew (hx : p.tables.exec = Jvm.exec) (hb : c.code = cc) {own : String} (hown : s.vm.findClass own = some m.cls) (hK : va_K D vwCl (tysOf cs) s) (hA : ∀ q, s.heap.size ≤ q → A q) {ix : Nat} (hlink : (Cond.classLink own ix "VillageShow$Rules").before args s = true) (hover : va_AO "VillageShow$Rules" s) {n : Int} (hn0 : 0 ≤ n) (hn1 : n ≤ 20000)
    (hM : MOK M) (hls : ∀ v ∈ ls, VOK (nx M) v) (hst : ∀ v ∈ st, VOK (nx M) v ∧ v.1 < 3) (hc0 : c0 ≤ M.2.2.1) (hs0 : s0 ≤ M.2.2.2) (hRc : M.2.2.1 + 1 - c0 ≤ R.cells) (hRs : M.2.2.2 + n.toNat - s0 ≤ R.slots) (hdg : decode cc pc = .ok (.anewarray ix, 3))
    (k : ∀ q, GO p l e R s m args below meth c Q nL D cs xa A c0 s0 (mup ad M.1.length q) (growF M 104 n.toNat (fun _ => -1)) (pc + 3) ls ((2, nx M) :: st)) : GO p l e R s m args below meth c Q nL D cs xa A c0 s0 ad M pc ls ((0, n) :: st) := by
  intro H locs arr hP hD hS hL
  have hi : in32 n := by unfold in32; omega
  have hnn : ¬ Int32.ofInt n < 0 := fun z => by have := (i3_lt hi in32_0).mp z; omega
  have hcl : (Int32.ofInt n).toNatClampNeg = n.toNat := i3_cl hi hn0
  rw [List.map_cons, mrv0]
  refine va_newq hx hb hown hlink hover hK hP hD hS hA hnn hcl (by omega) (by omega) (by omega) hdg fun q cA H1 hK1 hP1 hD1 hS1 => ?_
  have e : cA = cs 4 := by
    have a := (hK.2 4 _ rfl).2
    have b := (hK1.2 6 (cA, .object "VillageShow$Rules") rfl).2
    obtain ⟨_, _, _, _, _, h4⟩ := a
    obtain ⟨_, _, _, _, _, g4⟩ := b
    exact Option.some.inj (g4.symm.trans h4)
  subst e
  have hent : ent1 cs (mup ad M.1.length q) xa (104, n.toNat) (fun _ => -1) = .inl (cs 4, n.toNat, .inr (.inr (.inr (.inr (fun _ => none))))) := by
    rw [ent_ref 4 rfl (by omega)]
    congr 7
    funext i
    show (if i < n.toNat then mrf _ xa (-1) else none) = none
    split <;> rfl
  rw [← hent, ← WS_grow hM] at hP1 hD1
  have k2 := k q H1 locs arr hP1 hD1 hS1 (LREL_up hL hls (fun a ha => mup_lt ha))
  rw [List.map_cons, mrv2, mrf_pos (by unfold nx; omega), st_up hst (fun a ha => mup_lt ha)] at k2
  have e9 : mup ad M.1.length q (nx M).toNat = q := by unfold mup nx; rw [if_pos (by omega)]
  rw [e9] at k2
  rw [show M.2.2.1 - c0 + 1 = (growF M 104 n.toNat (fun _ => -1)).2.2.1 - c0 by show _ = M.2.2.1 + 1 - c0; omega, show M.2.2.2 - s0 + n.toNat = (growF M 104 n.toNat (fun _ => -1)).2.2.2 - s0 by show _ = M.2.2.2 + n.toNat - s0; omega]
  exact k2
theorem wt_cat {ad : Nat → Nat} {xa : Int → Option Nat} : ∀ {st : List MV}, ((st.map (mrv ad xa)).map fun v => v.category).sum ≤ wt st
  | [] => Nat.le_refl _
  | v :: st => by
    have ih := wt_cat (ad := ad) (xa := xa) (st := st)
    simp only [List.map_cons, List.sum_cons, wt]
    by_cases h1 : v.1 = 1
    · rw [if_pos h1]
      have : (mrv ad xa v).category ≤ 2 := by rcases lv_cat (mrv ad xa v) with z | z <;> omega
      omega
    · rw [if_neg h1, mrv_cat h1]; omega
theorem go_objInit (hx : p.tables.exec = Jvm.exec) (hb : c.code = cc) (hml : c.maxLocals = nL) {own : String} (hown : s.vm.findClass own = some m.cls) {ix : Nat} (hlink : (Cond.methodLink own ix Lib.objectInit).before args s = true) (hinst : (Cond.instanceMethod Lib.objectInit).before args s = true) (hcode : (Cond.code Lib.objectInit ⟨#[0xb1]⟩ 1 none).before args s = true) {x : Int} (h0 : 0 ≤ x) (hfr : 1 ≤ R.frames) (hlo : wt st + 12 ≤ R.locals) (hdg : decode cc pc = .ok (.invokespecial ix, 3)) (k : GO p l e R s m args below meth c Q nL D cs xa A c0 s0 ad M (pc + 3) ls st) : GO p l e R s m args below meth c Q nL D cs xa A c0 s0 ad M pc ls ((2, x) :: st) := by
  intro H locs arr hP hD hS hL
  rw [List.map_cons, mrv2, mrf_pos h0]
  refine W.objInit hx hb hown hlink hinst hcode rfl (hL.1.1.trans hml.symm) rfl hdg hfr ?_ (k H locs arr hP hD hS hL)
  have := wt_cat (ad := ad) (xa := xa) (st := st)
  show 2 * 0 + _ + 12 ≤ _
  omega
theorem acopy_some {x sp d dp n : Int} {M' : Mem} (h : acopy M x sp d dp n = some M') : (0 ≤ x ∧ 0 ≤ d ∧ (lay? M x).1 = 100 ∧ (lay? M d).1 = 100 ∧ 0 ≤ sp ∧ 0 ≤ dp ∧ 0 ≤ n ∧ sp + n ≤ (lay? M x).2 ∧ dp + n ≤ (lay? M d).2) ∧ M' = (M.1, (fun a j => if a = d.toNat ∧ dp.toNat ≤ j ∧ j < dp.toNat + n.toNat then M.2.1 x.toNat (sp.toNat + (j - dp.toNat)) else M.2.1 a j), M.2.2.1, M.2.2.2) := by
  unfold acopy at h
  by_cases hc : 0 ≤ x ∧ 0 ≤ d ∧ (lay? M x).1 = 100 ∧ (lay? M d).1 = 100 ∧ 0 ≤ sp ∧ 0 ≤ dp ∧ 0 ≤ n ∧ sp + n ≤ (lay? M x).2 ∧ dp + n ≤ (lay? M d).2
  · rw [if_pos hc] at h; exact ⟨hc, (Option.some.inj h).symm⟩
  · rw [if_neg hc] at h; cases h
theorem go_acopy (hx : p.tables.exec = Jvm.exec) (hb : c.code = cc) (hml : c.maxLocals = nL) (hK : va_K D vwCl (tysOf cs) s) {own : String} (hown : s.vm.findClass own = some m.cls) {ix : Nat} (hlink : (Cond.methodLink own ix arraycopyName).before args s = true) (hnat : (Cond.native arraycopyName).before args s = true) (hstat : (Cond.static arraycopyName).before args s = true) (hini : (Cond.initialized "java/lang/System").before args s = true)
    {x sp d dp n : Int} {M' : Mem} (h1 : in32 sp) (h2 : in32 dp) (h3 : in32 n) (h : acopy M x sp d dp n = some M') (hfr : 1 ≤ R.frames) (hlo : wt st + 200 ≤ R.locals) (hdg : decode cc pc = .ok (.invokestatic ix, 3)) (k : GO p l e R s m args below meth c Q nL D cs xa A c0 s0 ad M' (pc + 3) ls st) : GO p l e R s m args below meth c Q nL D cs xa A c0 s0 ad M pc ls ((0, n) :: (0, dp) :: (2, d) :: (0, sp) :: (2, x) :: st) := by
  intro H locs arr hP hD hS hL
  obtain ⟨⟨g1, g2, g3, g4, g5, g6, g7, g8, g9⟩, rfl⟩ := acopy_some h
  obtain ⟨-, hq⟩ := lay_some (M := M) (x := x) (by omega)
  obtain ⟨-, hq2⟩ := lay_some (M := M) (x := d) (by omega)
  have he := WS_get (cs := cs) (ad := ad) (xa := xa) hq
  have he2 := WS_get (cs := cs) (ad := ad) (xa := xa) hq2
  rw [ent_int 0 g3 (Or.inl rfl)] at he
  rw [ent_int 0 g4 (Or.inl rfl)] at he2
  rw [List.map_cons, List.map_cons, List.map_cons, List.map_cons, List.map_cons, mrv0, mrv0, mrv2, mrv0, mrv2, mrf_pos g1, mrf_pos g2]
  have nn : ∀ {z : Int}, in32 z → 0 ≤ z → ¬ Int32.ofInt z < 0 := fun hz h0 q => by have := (i3_lt hz in32_0).mp q; omega
  refine va_copyi (ty := .int) hx hb (hml.trans hL.1.1.symm) hown hlink hnat hstat hini hK hP hD hS x.toNat d.toNat 0 0 he he2 rfl rfl rfl (nn h1 g5) (nn h2 g6) (nn h3 g7) (by rw [i3_cl h1 g5, i3_cl h3 g7]; omega) (by rw [i3_cl h2 g6, i3_cl h3 g7]; omega) (fun _ _ => rfl) hfr ?_ hdg fun H1 locs1 hP1 hD1 hS1 => ?_
  · have := wt_cat (ad := ad) (xa := xa) (st := st)
    have h8 : nativeFrameWords "java/lang/System" "arraycopy" 5 + 11 ≤ 200 := by decide
    omega
  · rw [i3_cl h1 g5, i3_cl h2 g6, i3_cl h3 g7] at hP1 hD1
    have hws : WS cs ad xa (M.1, (fun a j => if a = d.toNat ∧ dp.toNat ≤ j ∧ j < dp.toNat + n.toNat then M.2.1 x.toNat (sp.toNat + (j - dp.toNat)) else M.2.1 a j), M.2.2.1, M.2.2.2) = (WS cs ad xa M).set d.toNat (ad d.toNat, .inl (cs 0, (lay? M d).2, .inl (va_cpy (fun i => Int32.ofInt (M.2.1 x.toNat i)) (fun i => Int32.ofInt (M.2.1 d.toNat i)) sp.toNat dp.toNat n.toNat))) := by
      have hl : d.toNat < M.1.length := (List.getElem?_eq_some_iff.mp hq2).1
      apply List.ext_getElem?
      intro b
      by_cases hb : b < M.1.length
      · have hb' : M.1[b]? = some M.1[b] := List.getElem?_eq_getElem hb
        have hg : ∀ (g : Nat → Nat → Int), (WS cs ad xa (M.1, g, M.2.2.1, M.2.2.2))[b]? = some (ad b, ent1 cs ad xa M.1[b] (g b)) := fun g => WS_get (M := (M.1, g, M.2.2.1, M.2.2.2)) hb'
        rw [hg]
        by_cases hx : b = d.toNat
        · subst hx
          rw [List.getElem?_set_self (by rw [WS_len]; exact hl)]
          rw [hq2] at hb'
          rw [← Option.some.inj hb', ent_int 0 g4 (Or.inl rfl)]
          congr 6
          funext j
          unfold va_cpy
          simp only [true_and]
          split <;> rfl
        · rw [List.getElem?_set_ne (Ne.symm hx), WS_get hb']
          simp only [hx, false_and, if_false]
      · rw [List.getElem?_eq_none (by rw [WS_len]; simpa using hb), List.getElem?_eq_none (by rw [List.length_set, WS_len]; simpa using hb)]
    rw [← hws] at hP1 hD1
    exact k H1 locs1 arr hP1 hD1 hS1 hL
theorem go_strf (hx : p.tables.exec = Jvm.exec) (hb : c.code = cc) {own : String} (hown : s.vm.findClass own = some m.cls) (hE : EXTOK X xa A s s.heap) {f ix : Nat} {x v : Int} (hf : f = 10000 ∨ f = 10001) (hv : fget f M x = some v) (hlink : (Cond.fieldLink own ix "java/lang/String" (if (f : Int) = 10000 then "value" else "coder") (if (f : Int) = 10000 then "[B" else "B")).before args s = true) (hdg : decode cc pc = .ok (.getfield ix, 3)) (k : GO p l e R s m args below meth c Q nL D cs xa A c0 s0 ad M (pc + 3) ls ((if f = 10000 then 2 else if f = 10001 then 0 else fTg f, v) :: st)) : GO p l e R s m args below meth c Q nL D cs xa A c0 s0 ad M pc ls ((2, x) :: st) := by
  intro H locs arr hP hD hS hL
  have k2 := k H locs arr hP hD hS hL
  unfold fget at hv
  rw [if_neg (by omega)] at hv
  rw [List.map_cons, mrv2]
  have hx2 : -30 < x ∧ x ≤ -10 := by
    by_cases hc : -30 < x ∧ x ≤ -10
    · exact hc
    · rw [if_neg hc, if_neg hc] at hv; split at hv <;> cases hv
  rw [if_pos hx2, if_pos hx2] at hv
  obtain ⟨a, b, e1, e2, e3, e4, e5⟩ := hE.2.2.1 x hx2.1 hx2.2
  rw [mrf_ext (by omega) e1]
  rw [List.map_cons] at k2
  rcases hf with rfl | rfl
  · rw [if_pos rfl] at hv
    have hv := Option.some.inj hv
    rw [if_pos rfl, mrv2, ← hv, mrf_ext (by omega) e2] at k2
    exact vk_getf hx hb e5 hS hown hlink (fun _ h => h) hdg k2
  · rw [if_neg (by omega)] at hv
    have hv := Option.some.inj hv
    rw [if_neg (by omega), if_pos rfl, mrv0, ← hv] at k2
    exact vk_getf hx hb e4 hS hown hlink (fun _ h => h) hdg k2
end OPN
