/-! Part 13: fields and arrays. -/
theorem lay_some {M : Mem} {x : Int} (h : (lay? M x).1 ≠ 999) : 0 ≤ x ∧ M.1[x.toNat]? = some (lay? M x) := by
  unfold lay? at h ⊢
  by_cases h0 : 0 ≤ x
  · rw [if_pos h0] at h ⊢
    cases hq : M.1[x.toNat]? with
    | none => rw [hq] at h; exact absurd rfl h
    | some q => exact ⟨h0, rfl⟩
  · rw [if_neg h0] at h; exact absurd rfl h
theorem mrf_pos {ad : Nat → Nat} {xa : Int → Option Nat} {x : Int} (h : 0 ≤ x) : va_rf (mrf ad xa x) = .ref (ad x.toNat) := by rw [mrf, if_pos h]; rfl
theorem fTg_eq {f : Nat} (h : fTy f = (clsT.getD (fCl f) []).getD (fPl f) 0) : fTg f = fTag (fCl f) (fPl f) := by
  unfold fTg fTag
  unfold fTy at h
  rw [← h]
theorem rng_get {α : Type} {n k : Nat} (g : Nat → α) (h : k < n) : ((List.range n).map g)[k]? = some (g k) := by
  rw [List.getElem?_map, List.getElem?_range h]; rfl
theorem rng_set {α : Type} {n k : Nat} (g g' : Nat → α) (h : ∀ j, j ≠ k → g' j = g j) : ((List.range n).map g).set k (g' k) = (List.range n).map g' := by
  apply List.ext_getElem?
  intro j
  by_cases hj : j < n
  · rw [rng_get g' hj]
    by_cases hk : j = k
    · subst hk
      rw [List.getElem?_set_self (by simpa using hj)]
    · rw [List.getElem?_set_ne (Ne.symm hk), rng_get g hj, h j hk]
  · rw [List.getElem?_eq_none (by simpa using hj), List.getElem?_eq_none (by simpa using hj)]
section OPH
variable {p : Program} {l : Launch} {e : Env} {R : Room} {s : State} {m : MethodId} {args : Array Value} {below : List Frame} {meth : Method} {c : Code} {Q : State → Prop} {nL : Nat} {D : va_G} {cs : Nat → ClassId} {xa : Int → Option Nat} {A : Nat → Prop} {c0 s0 : Nat} {ad : Nat → Nat} {M : Mem} {pc : Nat} {ls st : List MV} {cc : ByteArray}
theorem ent_obj {q : Nat × Nat} {row : Nat → Int} (h : q.1 < 100) : ent1 cs ad xa q row = .inr (q.1, (List.range q.2).map (fun j => mrv ad xa (fTag q.1 j, row j))) := by rw [ent1, if_pos h]
theorem ent_int {q : Nat × Nat} {row : Nat → Int} (k : Nat) (h : q.1 = 100 + k) (hk : k = 0 ∨ k = 2 ∨ k = 3) : ent1 cs ad xa q row = .inl (cs k, q.2, .inl (fun i => Int32.ofInt (row i))) := by
  rw [ent1, if_neg (by omega), if_neg (by omega), if_neg (by omega), h, Nat.add_sub_cancel_left]
theorem ent_long {q : Nat × Nat} {row : Nat → Int} (h : q.1 = 101) : ent1 cs ad xa q row = .inl (cs 1, q.2, .inr (.inl (fun i => Int64.ofInt (row i)))) := by
  rw [ent1, if_neg (by omega), if_pos h]
theorem ent_ref {q : Nat × Nat} {row : Nat → Int} (k : Nat) (h : q.1 = 100 + k) (hk : k = 4 ∨ k = 5) : ent1 cs ad xa q row = .inl (cs k, q.2, .inr (.inr (.inr (.inr (fun i => if i < q.2 then mrf ad xa (row i) else none))))) := by
  rw [ent1, if_neg (by omega), if_neg (by omega), if_pos (by omega), h, Nat.add_sub_cancel_left]
theorem go_getfield (hx : p.tables.exec = Jvm.exec) (hb : c.code = cc) (hts : ∀ w ∈ GW, w.before args s = true) {own : String} (hown : s.vm.findClass own = some m.cls) (hK : va_K D vwCl (tysOf cs) s) {f ix : Nat} {x : Int} (hM : MOK M) (hcl : (lay? M x).1 = fCl f) (hci : fCl f < 13) (hpl : fPl f < (clsT.getD (fCl f) []).length) (hty : fTy f = (clsT.getD (fCl f) []).getD (fPl f) 0)
    (hlink : (Cond.fieldLink own ix (vwCl.getD (fCl f) ("", fun _ => ("", "", "", false), 0)).1 (fldN f).2.1 (fldN f).2.2.1).before args s = true) (hdg : decode cc pc = .ok (.getfield ix, 3)) (k : GO p l e R s m args below meth c Q nL D cs xa A c0 s0 ad M (pc + 3) ls ((fTg f, get? M x (fPl f)) :: st)) : GO p l e R s m args below meth c Q nL D cs xa A c0 s0 ad M pc ls ((2, x) :: st) := by
  intro H locs arr hP hD hS hL
  obtain ⟨h0, hq⟩ := lay_some (M := M) (x := x) (by omega)
  obtain ⟨C, T, N, ty, e1, e2, e3, e4, e5, e6, e7⟩ := cls_ok (fCl f) hci
  have eg : vwCl.getD (fCl f) ("", fun _ => ("", "", "", false), 0) = (C, T, N) := by rw [List.getD_eq_getElem?_getD, e1]; rfl
  have ef : fldN f = T (fPl f) := by unfold fldN; rw [eg]
  rw [eg, ef] at hlink
  rw [List.map_cons, mrv2, mrf_pos h0]
  have he := WS_get (cs := cs) (ad := ad) (xa := xa) hq
  have hl2 : (lay? M x).2 = N := by
    rcases (hM _ _ hq).1 with ⟨_, z⟩ | ⟨z, _⟩
    · rw [z, hcl, e6]
    · omega
  rw [ent_obj (by omega), hcl] at he
  have k2 := k H locs arr hP hD hS hL
  rw [List.map_cons, fTg_eq hty] at k2
  refine va_get (ci := fCl f) hx hb hts e2 hown hK hP x.toNat he e1 (fPl f) (by rw [e6]; exact hpl) hlink (fun z hz => by rw [e5 _ (by rw [e6]; exact hpl)] at hz; exact hz) ?_ hdg k2
  rw [rng_get _ (by rw [hl2, e6]; exact hpl)]
  rfl
theorem nar_ok {n : Int} {f : Nat} {ty : FieldType} {v : Int} (hty : fTy f = (clsT.getD (fCl f) []).getD (fPl f) 0) (hc : codeOf ty = (clsT.getD (fCl f) []).getD (fPl f) 0) (h3 : fTy f = 3 → one01 v = true) : narrow ty (mrv ad xa (fTg f, v)) = mrv ad xa (fTg f, v) ∧ Jvm.fits ty (mrv ad xa (fTg f, v)) = true := by
  rw [← hty] at hc
  have hlt : f % 4 < 4 := Nat.mod_lt _ (by decide)
  unfold fTg
  unfold fTy at hc h3
  cases ty <;> simp only [codeOf] at hc
  · -- byte
    omega
  · omega
  · omega
  · omega
  · -- int
    rw [if_neg (by omega), ← hc]; exact ⟨rfl, rfl⟩
  · -- long
    rw [if_neg (by omega), ← hc]; exact ⟨rfl, rfl⟩
  · omega
  · -- boolean
    rw [if_pos hc.symm]
    have := h3 hc.symm
    unfold one01 at this
    simp only [Bool.or_eq_true, decide_eq_true_eq] at this
    rcases this with rfl | rfl <;> exact ⟨rfl, rfl⟩
  · rw [if_neg (by omega), ← hc]
    rw [mrv2]
    cases mrf ad xa v <;> exact ⟨rfl, rfl⟩
  · rw [if_neg (by omega), ← hc]
    rw [mrv2]
    cases mrf ad xa v <;> exact ⟨rfl, rfl⟩
theorem go_putfield (hx : p.tables.exec = Jvm.exec) (hb : c.code = cc) (hts : ∀ w ∈ GW, w.before args s = true) {own : String} (hown : s.vm.findClass own = some m.cls) (hK : va_K D vwCl (tysOf cs) s) {f ix : Nat} {x v : Int} (hM : MOK M) (hcl : (lay? M x).1 = fCl f) (hci : fCl f < 13) (hpl : fPl f < (clsT.getD (fCl f) []).length) (hty : fTy f = (clsT.getD (fCl f) []).getD (fPl f) 0) (h3 : fTy f = 3 → one01 v = true)
    (hfin : (fldN f).2.2.2 = false ∨ ((vwCl.getD (fCl f) ("", fun _ => ("", "", "", false), 0)).1 = own ∧ meth.name = "<init>"))
    (hlink : (Cond.fieldLink own ix (vwCl.getD (fCl f) ("", fun _ => ("", "", "", false), 0)).1 (fldN f).2.1 (fldN f).2.2.1).before args s = true) (hdg : decode cc pc = .ok (.putfield ix, 3)) (k : GO p l e R s m args below meth c Q nL D cs xa A c0 s0 ad (put M x (fPl f) v) (pc + 3) ls st) : GO p l e R s m args below meth c Q nL D cs xa A c0 s0 ad M pc ls ((fTg f, v) :: (2, x) :: st) := by
  intro H locs arr hP hD hS hL
  obtain ⟨h0, hq⟩ := lay_some (M := M) (x := x) (by omega)
  obtain ⟨C, T, N, ty, e1, e2, e3, e4, e5, e6, e7⟩ := cls_ok (fCl f) hci
  have eg : vwCl.getD (fCl f) ("", fun _ => ("", "", "", false), 0) = (C, T, N) := by rw [List.getD_eq_getElem?_getD, e1]; rfl
  have ef : fldN f = T (fPl f) := by unfold fldN; rw [eg]
  rw [eg, ef] at hlink
  rw [eg, ef] at hfin
  have hpN : fPl f < N := by rw [e6]; exact hpl
  rw [List.map_cons, List.map_cons, mrv2, mrf_pos h0]
  have he := WS_get (cs := cs) (ad := ad) (xa := xa) hq
  have hl2 : (lay? M x).2 = N := by
    rcases (hM _ _ hq).1 with ⟨_, z⟩ | ⟨z, _⟩
    · rw [z, hcl, e6]
    · omega
  rw [ent_obj (by omega), hcl] at he
  obtain ⟨n1, n2⟩ := nar_ok (n := 0) (ad := ad) (xa := xa) (v := v) hty (e7 _ hpN) h3
  have hws : (WS cs ad xa M).set x.toNat (ad x.toNat, .inr (fCl f, ((List.range (lay? M x).2).map (fun j => mrv ad xa (fTag (fCl f) j, M.2.1 x.toNat j))).set (fPl f) (mrv ad xa (fTg f, v)))) = WS cs ad xa (put M x (fPl f) v) := by
    rw [WS_put hq, ent_obj (by omega), hcl]
    congr 4
    rw [fTg_eq hty]
    have := rng_set (n := (lay? M x).2) (k := fPl f) (fun j => mrv ad xa (fTag (fCl f) j, M.2.1 x.toNat j)) (fun j => mrv ad xa (fTag (fCl f) j, if j = fPl f then v else M.2.1 x.toNat j)) (fun j hj => by rw [if_neg hj])
    rw [if_pos rfl] at this
    exact this
  have kk : ∀ (H1 : Heap) (locs1 : List Loc), va_P D vwCl ((WS cs ad xa M).set x.toNat (ad x.toNat, .inr (fCl f, ((List.range (lay? M x).2).map (fun j => mrv ad xa (fTag (fCl f) j, M.2.1 x.toNat j))).set (fPl f) (mrv ad xa (fTg f, v))))) H1 → va_D A ((WS cs ad xa M).set x.toNat (ad x.toNat, .inr (fCl f, ((List.range (lay? M x).2).map (fun j => mrv ad xa (fTag (fCl f) j, M.2.1 x.toNat j))).set (fPl f) (mrv ad xa (fTg f, v))))) → va_S A s.heap H1 locs1 → W p l e R s m args below meth c H1 locs1 (M.2.2.1 - c0) (M.2.2.2 - s0) Q (F0 m (pc + 3) arr (st.map (mrv ad xa))) := by
    intro H1 locs1 hP1 hD1 hS1
    rw [hws] at hP1 hD1
    exact k H1 locs1 arr hP1 hD1 hS1 hL
  rcases hfin with hf | ⟨hf1, hf2⟩
  · exact va_put (ci := fCl f) hx hb hts e2 ty e3 e4 hown hK hP hD hS x.toNat he e1 (fPl f) hpN hlink (fun z hz => by rw [e5 _ hpN] at hz; exact hz) hf (e3 _ hpN) n1 n2 (by simpa [hl2] using hpN) hdg kk
  · cases hff : (T (fPl f)).2.2.2 with
    | false => exact va_put (ci := fCl f) hx hb hts e2 ty e3 e4 hown hK hP hD hS x.toNat he e1 (fPl f) hpN hlink (fun z hz => by rw [e5 _ hpN] at hz; exact hz) hff (e3 _ hpN) n1 n2 (by simpa [hl2] using hpN) hdg kk
    | true => exact va_putF (ci := fCl f) hx hb hts e2 ty e3 e4 hown hK hP hD hS x.toNat he e1 (fPl f) hpN hlink (fun z hz => by rw [e5 _ hpN] at hz; exact hz) hff hf2 ((e5 _ hpN).trans hf1) (e3 _ hpN) n1 n2 (by simpa [hl2] using hpN) hdg kk
end OPH
