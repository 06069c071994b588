/-! Part 25: calls as steps. -/
def hhN (j : Nat) : List (Nat × Nat × Nat × Nat) := if j = 266 then [(0, 9, 12, 13)] else if j = 267 then [(0, 10, 13, 13)] else if j = 268 then [(0, 10, 13, 13)] else if j = 269 then [(0, 9, 12, 13)] else if j = 270 then [(0, 13, 16, 13)] else []
def codeWW (j : Nat) : Cond := .codeWith (mth j).1 (mth j).2.1 (mth j).2.2.1 (mth j).2.2.2.1 (hhN j)
/-- the contract of a method that catches -/
def CONW (l : Launch) (X : MExt) (D : va_G) (cs : Nat → ClassId) (xa : Int → Option Nat) (d j : Nat) (as : List MV) (M : Mem) (v : MV) (M' : Mem) : Prop := ∀ (ad : Nat → Nat) (sz : Nat), Met l (mth j).1 (codeWW j :: GW) (mroom d (M'.2.2.1 - M.2.2.1) (M'.2.2.2 - M.2.2.2)) (MPC X D cs xa ad M as sz) (MQC D cs xa ad M v M' sz) (M'.2.2.1 - M.2.2.1) (M'.2.2.2 - M.2.2.2) (va_A (WS cs ad xa M) sz)
/-- what a method that catches has -/
def MFW (j : Nat) : Prop := codeWW j ∈ GW ∧ Cond.initialized (mth j).1.cls ∈ GW ∧ ((mth j).1.cls ≠ "java/lang/invoke/MethodHandle" ∧ (mth j).1.cls ≠ "java/lang/invoke/VarHandle") ∧ plainName (mth j).1.cls = true ∧ (mth j).2.2.1 ≤ 40 ∧ (prog j).2.2.1 = (mth j).2.2.1 ∧ MFS j
def CALLOK (l : Launch) (X : MExt) (D : va_G) (cs : Nat → ClassId) (xa : Int → Option Nat) (call : MC) (d : Nat) : Prop := ∀ j as M r, call j as M = some r → as.length = (prog j).2.1 → wt as ≤ (prog j).2.2.1 → MOK M → (∀ v ∈ as, VOK (nx M) v ∧ v.1 < 3) → ∃ d', d = d' + 1 ∧ (okJ j = true → (r.1.1 ≠ 4 → CON l X D cs xa d' j as M r.1 r.2) ∧ (r.1.1 = 4 → CONX l X D cs xa d' j as M r.1 r.2)) ∧ (266 ≤ j → j < 271 → r.1.1 ≠ 4 → CONW l X D cs xa d' j as M r.1 r.2)
theorem wt_app : ∀ (a b : List MV), wt (a ++ b) = wt a + wt b
  | [], b => by simp [wt]
  | v :: a, b => by
    show _ + wt (a ++ b) = _ + wt a + wt b
    rw [wt_app a b]; omega
theorem wt_rev : ∀ (a : List MV), wt a.reverse = wt a
  | [] => rfl
  | v :: a => by
    rw [List.reverse_cons, wt_app, wt_rev a]
    show wt a + (_ + 0) = _ + wt a
    omega
theorem take_cons {st : List MV} {n : Nat} (hn : n ≤ st.length) (h1 : 1 ≤ n) : ∃ as, (st.take n).reverse = rcvOf st n :: as ∧ st = as.reverse ++ rcvOf st n :: st.drop n ∧ as.length + 1 = n := by
  have hl : (st.take n).reverse.length = n := by rw [List.length_reverse, List.length_take]; omega
  cases hr : (st.take n).reverse with
  | nil => rw [hr] at hl; simp at hl; omega
  | cons a t =>
    rw [hr] at hl
    have e : st.take n = t.reverse ++ [a] := by
      rw [← List.reverse_reverse (st.take n), hr, List.reverse_cons]
    have ea : rcvOf st n = a := by unfold rcvOf; rw [e]; simp
    refine ⟨t, by rw [ea], ?_, by simpa using hl⟩
    rw [ea]
    have := List.take_append_drop n st
    rw [e] at this
    simpa using this.symm
theorem take_parts {st : List MV} {n : Nat} (hn : n ≤ st.length) : st = (st.take n).reverse.reverse ++ st.drop n ∧ (st.take n).reverse.length = n := by
  rw [List.reverse_reverse, List.take_append_drop]
  refine ⟨rfl, ?_⟩
  rw [List.length_reverse, List.length_take]; omega
theorem inv_some {call : MC} {j n mx pc : Nat} {ls st : List MV} {M : Mem} {k : MK} {r : MRes} (h : inv call j n mx pc ls st M k = some r) : ∃ r0, n ≤ st.length ∧ wt (st.drop n) ≤ 8 ∧ wt (st.take n) ≤ mx ∧ call j (st.take n).reverse M = some r0 ∧ r0.1.1 ≠ 4 ∧ k (pc + 1) ls (pushR r0.1 (st.drop n)) r0.2 = some r := by
  unfold inv at h
  by_cases hc : st.length < n ∨ 8 < wt (st.drop n) ∨ mx < wt (st.take n)
  · rw [if_pos hc] at h; cases h
  · rw [if_neg hc] at h
    obtain ⟨r0, h1, h2⟩ := bind_some h
    by_cases h4 : r0.1.1 = 4
    · rw [if_pos h4] at h2; cases h2
    · rw [if_neg h4] at h2
      exact ⟨r0, by omega, by omega, by omega, h1, h4, h2⟩
theorem SOK_args {M : Mem} {ls st : List MV} (h : SOK M ls st) (n : Nat) : ∀ v ∈ (st.take n).reverse, VOK (nx M) v ∧ v.1 < 3 := fun v hv => h.2.2 v (List.mem_of_mem_take (List.mem_reverse.mp hv))
theorem SOK_rest {M : Mem} {ls st : List MV} (h : SOK M ls st) (n : Nat) : ∀ v ∈ st.drop n, VOK (nx M) v ∧ v.1 < 3 := fun v hv => h.2.2 v (List.mem_of_mem_drop hv)
theorem SOK_back {M M' : Mem} {ls st : List MV} {v : MV} (h : SOK M ls st) (hp : PURE M v M') (hv : v.1 ≠ 4) (n : Nat) : SOK M' ls (pushR v (st.drop n)) := by
  obtain ⟨h1, h2, h3⟩ := hp
  have hn : nx M ≤ nx M' := by unfold nx; omega
  have hb : SOK M' ls (st.drop n) := ⟨h1, fun w hw => (h.2.1 w hw).mono hn, fun w hw => ⟨(SOK_rest h n w hw).1.mono hn, (SOK_rest h n w hw).2⟩⟩
  unfold pushR
  by_cases e : v.1 = 3
  · rw [if_pos e]; exact hb
  · rw [if_neg e]
    have h4 := h2 hv
    exact hb.push h4 (by have := h4.1; omega)
def CATCH (c : Code) (cc : ByteArray) (bps : List Nat) (nL pc h : Nat) : Prop := ∃ x : ExceptionTableEntry, c.exceptionTable.toList = [x] ∧ covers x (bps.getD pc 0) = true ∧ x.catchType = 13 ∧ ∃ n len, ((decode cc x.handlerPc = .ok (.astore n, 2) ∧ len = 2) ∨ ∃ f : Fin 4, (f : Nat) = n ∧ decode cc x.handlerPc = .ok (.astore_n f, 1) ∧ len = 1) ∧ n < nL ∧ x.handlerPc + len = bps.getD h 0
section STEPC
variable {p : Program} {l : Launch} {e : Env} {R : Room} {s : State} {m : MethodId} {args : Array Value} {below : List Frame} {meth : Method} {c : Code} {Q : State → Prop} {nL : Nat} {D : va_G} {cs : Nat → ClassId} {xa : Int → Option Nat} {A : Nat → Prop} {c0 s0 : Nat} {ad : Nat → Nat} {M : Mem} {pcb pc : Nat} {ls st : List MV} {cc : ByteArray} {X : MExt} {own len lp : Nat} {real : Instr} {bps : List Nat} {call : MC} {k : MK} {r : MRes} {d : Nat}
theorem nest_at (hNW : NWOK s) {ix j : Nat} (h : lkIs own lp 2 ix j = true) : va_Nw (Cond.methodLinkNest (onm own) ix (mth j).1 "VillageShow") s := hNW.1 _ (lkIs_ok h) rfl
theorem go_callSW (hx : p.tables.exec = Jvm.exec) (hb : c.code = cc) (hml : c.maxLocals = nL) (hts : ∀ w ∈ GW, w.before args s = true) {own : String} (hown : s.vm.findClass own = some m.cls) (hK : va_K D vwCl (tysOf cs) s) (hNW : NWOK s) (hZ : TZOK A s s.heap) (hE : EXTOK X xa A s s.heap) (hA : ∀ q, s.heap.size ≤ q → A q) {d j ix : Nat} (hR : ROK (d + 1) R) (hf : MFW j) {as : List MV} {v : MV} {M' : Mem} (hn : as.length = (prog j).2.1) (hcon : CONW l X D cs xa d j as M v M')
    (hlink : (Cond.methodLink own ix (mth j).1).before args s = true) (hc0 : c0 ≤ M.2.2.1) (hs0 : s0 ≤ M.2.2.2) (hc1 : M.2.2.1 ≤ M'.2.2.1) (hs1 : M.2.2.2 ≤ M'.2.2.2) (hRc : M'.2.2.1 - c0 ≤ R.cells) (hRs : M'.2.2.2 - s0 ≤ R.slots) (hls : ∀ v ∈ ls, VOK (nx M) v) (hst : ∀ v ∈ st, VOK (nx M) v ∧ v.1 < 3) (hwt : wt st ≤ 8) (hdg : decode cc pc = .ok (.invokestatic ix, 3))
    (k : ∀ ad' : Nat → Nat, (∀ a, a < M.1.length → ad' a = ad a) → PURE M v M' → GO p l e R s m args below meth c Q nL D cs xa A c0 s0 ad' M' (pc + 3) ls (pushR v st)) : GO p l e R s m args below meth c Q nL D cs xa A c0 s0 ad M pc ls (as.reverse ++ st) := by
  refine go_run (a := (as.map (mrv ad xa)).toArray) hA hc0 hs0 hc1 hs1 hls hst (fun H locs arr hP hD hS hL => ?_) k
  have hpre : PreS s H (MPC X D cs xa ad M as H.size) (as.map (mrv ad xa)) := ⟨MPC_blind, fun U hU hW => MPC_at hP hD hS hA hK hNW hZ hE U hU hW⟩
  have hw : 2 * (F0 m pc arr ((as.reverse ++ st).map (mrv ad xa))).monitorRoom + ((st.map (mrv ad xa)).map fun v => v.category).sum ≤ 8 := by
    have := wt_cat (ad := ad) (xa := xa) (st := st)
    show 2 * 0 + _ ≤ 8
    omega
  obtain ⟨f1, f2, f3, f4, f5, f6, f7⟩ := hf
  refine vx_runSW (own := own) (Ts := GW) (nL := nL) (hh := hhN j) (bytes := (mth j).2.1) (maxL := (mth j).2.2.1) (ret := (mth j).2.2.2.1) ⟨hx, hb, hml, hown, hts⟩ (hcon ad H.size) (n := (prog j).2.1) ⟨⟨rfl, rfl, ?_, ?_, ?_, List.mem_cons_self⟩, hts _ f1, hts _ f2, f3, fun sig h => ?_, hlink, hts _ f7.1⟩ hpre rfl (by rw [List.length_map]; exact hn) hL.1.1 rev_map hw hdg ⟨by omega, by omega⟩
  · show d + 8 + 1 ≤ _; have := hR.1; omega
  · exact room_ok f5 hR.2
  · refine pay_in hts fun w hw => ?_
    rcases List.mem_cons.mp hw with rfl | hw
    · exact ⟨f1, good_of_word (List.mem_filter.mp f1).2⟩
    · exact ⟨hw, good_of_word (List.mem_filter.mp hw).2⟩
  · have h2 := f7.2
    unfold npar at h2
    rw [h] at h2
    exact (Option.some.inj h2).symm
theorem st_invokestatic (hx : p.tables.exec = Jvm.exec) (hb : c.code = cc) (hml : c.maxLocals = nL) (hts : ∀ w ∈ GW, w.before args s = true) (hown : s.vm.findClass (onm own) = some m.cls) (hK : va_K D vwCl (tysOf cs) s) (hNW : NWOK s) (hZ : TZOK A s s.heap) (hE : EXTOK X xa A s s.heap) (hA : ∀ q, s.heap.size ≤ q → A q) (hF : MFALL) (hR : ROK d R) (hcall : CALLOK l X D cs xa call d) (hcm : CMO call) (hc0 : c0 ≤ M.2.2.1) (hs0 : s0 ≤ M.2.2.2) (hmo : KMO k r) (hRc : r.2.2.2.1 - c0 ≤ R.cells) (hRs : r.2.2.2.2 - s0 ≤ R.slots) {j : Nat} (hst : SOK M ls st) (hd : decode cc pcb = .ok (real, len)) (ha : agr1 own bps pc pcb real len lp (.invokestatic j) = true) (h : istep prog clsT X call (.invokestatic j) pc ls st M k = some r)
    (IH : ∀ (pc' : Nat) (ls' st' : List MV) (M' : Mem) (ad' : Nat → Nat), k pc' ls' st' M' = some r → SOK M' ls' st' → M.2.2.1 ≤ M'.2.2.1 → M.2.2.2 ≤ M'.2.2.2 → ls'.length = ls.length → M.1.length ≤ M'.1.length → (∀ a, a < M.1.length → ad' a = ad a) → GO p l e R s m args below meth c Q nL D cs xa A c0 s0 ad' M' (bps.getD pc' 0) ls' st') : GO p l e R s m args below meth c Q nL D cs xa A c0 s0 ad M pcb ls st := by
  have ha2 : (goN pcb len (bps.getD (pc + 1) 0) real (.invokestatic (ixOf real)) 3 && (lkIs own lp 1 (ixOf real) j || lkIs own lp 2 (ixOf real) j) && decide (kOf j = 0) && okJ j) = true := ha
  simp only [Bool.and_eq_true, Bool.or_eq_true, decide_eq_true_eq] at ha2
  obtain ⟨⟨⟨g, g1⟩, g2⟩, g3⟩ := ha2
  obtain ⟨er, rfl, hn⟩ := goN_ok g
  rw [er] at hd
  have hlk : (Cond.methodLink (onm own) (ixOf real) (mth j).1).before args s = true ∨ va_Nw (Cond.methodLinkNest (onm own) (ixOf real) (mth j).1 "VillageShow") s := by
    rcases g1 with q | q
    · exact Or.inl (lk_word hts q rfl)
    · exact Or.inr (nest_at hNW q)
  obtain ⟨r0, n1, n2, n3, n4, n5, n6⟩ := inv_some h
  obtain ⟨t1, t2⟩ := take_parts n1
  have hsa := SOK_args hst (prog j).2.1
  obtain ⟨d', rfl, hc2, -⟩ := hcall _ _ _ _ n4 t2 (by rw [wt_rev]; exact n3) hst.1 hsa
  have hm1 := hcm _ _ _ _ n4
  have hm2 := hmo _ _ _ _ n6
  have hg : GO p l e R s m args below meth c Q nL D cs xa A c0 s0 ad M pcb ls ((st.take (prog j).2.1).reverse.reverse ++ st.drop (prog j).2.1) := by
    refine go_callS hx hb hml hts hown hK hNW hZ hE hA hR (hF.1 j g3) (hF.2.1 j g3 g2) t2 ((hc2 g3).1 n5) hlk hc0 hs0 hm1.1 hm1.2 (by have := hm2.1; omega) (by have := hm2.2; omega) hst.2.1 (SOK_rest hst _) n2 hd (fun ad' had hpu => ?_)
    have k2 := IH _ _ _ _ ad' n6 (SOK_back hst hpu n5 _) hm1.1 hm1.2 rfl hpu.2.2 had
    rw [hn] at k2
    exact k2
  rw [← t1] at hg
  exact hg
theorem st_invokedynamic (hx : p.tables.exec = Jvm.exec) (hb : c.code = cc) (hml : c.maxLocals = nL) (hts : ∀ w ∈ GW, w.before args s = true) (hown : s.vm.findClass (onm own) = some m.cls) (hK : va_K D vwCl (tysOf cs) s) (hNW : NWOK s) (hZ : TZOK A s s.heap) (hE : EXTOK X xa A s s.heap) (hA : ∀ q, s.heap.size ≤ q → A q) (hFW : ∀ j, 266 ≤ j → j < 271 → MFW j) (hR : ROK d R) (hcall : CALLOK l X D cs xa call d) (hcm : CMO call) (hc0 : c0 ≤ M.2.2.1) (hs0 : s0 ≤ M.2.2.2) (hmo : KMO k r) (hRc : r.2.2.2.1 - c0 ≤ R.cells) (hRs : r.2.2.2.2 - s0 ≤ R.slots) {j : Nat} (hst : SOK M ls st) (hd : decode cc pcb = .ok (real, len)) (ha : agr1 own bps pc pcb real len lp (.invokedynamic j) = true) (h : istep prog clsT X call (.invokedynamic j) pc ls st M k = some r)
    (IH : ∀ (pc' : Nat) (ls' st' : List MV) (M' : Mem) (ad' : Nat → Nat), k pc' ls' st' M' = some r → SOK M' ls' st' → M.2.2.1 ≤ M'.2.2.1 → M.2.2.2 ≤ M'.2.2.2 → ls'.length = ls.length → M.1.length ≤ M'.1.length → (∀ a, a < M.1.length → ad' a = ad a) → GO p l e R s m args below meth c Q nL D cs xa A c0 s0 ad' M' (bps.getD pc' 0) ls' st') : GO p l e R s m args below meth c Q nL D cs xa A c0 s0 ad M pcb ls st := by
  have ha2 : (goN pcb len (bps.getD (pc + 1) 0) real (.invokestatic (ixOf real)) 3 && lkIs own lp 1 (ixOf real) j && decide (266 ≤ j ∧ j < 271)) = true := ha
  simp only [Bool.and_eq_true, decide_eq_true_eq] at ha2
  obtain ⟨⟨g, g1⟩, g2, g3⟩ := ha2
  obtain ⟨er, rfl, hn⟩ := goN_ok g
  rw [er] at hd
  obtain ⟨r0, n1, n2, n3, n4, n5, n6⟩ := inv_some h
  obtain ⟨t1, t2⟩ := take_parts n1
  have hsa := SOK_args hst (prog j).2.1
  obtain ⟨d', rfl, -, hc2⟩ := hcall _ _ _ _ n4 t2 (by rw [wt_rev]; exact n3) hst.1 hsa
  have hm1 := hcm _ _ _ _ n4
  have hm2 := hmo _ _ _ _ n6
  have hg : GO p l e R s m args below meth c Q nL D cs xa A c0 s0 ad M pcb ls ((st.take (prog j).2.1).reverse.reverse ++ st.drop (prog j).2.1) := by
    refine go_callSW hx hb hml hts hown hK hNW hZ hE hA hR (hFW j g2 g3) t2 (hc2 g2 g3 n5) (lk_word hts g1 rfl) hc0 hs0 hm1.1 hm1.2 (by have := hm2.1; omega) (by have := hm2.2; omega) hst.2.1 (SOK_rest hst _) n2 hd (fun ad' had hpu => ?_)
    have k2 := IH _ _ _ _ ad' n6 (SOK_back hst hpu n5 _) hm1.1 hm1.2 rfl hpu.2.2 had
    rw [hn] at k2
    exact k2
  rw [← t1] at hg
  exact hg
theorem ini_cls : ∀ j, j < 266 → kOf j = 2 → (prog j).2.2.2 ≠ 14 := by decide +kernel
theorem okJ_lt {j : Nat} (h : okJ j = true) : j < 266 := by
  unfold okJ at h
  simp only [Bool.and_eq_true, decide_eq_true_eq] at h
  exact h.1.1
theorem st_invokespecial (hx : p.tables.exec = Jvm.exec) (hb : c.code = cc) (hml : c.maxLocals = nL) (hts : ∀ w ∈ GW, w.before args s = true) (hown : s.vm.findClass (onm own) = some m.cls) (hK : va_K D vwCl (tysOf cs) s) (hNW : NWOK s) (hZ : TZOK A s s.heap) (hE : EXTOK X xa A s s.heap) (hA : ∀ q, s.heap.size ≤ q → A q) (hF : MFALL) (hR : ROK d R) (hcall : CALLOK l X D cs xa call d) (hcm : CMO call) (hc0 : c0 ≤ M.2.2.1) (hs0 : s0 ≤ M.2.2.2) (hmo : KMO k r) (hRc : r.2.2.2.1 - c0 ≤ R.cells) (hRs : r.2.2.2.2 - s0 ≤ R.slots) {j : Nat} (hst : SOK M ls st) (hd : decode cc pcb = .ok (real, len)) (ha : agr1 own bps pc pcb real len lp (.invokespecial j) = true) (h : istep prog clsT X call (.invokespecial j) pc ls st M k = some r)
    (IH : ∀ (pc' : Nat) (ls' st' : List MV) (M' : Mem) (ad' : Nat → Nat), k pc' ls' st' M' = some r → SOK M' ls' st' → M.2.2.1 ≤ M'.2.2.1 → M.2.2.2 ≤ M'.2.2.2 → ls'.length = ls.length → M.1.length ≤ M'.1.length → (∀ a, a < M.1.length → ad' a = ad a) → GO p l e R s m args below meth c Q nL D cs xa A c0 s0 ad' M' (bps.getD pc' 0) ls' st') : GO p l e R s m args below meth c Q nL D cs xa A c0 s0 ad M pcb ls st := by
  have ha2 : (goN pcb len (bps.getD (pc + 1) 0) real (.invokespecial (ixOf real)) 3 && (lkIs own lp 1 (ixOf real) j || lkIs own lp 2 (ixOf real) j) && decide (kOf j = 2) && okJ j) = true := ha
  simp only [Bool.and_eq_true, Bool.or_eq_true, decide_eq_true_eq] at ha2
  obtain ⟨⟨⟨g, g1⟩, g2⟩, g3⟩ := ha2
  obtain ⟨er, rfl, hn⟩ := goN_ok g
  rw [er] at hd
  have hlk : (Cond.methodLink (onm own) (ixOf real) (mth j).1).before args s = true ∨ va_Nw (Cond.methodLinkNest (onm own) (ixOf real) (mth j).1 "VillageShow") s := by
    rcases g1 with q | q
    · exact Or.inl (lk_word hts q rfl)
    · exact Or.inr (nest_at hNW q)
  rw [istep] at h
  by_cases hrc : (rcvOf st (prog j).2.1).1 = 2 ∧ rcv M (rcvOf st (prog j).2.1).2 (prog j).2.2.2 = true
  case neg => rw [if_neg hrc] at h; cases h
  rw [if_pos hrc] at h
  obtain ⟨r0, n1, n2, n3, n4, n5, n6⟩ := inv_some h
  obtain ⟨f1, f2, f3⟩ := hF.2.2.2.1 j g3 g2
  obtain ⟨as, t1, t2, t3⟩ := take_cons n1 f1.2.2.1
  have hsa := SOK_args hst (prog j).2.1
  obtain ⟨d', rfl, hc2, -⟩ := hcall _ _ _ _ n4 (take_parts n1).2 (by rw [wt_rev]; exact n3) hst.1 hsa
  have hm1 := hcm _ _ _ _ n4
  have hm2 := hmo _ _ _ _ n6
  obtain ⟨hr1, hr2⟩ := hrc
  generalize hrv : rcvOf st (prog j).2.1 = rv at t1 t2 hr1 hr2
  obtain ⟨tg, x⟩ := rv
  have hr1 : tg = 2 := hr1
  subst hr1
  have h0 : 0 ≤ x := by
    unfold rcv at hr2
    by_cases h0 : 0 ≤ x
    · exact h0
    · rw [if_neg h0] at hr2
      simp only [Bool.and_eq_true, decide_eq_true_eq] at hr2
      exact absurd hr2.2 (ini_cls j (okJ_lt g3) g2)
  have hcon := (hc2 g3).1 n5
  rw [t1] at hcon
  have hg : GO p l e R s m args below meth c Q nL D cs xa A c0 s0 ad M pcb ls (as.reverse ++ (2, x) :: st.drop (prog j).2.1) := by
    refine go_callI hx hb hml hts hown hK hNW hZ hE hA hR (hF.1 j g3) f1 f2 f3 h0 t3 hcon hlk hc0 hs0 hm1.1 hm1.2 (by have := hm2.1; omega) (by have := hm2.2; omega) hst.2.1 (SOK_rest hst _) n2 hd (fun ad' had hpu => ?_)
    have k2 := IH _ _ _ _ ad' n6 (SOK_back hst hpu n5 _) hm1.1 hm1.2 rfl hpu.2.2 had
    rw [hn] at k2
    exact k2
  rw [← t2] at hg
  exact hg
theorem st_invokevirtual (hx : p.tables.exec = Jvm.exec) (hb : c.code = cc) (hml : c.maxLocals = nL) (hts : ∀ w ∈ GW, w.before args s = true) (hown : s.vm.findClass (onm own) = some m.cls) (hK : va_K D vwCl (tysOf cs) s) (hNW : NWOK s) (hZ : TZOK A s s.heap) (hE : EXTOK X xa A s s.heap) (hA : ∀ q, s.heap.size ≤ q → A q) (hF : MFALL) (hR : ROK d R) (hcall : CALLOK l X D cs xa call d) (hcm : CMO call) (hc0 : c0 ≤ M.2.2.1) (hs0 : s0 ≤ M.2.2.2) (hmo : KMO k r) (hRc : r.2.2.2.1 - c0 ≤ R.cells) (hRs : r.2.2.2.2 - s0 ≤ R.slots) {j : Nat} (hst : SOK M ls st) (hd : decode cc pcb = .ok (real, len)) (ha : agr1 own bps pc pcb real len lp (.invokevirtual j) = true) (h : istep prog clsT X call (.invokevirtual j) pc ls st M k = some r)
    (IH : ∀ (pc' : Nat) (ls' st' : List MV) (M' : Mem) (ad' : Nat → Nat), k pc' ls' st' M' = some r → SOK M' ls' st' → M.2.2.1 ≤ M'.2.2.1 → M.2.2.2 ≤ M'.2.2.2 → ls'.length = ls.length → M.1.length ≤ M'.1.length → (∀ a, a < M.1.length → ad' a = ad a) → GO p l e R s m args below meth c Q nL D cs xa A c0 s0 ad' M' (bps.getD pc' 0) ls' st') : GO p l e R s m args below meth c Q nL D cs xa A c0 s0 ad M pcb ls st := by
  have ha2 : (goN pcb len (bps.getD (pc + 1) 0) real (.invokevirtual (ixOf real)) 3 && lkIs own lp 1 (ixOf real) j && decide (kOf j = 1) && okJ j) = true := ha
  simp only [Bool.and_eq_true, decide_eq_true_eq] at ha2
  obtain ⟨⟨⟨g, g1⟩, g2⟩, g3⟩ := ha2
  obtain ⟨er, rfl, hn⟩ := goN_ok g
  rw [er] at hd
  rw [istep] at h
  by_cases hrc : (rcvOf st (prog j).2.1).1 = 2 ∧ rcv M (rcvOf st (prog j).2.1).2 (prog j).2.2.2 = true
  case neg => rw [if_neg hrc] at h; cases h
  rw [if_pos hrc] at h
  obtain ⟨r0, n1, n2, n3, n4, n5, n6⟩ := inv_some h
  obtain ⟨f1, f2⟩ := hF.2.2.1 j g3 g2
  obtain ⟨as, t1, t2, t3⟩ := take_cons n1 f1.2.2.1
  have hsa := SOK_args hst (prog j).2.1
  obtain ⟨d', rfl, hc2, -⟩ := hcall _ _ _ _ n4 (take_parts n1).2 (by rw [wt_rev]; exact n3) hst.1 hsa
  have hm1 := hcm _ _ _ _ n4
  have hm2 := hmo _ _ _ _ n6
  obtain ⟨hr1, hr2⟩ := hrc
  generalize hrv : rcvOf st (prog j).2.1 = rv at t1 t2 hr1 hr2
  obtain ⟨tg, x⟩ := rv
  have hr1 : tg = 2 := hr1
  subst hr1
  have hcon := (hc2 g3).1 n5
  rw [t1] at hcon
  have hg : GO p l e R s m args below meth c Q nL D cs xa A c0 s0 ad M pcb ls (as.reverse ++ (2, x) :: st.drop (prog j).2.1) := by
    refine go_callV hx hb hml hts hown hK hNW hZ hE hA hR (hF.1 j g3) f1 f2 hst.1 hr2 t3 hcon (lk_word hts g1 rfl) hc0 hs0 hm1.1 hm1.2 (by have := hm2.1; omega) (by have := hm2.2; omega) hst.2.1 (SOK_rest hst _) n2 hd (fun ad' had hpu => ?_)
    have k2 := IH _ _ _ _ ad' n6 (SOK_back hst hpu n5 _) hm1.1 hm1.2 rfl hpu.2.2 had
    rw [hn] at k2
    exact k2
  rw [← t2] at hg
  exact hg
end STEPC
