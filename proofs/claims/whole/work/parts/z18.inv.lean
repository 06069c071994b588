/-! Part 18: the five kinds of call. -/
def clsNm (k : Nat) : String := if k = 14 then "java/lang/String" else (vwCl.getD (k - 1) ("", fun _ => ("", "", "", false), 0)).1
def npar (j : Nat) : Option Nat := (parseMethodDescriptor (mth j).1.desc).map (fun d => d.parameters.length)
/-- what every method has -/
def MF (j : Nat) : Prop := codeW j ∈ GW ∧ Cond.initialized (mth j).1.cls ∈ GW ∧ ((mth j).1.cls ≠ "java/lang/invoke/MethodHandle" ∧ (mth j).1.cls ≠ "java/lang/invoke/VarHandle") ∧ plainName (mth j).1.cls = true ∧ (mth j).2.2.1 ≤ 40 ∧ (prog j).2.2.1 = (mth j).2.2.1
def MFS (j : Nat) : Prop := Cond.static (mth j).1 ∈ GW ∧ npar j = some (prog j).2.1
def MFI (j : Nat) : Prop := Cond.instanceMethod (mth j).1 ∈ GW ∧ npar j = some ((prog j).2.1 - 1) ∧ 1 ≤ (prog j).2.1 ∧ clsNm (prog j).2.2.2 = (mth j).1.cls ∧ (prog j).2.2.2 ≠ 0 ∧ (prog j).2.2.2 ≤ 14
def ROK (d : Nat) (R : Room) : Prop := d + 8 ≤ R.frames ∧ 64 * d + 512 ≤ R.locals
set_option maxRecDepth 20000 in
theorem room_ok {ml d L : Nat} (h : ml ≤ 40) (h2 : 64 * (d + 1) + 512 ≤ L) : 8 + (ml + 11) + (64 * d + 512) ≤ L := by omega
theorem pushR_map {ad : Nat → Nat} {xa : Int → Option Nat} (v : MV) (st : List MV) : (pushR v st).map (mrv ad xa) = (if v.1 = 3 then none else some (mrv ad xa v)).toList ++ st.map (mrv ad xa) := by
  unfold pushR
  by_cases h : v.1 = 3
  · rw [if_pos h, if_pos h]; rfl
  · rw [if_neg h, if_neg h]; rfl
section INV
variable {p : Program} {l : Launch} {e : Env} {R : Room} {s : State} {m : MethodId} {args : Array Value} {below : List Frame} {meth : Method} {c : Code} {Q : State → Prop} {nL : Nat} {D : va_G} {cs : Nat → ClassId} {xa : Int → Option Nat} {A : Nat → Prop} {c0 s0 : Nat} {ad : Nat → Nat} {M : Mem} {pc : Nat} {ls st : List MV} {cc : ByteArray} {X : MExt}
theorem callB_at (hts : ∀ w ∈ GW, w.before args s = true) {own : String} {d j ix mc ms n : Nat} (hR : ROK (d + 1) R) (hf : MF j) (hn : npar j = some n) (hlink : (Cond.methodLink own ix (mth j).1).before args s = true) : CallB R s args own ix (mth j).1 (mth j).2.1 (mth j).2.2.1 (mth j).2.2.2.1 (codeW j :: GW) (mroom d mc ms) mc ms n := by
  obtain ⟨f1, f2, f3, f4, f5, f6⟩ := hf
  refine ⟨rfl, rfl, ?_, ?_, ?_, List.mem_cons_self, hts _ f1, hts _ f2, f3, fun sig h => ?_, hlink⟩
  · show d + 8 + 1 ≤ _; have := hR.1; omega
  · exact room_ok f5 hR.2
  · refine pay_in hts fun w hw => ?_
    rcases List.mem_cons.mp hw with rfl | hw
    · exact ⟨f1, good_of_word (List.mem_filter.mp f1).2⟩
    · exact ⟨hw, good_of_word (List.mem_filter.mp hw).2⟩
  · unfold npar at hn
    rw [h] at hn
    exact (Option.some.inj hn).symm
theorem callN_at (hts : ∀ w ∈ GW, w.before args s = true) {own : String} {d j ix mc ms n : Nat} (hR : ROK (d + 1) R) (hf : MF j) (hn : npar j = some n) (hlink : va_Nw (Cond.methodLinkNest own ix (mth j).1 "VillageShow") s) : va_CN R s args own ix (mth j).1 "VillageShow" (mth j).2.1 (mth j).2.2.1 (mth j).2.2.2.1 (codeW j :: GW) (mroom d mc ms) mc ms n := by
  obtain ⟨f1, f2, f3, f4, f5, f6⟩ := hf
  refine ⟨⟨rfl, rfl, ?_, ?_, ?_, List.mem_cons_self⟩, hts _ f1, hts _ f2, f3, fun sig h => ?_, va_Nw.use rfl hlink⟩
  · show d + 8 + 1 ≤ _; have := hR.1; omega
  · exact room_ok f5 hR.2
  · refine pay_in hts fun w hw => ?_
    rcases List.mem_cons.mp hw with rfl | hw
    · exact ⟨f1, good_of_word (List.mem_filter.mp f1).2⟩
    · exact ⟨hw, good_of_word (List.mem_filter.mp hw).2⟩
  · unfold npar at hn
    rw [h] at hn
    exact (Option.some.inj hn).symm
/-- how a call goes on, once it runs -/
theorem go_run {v : MV} {M' : Mem} {st0 : List MV} {a : Array Value} (hA : ∀ q, s.heap.size ≤ q → A q) (hc0 : c0 ≤ M.2.2.1) (hs0 : s0 ≤ M.2.2.2) (hc1 : M.2.2.1 ≤ M'.2.2.1) (hs1 : M.2.2.2 ≤ M'.2.2.2) (hls : ∀ v ∈ ls, VOK (nx M) v) (hst : ∀ v ∈ st, VOK (nx M) v ∧ v.1 < 3)
    (hr : ∀ (H : Heap) (locs : List Loc) (arr : Array Slot), va_P D vwCl (WS cs ad xa M) H → va_D A (WS cs ad xa M) → va_S A s.heap H locs → LREL nL ad xa ls arr → va_Run p l e R s m args below meth c H locs (M.2.2.1 - c0) (M.2.2.2 - s0) (M'.2.2.1 - M.2.2.1) (M'.2.2.2 - M.2.2.2) (F0 m pc arr (st0.map (mrv ad xa))) (st.map (mrv ad xa)) (MQC D cs xa ad M v M' H.size a) (va_A (WS cs ad xa M) H.size))
    (k : ∀ ad' : Nat → Nat, (∀ a, a < M.1.length → ad' a = ad a) → PURE M v M' → GO p l e R s m args below meth c Q nL D cs xa A c0 s0 ad' M' (pc + 3) ls (pushR v st)) : GO p l e R s m args below meth c Q nL D cs xa A c0 s0 ad M pc ls st0 := by
  intro H locs arr hP hD hS hL
  refine run_go (hr H locs arr hP hD hS hL) hD hS hA fun ad' H1 locs1 ha hP1 hD1 hS1 hpu => ?_
  have k2 := k ad' ha hpu H1 locs1 arr hP1 hD1 hS1 (LREL_up hL hls ha)
  rw [pushR_map, st_up hst ha] at k2
  rw [show M.2.2.1 - c0 + (M'.2.2.1 - M.2.2.1) = M'.2.2.1 - c0 by omega, show M.2.2.2 - s0 + (M'.2.2.2 - M.2.2.2) = M'.2.2.2 - s0 by omega]
  exact k2
theorem rev_map {as : List MV} : ((as.reverse ++ st).map (mrv ad xa)) = (as.map (mrv ad xa)).reverse ++ st.map (mrv ad xa) := by rw [List.map_append, List.map_reverse]
theorem go_callS (hx : p.tables.exec = Jvm.exec) (hb : c.code = cc) (hml : c.maxLocals = nL) (hts : ∀ w ∈ GW, w.before args s = true) {own : String} (hown : s.vm.findClass own = some m.cls) (hK : va_K D vwCl (tysOf cs) s) (hNW : NWOK s) (hZ : TZOK A s s.heap) (hE : EXTOK X xa A s s.heap) (hA : ∀ q, s.heap.size ≤ q → A q) {d j ix : Nat} (hR : ROK (d + 1) R) (hf : MF j) (hfs : MFS j) {as : List MV} {v : MV} {M' : Mem} (hn : as.length = (prog j).2.1) (hcon : CON l X D cs xa d j as M v M')
    (hlink : (Cond.methodLink own ix (mth j).1).before args s = true ∨ va_Nw (Cond.methodLinkNest own ix (mth j).1 "VillageShow") s) (hc0 : c0 ≤ M.2.2.1) (hs0 : s0 ≤ M.2.2.2) (hc1 : M.2.2.1 ≤ M'.2.2.1) (hs1 : M.2.2.2 ≤ M'.2.2.2) (hRc : M'.2.2.1 - c0 ≤ R.cells) (hRs : M'.2.2.2 - s0 ≤ R.slots) (hls : ∀ v ∈ ls, VOK (nx M) v) (hst : ∀ v ∈ st, VOK (nx M) v ∧ v.1 < 3) (hwt : wt st ≤ 8) (hdg : decode cc pc = .ok (.invokestatic ix, 3))
    (k : ∀ ad' : Nat → Nat, (∀ a, a < M.1.length → ad' a = ad a) → PURE M v M' → GO p l e R s m args below meth c Q nL D cs xa A c0 s0 ad' M' (pc + 3) ls (pushR v st)) : GO p l e R s m args below meth c Q nL D cs xa A c0 s0 ad M pc ls (as.reverse ++ st) := by
  refine go_run (a := (as.map (mrv ad xa)).toArray) hA hc0 hs0 hc1 hs1 hls hst (fun H locs arr hP hD hS hL => ?_) k
  have hpre : PreS s H (MPC X D cs xa ad M as H.size) (as.map (mrv ad xa)) := ⟨MPC_blind, fun U hU hW => MPC_at hP hD hS hA hK hNW hZ hE U hU hW⟩
  have hw : 2 * (F0 m pc arr ((as.reverse ++ st).map (mrv ad xa))).monitorRoom + ((st.map (mrv ad xa)).map fun v => v.category).sum ≤ 8 := by
    have := wt_cat (ad := ad) (xa := xa) (st := st)
    show 2 * 0 + _ ≤ 8
    omega
  rcases hlink with hl | hl
  · exact va_runS (own := own) (Ts := GW) (nL := nL) ⟨hx, hb, hml, hown, hts⟩ (hcon ad H.size) ⟨callB_at hts hR hf hfs.2 hl, hts _ hfs.1⟩ hpre rfl (by rw [List.length_map]; exact hn) hL.1.1 rev_map hw hdg ⟨by omega, by omega⟩
  · exact va_runSN (own := own) (Ts := GW) (nL := nL) ⟨hx, hb, hml, hown, hts⟩ (hcon ad H.size) ⟨callN_at hts hR hf hfs.2 hl, hts _ hfs.1, trivial⟩ hpre rfl (by rw [List.length_map]; exact hn) hL.1.1 rev_map hw hdg ⟨by omega, by omega⟩
theorem go_callI (hx : p.tables.exec = Jvm.exec) (hb : c.code = cc) (hml : c.maxLocals = nL) (hts : ∀ w ∈ GW, w.before args s = true) {own : String} (hown : s.vm.findClass own = some m.cls) (hK : va_K D vwCl (tysOf cs) s) (hNW : NWOK s) (hZ : TZOK A s s.heap) (hE : EXTOK X xa A s s.heap) (hA : ∀ q, s.heap.size ≤ q → A q) {d j ix : Nat} (hR : ROK (d + 1) R) (hf : MF j) (hfi : MFI j) (hnm : (mth j).1.name = "<init>") (hret : (mth j).2.2.2.1 = none) {as : List MV} {x : Int} {v : MV} {M' : Mem} (h0 : 0 ≤ x) (hn : as.length + 1 = (prog j).2.1) (hcon : CON l X D cs xa d j ((2, x) :: as) M v M')
    (hlink : (Cond.methodLink own ix (mth j).1).before args s = true ∨ va_Nw (Cond.methodLinkNest own ix (mth j).1 "VillageShow") s) (hc0 : c0 ≤ M.2.2.1) (hs0 : s0 ≤ M.2.2.2) (hc1 : M.2.2.1 ≤ M'.2.2.1) (hs1 : M.2.2.2 ≤ M'.2.2.2) (hRc : M'.2.2.1 - c0 ≤ R.cells) (hRs : M'.2.2.2 - s0 ≤ R.slots) (hls : ∀ v ∈ ls, VOK (nx M) v) (hst : ∀ v ∈ st, VOK (nx M) v ∧ v.1 < 3) (hwt : wt st ≤ 8) (hdg : decode cc pc = .ok (.invokespecial ix, 3))
    (k : ∀ ad' : Nat → Nat, (∀ a, a < M.1.length → ad' a = ad a) → PURE M v M' → GO p l e R s m args below meth c Q nL D cs xa A c0 s0 ad' M' (pc + 3) ls (pushR v st)) : GO p l e R s m args below meth c Q nL D cs xa A c0 s0 ad M pc ls (as.reverse ++ (2, x) :: st) := by
  refine go_run (a := (((2, x) :: as).map (mrv ad xa)).toArray) hA hc0 hs0 hc1 hs1 hls hst (fun H locs arr hP hD hS hL => ?_) k
  have e2 : mrv ad xa (2, x) = .ref (ad x.toNat) := by rw [mrv2, mrf_pos h0]
  have em : ((2, x) :: as).map (mrv ad xa) = .ref (ad x.toNat) :: as.map (mrv ad xa) := by rw [List.map_cons, e2]
  have hpre : PreS s H (MPC X D cs xa ad M ((2, x) :: as) H.size) (.ref (ad x.toNat) :: as.map (mrv ad xa)) := ⟨MPC_blind, fun U hU hW => by rw [← em]; exact MPC_at hP hD hS hA hK hNW hZ hE U hU hW⟩
  have hw : 2 * (F0 m pc arr ((as.reverse ++ (2, x) :: st).map (mrv ad xa))).monitorRoom + ((st.map (mrv ad xa)).map fun v => v.category).sum ≤ 8 := by
    have := wt_cat (ad := ad) (xa := xa) (st := st)
    show 2 * 0 + _ ≤ 8
    omega
  have hstk : (as.reverse ++ (2, x) :: st).map (mrv ad xa) = (as.map (mrv ad xa)).reverse ++ .ref (ad x.toNat) :: st.map (mrv ad xa) := by rw [List.map_append, List.map_reverse, List.map_cons, e2]
  have hnp : npar j = some as.length := by rw [hfi.2.1]; congr 1; omega
  rw [em]
  rcases hlink with hl | hl
  · have hcb := callB_at (n := as.length) (mc := M'.2.2.1 - M.2.2.1) (ms := M'.2.2.2 - M.2.2.2) hts hR hf hnp hl
    rw [hret] at hcb
    exact va_runI (own := own) (Ts := GW) (nL := nL) ⟨hx, hb, hml, hown, hts⟩ (hcon ad H.size) ⟨hcb, hnm, hts _ hfi.1⟩ hpre rfl (by rw [List.length_map]) hL.1.1 hstk hw hdg ⟨by omega, by omega⟩
  · have hcb := callN_at (n := as.length) (mc := M'.2.2.1 - M.2.2.1) (ms := M'.2.2.2 - M.2.2.2) hts hR hf hnp hl
    rw [hret] at hcb
    exact va_runIN (own := own) (Ts := GW) (nL := nL) ⟨hx, hb, hml, hown, hts⟩ (hcon ad H.size) ⟨hcb, hnm, hts _ hfi.1⟩ hpre rfl (by rw [List.length_map]) hL.1.1 hstk hw hdg ⟨by omega, by omega⟩
theorem rcv_at {x : Int} {k : Nat} {H : Heap} {locs : List Loc} (hP : va_P D vwCl (WS cs ad xa M) H) (hS : va_S A s.heap H locs) (hK : va_K D vwCl (tysOf cs) s) (hE : EXTOK X xa A s s.heap) (hM : MOK M) (hk0 : k ≠ 0) (hk14 : k ≤ 14) (h : rcv M x k = true) : ∃ b, mrv ad xa (2, x) = .ref b ∧ ∃ cell : Cell, H[b]? = some cell ∧ cell.vm.isStatics = false ∧ s.vm.findClass (clsNm k) = some cell.cls := by
  unfold rcv at h
  by_cases h0 : 0 ≤ x
  · rw [if_pos h0] at h
    have h1 := decide_eq_true_eq.mp h
    refine ⟨ad x.toNat, by rw [mrv2, mrf_pos h0], ?_⟩
    obtain ⟨-, hq⟩ := lay_some (M := M) (x := x) (by omega)
    have hkd := (hM _ _ hq).1
    have h13 : (lay? M x).1 < 13 := by omega
    obtain ⟨C, T, N, ty, e1, -⟩ := cls_ok _ h13
    have he := WS_get (cs := cs) (ad := ad) (xa := xa) hq
    rw [ent_obj (by omega)] at he
    obtain ⟨cell, g1, g2, g3⟩ := va_recv hK hP e1 he
    refine ⟨cell, g1, g2, ?_⟩
    have hk : clsNm k = C := by
      unfold clsNm
      rw [if_neg (by omega), List.getD_eq_getElem?_getD, show k - 1 = (lay? M x).1 by omega, e1]
      rfl
    rw [hk]
    exact g3
  · rw [if_neg h0] at h
    simp only [Bool.and_eq_true, decide_eq_true_eq] at h
    obtain ⟨⟨h1, h2⟩, h3⟩ := h
    obtain ⟨a, b, e1, e2, e3, e4, e5⟩ := hE.2.2.1 x h1 h2
    refine ⟨a, by rw [mrv2, mrf_ext (by omega) e1], ?_⟩
    obtain ⟨cell, q1, q2, q3, q4⟩ := e3.kept hS.2.1
    refine ⟨cell, q1, q2, ?_⟩
    rw [clsNm, if_pos h3]
    exact q3
theorem go_callV (hx : p.tables.exec = Jvm.exec) (hb : c.code = cc) (hml : c.maxLocals = nL) (hts : ∀ w ∈ GW, w.before args s = true) {own : String} (hown : s.vm.findClass own = some m.cls) (hK : va_K D vwCl (tysOf cs) s) (hNW : NWOK s) (hZ : TZOK A s s.heap) (hE : EXTOK X xa A s s.heap) (hA : ∀ q, s.heap.size ≤ q → A q) {d j ix : Nat} (hR : ROK (d + 1) R) (hf : MF j) (hfi : MFI j) (hsel : Cond.selects (mth j).1.cls (mth j).1 (mth j).1 ∈ GW) {as : List MV} {x : Int} {v : MV} {M' : Mem} (hM : MOK M) (hrc : rcv M x (prog j).2.2.2 = true) (hn : as.length + 1 = (prog j).2.1) (hcon : CON l X D cs xa d j ((2, x) :: as) M v M')
    (hlink : (Cond.methodLink own ix (mth j).1).before args s = true) (hc0 : c0 ≤ M.2.2.1) (hs0 : s0 ≤ M.2.2.2) (hc1 : M.2.2.1 ≤ M'.2.2.1) (hs1 : M.2.2.2 ≤ M'.2.2.2) (hRc : M'.2.2.1 - c0 ≤ R.cells) (hRs : M'.2.2.2 - s0 ≤ R.slots) (hls : ∀ v ∈ ls, VOK (nx M) v) (hst : ∀ v ∈ st, VOK (nx M) v ∧ v.1 < 3) (hwt : wt st ≤ 8) (hdg : decode cc pc = .ok (.invokevirtual ix, 3))
    (k : ∀ ad' : Nat → Nat, (∀ a, a < M.1.length → ad' a = ad a) → PURE M v M' → GO p l e R s m args below meth c Q nL D cs xa A c0 s0 ad' M' (pc + 3) ls (pushR v st)) : GO p l e R s m args below meth c Q nL D cs xa A c0 s0 ad M pc ls (as.reverse ++ (2, x) :: st) := by
  refine go_run (a := (((2, x) :: as).map (mrv ad xa)).toArray) hA hc0 hs0 hc1 hs1 hls hst (fun H locs arr hP hD hS hL => ?_) k
  obtain ⟨b, e2, cell, g1, g2, g3⟩ := rcv_at hP hS hK hE hM hfi.2.2.2.2.1 hfi.2.2.2.2.2 hrc
  rw [hfi.2.2.2.1] at g3
  have em : ((2, x) :: as).map (mrv ad xa) = .ref b :: as.map (mrv ad xa) := by rw [List.map_cons, e2]
  have hpre : PreV s H (mth j).1.cls b (MPC X D cs xa ad M ((2, x) :: as) H.size) (as.map (mrv ad xa)) := ⟨MPC_blind, ⟨cell, g1, g2, g3⟩, fun U hU hW => by rw [← em]; exact MPC_at hP hD hS hA hK hNW hZ hE U hU hW⟩
  have hw : 2 * (F0 m pc arr ((as.reverse ++ (2, x) :: st).map (mrv ad xa))).monitorRoom + ((st.map (mrv ad xa)).map fun v => v.category).sum ≤ 8 := by
    have := wt_cat (ad := ad) (xa := xa) (st := st)
    show 2 * 0 + _ ≤ 8
    omega
  have hstk : (as.reverse ++ (2, x) :: st).map (mrv ad xa) = (as.map (mrv ad xa)).reverse ++ .ref b :: st.map (mrv ad xa) := by rw [List.map_append, List.map_reverse, List.map_cons, e2]
  have hnp : npar j = some as.length := by rw [hfi.2.1]; congr 1; omega
  rw [em]
  exact va_runV (own := own) (Ts := GW) (nL := nL) ⟨hx, hb, hml, hown, hts⟩ (hcon ad H.size) ⟨callB_at hts hR hf hnp hlink, hts _ hfi.1, hts _ hsel⟩ hpre rfl (by rw [List.length_map]) hL.1.1 hstk hw hdg ⟨by omega, by omega⟩
end INV
