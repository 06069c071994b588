/-! Part 26: a call whose throw is caught. -/
theorem nse_link : Cond.classLink "VillageShowLaw" 13 nseN ∈ GW := List.mem_filter.mpr ⟨List.mem_append_right _ (by decide +kernel), rfl⟩
section STEPX
variable {p : Program} {l : Launch} {e : Env} {R : Room} {s : State} {m : MethodId} {args : Array Value} {below : List Frame} {meth : Method} {c : Code} {Q : State → Prop} {nL : Nat} {D : va_G} {cs : Nat → ClassId} {xa : Int → Option Nat} {A : Nat → Prop} {c0 s0 : Nat} {ad : Nat → Nat} {M : Mem} {pcb pc : Nat} {ls st : List MV} {cc : ByteArray} {X : MExt} {own len lp : Nat} {real : Instr} {bps : List Nat} {call : MC} {k : MK} {r : MRes} {d : Nat}
theorem go_callX (hx : p.tables.exec = Jvm.exec) (hb : c.code = cc) (hml : c.maxLocals = nL) (hts : ∀ w ∈ GW, w.before args s = true) (hown : s.vm.findClass "VillageShowLaw" = some m.cls) (hK : va_K D vwCl (tysOf cs) s) (hNW : NWOK s) (hZ : TZOK A s s.heap) (hE : EXTOK X xa A s s.heap) (hA : ∀ q, s.heap.size ≤ q → A q) {d j ix : Nat} (hR : ROK (d + 1) R) (hf : MF j) (hfi : MFI j) (hsel : Cond.selects (mth j).1.cls (mth j).1 (mth j).1 ∈ GW) {as : List MV} {x : Int} {v : MV} {M' : Mem} (hM : MOK M) (hrc : rcv M x (prog j).2.2.2 = true) (hn : as.length + 1 = (prog j).2.1) (hcon : CONX l X D cs xa d j ((2, x) :: as) M v M')
    (hlink : (Cond.methodLink "VillageShowLaw" ix (mth j).1).before args s = true) (hc0 : c0 ≤ M.2.2.1) (hs0 : s0 ≤ M.2.2.2) (hc1 : M.2.2.1 ≤ M'.2.2.1) (hs1 : M.2.2.2 ≤ M'.2.2.2) (hRc : M'.2.2.1 - c0 ≤ R.cells) (hRs : M'.2.2.2 - s0 ≤ R.slots) (hwt : wt st ≤ 8) (hdg : decode cc pcb = .ok (.invokevirtual ix, 3))
    {h : Nat} (hp : bps.getD pc 0 = pcb) (hcat : CATCH c cc bps nL pc h) (hll : ls.length = nL)
    (k : ∀ ad' : Nat → Nat, (∀ a, a < M.1.length → ad' a = ad a) → PURE M v M' → GO p l e R s m args below meth c Q nL D cs xa A c0 s0 ad' M' (bps.getD h 0) (ls.map fun _ => (3, 0)) []) : GO p l e R s m args below meth c Q nL D cs xa A c0 s0 ad M pcb ls (as.reverse ++ (2, x) :: st) := by
  have q1 : M.2.2.1 - c0 + (M'.2.2.1 - M.2.2.1) = M'.2.2.1 - c0 := by omega
  have q2 : M.2.2.2 - s0 + (M'.2.2.2 - M.2.2.2) = M'.2.2.2 - s0 := by omega
  intro H locs arr hP hD hS hL
  obtain ⟨b, e2, cell, g1, g2, g3⟩ := rcv_at hP hS hK hE hM hfi.2.2.2.2.1 hfi.2.2.2.2.2 hrc
  rw [hfi.2.2.2.1] at g3
  have em : ((2, x) :: as).map (mrv ad xa) = .ref b :: as.map (mrv ad xa) := by rw [List.map_cons, e2]
  have hpre : PreV s H (mth j).1.cls b (MPC X D cs xa ad M ((2, x) :: as) H.size) (as.map (mrv ad xa)) := ⟨MPC_blind, ⟨cell, g1, g2, g3⟩, fun U hU hW => by rw [← em]; exact MPC_at hP hD hS hA hK hNW hZ hE U hU hW⟩
  have hw : 2 * (F0 m pcb arr ((as.reverse ++ (2, x) :: st).map (mrv ad xa))).monitorRoom + ((st.map (mrv ad xa)).map fun v => v.category).sum ≤ 8 := by
    have := wt_cat (ad := ad) (xa := xa) (st := st)
    show 2 * 0 + _ ≤ 8
    omega
  have hstk : (as.reverse ++ (2, x) :: st).map (mrv ad xa) = (as.map (mrv ad xa)).reverse ++ .ref b :: st.map (mrv ad xa) := by rw [List.map_append, List.map_reverse, List.map_cons, e2]
  have hnp : npar j = some as.length := by rw [hfi.2.1]; congr 1; omega
  have hr := vx_runV (locs := locs) (cells := M.2.2.1 - c0) (slots := M.2.2.2 - s0) (e := e) (below := below) (meth := meth) (own := "VillageShowLaw") (Ts := GW) (nL := nL) (g := F0 m pcb arr ((as.reverse ++ (2, x) :: st).map (mrv ad xa))) ⟨hx, hb, hml, hown, hts⟩ (hcon ad H.size) ⟨callB_at hts hR hf hnp hlink, hts _ hfi.1, hts _ hsel⟩ hpre rfl (by rw [List.length_map]) hL.1.1 hstk hw hdg ⟨by omega, by omega⟩
  have hfr := WS_free hD hS hA
  intro T hT Xs
  rcases hr T hT Xs with ⟨_, _, _, _, _, _, _, _, _, _, hf, _⟩ | ⟨q, st₀, t, T', L, E, ce, h0, X', hL', e1, e3, ⟨rfl, ⟨ad', ha, hp', hd', hpu⟩, hz, hk⟩, hce, hcv, hcl, stp⟩
  · exact hf.elim
  · rw [h0] at hz hk
    obtain ⟨xe, x1, x2, x3, n, ln, x4, x5, x6⟩ := hcat
    have hS1 : va_S A s.heap T'.heap (locs ++ L) := ⟨Nat.le_trans hS.1 (by rw [e1]; exact hz), fun q h1 h2 => by rw [e1, hk q (Nat.lt_of_lt_of_le h1 hS.1) (fun z => h2 (hfr q z))]; exact hS.2.1 q h1 h2, fun q hq => by
      rcases List.mem_append.mp hq with h | h
      · exact hS.2.2 q h
      · exact hfr _ (hL' q h)⟩
    have kk : W p l e R s m args below meth c T'.heap (locs ++ L) (M.2.2.1 - c0 + (M'.2.2.1 - M.2.2.1)) (M.2.2.2 - s0 + (M'.2.2.2 - M.2.2.2)) Q (F0 m xe.handlerPc arr [.ref q]) := by
      have kg : ∀ arr' : Array Slot, lv_has arr' nL [] → W p l e R s m args below meth c T'.heap (locs ++ L) (M.2.2.1 - c0 + (M'.2.2.1 - M.2.2.1)) (M.2.2.2 - s0 + (M'.2.2.2 - M.2.2.2)) Q (F0 m (xe.handlerPc + ln) arr' []) := by
        intro arr' h'
        have k2 := k ad' ha hpu T'.heap (locs ++ L) arr' (by rw [e1]; exact hp') (hd'.weaken (fun _ q _ h => hfr _ h)) hS1 ⟨h', by rw [List.length_map]; exact hll, fun i w hw h3 => by
          obtain ⟨u, -, hu⟩ := List.mem_map.mp (List.mem_of_getElem? hw)
          rw [← hu] at h3
          exact absurd h3 (by decide)⟩
        rw [x6, q1, q2]
        exact k2
      rcases x4 with ⟨x4, rfl⟩ | ⟨f, hf, x4, rfl⟩
      · exact lv_astore hx hb x4 hL.1 x5 rfl (fun arr' h' => kg arr' ⟨h'.1, h'.2.1, fun _ h => by cases h⟩)
      · exact lv_astore_n hx hb x4 hf hL.1 x5 rfl (fun arr' h' => kg arr' ⟨h'.1, h'.2.1, fun _ h => by cases h⟩)
    have hcast : (Cond.castable nseN nseN).before args s = true := va_Nw.use rfl hNW.2.2.2.1
    have hlk : (Cond.classLink "VillageShowLaw" xe.catchType nseN).before args s = true := by rw [x3]; exact hts _ nse_link
    rw [hp] at x2
    have hcx := vx_catch (own := "VillageShowLaw") (name := nseN) (E := nseN) (ce := ce) (q := q) (rest := st.map (mrv ad xa)) hown [] xe [] x1 (fun z hz => by cases hz) x2 (by rw [x3]; decide) hlk hcast (by rw [e1]; exact hce) hcv hcl kk
    obtain ⟨t2, a1, b1⟩ := hcx T' rfl X'
    exact ⟨t2, stp.trans a1, b1⟩
theorem st_invokeinterface (hx : p.tables.exec = Jvm.exec) (hb : c.code = cc) (hml : c.maxLocals = nL) (hts : ∀ w ∈ GW, w.before args s = true) (hown : s.vm.findClass (onm own) = some m.cls) (hK : va_K D vwCl (tysOf cs) s) (hNW : NWOK s) (hZ : TZOK A s s.heap) (hE : EXTOK X xa A s s.heap) (hA : ∀ q, s.heap.size ≤ q → A q) (hF : MFALL) (hR : ROK d R) (hcall : CALLOK l X D cs xa call d) (hcm : CMO call) (hc0 : c0 ≤ M.2.2.1) (hs0 : s0 ≤ M.2.2.2) (hmo : KMO k r) (hRc : r.2.2.2.1 - c0 ≤ R.cells) (hRs : r.2.2.2.2 - s0 ≤ R.slots) {j hh : Nat} (hp : bps.getD pc 0 = pcb) (hcat : own = 14 ∧ CATCH c cc bps nL pc hh) (hll : ls.length = nL) (hst : SOK M ls st) (hd : decode cc pcb = .ok (real, len)) (ha : agr1 own bps pc pcb real len lp (.invokeinterface j hh) = true) (h : istep prog clsT X call (.invokeinterface j hh) pc ls st M k = some r)
    (IH : ∀ (pc' : Nat) (ls' st' : List MV) (M' : Mem) (ad' : Nat → Nat), k pc' ls' st' M' = some r → SOK M' ls' st' → M.2.2.1 ≤ M'.2.2.1 → M.2.2.2 ≤ M'.2.2.2 → ls'.length = ls.length → M.1.length ≤ M'.1.length → (∀ a, a < M.1.length → ad' a = ad a) → GO p l e R s m args below meth c Q nL D cs xa A c0 s0 ad' M' (bps.getD pc' 0) ls' st') : GO p l e R s m args below meth c Q nL D cs xa A c0 s0 ad M pcb ls st := by
  have ha2 : (goN pcb len (bps.getD (pc + 1) 0) real (.invokevirtual (ixOf real)) 3 && lkIs own lp 1 (ixOf real) j && decide (kOf j = 1) && okJ j) = true := ha
  simp only [Bool.and_eq_true, decide_eq_true_eq] at ha2
  obtain ⟨⟨⟨g, g1⟩, g2⟩, g3⟩ := ha2
  obtain ⟨er, rfl, hn⟩ := goN_ok g
  rw [er] at hd
  rw [istep] at h
  by_cases hrc : (rcvOf st (prog j).2.1).1 = 2 ∧ rcv M (rcvOf st (prog j).2.1).2 (prog j).2.2.2 = true
  case neg => rw [if_neg hrc] at h; cases h
  rw [if_pos hrc] at h
  by_cases hc : st.length < (prog j).2.1 ∨ 8 < wt (st.drop (prog j).2.1) ∨ (prog j).2.2.1 < wt (st.take (prog j).2.1)
  case pos => rw [if_pos hc] at h; cases h
  rw [if_neg hc] at h
  obtain ⟨r0, n4, n6⟩ := bind_some h
  have n1 : (prog j).2.1 ≤ st.length := by omega
  have n2 : wt (st.drop (prog j).2.1) ≤ 8 := by omega
  have n3 : wt (st.take (prog j).2.1) ≤ (prog j).2.2.1 := by omega
  obtain ⟨f1, f2⟩ := hF.2.2.1 j g3 g2
  obtain ⟨as, t1, t2, t3⟩ := take_cons n1 f1.2.2.1
  have hsa := SOK_args hst (prog j).2.1
  obtain ⟨d', rfl, hc2, -⟩ := hcall _ _ _ _ n4 (take_parts n1).2 (by rw [wt_rev]; exact n3) hst.1 hsa
  have hm1 := hcm _ _ _ _ n4
  obtain ⟨hr1, hr2⟩ := hrc
  generalize hrv : rcvOf st (prog j).2.1 = rv at t1 t2 hr1 hr2
  obtain ⟨tg, x⟩ := rv
  have hr1 : tg = 2 := hr1
  subst hr1
  have hg : GO p l e R s m args below meth c Q nL D cs xa A c0 s0 ad M pcb ls (as.reverse ++ (2, x) :: st.drop (prog j).2.1) := by
    by_cases n5 : r0.1.1 = 4
    · rw [if_pos n5] at n6
      have hm2 := hmo _ _ _ _ n6
      have hcon := (hc2 g3).2 n5
      rw [t1] at hcon
      obtain ⟨rfl, hcat⟩ := hcat
      refine go_callX hx hb hml hts hown hK hNW hZ hE hA hR (hF.1 j g3) f1 f2 hst.1 hr2 t3 hcon (lk_word hts g1 rfl) hc0 hs0 hm1.1 hm1.2 (by have := hm2.1; omega) (by have := hm2.2; omega) n2 hd hp hcat hll (fun ad' had hpu => ?_)
      refine IH _ _ _ _ ad' n6 ⟨hpu.1, fun w hw => ?_, fun w hw => by cases hw⟩ hm1.1 hm1.2 (List.length_map ..) hpu.2.2 had
      obtain ⟨u, -, hu⟩ := List.mem_map.mp hw
      rw [← hu]; exact vok3
    · rw [if_neg n5] at n6
      have hm2 := hmo _ _ _ _ n6
      have hcon := (hc2 g3).1 n5
      rw [t1] at hcon
      refine go_callV hx hb hml hts hown hK hNW hZ hE hA hR (hF.1 j g3) f1 f2 hst.1 hr2 t3 hcon (lk_word hts g1 rfl) hc0 hs0 hm1.1 hm1.2 (by have := hm2.1; omega) (by have := hm2.2; omega) hst.2.1 (SOK_rest hst _) n2 hd (fun ad' had hpu => ?_)
      have k2 := IH _ _ _ _ ad' n6 (SOK_back hst hpu n5 _) hm1.1 hm1.2 rfl hpu.2.2 had
      rw [hn] at k2
      exact k2
  rw [← t2] at hg
  exact hg
end STEPX
