/-! Part 29: each method's contract, by the fuel. -/
section SIM
variable {l : Launch} {X : MExt} {D : va_G} {cs : Nat → ClassId} {xa : Int → Option Nat}
theorem thr_ok {r : MRes} {v : Nat} (h : r.1.1 = v) : r.1.1 = v := h
/-- the body of a method that hands back -/
theorem body_ret (hF : MFALL) (hFW : ∀ j, 266 ≤ j → j < 271 → MFW j) (h5 : ∀ x, x < -1 → x ≠ -5 → ∃ q, xa x = some q) {n d j : Nat} (hcall : ∀ k, k < n → CALLOK l X D cs xa (exC prog clsT X k d) d) (hfa : FACTS j) (hpr : (prog j).2.2.1 = (mth j).2.2.1) {as : List MV} {M : Mem} {r : MRes} (h : ex prog clsT X n d (prog j).1 0 (lin0 (prog j).2.2.1 as) [] M = some r) (hwt : wt as ≤ (prog j).2.2.1) (hM : MOK M) (has : ∀ v ∈ as, VOK (nx M) v ∧ v.1 < 3) (hr : r.1.1 ≠ 4) {ad : Nat → Nat} {sz : Nat}
    {ws : List Cond} (hws : ∀ w ∈ GW, w ∈ ws) {p : Program} {e : Env} {s : State} {m : MethodId} {args : Array Value} {below : List Frame} {meth : Method} {c : Code} {s₁ : State}
    (B : BodyLoose p l (mth j).1 (headSpec ws (mroom d (r.2.2.2.1 - M.2.2.1) (r.2.2.2.2 - M.2.2.2))) (mth j).2.1 (mth j).2.2.1 (mth j).2.2.2.1 e s m args below meth c s₁) (hml : c.maxLocals = (mth j).2.2.1) (hv : MPC X D cs xa ad M as sz args s)
    (hct : ∀ (pc a h : Nat) (ks : List Nat), (prog j).1[pc]? = some (Instr.invokeinterface a h, ks) → c.exceptionTable.toList = tableOf (hhN j)) :
    W p l e (headSpec ws (mroom d (r.2.2.2.1 - M.2.2.1) (r.2.2.2.2 - M.2.2.2))).room s m args below meth c s.heap [] 0 0 (MQ below (MQC D cs xa ad M r.1 r.2 sz) args s (r.2.2.2.1 - M.2.2.1) (r.2.2.2.2 - M.2.2.2) (va_A (WS cs ad xa M) sz)) (entryFrame m args (mth j).2.2.1) := by
  obtain ⟨rfl, hsz, hP, hK, hD0, hNW, hZ, hE⟩ := hv
  obtain ⟨RR, own, g1, g2, g3, g4, -, g6, g7⟩ := hfa
  have hts : ∀ w ∈ GW, w.before (as.map (mrv ad xa)).toArray s = true := fun w hw => atoms_spec (ws := ws) B.pre w (hws w hw)
  have hown : s.vm.findClass (onm own) = some m.cls := by rw [g1]; exact findClass_of_methodNamed B.named
  have hA : ∀ q, s.heap.size ≤ q → va_A (WS cs ad xa M) sz q := fun q h => Or.inr (by rw [← hsz]; exact h)
  have hcle := ex_cle prog clsT X _ _ _ _ _ _ _ _ h
  have hR : ROK d (headSpec ws (mroom d (r.2.2.2.1 - M.2.2.1) (r.2.2.2.2 - M.2.2.2))).room := ⟨Nat.le_refl _, Nat.le_refl _⟩
  have hini : decide ((mth j).1.name = "<init>") = true → meth.name = "<init>" := fun q => (name_of_methodNamed B.named B.method).1.trans (of_decide_eq_true q)
  have key := run_all (p := p) (e := e) (below := below) (meth := meth) (ad0 := ad) (Q := MQ below (MQC D cs xa ad M r.1 r.2 sz) (as.map (mrv ad xa)).toArray s (r.2.2.2.1 - M.2.2.1) (r.2.2.2.2 - M.2.2.2) (va_A (WS cs ad xa M) sz)) B.exec B.bytes hml hts hown hK hNW hZ hE hA hF hFW h5 hR (Nat.le_refl _) (Nat.le_refl _) g2 g3 (ret := (mth j).2.2.2.1) (by have g4 := g4; unfold chkM at g4; rw [hpr] at g4; exact g4) hini
    (fun pc a h ks hc => ⟨(g6 pc a h ks hc).1, (g6 pc a h ks hc).2 c (hct pc a h ks hc)⟩) hcall
    (fun k pc ls st M1 ad1 i ks real len lp hc hi hch hi2 hst hcl hle had hd ha => by
      rcases hi with hi | rfl
      · exact st_ret B.exec B.bytes B.notSynchronized B.returns hsz rfl hle had hi hch hst hd ha hi2
      · exact absurd (thr_eq hi2) hr)
    n (Nat.le_refl _) 0 (lin0 (prog j).2.2.1 as) [] M ad h (SOK_entry hM has) (by unfold lin0; rw [List.length_append, List.length_replicate, wt_lin]; omega) (CLE.rf _) (Nat.le_refl _) (fun _ _ => rfl)
  rw [g7] at key
  have hl := LREL_entry (ad := ad) (xa := xa) (fun v hv => (has v hv).2) hwt
  rw [lg_entry_eq]
  rw [hpr] at key hl
  have := key s.heap [] _ hP (hD0.self (sz := sz)) va_S.rf hl
  rw [Nat.sub_self, Nat.sub_self] at this
  exact this
/-- .. of one that throws -/
theorem body_thr (hlt : l.stackTraces = false) (hF : MFALL) (hFW : ∀ j, 266 ≤ j → j < 271 → MFW j) (h5 : ∀ x, x < -1 → x ≠ -5 → ∃ q, xa x = some q) {n d j : Nat} (hcall : ∀ k, k < n → CALLOK l X D cs xa (exC prog clsT X k d) d) (hfa : FACTS j) (hj : j < 266) (hpr : (prog j).2.2.1 = (mth j).2.2.1) {as : List MV} {M : Mem} {r : MRes} (h : ex prog clsT X n d (prog j).1 0 (lin0 (prog j).2.2.1 as) [] M = some r) (hwt : wt as ≤ (prog j).2.2.1) (hM : MOK M) (has : ∀ v ∈ as, VOK (nx M) v ∧ v.1 < 3) (hr : r.1.1 = 4) {ad : Nat → Nat} {sz : Nat}
    {ws : List Cond} (hws : ∀ w ∈ GW, w ∈ ws) {p : Program} {e : Env} {s : State} {m : MethodId} {args : Array Value} {below : List Frame} {meth : Method} {c : Code} {s₁ : State}
    (B : BodyLoose p l (mth j).1 (headSpec ws (mroom d (r.2.2.2.1 - M.2.2.1) (r.2.2.2.2 - M.2.2.2))) (mth j).2.1 (mth j).2.2.1 (mth j).2.2.2.1 e s m args below meth c s₁) (hml : c.maxLocals = (mth j).2.2.1) (hem : ∀ x ∈ c.exceptionTable.toList, False) (hv : MPC X D cs xa ad M as sz args s)
    (hct : ∀ (pc a h : Nat) (ks : List Nat), (prog j).1[pc]? ≠ some (Instr.invokeinterface a h, ks)) :
    W p l e (headSpec ws (mroom d (r.2.2.2.1 - M.2.2.1) (r.2.2.2.2 - M.2.2.2))).room s m args below meth c s.heap [] 0 0 (vx_MQ below (fun _ _ _ _ => False) (XQC D cs xa ad M r.1 r.2 sz) args s (r.2.2.2.1 - M.2.2.1) (r.2.2.2.2 - M.2.2.2) (va_A (WS cs ad xa M) sz)) (entryFrame m args (mth j).2.2.1) := by
  obtain ⟨rfl, hsz, hP, hK, hD0, hNW, hZ, hE⟩ := hv
  obtain ⟨RR, own, g1, g2, g3, g4, g5, -, g7⟩ := hfa
  have hts : ∀ w ∈ GW, w.before (as.map (mrv ad xa)).toArray s = true := fun w hw => atoms_spec (ws := ws) B.pre w (hws w hw)
  have hown : s.vm.findClass (onm own) = some m.cls := by rw [g1]; exact findClass_of_methodNamed B.named
  have hA : ∀ q, s.heap.size ≤ q → va_A (WS cs ad xa M) sz q := fun q h => Or.inr (by rw [← hsz]; exact h)
  have hR : ROK d (headSpec ws (mroom d (r.2.2.2.1 - M.2.2.1) (r.2.2.2.2 - M.2.2.2))).room := ⟨Nat.le_refl _, Nat.le_refl _⟩
  have hini : decide ((mth j).1.name = "<init>") = true → meth.name = "<init>" := fun q => (name_of_methodNamed B.named B.method).1.trans (of_decide_eq_true q)
  have key := run_all (p := p) (e := e) (below := below) (meth := meth) (ad0 := ad) (Q := vx_MQ below (fun _ _ _ _ => False) (XQC D cs xa ad M r.1 r.2 sz) (as.map (mrv ad xa)).toArray s (r.2.2.2.1 - M.2.2.1) (r.2.2.2.2 - M.2.2.2) (va_A (WS cs ad xa M) sz)) B.exec B.bytes hml hts hown hK hNW hZ hE hA hF hFW h5 hR (Nat.le_refl _) (Nat.le_refl _) g2 g3 (ret := (mth j).2.2.2.1) (by have g4 := g4; unfold chkM at g4; rw [hpr] at g4; exact g4) hini
    (fun pc a h ks hc => absurd hc (hct pc a h ks)) hcall
    (fun k pc ls st M1 ad1 i ks real len lp hc hi hch hi2 hst hcl hle had hd ha => by
      rcases hi with hi | rfl
      · exact absurd hr (ret_ne hi hi2)
      · obtain ⟨rfl, g8⟩ := g5 pc ks hc
        exact st_athrow B.exec B.bytes hml hlt hts hown hNW hZ B.notSynchronized hR hsz rfl hA hle had hcl.1 hcl.2 (Nat.le_refl _) (Nat.le_refl _) hem g8 hst hi2)
    n (Nat.le_refl _) 0 (lin0 (prog j).2.2.1 as) [] M ad h (SOK_entry hM has) (by unfold lin0; rw [List.length_append, List.length_replicate, wt_lin]; omega) (CLE.rf _) (Nat.le_refl _) (fun _ _ => rfl)
  rw [g7] at key
  have hl := LREL_entry (ad := ad) (xa := xa) (fun v hv => (has v hv).2) hwt
  rw [lg_entry_eq]
  rw [hpr] at key hl
  have := key s.heap [] _ hP (hD0.self (sz := sz)) va_S.rf hl
  rw [Nat.sub_self, Nat.sub_self] at this
  exact this
/-- THE MINI MACHINE IS MET: whatever a call of it answers, the machine answers -/
theorem sim (hlt : l.stackTraces = false) (hF : MFALL) (hFW : ∀ j, 266 ≤ j → j < 271 → MFW j) (hfa : ∀ j, j < 271 → FACTS j) (hni : ∀ j, j < 266 → ∀ (pc a h : Nat) (ks : List Nat), (prog j).1[pc]? ≠ some (Instr.invokeinterface a h, ks)) (h5 : ∀ x, x < -1 → x ≠ -5 → ∃ q, xa x = some q) : ∀ n d, CALLOK l X D cs xa (exC prog clsT X n d) d := by
  intro n
  induction n using Nat.strongRecOn with
  | ind n IH =>
    intro d j as M r h hn hwt hM has
    cases d with
    | zero => cases h
    | succ d =>
      have h : ex prog clsT X n d (prog j).1 0 (lin0 (prog j).2.2.1 as) [] M = some r := h
      have hcall : ∀ k, k < n → CALLOK l X D cs xa (exC prog clsT X k d) d := fun k hk => IH k hk d
      refine ⟨d, rfl, fun hj => ⟨fun hr ad sz => ?_, fun hr ad sz => ?_⟩, fun h1 h2 hr ad sz => ?_⟩
      · obtain ⟨f1, f2, f3, f4, f5, f6⟩ := hF.1 j hj
        have hj2 := okJ_lt hj
        refine Met.ofW (cc := (mth j).2.1) (maxL := (mth j).2.2.1) (ret := (mth j).2.2.2.1) f4 rfl ?_
        intro p e s m args below meth c s₁ B hml hv
        exact body_ret hF hFW h5 hcall (hfa j (by omega)) f6 h hwt hM has hr (fun w hw => List.mem_cons_of_mem _ hw) B hml hv (fun pc a h ks hc => absurd hc (hni j hj2 pc a h ks))
      · obtain ⟨f1, f2, f3, f4, f5, f6⟩ := hF.1 j hj
        have hj2 := okJ_lt hj
        refine vx_ofW (cc := (mth j).2.1) (maxL := (mth j).2.2.1) (ret := (mth j).2.2.2.1) f4 rfl ?_
        intro p e s m args below meth c s₁ B hml hem hv
        exact body_thr hlt hF hFW h5 hcall (hfa j (by omega)) hj2 f6 h hwt hM has hr (fun w hw => List.mem_cons_of_mem _ hw) B hml hem hv (hni j hj2)
      · obtain ⟨f1, f2, f3, f4, f5, f6, f7⟩ := hFW j h1 h2
        refine va_MetW (cc := (mth j).2.1) (maxL := (mth j).2.2.1) (ret := (mth j).2.2.2.1) (hh := hhN j) f4 rfl ?_
        intro p e s m args below meth c s₁ B hml hv
        exact body_ret hF hFW h5 hcall (hfa j h2) f6 h hwt hM has hr (fun w hw => List.mem_cons_of_mem _ hw) B hml hv (fun pc a h ks hc => vx_table (x := (mth j).1) B (atoms_spec (ws := codeWW j :: GW) B.pre _ List.mem_cons_self))
end SIM
