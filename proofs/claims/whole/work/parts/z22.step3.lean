/-! Part 22: new things, calls. -/
/-- the words of all methods and classes; parts behind this one prove it -/
def MFALL : Prop := (∀ j, okJ j = true → MF j) ∧ (∀ j, okJ j = true → kOf j = 0 → MFS j) ∧ (∀ j, okJ j = true → kOf j = 1 → MFI j ∧ Cond.selects (mth j).1.cls (mth j).1 (mth j).1 ∈ GW) ∧ (∀ j, okJ j = true → kOf j = 2 → MFI j ∧ (mth j).1.name = "<init>" ∧ (mth j).2.2.2.1 = none) ∧
  (∀ i, i < 13 → Cond.instantiable (vwCl.getD i ("", fun _ => ("", "", "", false), 0)).1 (clsT.getD i []).length ∈ GW ∧ Cond.initialized (vwCl.getD i ("", fun _ => ("", "", "", false), 0)).1 ∈ GW) ∧
  (Cond.arrayClass .int ∈ GW ∧ Cond.arrayClass .long ∈ GW ∧ Cond.arrayClass .boolean ∈ GW ∧ Cond.arrayClass .byte ∈ GW) ∧ (Cond.instanceMethod Lib.objectInit ∈ GW ∧ Cond.code Lib.objectInit ⟨#[0xb1]⟩ 1 none ∈ GW) ∧ (Cond.native arraycopyName ∈ GW ∧ Cond.static arraycopyName ∈ GW ∧ Cond.initialized "java/lang/System" ∈ GW) ∧
  (Cond.static Lib.Math.max.name ∈ GW ∧ Cond.static Lib.Math.min.name ∈ GW ∧ Cond.initialized "java/lang/Math" ∈ GW ∧ Cond.code Lib.Math.max.name Lib.Math.max.code 2 (some .int) ∈ GW ∧ Cond.code Lib.Math.min.name Lib.Math.min.code 2 (some .int) ∈ GW)
theorem mth_max : (mth 260).1 = Lib.Math.max.name := by decide +kernel
theorem mth_min : (mth 261).1 = Lib.Math.min.name := by decide +kernel
theorem clsT_len : ∀ n, (clsT.getD n []).length ≤ 20000 := by
  intro n
  have key : ∀ l ∈ clsT, l.length ≤ 20000 := by decide +kernel
  rw [List.getD_eq_getElem?_getD]
  cases hl : clsT[n]? with
  | none => decide
  | some l => exact key l (List.mem_of_getElem? hl)
theorem MOK_copy {M : Mem} {x sp d dp n : Int} {M' : Mem} (hM : MOK M) (h : acopy M x sp d dp n = some M') : MOK M' := by
  obtain ⟨⟨g1, g2, g3, g4, g5, g6, g7, g8, g9⟩, rfl⟩ := acopy_some h
  obtain ⟨-, hq⟩ := lay_some (M := M) (x := x) (by omega)
  obtain ⟨-, hq2⟩ := lay_some (M := M) (x := d) (by omega)
  intro a q ha
  obtain ⟨h1, h2, h3⟩ := hM a q ha
  refine ⟨h1, h2, fun j hj => ?_⟩
  show VOK (nx M) (tgt q.1 j, if a = d.toNat ∧ dp.toNat ≤ j ∧ j < dp.toNat + n.toNat then M.2.1 x.toNat (sp.toNat + (j - dp.toNat)) else M.2.1 a j)
  by_cases hc : a = d.toNat ∧ dp.toNat ≤ j ∧ j < dp.toNat + n.toNat
  · rw [if_pos hc]
    obtain ⟨rfl, hc2, hc3⟩ := hc
    have e : lay? M d = q := Option.some.inj (hq2.symm.trans ha)
    have := (hM _ _ hq).2.2 (sp.toNat + (j - dp.toNat)) (by omega)
    rw [g3] at this
    rw [← e, g4]
    exact this
  · rw [if_neg hc]; exact h3 j hj
section STEP3
variable {p : Program} {l : Launch} {e : Env} {R : Room} {s : State} {m : MethodId} {args : Array Value} {below : List Frame} {meth : Method} {c : Code} {Q : State → Prop} {nL : Nat} {D : va_G} {cs : Nat → ClassId} {xa : Int → Option Nat} {A : Nat → Prop} {c0 s0 : Nat} {ad : Nat → Nat} {M : Mem} {pcb pc : Nat} {ls st : List MV} {cc : ByteArray} {X : MExt} {own len lp : Nat} {real : Instr} {bps : List Nat} {call : MC} {k : MK} {r : MRes}

theorem st_fadd (hx : p.tables.exec = Jvm.exec) (hb : c.code = cc) (hml : c.maxLocals = nL) (hts : ∀ w ∈ GW, w.before args s = true) (hown : s.vm.findClass (onm own) = some m.cls) (hF : MFALL) (hc0 : c0 ≤ M.2.2.1) (hs0 : s0 ≤ M.2.2.2) (hmo : ∀ (pc' : Nat) (ls' st' : List MV) (M' : Mem), k pc' ls' st' M' = some r → M'.2.2.1 ≤ r.2.2.2.1 ∧ M'.2.2.2 ≤ r.2.2.2.2) (hRc : r.2.2.2.1 - c0 ≤ R.cells) (hRs : r.2.2.2.2 - s0 ≤ R.slots) (hRf : 1 ≤ R.frames) (hRl : 100 ≤ R.locals) (hst : SOK M ls st) (hd : decode cc pcb = .ok (real, len)) (ha : agr1 own bps pc pcb real len lp .fadd = true) (h : istep prog clsT X call .fadd pc ls st M k = some r)
    (IH : ∀ (pc' : Nat) (ls' st' : List MV) (M' : Mem) (ad' : Nat → Nat), k pc' ls' st' M' = some r → SOK M' ls' st' → M.2.2.1 ≤ M'.2.2.1 → M.2.2.2 ≤ M'.2.2.2 → ls'.length = ls.length → M.1.length ≤ M'.1.length → (∀ a, a < M.1.length → ad' a = ad a) → GO p l e R s m args below meth c Q nL D cs xa A c0 s0 ad' M' (bps.getD pc' 0) ls' st') : GO p l e R s m args below meth c Q nL D cs xa A c0 s0 ad M pcb ls st := by
  have ha2 : (goN pcb len (bps.getD (pc + 1) 0) real (.invokestatic (ixOf real)) 3 && lkIs own lp 1 (ixOf real) 260) = true := ha
  rw [Bool.and_eq_true] at ha2
  obtain ⟨g, g1⟩ := ha2
  obtain ⟨er, rfl, hn⟩ := goN_ok g
  rw [er] at hd
  by_cases hwt : wt st ≤ 60
  case neg => rw [istep, if_neg hwt] at h; cases h
  rw [istep, if_pos hwt] at h
  obtain ⟨x, y, st', rfl, h2⟩ := bin_some h
  have hm := hmo _ _ _ _ h2
  have k2 := IH _ _ _ _ ad h2 (hst.pop.pop.push0 (by have a := hst.i32; have b := hst.pop.i32; split; exact a; exact b)) (Nat.le_refl _) (Nat.le_refl _) rfl (Nat.le_refl _) (fun _ _ => rfl)
  rw [hn] at k2
  intro H locs arr hP hD hS hL
  have k3 := k2 H locs arr hP hD hS hL
  have hlink : (Cond.methodLink (onm own) (ixOf real) (mth 260).1).before args s = true := lk_word hts g1 rfl
  rw [mth_max] at hlink
  have hw := wt_cat (ad := ad) (xa := xa) (st := st')
  have hwt : 1 + (1 + wt st') ≤ 60 := hwt
  rw [List.map_cons, List.map_cons, mrv0, mrv0]
  obtain ⟨m1, m2, m3, m4, m5⟩ := hF.2.2.2.2.2.2.2.2
  refine va_mmax hx hb (hml.trans hL.1.1.symm) hown hlink (hts _ m1) (hts _ m3) (hts _ m4) hRf (by omega) (by omega) (by omega) hd ?_
  rw [List.map_cons, mrv0] at k3
  have e : Int32.ofInt (if x < y then y else x) = (if Int32.ofInt x < Int32.ofInt y then Int32.ofInt y else Int32.ofInt x) := by
    by_cases hxy : x < y
    · rw [if_pos hxy, if_pos ((i3_lt hst.pop.i32 hst.i32).mpr hxy)]
    · rw [if_neg hxy, if_neg (fun q => hxy ((i3_lt hst.pop.i32 hst.i32).mp q))]
  rw [e] at k3
  exact k3
theorem st_fsub (hx : p.tables.exec = Jvm.exec) (hb : c.code = cc) (hml : c.maxLocals = nL) (hts : ∀ w ∈ GW, w.before args s = true) (hown : s.vm.findClass (onm own) = some m.cls) (hF : MFALL) (hc0 : c0 ≤ M.2.2.1) (hs0 : s0 ≤ M.2.2.2) (hmo : ∀ (pc' : Nat) (ls' st' : List MV) (M' : Mem), k pc' ls' st' M' = some r → M'.2.2.1 ≤ r.2.2.2.1 ∧ M'.2.2.2 ≤ r.2.2.2.2) (hRc : r.2.2.2.1 - c0 ≤ R.cells) (hRs : r.2.2.2.2 - s0 ≤ R.slots) (hRf : 1 ≤ R.frames) (hRl : 100 ≤ R.locals) (hst : SOK M ls st) (hd : decode cc pcb = .ok (real, len)) (ha : agr1 own bps pc pcb real len lp .fsub = true) (h : istep prog clsT X call .fsub pc ls st M k = some r)
    (IH : ∀ (pc' : Nat) (ls' st' : List MV) (M' : Mem) (ad' : Nat → Nat), k pc' ls' st' M' = some r → SOK M' ls' st' → M.2.2.1 ≤ M'.2.2.1 → M.2.2.2 ≤ M'.2.2.2 → ls'.length = ls.length → M.1.length ≤ M'.1.length → (∀ a, a < M.1.length → ad' a = ad a) → GO p l e R s m args below meth c Q nL D cs xa A c0 s0 ad' M' (bps.getD pc' 0) ls' st') : GO p l e R s m args below meth c Q nL D cs xa A c0 s0 ad M pcb ls st := by
  have ha2 : (goN pcb len (bps.getD (pc + 1) 0) real (.invokestatic (ixOf real)) 3 && lkIs own lp 1 (ixOf real) 261) = true := ha
  rw [Bool.and_eq_true] at ha2
  obtain ⟨g, g1⟩ := ha2
  obtain ⟨er, rfl, hn⟩ := goN_ok g
  rw [er] at hd
  by_cases hwt : wt st ≤ 60
  case neg => rw [istep, if_neg hwt] at h; cases h
  rw [istep, if_pos hwt] at h
  obtain ⟨x, y, st', rfl, h2⟩ := bin_some h
  have hm := hmo _ _ _ _ h2
  have k2 := IH _ _ _ _ ad h2 (hst.pop.pop.push0 (by have a := hst.i32; have b := hst.pop.i32; split; exact a; exact b)) (Nat.le_refl _) (Nat.le_refl _) rfl (Nat.le_refl _) (fun _ _ => rfl)
  rw [hn] at k2
  intro H locs arr hP hD hS hL
  have k3 := k2 H locs arr hP hD hS hL
  have hlink : (Cond.methodLink (onm own) (ixOf real) (mth 261).1).before args s = true := lk_word hts g1 rfl
  rw [mth_min] at hlink
  have hw := wt_cat (ad := ad) (xa := xa) (st := st')
  have hwt : 1 + (1 + wt st') ≤ 60 := hwt
  rw [List.map_cons, List.map_cons, mrv0, mrv0]
  obtain ⟨m1, m2, m3, m4, m5⟩ := hF.2.2.2.2.2.2.2.2
  refine va_mmin hx hb (hml.trans hL.1.1.symm) hown hlink (hts _ m2) (hts _ m3) (hts _ m5) hRf (by omega) (by omega) (by omega) hd ?_
  rw [List.map_cons, mrv0] at k3
  have e : Int32.ofInt (if y < x then y else x) = (if Int32.ofInt y < Int32.ofInt x then Int32.ofInt y else Int32.ofInt x) := by
    by_cases hxy : y < x
    · rw [if_pos hxy, if_pos ((i3_lt hst.i32 hst.pop.i32).mpr hxy)]
    · rw [if_neg hxy, if_neg (fun q => hxy ((i3_lt hst.i32 hst.pop.i32).mp q))]
  rw [e] at k3
  exact k3
theorem st_new (hx : p.tables.exec = Jvm.exec) (hb : c.code = cc) (hts : ∀ w ∈ GW, w.before args s = true) (hown : s.vm.findClass (onm own) = some m.cls) (hK : va_K D vwCl (tysOf cs) s) (hA : ∀ q, s.heap.size ≤ q → A q) (hF : MFALL) (hc0 : c0 ≤ M.2.2.1) (hs0 : s0 ≤ M.2.2.2) (hmo : ∀ (pc' : Nat) (ls' st' : List MV) (M' : Mem), k pc' ls' st' M' = some r → M'.2.2.1 ≤ r.2.2.2.1 ∧ M'.2.2.2 ≤ r.2.2.2.2) (hRc : r.2.2.2.1 - c0 ≤ R.cells) (hRs : r.2.2.2.2 - s0 ≤ R.slots) {n : Nat} (hst : SOK M ls st) (hd : decode cc pcb = .ok (real, len)) (ha : agr1 own bps pc pcb real len lp (.new n) = true) (h : istep prog clsT X call (.new n) pc ls st M k = some r)
    (IH : ∀ (pc' : Nat) (ls' st' : List MV) (M' : Mem) (ad' : Nat → Nat), k pc' ls' st' M' = some r → SOK M' ls' st' → M.2.2.1 ≤ M'.2.2.1 → M.2.2.2 ≤ M'.2.2.2 → ls'.length = ls.length → M.1.length ≤ M'.1.length → (∀ a, a < M.1.length → ad' a = ad a) → GO p l e R s m args below meth c Q nL D cs xa A c0 s0 ad' M' (bps.getD pc' 0) ls' st') : GO p l e R s m args below meth c Q nL D cs xa A c0 s0 ad M pcb ls st := by
  have ha2 : (goN pcb len (bps.getD (pc + 1) 0) real (.new (ixOf real)) 3 && lkIs own lp 3 (ixOf real) n && decide (n < 13)) = true := ha
  simp only [Bool.and_eq_true, decide_eq_true_eq] at ha2
  obtain ⟨⟨g, g1⟩, g2⟩ := ha2
  obtain ⟨er, rfl, hn⟩ := goN_ok g
  rw [er] at hd
  have h9 : k (pc + 1) ls ((2, nx M) :: st) (growF M n (clsT.getD n []).length (fDef (clsT.getD n []))) = some r := h
  have hm := hmo _ _ _ _ h9
  have m1 : MOK (growF M n (clsT.getD n []).length (fDef (clsT.getD n []))) := MOK_grow hst.1 (Or.inl ⟨g2, rfl⟩) (clsT_len n) (fun j hj => ?_)
  · have hw := hF.2.2.2.2.1 n g2
    refine go_new hx hb hts hown hK hA g2 (lk_word hts g1 rfl) (hts _ hw.1) (hts _ hw.2) hst.1 hst.2.1 hst.2.2 hc0 hs0 (by have z : M.2.2.1 + 1 ≤ _ := hm.1; omega) (by have z : M.2.2.2 + (clsT.getD n []).length ≤ _ := hm.2; omega) hd (fun q => ?_)
    have k2 := IH _ _ _ _ (mup ad M.1.length q) h9 (SOK_grow hst m1) (by show M.2.2.1 ≤ M.2.2.1 + 1; omega) (by show M.2.2.2 ≤ M.2.2.2 + _; omega) rfl (by show M.1.length ≤ (M.1 ++ _).length; simp) (fun a ha => mup_lt ha)
    rw [hn] at k2
    exact k2
  · rw [tgt, if_pos (by omega)]
    have hlt := fTag_lt n j
    refine ⟨by show fTag n j ≤ 3; omega, fun z => ?_, fun z => ?_, fun z => ?_⟩
    · show in32 _; unfold fDef; split <;> (unfold in32; omega)
    · show in64 _; unfold fDef; split <;> (unfold in64; omega)
    · show fDef _ j < _
      unfold fDef nx
      split <;> omega
theorem st_newarray (hx : p.tables.exec = Jvm.exec) (hb : c.code = cc) (hts : ∀ w ∈ GW, w.before args s = true) (hown : s.vm.findClass (onm own) = some m.cls) (hK : va_K D vwCl (tysOf cs) s) (hA : ∀ q, s.heap.size ≤ q → A q) (hF : MFALL) (hc0 : c0 ≤ M.2.2.1) (hs0 : s0 ≤ M.2.2.2) (hmo : ∀ (pc' : Nat) (ls' st' : List MV) (M' : Mem), k pc' ls' st' M' = some r → M'.2.2.1 ≤ r.2.2.2.1 ∧ M'.2.2.2 ≤ r.2.2.2.2) (hRc : r.2.2.2.1 - c0 ≤ R.cells) (hRs : r.2.2.2.2 - s0 ≤ R.slots) {t : ArrayType} (hst : SOK M ls st) (hd : decode cc pcb = .ok (real, len)) (ha : agr1 own bps pc pcb real len lp (.newarray t) = true) (h : istep prog clsT X call (.newarray t) pc ls st M k = some r)
    (IH : ∀ (pc' : Nat) (ls' st' : List MV) (M' : Mem) (ad' : Nat → Nat), k pc' ls' st' M' = some r → SOK M' ls' st' → M.2.2.1 ≤ M'.2.2.1 → M.2.2.2 ≤ M'.2.2.2 → ls'.length = ls.length → M.1.length ≤ M'.1.length → (∀ a, a < M.1.length → ad' a = ad a) → GO p l e R s m args below meth c Q nL D cs xa A c0 s0 ad' M' (bps.getD pc' 0) ls' st') : GO p l e R s m args below meth c Q nL D cs xa A c0 s0 ad M pcb ls st := by
  have ha2 : (goN pcb len (bps.getD (pc + 1) 0) real (.newarray t) 2 && decide (t = .int ∨ t = .long ∨ t = .boolean ∨ t = .byte)) = true := ha
  rw [Bool.and_eq_true, decide_eq_true_eq] at ha2
  obtain ⟨g, g1⟩ := ha2
  obtain ⟨rfl, rfl, hn⟩ := goN_ok g
  match st, h, hst with
  | (tn, n) :: st', h, hst =>
    have h9 : (if tn = 0 ∧ 0 ≤ n ∧ n ≤ 20000 then k (pc + 1) ls ((2, nx M) :: st') (growF M (aKind t) n.toNat (fun _ => 0)) else none) = some r := h
    by_cases hc : tn = 0 ∧ 0 ≤ n ∧ n ≤ 20000
    · rw [if_pos hc] at h9
      obtain ⟨rfl, hn0, hn1⟩ := hc
      have fin : ∀ k4, (t = .int ∧ k4 = 0) ∨ (t = .long ∧ k4 = 1) ∨ (t = .boolean ∧ k4 = 2) ∨ (t = .byte ∧ k4 = 3) → (Cond.arrayClass (newarray.typeOf t)).before args s = true → k (pc + 1) ls ((2, nx M) :: st') (growF M (100 + k4) n.toNat (fun _ => 0)) = some r → GO p l e R s m args below meth c Q nL D cs xa A c0 s0 ad M pcb ls ((0, n) :: st') := by
        intro k4 hk4 hw h9
        have hm := hmo _ _ _ _ h9
        have m1 : MOK (growF M (100 + k4) n.toNat (fun _ => 0)) := MOK_grow hst.1 (Or.inr (by omega)) (by omega) (fun j hj => by
          rw [tgt, if_neg (by omega)]
          have h01 : aTag (100 + k4) = 0 ∨ aTag (100 + k4) = 1 := by rcases hk4 with ⟨_, rfl⟩ | ⟨_, rfl⟩ | ⟨_, rfl⟩ | ⟨_, rfl⟩ <;> decide
          rcases h01 with z | z <;> rw [z]
          · exact vok0 in32_0
          · exact vok1 (by unfold in64; omega))
        refine go_newarray hx hb hK hA k4 hk4 hw hn0 hn1 hst.1 hst.2.1 hst.pop.2.2 hc0 hs0 (by have z : M.2.2.1 + 1 ≤ _ := hm.1; omega) (by have z : M.2.2.2 + n.toNat ≤ _ := hm.2; omega) hd (fun q => ?_)
        have k2 := IH _ _ _ _ (mup ad M.1.length q) h9 (SOK_grow hst.pop m1) (by show M.2.2.1 ≤ M.2.2.1 + 1; omega) (by show M.2.2.2 ≤ M.2.2.2 + _; omega) rfl (by show M.1.length ≤ (M.1 ++ _).length; simp) (fun a ha => mup_lt ha)
        rw [hn] at k2
        exact k2
      obtain ⟨w1, w2, w3, w4⟩ := hF.2.2.2.2.2.1
      rcases g1 with rfl | rfl | rfl | rfl
      · exact fin 0 (by simp) (hts _ w1) h9
      · exact fin 1 (by simp) (hts _ w2) h9
      · exact fin 2 (by simp) (hts _ w3) h9
      · exact fin 3 (by simp) (hts _ w4) h9
    · rw [if_neg hc] at h9; cases h9
theorem st_anewarray (hx : p.tables.exec = Jvm.exec) (hb : c.code = cc) (hts : ∀ w ∈ GW, w.before args s = true) (hown : s.vm.findClass (onm own) = some m.cls) (hK : va_K D vwCl (tysOf cs) s) (hA : ∀ q, s.heap.size ≤ q → A q) (hc0 : c0 ≤ M.2.2.1) (hs0 : s0 ≤ M.2.2.2) (hmo : ∀ (pc' : Nat) (ls' st' : List MV) (M' : Mem), k pc' ls' st' M' = some r → M'.2.2.1 ≤ r.2.2.2.1 ∧ M'.2.2.2 ≤ r.2.2.2.2) (hRc : r.2.2.2.1 - c0 ≤ R.cells) (hRs : r.2.2.2.2 - s0 ≤ R.slots) (hNW : NWOK s) {n7 : Nat} (hst : SOK M ls st) (hd : decode cc pcb = .ok (real, len)) (ha : agr1 own bps pc pcb real len lp (.anewarray n7) = true) (h : istep prog clsT X call (.anewarray n7) pc ls st M k = some r)
    (IH : ∀ (pc' : Nat) (ls' st' : List MV) (M' : Mem) (ad' : Nat → Nat), k pc' ls' st' M' = some r → SOK M' ls' st' → M.2.2.1 ≤ M'.2.2.1 → M.2.2.2 ≤ M'.2.2.2 → ls'.length = ls.length → M.1.length ≤ M'.1.length → (∀ a, a < M.1.length → ad' a = ad a) → GO p l e R s m args below meth c Q nL D cs xa A c0 s0 ad' M' (bps.getD pc' 0) ls' st') : GO p l e R s m args below meth c Q nL D cs xa A c0 s0 ad M pcb ls st := by
  have ha2 : (goN pcb len (bps.getD (pc + 1) 0) real (.anewarray (ixOf real)) 3 && lkIs own lp 3 (ixOf real) n7 && decide (n7 = 7)) = true := ha
  simp only [Bool.and_eq_true, decide_eq_true_eq] at ha2
  obtain ⟨⟨g, g1⟩, rfl⟩ := ha2
  obtain ⟨er, rfl, hn⟩ := goN_ok g
  rw [er] at hd
  match st, h, hst with
  | (tn, n) :: st', h, hst =>
    have h9 : (if tn = 0 ∧ 0 ≤ n ∧ n ≤ 20000 then k (pc + 1) ls ((2, nx M) :: st') (growF M 104 n.toNat (fun _ => -1)) else none) = some r := h
    by_cases hc : tn = 0 ∧ 0 ≤ n ∧ n ≤ 20000
    · rw [if_pos hc] at h9
      obtain ⟨rfl, hn0, hn1⟩ := hc
      have hm := hmo _ _ _ _ h9
      have m1 : MOK (growF M 104 n.toNat (fun _ => -1)) := MOK_grow hst.1 (Or.inr (by omega)) (by omega) (fun j hj => vok2 (by unfold nx; omega))
      refine go_anew hx hb hown hK hA (lk_word hts g1 rfl) hNW.2.1 hn0 hn1 hst.1 hst.2.1 hst.pop.2.2 hc0 hs0 (by have z : M.2.2.1 + 1 ≤ _ := hm.1; omega) (by have z : M.2.2.2 + n.toNat ≤ _ := hm.2; omega) hd (fun q => ?_)
      have k2 := IH _ _ _ _ (mup ad M.1.length q) h9 (SOK_grow hst.pop m1) (by show M.2.2.1 ≤ M.2.2.1 + 1; omega) (by show M.2.2.2 ≤ M.2.2.2 + _; omega) rfl (by show M.1.length ≤ (M.1 ++ _).length; simp) (fun a ha => mup_lt ha)
      rw [hn] at k2
      exact k2
    · rw [if_neg hc] at h9; cases h9
theorem st_pop (hx : p.tables.exec = Jvm.exec) (hb : c.code = cc) (hml : c.maxLocals = nL) (hts : ∀ w ∈ GW, w.before args s = true) (hown : s.vm.findClass (onm own) = some m.cls) (hF : MFALL) (hRf : 1 ≤ R.frames) (hRl : 100 ≤ R.locals) (hst : SOK M ls st) (hd : decode cc pcb = .ok (real, len)) (ha : agr1 own bps pc pcb real len lp .pop = true) (h : istep prog clsT X call .pop pc ls st M k = some r)
    (IH : ∀ (pc' : Nat) (ls' st' : List MV) (M' : Mem) (ad' : Nat → Nat), k pc' ls' st' M' = some r → SOK M' ls' st' → M.2.2.1 ≤ M'.2.2.1 → M.2.2.2 ≤ M'.2.2.2 → ls'.length = ls.length → M.1.length ≤ M'.1.length → (∀ a, a < M.1.length → ad' a = ad a) → GO p l e R s m args below meth c Q nL D cs xa A c0 s0 ad' M' (bps.getD pc' 0) ls' st') : GO p l e R s m args below meth c Q nL D cs xa A c0 s0 ad M pcb ls st := by
  have ha2 : (goN pcb len (bps.getD (pc + 1) 0) real (.invokespecial (ixOf real)) 3 && lkIs own lp 8 (ixOf real) 0) = true := ha
  rw [Bool.and_eq_true] at ha2
  obtain ⟨g, g1⟩ := ha2
  obtain ⟨er, rfl, hn⟩ := goN_ok g
  rw [er] at hd
  match st, h, hst with
  | (tx, x) :: st', h, hst =>
    have h9 : (if tx = 2 ∧ 0 ≤ x ∧ wt st' ≤ 60 then k (pc + 1) ls st' M else none) = some r := h
    by_cases hc : tx = 2 ∧ 0 ≤ x ∧ wt st' ≤ 60
    · rw [if_pos hc] at h9
      obtain ⟨rfl, hx0, hw⟩ := hc
      have k2 := IH _ _ _ _ ad h9 hst.pop (Nat.le_refl _) (Nat.le_refl _) rfl (Nat.le_refl _) (fun _ _ => rfl)
      rw [hn] at k2
      exact go_objInit hx hb hml hown (lk_word hts g1 rfl) (hts _ hF.2.2.2.2.2.2.1.1) (hts _ hF.2.2.2.2.2.2.1.2) hx0 hRf (by omega) hd k2
    · rw [if_neg hc] at h9; cases h9
theorem st_fmul (hx : p.tables.exec = Jvm.exec) (hb : c.code = cc) (hml : c.maxLocals = nL) (hts : ∀ w ∈ GW, w.before args s = true) (hown : s.vm.findClass (onm own) = some m.cls) (hK : va_K D vwCl (tysOf cs) s) (hF : MFALL) (hRf : 1 ≤ R.frames) (hRl : 300 ≤ R.locals) (hst : SOK M ls st) (hd : decode cc pcb = .ok (real, len)) (ha : agr1 own bps pc pcb real len lp .fmul = true) (h : istep prog clsT X call .fmul pc ls st M k = some r)
    (IH : ∀ (pc' : Nat) (ls' st' : List MV) (M' : Mem) (ad' : Nat → Nat), k pc' ls' st' M' = some r → SOK M' ls' st' → M.2.2.1 ≤ M'.2.2.1 → M.2.2.2 ≤ M'.2.2.2 → ls'.length = ls.length → M.1.length ≤ M'.1.length → (∀ a, a < M.1.length → ad' a = ad a) → GO p l e R s m args below meth c Q nL D cs xa A c0 s0 ad' M' (bps.getD pc' 0) ls' st') : GO p l e R s m args below meth c Q nL D cs xa A c0 s0 ad M pcb ls st := by
  have ha2 : (goN pcb len (bps.getD (pc + 1) 0) real (.invokestatic (ixOf real)) 3 && lkIs own lp 9 (ixOf real) 0) = true := ha
  rw [Bool.and_eq_true] at ha2
  obtain ⟨g, g1⟩ := ha2
  obtain ⟨er, rfl, hn⟩ := goN_ok g
  rw [er] at hd
  match st, h, hst with
  | (tn, n) :: (tq, dp) :: (td, d) :: (tp, sp) :: (ts, x) :: st', h, hst =>
    have h9 : (if tn = 0 ∧ tq = 0 ∧ td = 2 ∧ tp = 0 ∧ ts = 2 ∧ wt st' ≤ 60 then (acopy M x sp d dp n).bind fun M' => k (pc + 1) ls st' M' else none) = some r := h
    by_cases hc : tn = 0 ∧ tq = 0 ∧ td = 2 ∧ tp = 0 ∧ ts = 2 ∧ wt st' ≤ 60
    · rw [if_pos hc] at h9
      obtain ⟨rfl, rfl, rfl, rfl, rfl, hw⟩ := hc
      obtain ⟨M', h1, h2⟩ := bind_some h9
      obtain ⟨g5, rfl⟩ := acopy_some h1
      have m1 := MOK_copy hst.1 h1
      have k2 := IH _ _ _ _ ad h2 ⟨m1, hst.2.1, hst.pop.pop.pop.pop.pop.2.2⟩ (Nat.le_refl _) (Nat.le_refl _) rfl (Nat.le_refl _) (fun _ _ => rfl)
      rw [hn] at k2
      exact go_acopy hx hb hml hK hown (lk_word hts g1 rfl) (hts _ hF.2.2.2.2.2.2.2.1.1) (hts _ hF.2.2.2.2.2.2.2.1.2.1) (hts _ hF.2.2.2.2.2.2.2.1.2.2) hst.pop.pop.pop.i32 hst.pop.i32 hst.i32 h1 hRf (by omega) hd k2
    · rw [if_neg hc] at h9; cases h9
theorem st_tab (hx : p.tables.exec = Jvm.exec) (hb : c.code = cc) {d lo hi : Int} {offs : Array Int} (hst : SOK M ls st) (hd : decode cc pcb = .ok (real, len)) (ha : agr1 own bps pc pcb real len lp (.tableswitch d lo hi offs) = true) (h : istep prog clsT X call (.tableswitch d lo hi offs) pc ls st M k = some r)
    (IH : ∀ (pc' : Nat) (ls' st' : List MV) (M' : Mem) (ad' : Nat → Nat), k pc' ls' st' M' = some r → SOK M' ls' st' → M.2.2.1 ≤ M'.2.2.1 → M.2.2.2 ≤ M'.2.2.2 → ls'.length = ls.length → M.1.length ≤ M'.1.length → (∀ a, a < M.1.length → ad' a = ad a) → GO p l e R s m args below meth c Q nL D cs xa A c0 s0 ad' M' (bps.getD pc' 0) ls' st') : GO p l e R s m args below meth c Q nL D cs xa A c0 s0 ad M pcb ls st := by
  cases real with
  | tableswitch d' lo' hi' offs' =>
    have ha2 : (decide (lo = lo') && decide (hi = hi') && decide ((pcb : Int) + d' = (bps.getD d.toNat 0 : Int)) && decide (offs.size = offs'.size) && (List.range offs.size).all (fun i => decide ((pcb : Int) + offs'.getD i 0 = (bps.getD (offs.getD i 0).toNat 0 : Int)))) = true := ha
    simp only [Bool.and_eq_true, decide_eq_true_eq] at ha2
    obtain ⟨⟨⟨⟨rfl, rfl⟩, hd0⟩, hsz⟩, hall⟩ := ha2
    match st, h, hst with
    | (tx, x) :: st', h, hst =>
      have h9 : (if tx = 0 then (if x < lo ∨ hi < x then k d.toNat ls st' M else (offs[(x - lo).toNat]?).bind fun t => k t.toNat ls st' M) else none) = some r := h
      by_cases hc : tx = 0
      · rw [if_pos hc] at h9
        subst hc
        by_cases hout : x < lo ∨ hi < x
        · rw [if_pos hout] at h9
          exact go_tabOut hx hb hst.i32 hout hd hd0 (IH _ _ _ _ ad h9 hst.pop (Nat.le_refl _) (Nat.le_refl _) rfl (Nat.le_refl _) (fun _ _ => rfl))
        · rw [if_neg hout] at h9
          obtain ⟨t, h1, h2⟩ := bind_some h9
          have hlt : (x - lo).toNat < offs.size := (Array.getElem?_eq_some_iff.mp h1).1
          have h3 := List.all_eq_true.mp hall (x - lo).toNat (List.mem_range.mpr hlt)
          have h3 := decide_eq_true_eq.mp h3
          have e1 : offs.getD (x - lo).toNat 0 = t := by rw [Array.getD_eq_getD_getElem?, h1]; rfl
          have hlt2 : (x - lo).toNat < offs'.size := by omega
          have e2 : offs'[(x - lo).toNat]? = some (offs'.getD (x - lo).toNat 0) := by rw [Array.getD_eq_getD_getElem?, Array.getElem?_eq_getElem hlt2]; rfl
          rw [e1] at h3
          exact go_tabIn hx hb hst.i32 hout hd e2 h3 (IH _ _ _ _ ad h2 hst.pop (Nat.le_refl _) (Nat.le_refl _) rfl (Nat.le_refl _) (fun _ _ => rfl))
      · rw [if_neg hc] at h9; cases h9
  | _ => cases ha
end STEP3
