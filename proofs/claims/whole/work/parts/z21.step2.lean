/-! Part 21: constants, branches, arrays, fields. -/
theorem lk_word {own lp kd ix : Nat} {t : Int} {s : State} {args : Array Value} (hts : ∀ w ∈ GW, w.before args s = true) (h : lkIs own lp kd ix t = true) (hg : goodWord (lkW own (kd, ix, t)) = true) : (lkW own (kd, ix, t)).before args s = true := hts _ (GW_of (lkIs_ok h) hg)
theorem lkIs_mem {own lp kd ix : Nat} {t : Int} (h : lkIs own lp kd ix t = true) : ∃ q, q ∈ lksL.getD own [] ∧ q.1 = (kd, ix, t) := by
  unfold lkIs at h
  cases hq : (lksL.getD own [])[lp]? with
  | none => rw [hq] at h; cases h
  | some q => rw [hq] at h; exact ⟨q, List.mem_of_getElem? hq, decide_eq_true_eq.mp h⟩
theorem lkStr_ok (own : Nat) (q : (Nat × Nat × Int) × Nat) (h : q ∈ lksL.getD own []) (h6 : q.1.1 = 6) : q.1.2.2 < -1 := by
  have key : ∀ l ∈ lksL, ∀ q ∈ l, q.1.1 = 6 → q.1.2.2 < -1 := by decide +kernel
  rw [List.getD_eq_getElem?_getD] at h
  cases hl : lksL[own]? with
  | none => rw [hl] at h; cases h
  | some l => rw [hl] at h; exact key l (List.mem_of_getElem? hl) q h h6
theorem own_nm : ∀ own, own < 13 → (vwCl.getD own ("", fun _ => ("", "", "", false), 0)).1 = onm own := by decide +kernel
theorem alen_ok {X : MExt} {xa : Int → Option Nat} {A : Nat → Prop} {s : State} {M : Mem} {x n : Int} (hM : MOK M) (hE : EXTOK X xa A s s.heap) (h : alen X M x = some n) : in32 n := by
  unfold alen at h
  by_cases h0 : 0 ≤ x
  · rw [if_pos h0] at h
    by_cases h1 : 100 ≤ (lay? M x).1 ∧ (lay? M x).1 < 106
    · rw [if_pos h1] at h
      have h := Option.some.inj h
      obtain ⟨-, hq⟩ := lay_some (M := M) (x := x) (by omega)
      have := (hM _ _ hq).2.1
      unfold in32
      omega
    · rw [if_neg h1] at h; cases h
  · rw [if_neg h0] at h
    by_cases hx1 : x < -1
    · rw [if_pos hx1] at h
      by_cases h1 : 100 ≤ (X x).1 ∧ (X x).1 < 104
      · rw [if_pos h1] at h
        have h := Option.some.inj h
        have := hE.2.2.2.2.2.2.1 x
        unfold in32
        omega
      · rw [if_neg h1] at h; cases h
    · rw [if_neg hx1] at h; cases h
section STEP2
variable {p : Program} {l : Launch} {e : Env} {R : Room} {s : State} {m : MethodId} {args : Array Value} {below : List Frame} {meth : Method} {c : Code} {Q : State → Prop} {nL : Nat} {D : va_G} {cs : Nat → ClassId} {xa : Int → Option Nat} {A : Nat → Prop} {c0 s0 : Nat} {ad : Nat → Nat} {M : Mem} {pcb pc : Nat} {ls st : List MV} {cc : ByteArray} {X : MExt} {own len lp : Nat} {real : Instr} {bps : List Nat} {call : MC} {k : MK} {r : MRes}

theorem st_sipush (hx : p.tables.exec = Jvm.exec) (hb : c.code = cc) (hts : ∀ w ∈ GW, w.before args s = true) (hown : s.vm.findClass (onm own) = some m.cls) (hE : EXTOK X xa A s s.heap) {v : Int} (hst : SOK M ls st) (hd : decode cc pcb = .ok (real, len)) (ha : agr1 own bps pc pcb real len lp (.sipush v) = true) (h : istep prog clsT X call (.sipush v) pc ls st M k = some r)
    (IH : ∀ (pc' : Nat) (ls' st' : List MV) (M' : Mem) (ad' : Nat → Nat), k pc' ls' st' M' = some r → SOK M' ls' st' → M.2.2.1 ≤ M'.2.2.1 → M.2.2.2 ≤ M'.2.2.2 → ls'.length = ls.length → M.1.length ≤ M'.1.length → (∀ a, a < M.1.length → ad' a = ad a) → GO p l e R s m args below meth c Q nL D cs xa A c0 s0 ad' M' (bps.getD pc' 0) ls' st') : GO p l e R s m args below meth c Q nL D cs xa A c0 s0 ad M pcb ls st := by
  have ha2 : (is32 v && ((goN pcb len (bps.getD (pc + 1) 0) real (.iconst v) 1) || (goN pcb len (bps.getD (pc + 1) 0) real (.bipush v) 2 && decide ((Int8.ofInt v).toInt32 = Int32.ofInt v)) || (goN pcb len (bps.getD (pc + 1) 0) real (.sipush v) 3 && decide ((Int16.ofInt v).toInt32 = Int32.ofInt v)) || (goN pcb len (bps.getD (pc + 1) 0) real (.ldc (ixOf real)) 2 && lkIs own lp 5 (ixOf real) v) || (goN pcb len (bps.getD (pc + 1) 0) real (.ldc_w (ixOf real)) 3 && lkIs own lp 5 (ixOf real) v) || (goN pcb len (bps.getD (pc + 1) 0) real (.getstatic (ixOf real)) 3 && lkIs own lp 7 (ixOf real) 1 && decide (v = 1)))) = true := ha
  simp only [Bool.and_eq_true, Bool.or_eq_true, decide_eq_true_eq] at ha2
  obtain ⟨h32, ha2⟩ := ha2
  have k2 := IH _ _ _ _ ad h (hst.push0 (is32_ok h32)) (Nat.le_refl _) (Nat.le_refl _) rfl (Nat.le_refl _) (fun _ _ => rfl)
  rcases ha2 with ((((g | ⟨g, g2⟩) | ⟨g, g2⟩) | ⟨g, g2⟩) | ⟨g, g2⟩) | ⟨⟨g, g2⟩, g3⟩
  · obtain ⟨rfl, rfl, hn⟩ := goN_ok g
    rw [hn] at k2
    exact go_iconst hx hb hd k2
  · obtain ⟨rfl, rfl, hn⟩ := goN_ok g
    rw [hn] at k2
    exact go_bipush hx hb hd g2 k2
  · obtain ⟨rfl, rfl, hn⟩ := goN_ok g
    rw [hn] at k2
    exact go_sipush hx hb hd g2 k2
  · obtain ⟨e, rfl, hn⟩ := goN_ok g
    rw [hn] at k2
    rw [e] at hd
    exact go_ldcI hx hb hown (lk_word hts g2 rfl) hd k2
  · obtain ⟨e, rfl, hn⟩ := goN_ok g
    rw [hn] at k2
    rw [e] at hd
    exact go_ldcwI hx hb hown (lk_word hts g2 rfl) hd k2
  · obtain ⟨e, rfl, hn⟩ := goN_ok g
    rw [hn] at k2
    rw [e] at hd
    subst g3
    exact go_gets hx hb (v := (0, 1)) hE.2.2.2.1.1 hown (lk_word hts g2 rfl) (fun _ h => h) hd k2
theorem st_bipush (hx : p.tables.exec = Jvm.exec) (hb : c.code = cc) (hts : ∀ w ∈ GW, w.before args s = true) (hown : s.vm.findClass (onm own) = some m.cls) {v : Int} (hst : SOK M ls st) (hd : decode cc pcb = .ok (real, len)) (ha : agr1 own bps pc pcb real len lp (.bipush v) = true) (h : istep prog clsT X call (.bipush v) pc ls st M k = some r)
    (IH : ∀ (pc' : Nat) (ls' st' : List MV) (M' : Mem) (ad' : Nat → Nat), k pc' ls' st' M' = some r → SOK M' ls' st' → M.2.2.1 ≤ M'.2.2.1 → M.2.2.2 ≤ M'.2.2.2 → ls'.length = ls.length → M.1.length ≤ M'.1.length → (∀ a, a < M.1.length → ad' a = ad a) → GO p l e R s m args below meth c Q nL D cs xa A c0 s0 ad' M' (bps.getD pc' 0) ls' st') : GO p l e R s m args below meth c Q nL D cs xa A c0 s0 ad M pcb ls st := by
  have ha2 : (is64 v && ((goN pcb len (bps.getD (pc + 1) 0) real (.lconst 0) 1 && decide (v = 0)) || (goN pcb len (bps.getD (pc + 1) 0) real (.lconst 1) 1 && decide (v = 1)) || (goN pcb len (bps.getD (pc + 1) 0) real (.ldc2_w (ixOf real)) 3 && lkIs own lp 4 (ixOf real) v))) = true := ha
  simp only [Bool.and_eq_true, Bool.or_eq_true, decide_eq_true_eq] at ha2
  obtain ⟨h64, ha2⟩ := ha2
  have k2 := IH _ _ _ _ ad h (hst.push1 (is64_ok h64)) (Nat.le_refl _) (Nat.le_refl _) rfl (Nat.le_refl _) (fun _ _ => rfl)
  rcases ha2 with (⟨g, g2⟩ | ⟨g, g2⟩) | ⟨g, g2⟩
  · obtain ⟨rfl, rfl, hn⟩ := goN_ok g
    rw [hn] at k2
    subst g2
    exact go_lconst hx hb rfl hd k2
  · obtain ⟨rfl, rfl, hn⟩ := goN_ok g
    rw [hn] at k2
    subst g2
    exact go_lconst hx hb rfl hd k2
  · obtain ⟨e, rfl, hn⟩ := goN_ok g
    rw [hn] at k2
    rw [e] at hd
    exact go_ldc2 hx hb hown (lk_word hts g2 rfl) hd k2
theorem st_ldc (hx : p.tables.exec = Jvm.exec) (hb : c.code = cc) (hts : ∀ w ∈ GW, w.before args s = true) (hown : s.vm.findClass (onm own) = some m.cls) (hE : EXTOK X xa A s s.heap) {n : Nat} (hst : SOK M ls st) (hd : decode cc pcb = .ok (real, len)) (ha : agr1 own bps pc pcb real len lp (.ldc n) = true) (h : istep prog clsT X call (.ldc n) pc ls st M k = some r)
    (IH : ∀ (pc' : Nat) (ls' st' : List MV) (M' : Mem) (ad' : Nat → Nat), k pc' ls' st' M' = some r → SOK M' ls' st' → M.2.2.1 ≤ M'.2.2.1 → M.2.2.2 ≤ M'.2.2.2 → ls'.length = ls.length → M.1.length ≤ M'.1.length → (∀ a, a < M.1.length → ad' a = ad a) → GO p l e R s m args below meth c Q nL D cs xa A c0 s0 ad' M' (bps.getD pc' 0) ls' st') : GO p l e R s m args below meth c Q nL D cs xa A c0 s0 ad M pcb ls st := by
  have ha2 : ((goN pcb len (bps.getD (pc + 1) 0) real (.ldc (ixOf real)) 2 && lkIs own lp 6 (ixOf real) (-(n : Int))) || (goN pcb len (bps.getD (pc + 1) 0) real (.ldc_w (ixOf real)) 3 && lkIs own lp 6 (ixOf real) (-(n : Int)) && decide (n = 0)) || (goN pcb len (bps.getD (pc + 1) 0) real (.getstatic (ixOf real)) 3 && lkIs own lp 7 (ixOf real) (-(n : Int)) && decide (3 ≤ n ∧ n ≤ 5))) = true := ha
  simp only [Bool.and_eq_true, Bool.or_eq_true, decide_eq_true_eq] at ha2
  rcases ha2 with (⟨g, g2⟩ | ⟨⟨g, g2⟩, g3⟩) | ⟨⟨g, g2⟩, g3, g4⟩
  · obtain ⟨e, rfl, hn⟩ := goN_ok g
    rw [e] at hd
    obtain ⟨q, hq, hq2⟩ := lkIs_mem g2
    obtain ⟨a, e1, e2⟩ := hE.2.2.2.2.1 own q hq (by rw [hq2])
    rw [hq2] at e1 e2
    have h10 : -(n : Int) < -1 := by
      have := lkStr_ok own q hq (by rw [hq2])
      rw [hq2] at this
      exact this
    have k2 := IH _ _ _ _ ad h (hst.push2 (by unfold nx; omega)) (Nat.le_refl _) (Nat.le_refl _) rfl (Nat.le_refl _) (fun _ _ => rfl)
    rw [hn] at k2
    exact go_ldcS hx hb hown e2 e1 h10 hd k2
  · obtain ⟨q, hq, hq2⟩ := lkIs_mem g2
    have := lkStr_ok own q hq (by rw [hq2])
    rw [hq2] at this
    subst g3
    have this : -((0 : Nat) : Int) < -1 := this
    omega
  · obtain ⟨e, rfl, hn⟩ := goN_ok g
    rw [e] at hd
    have k2 := IH _ _ _ _ ad h (hst.push2 (by unfold nx; omega)) (Nat.le_refl _) (Nat.le_refl _) rfl (Nat.le_refl _) (fun _ _ => rfl)
    rw [hn] at k2
    have hz := hE.2.2.2.1
    have h345 : n = 3 ∨ n = 4 ∨ n = 5 := by omega
    rcases h345 with rfl | rfl | rfl
    · exact go_gets hx hb (v := (2, -3)) hz.2.1 hown (lk_word hts g2 rfl) (fun _ h => h) hd k2
    · exact go_gets hx hb (v := (2, -4)) hz.2.2.1 hown (lk_word hts g2 rfl) (fun _ h => h) hd k2
    · exact go_gets hx hb (v := (2, -5)) hz.2.2.2 hown (lk_word hts g2 rfl) (fun _ h => h) hd k2
theorem st_goto (hx : p.tables.exec = Jvm.exec) (hb : c.code = cc) {t : Int} (hst : SOK M ls st) (hd : decode cc pcb = .ok (real, len)) (ha : agr1 own bps pc pcb real len lp (.goto t) = true) (h : istep prog clsT X call (.goto t) pc ls st M k = some r)
    (IH : ∀ (pc' : Nat) (ls' st' : List MV) (M' : Mem) (ad' : Nat → Nat), k pc' ls' st' M' = some r → SOK M' ls' st' → M.2.2.1 ≤ M'.2.2.1 → M.2.2.2 ≤ M'.2.2.2 → ls'.length = ls.length → M.1.length ≤ M'.1.length → (∀ a, a < M.1.length → ad' a = ad a) → GO p l e R s m args below meth c Q nL D cs xa A c0 s0 ad' M' (bps.getD pc' 0) ls' st') : GO p l e R s m args below meth c Q nL D cs xa A c0 s0 ad M pcb ls st := by
  cases real with
  | goto off =>
    have ha2 : (decide (len = 3) && decide ((pcb : Int) + off = (bps.getD t.toNat 0 : Int))) = true := ha
    simp only [Bool.and_eq_true, decide_eq_true_eq] at ha2
    obtain ⟨rfl, ht⟩ := ha2
    exact go_goto hx hb hd ht (IH _ _ _ _ ad h hst (Nat.le_refl _) (Nat.le_refl _) rfl (Nat.le_refl _) (fun _ _ => rfl))
  | _ => cases ha
theorem st_icmp (hx : p.tables.exec = Jvm.exec) (hb : c.code = cc) {cnd : ClassFile.Cond} {t : Int} (hst : SOK M ls st) (hd : decode cc pcb = .ok (real, len)) (ha : agr1 own bps pc pcb real len lp (.if_icmp cnd t) = true) (h : istep prog clsT X call (.if_icmp cnd t) pc ls st M k = some r)
    (IH : ∀ (pc' : Nat) (ls' st' : List MV) (M' : Mem) (ad' : Nat → Nat), k pc' ls' st' M' = some r → SOK M' ls' st' → M.2.2.1 ≤ M'.2.2.1 → M.2.2.2 ≤ M'.2.2.2 → ls'.length = ls.length → M.1.length ≤ M'.1.length → (∀ a, a < M.1.length → ad' a = ad a) → GO p l e R s m args below meth c Q nL D cs xa A c0 s0 ad' M' (bps.getD pc' 0) ls' st') : GO p l e R s m args below meth c Q nL D cs xa A c0 s0 ad M pcb ls st := by
  cases real with
  | if_icmp c' off =>
    have ha2 : (decide (cnd = c') && decide (bps.getD (pc + 1) 0 = pcb + 3) && decide (len = 3) && decide ((pcb : Int) + off = (bps.getD t.toNat 0 : Int))) = true := ha
    simp only [Bool.and_eq_true, decide_eq_true_eq] at ha2
    obtain ⟨⟨⟨rfl, hn⟩, rfl⟩, ht⟩ := ha2
    match st, h, hst with
    | (ty, y) :: (tx, x) :: st', h, hst =>
      have h9 : (if tx = 0 ∧ ty = 0 then jmp (cmpI cnd x y) t.toNat pc ls st' M k else none) = some r := h
      by_cases hc : tx = 0 ∧ ty = 0
      · rw [if_pos hc] at h9
        obtain ⟨rfl, rfl⟩ := hc
        unfold jmp at h9
        refine go_icmp hx hb hst.pop.i32 hst.i32 hd ht (fun hcm => ?_) (fun hcm => ?_)
        · rw [if_pos hcm] at h9
          exact IH _ _ _ _ ad h9 hst.pop.pop (Nat.le_refl _) (Nat.le_refl _) rfl (Nat.le_refl _) (fun _ _ => rfl)
        · rw [if_neg (by rw [hcm]; decide)] at h9
          rw [← hn]
          exact IH _ _ _ _ ad h9 hst.pop.pop (Nat.le_refl _) (Nat.le_refl _) rfl (Nat.le_refl _) (fun _ _ => rfl)
      · rw [if_neg hc] at h9; cases h9
  | _ => cases ha
theorem st_if (hx : p.tables.exec = Jvm.exec) (hb : c.code = cc) {cnd : ClassFile.Cond} {t : Int} (hst : SOK M ls st) (hd : decode cc pcb = .ok (real, len)) (ha : agr1 own bps pc pcb real len lp (.ifCond cnd t) = true) (h : istep prog clsT X call (.ifCond cnd t) pc ls st M k = some r)
    (IH : ∀ (pc' : Nat) (ls' st' : List MV) (M' : Mem) (ad' : Nat → Nat), k pc' ls' st' M' = some r → SOK M' ls' st' → M.2.2.1 ≤ M'.2.2.1 → M.2.2.2 ≤ M'.2.2.2 → ls'.length = ls.length → M.1.length ≤ M'.1.length → (∀ a, a < M.1.length → ad' a = ad a) → GO p l e R s m args below meth c Q nL D cs xa A c0 s0 ad' M' (bps.getD pc' 0) ls' st') : GO p l e R s m args below meth c Q nL D cs xa A c0 s0 ad M pcb ls st := by
  cases real with
  | ifCond c' off =>
    have ha2 : (decide (cnd = c') && decide (bps.getD (pc + 1) 0 = pcb + 3) && decide (len = 3) && decide ((pcb : Int) + off = (bps.getD t.toNat 0 : Int))) = true := ha
    simp only [Bool.and_eq_true, decide_eq_true_eq] at ha2
    obtain ⟨⟨⟨rfl, hn⟩, rfl⟩, ht⟩ := ha2
    match st, h, hst with
    | (tx, x) :: st', h, hst =>
      have h9 : (if tx = 0 then jmp (cmpI cnd x 0) t.toNat pc ls st' M k else none) = some r := h
      by_cases hc : tx = 0
      · rw [if_pos hc] at h9
        subst hc
        unfold jmp at h9
        refine go_if hx hb hst.i32 hd ht (fun hcm => ?_) (fun hcm => ?_)
        · rw [if_pos hcm] at h9
          exact IH _ _ _ _ ad h9 hst.pop (Nat.le_refl _) (Nat.le_refl _) rfl (Nat.le_refl _) (fun _ _ => rfl)
        · rw [if_neg (by rw [hcm]; decide)] at h9
          rw [← hn]
          exact IH _ _ _ _ ad h9 hst.pop (Nat.le_refl _) (Nat.le_refl _) rfl (Nat.le_refl _) (fun _ _ => rfl)
      · rw [if_neg hc] at h9; cases h9
  | _ => cases ha
theorem st_ifnull (hx : p.tables.exec = Jvm.exec) (hb : c.code = cc) (h5 : ∀ x, x < -1 → x ≠ -5 → ∃ q, xa x = some q) {t : Int} (hst : SOK M ls st) (hd : decode cc pcb = .ok (real, len)) (ha : agr1 own bps pc pcb real len lp (.ifnull t) = true) (h : istep prog clsT X call (.ifnull t) pc ls st M k = some r)
    (IH : ∀ (pc' : Nat) (ls' st' : List MV) (M' : Mem) (ad' : Nat → Nat), k pc' ls' st' M' = some r → SOK M' ls' st' → M.2.2.1 ≤ M'.2.2.1 → M.2.2.2 ≤ M'.2.2.2 → ls'.length = ls.length → M.1.length ≤ M'.1.length → (∀ a, a < M.1.length → ad' a = ad a) → GO p l e R s m args below meth c Q nL D cs xa A c0 s0 ad' M' (bps.getD pc' 0) ls' st') : GO p l e R s m args below meth c Q nL D cs xa A c0 s0 ad M pcb ls st := by
  cases real with
  | ifnull off =>
    have ha2 : (decide (bps.getD (pc + 1) 0 = pcb + 3) && decide (len = 3) && decide ((pcb : Int) + off = (bps.getD t.toNat 0 : Int))) = true := ha
    simp only [Bool.and_eq_true, decide_eq_true_eq] at ha2
    obtain ⟨⟨hn, rfl⟩, ht⟩ := ha2
    match st, h, hst with
    | (tx, x) :: st', h, hst =>
      have h9 : (if tx = 2 ∧ x ≠ -5 then jmp (decide (x = -1)) t.toNat pc ls st' M k else none) = some r := h
      by_cases hc : tx = 2 ∧ x ≠ -5
      · rw [if_pos hc] at h9
        obtain ⟨rfl, hc5⟩ := hc
        unfold jmp at h9
        refine go_ifnull hx hb h5 hc5 hd ht (fun hcm => ?_) (fun hcm => ?_)
        · rw [if_pos (by simp [hcm])] at h9
          exact IH _ _ _ _ ad h9 hst.pop (Nat.le_refl _) (Nat.le_refl _) rfl (Nat.le_refl _) (fun _ _ => rfl)
        · rw [if_neg (by simp [hcm])] at h9
          rw [← hn]
          exact IH _ _ _ _ ad h9 hst.pop (Nat.le_refl _) (Nat.le_refl _) rfl (Nat.le_refl _) (fun _ _ => rfl)
      · rw [if_neg hc] at h9; cases h9
  | _ => cases ha
theorem st_ifnonnull (hx : p.tables.exec = Jvm.exec) (hb : c.code = cc) (h5 : ∀ x, x < -1 → x ≠ -5 → ∃ q, xa x = some q) {t : Int} (hst : SOK M ls st) (hd : decode cc pcb = .ok (real, len)) (ha : agr1 own bps pc pcb real len lp (.ifnonnull t) = true) (h : istep prog clsT X call (.ifnonnull t) pc ls st M k = some r)
    (IH : ∀ (pc' : Nat) (ls' st' : List MV) (M' : Mem) (ad' : Nat → Nat), k pc' ls' st' M' = some r → SOK M' ls' st' → M.2.2.1 ≤ M'.2.2.1 → M.2.2.2 ≤ M'.2.2.2 → ls'.length = ls.length → M.1.length ≤ M'.1.length → (∀ a, a < M.1.length → ad' a = ad a) → GO p l e R s m args below meth c Q nL D cs xa A c0 s0 ad' M' (bps.getD pc' 0) ls' st') : GO p l e R s m args below meth c Q nL D cs xa A c0 s0 ad M pcb ls st := by
  cases real with
  | ifnonnull off =>
    have ha2 : (decide (bps.getD (pc + 1) 0 = pcb + 3) && decide (len = 3) && decide ((pcb : Int) + off = (bps.getD t.toNat 0 : Int))) = true := ha
    simp only [Bool.and_eq_true, decide_eq_true_eq] at ha2
    obtain ⟨⟨hn, rfl⟩, ht⟩ := ha2
    match st, h, hst with
    | (tx, x) :: st', h, hst =>
      have h9 : (if tx = 2 ∧ x ≠ -5 then jmp (!decide (x = -1)) t.toNat pc ls st' M k else none) = some r := h
      by_cases hc : tx = 2 ∧ x ≠ -5
      · rw [if_pos hc] at h9
        obtain ⟨rfl, hc5⟩ := hc
        unfold jmp at h9
        refine go_ifnonnull hx hb h5 hc5 hd ht (fun hcm => ?_) (fun hcm => ?_)
        · rw [if_pos (by simp [hcm])] at h9
          exact IH _ _ _ _ ad h9 hst.pop (Nat.le_refl _) (Nat.le_refl _) rfl (Nat.le_refl _) (fun _ _ => rfl)
        · rw [if_neg (by simp [hcm])] at h9
          rw [← hn]
          exact IH _ _ _ _ ad h9 hst.pop (Nat.le_refl _) (Nat.le_refl _) rfl (Nat.le_refl _) (fun _ _ => rfl)
      · rw [if_neg hc] at h9; cases h9
  | _ => cases ha
theorem st_iaload (hx : p.tables.exec = Jvm.exec) (hb : c.code = cc) (hK : va_K D vwCl (tysOf cs) s) (hE : EXTOK X xa A s s.heap) (hst : SOK M ls st) (hd : decode cc pcb = .ok (real, len)) (ha : agr1 own bps pc pcb real len lp .iaload = true) (h : istep prog clsT X call .iaload pc ls st M k = some r)
    (IH : ∀ (pc' : Nat) (ls' st' : List MV) (M' : Mem) (ad' : Nat → Nat), k pc' ls' st' M' = some r → SOK M' ls' st' → M.2.2.1 ≤ M'.2.2.1 → M.2.2.2 ≤ M'.2.2.2 → ls'.length = ls.length → M.1.length ≤ M'.1.length → (∀ a, a < M.1.length → ad' a = ad a) → GO p l e R s m args below meth c Q nL D cs xa A c0 s0 ad' M' (bps.getD pc' 0) ls' st') : GO p l e R s m args below meth c Q nL D cs xa A c0 s0 ad M pcb ls st := by
  obtain ⟨rfl, rfl, hn⟩ := goN_ok ha
  obtain ⟨x, i, v, st', rfl, h1, h2⟩ := ald_some h
  have k2 := IH _ _ _ _ ad h2 (hst.pop.pop.push0 (aget_ok hst.1 hE.2.2.2.2.2.2.2 (Or.inl rfl) h1)) (Nat.le_refl _) (Nat.le_refl _) rfl (Nat.le_refl _) (fun _ _ => rfl)
  rw [hn] at k2
  exact go_iaload hx hb hK hE hst.i32 h1 hd k2
theorem st_baload (hx : p.tables.exec = Jvm.exec) (hb : c.code = cc) (hK : va_K D vwCl (tysOf cs) s) (hE : EXTOK X xa A s s.heap) (hst : SOK M ls st) (hd : decode cc pcb = .ok (real, len)) (ha : agr1 own bps pc pcb real len lp .baload = true) (h : istep prog clsT X call .baload pc ls st M k = some r)
    (IH : ∀ (pc' : Nat) (ls' st' : List MV) (M' : Mem) (ad' : Nat → Nat), k pc' ls' st' M' = some r → SOK M' ls' st' → M.2.2.1 ≤ M'.2.2.1 → M.2.2.2 ≤ M'.2.2.2 → ls'.length = ls.length → M.1.length ≤ M'.1.length → (∀ a, a < M.1.length → ad' a = ad a) → GO p l e R s m args below meth c Q nL D cs xa A c0 s0 ad' M' (bps.getD pc' 0) ls' st') : GO p l e R s m args below meth c Q nL D cs xa A c0 s0 ad M pcb ls st := by
  obtain ⟨rfl, rfl, hn⟩ := goN_ok ha
  obtain ⟨x, i, v, st', rfl, h1, h2⟩ := ald_some h
  have k2 := IH _ _ _ _ ad h2 (hst.pop.pop.push0 (aget_ok hst.1 hE.2.2.2.2.2.2.2 (Or.inr (Or.inl rfl)) h1)) (Nat.le_refl _) (Nat.le_refl _) rfl (Nat.le_refl _) (fun _ _ => rfl)
  rw [hn] at k2
  exact go_baload hx hb hK hE hst.i32 h1 hd k2
theorem st_caload (hx : p.tables.exec = Jvm.exec) (hb : c.code = cc) (hK : va_K D vwCl (tysOf cs) s) (hE : EXTOK X xa A s s.heap) (hst : SOK M ls st) (hd : decode cc pcb = .ok (real, len)) (ha : agr1 own bps pc pcb real len lp .caload = true) (h : istep prog clsT X call .caload pc ls st M k = some r)
    (IH : ∀ (pc' : Nat) (ls' st' : List MV) (M' : Mem) (ad' : Nat → Nat), k pc' ls' st' M' = some r → SOK M' ls' st' → M.2.2.1 ≤ M'.2.2.1 → M.2.2.2 ≤ M'.2.2.2 → ls'.length = ls.length → M.1.length ≤ M'.1.length → (∀ a, a < M.1.length → ad' a = ad a) → GO p l e R s m args below meth c Q nL D cs xa A c0 s0 ad' M' (bps.getD pc' 0) ls' st') : GO p l e R s m args below meth c Q nL D cs xa A c0 s0 ad M pcb ls st := by
  obtain ⟨rfl, rfl, hn⟩ := goN_ok ha
  obtain ⟨x, i, v, st', rfl, h1, h2⟩ := ald_some h
  have k2 := IH _ _ _ _ ad h2 (hst.pop.pop.push0 (aget_ok hst.1 hE.2.2.2.2.2.2.2 (Or.inr (Or.inr rfl)) h1)) (Nat.le_refl _) (Nat.le_refl _) rfl (Nat.le_refl _) (fun _ _ => rfl)
  rw [hn] at k2
  exact go_caload hx hb hK hE hst.i32 h1 hd k2
theorem st_laload (hx : p.tables.exec = Jvm.exec) (hb : c.code = cc) (hK : va_K D vwCl (tysOf cs) s) (hE : EXTOK X xa A s s.heap) (hst : SOK M ls st) (hd : decode cc pcb = .ok (real, len)) (ha : agr1 own bps pc pcb real len lp .laload = true) (h : istep prog clsT X call .laload pc ls st M k = some r)
    (IH : ∀ (pc' : Nat) (ls' st' : List MV) (M' : Mem) (ad' : Nat → Nat), k pc' ls' st' M' = some r → SOK M' ls' st' → M.2.2.1 ≤ M'.2.2.1 → M.2.2.2 ≤ M'.2.2.2 → ls'.length = ls.length → M.1.length ≤ M'.1.length → (∀ a, a < M.1.length → ad' a = ad a) → GO p l e R s m args below meth c Q nL D cs xa A c0 s0 ad' M' (bps.getD pc' 0) ls' st') : GO p l e R s m args below meth c Q nL D cs xa A c0 s0 ad M pcb ls st := by
  obtain ⟨rfl, rfl, hn⟩ := goN_ok ha
  obtain ⟨x, i, v, st', rfl, h1, h2⟩ := ald_some h
  have k2 := IH _ _ _ _ ad h2 (hst.pop.pop.push1 (agetL_ok hst.1 (hE.2.2.2.2.2.1 _).1 h1)) (Nat.le_refl _) (Nat.le_refl _) rfl (Nat.le_refl _) (fun _ _ => rfl)
  rw [hn] at k2
  exact go_laload hx hb hK hE hst.i32 h1 hd k2
theorem st_iastore (hx : p.tables.exec = Jvm.exec) (hb : c.code = cc) (hK : va_K D vwCl (tysOf cs) s) (hst : SOK M ls st) (hd : decode cc pcb = .ok (real, len)) (ha : agr1 own bps pc pcb real len lp .iastore = true) (h : istep prog clsT X call .iastore pc ls st M k = some r)
    (IH : ∀ (pc' : Nat) (ls' st' : List MV) (M' : Mem) (ad' : Nat → Nat), k pc' ls' st' M' = some r → SOK M' ls' st' → M.2.2.1 ≤ M'.2.2.1 → M.2.2.2 ≤ M'.2.2.2 → ls'.length = ls.length → M.1.length ≤ M'.1.length → (∀ a, a < M.1.length → ad' a = ad a) → GO p l e R s m args below meth c Q nL D cs xa A c0 s0 ad' M' (bps.getD pc' 0) ls' st') : GO p l e R s m args below meth c Q nL D cs xa A c0 s0 ad M pcb ls st := by
  obtain ⟨rfl, rfl, hn⟩ := goN_ok ha
  obtain ⟨x, i, v, M', st', rfl, h1, h2⟩ := ast_some h
  obtain ⟨m1, m2, m3, m4⟩ := aput_ok hst.1 (vok0 hst.i32) (by omega) h1
  have k2 := IH _ _ _ _ ad h2 ⟨m1, by rw [m2]; exact hst.2.1, by rw [m2]; exact hst.pop.pop.pop.2.2⟩ (by rw [m4]; exact Nat.le_refl _) (by rw [m4]; exact Nat.le_refl _) rfl (by rw [m3]; exact Nat.le_refl _) (fun _ _ => rfl)
  rw [hn] at k2
  exact go_iastore hx hb hK hst.pop.i32 h1 hd k2
theorem st_bastore (hx : p.tables.exec = Jvm.exec) (hb : c.code = cc) (hK : va_K D vwCl (tysOf cs) s) (hst : SOK M ls st) (hd : decode cc pcb = .ok (real, len)) (ha : agr1 own bps pc pcb real len lp .bastore = true) (h : istep prog clsT X call .bastore pc ls st M k = some r)
    (IH : ∀ (pc' : Nat) (ls' st' : List MV) (M' : Mem) (ad' : Nat → Nat), k pc' ls' st' M' = some r → SOK M' ls' st' → M.2.2.1 ≤ M'.2.2.1 → M.2.2.2 ≤ M'.2.2.2 → ls'.length = ls.length → M.1.length ≤ M'.1.length → (∀ a, a < M.1.length → ad' a = ad a) → GO p l e R s m args below meth c Q nL D cs xa A c0 s0 ad' M' (bps.getD pc' 0) ls' st') : GO p l e R s m args below meth c Q nL D cs xa A c0 s0 ad M pcb ls st := by
  obtain ⟨rfl, rfl, hn⟩ := goN_ok ha
  obtain ⟨x, i, v, M', st', rfl, h1, h2⟩ := ast_some h
  obtain ⟨m1, m2, m3, m4⟩ := aput_ok hst.1 (vok0 (in32_b1 _)) (by omega) h1
  have k2 := IH _ _ _ _ ad h2 ⟨m1, by rw [m2]; exact hst.2.1, by rw [m2]; exact hst.pop.pop.pop.2.2⟩ (by rw [m4]; exact Nat.le_refl _) (by rw [m4]; exact Nat.le_refl _) rfl (by rw [m3]; exact Nat.le_refl _) (fun _ _ => rfl)
  rw [hn] at k2
  exact go_bastore hx hb hK hst.pop.i32 h1 hd k2
theorem st_castore (hx : p.tables.exec = Jvm.exec) (hb : c.code = cc) (hK : va_K D vwCl (tysOf cs) s) (hst : SOK M ls st) (hd : decode cc pcb = .ok (real, len)) (ha : agr1 own bps pc pcb real len lp .castore = true) (h : istep prog clsT X call .castore pc ls st M k = some r)
    (IH : ∀ (pc' : Nat) (ls' st' : List MV) (M' : Mem) (ad' : Nat → Nat), k pc' ls' st' M' = some r → SOK M' ls' st' → M.2.2.1 ≤ M'.2.2.1 → M.2.2.2 ≤ M'.2.2.2 → ls'.length = ls.length → M.1.length ≤ M'.1.length → (∀ a, a < M.1.length → ad' a = ad a) → GO p l e R s m args below meth c Q nL D cs xa A c0 s0 ad' M' (bps.getD pc' 0) ls' st') : GO p l e R s m args below meth c Q nL D cs xa A c0 s0 ad M pcb ls st := by
  obtain ⟨rfl, rfl, hn⟩ := goN_ok ha
  obtain ⟨x, i, v, M', st', rfl, h1, h2⟩ := ast_some h
  obtain ⟨m1, m2, m3, m4⟩ := aput_ok hst.1 (vok0 (in32_8 _)) (by omega) h1
  have k2 := IH _ _ _ _ ad h2 ⟨m1, by rw [m2]; exact hst.2.1, by rw [m2]; exact hst.pop.pop.pop.2.2⟩ (by rw [m4]; exact Nat.le_refl _) (by rw [m4]; exact Nat.le_refl _) rfl (by rw [m3]; exact Nat.le_refl _) (fun _ _ => rfl)
  rw [hn] at k2
  exact go_castore hx hb hK hst.pop.i32 h1 hd k2
theorem st_lastore (hx : p.tables.exec = Jvm.exec) (hb : c.code = cc) (hK : va_K D vwCl (tysOf cs) s) (hst : SOK M ls st) (hd : decode cc pcb = .ok (real, len)) (ha : agr1 own bps pc pcb real len lp .lastore = true) (h : istep prog clsT X call .lastore pc ls st M k = some r)
    (IH : ∀ (pc' : Nat) (ls' st' : List MV) (M' : Mem) (ad' : Nat → Nat), k pc' ls' st' M' = some r → SOK M' ls' st' → M.2.2.1 ≤ M'.2.2.1 → M.2.2.2 ≤ M'.2.2.2 → ls'.length = ls.length → M.1.length ≤ M'.1.length → (∀ a, a < M.1.length → ad' a = ad a) → GO p l e R s m args below meth c Q nL D cs xa A c0 s0 ad' M' (bps.getD pc' 0) ls' st') : GO p l e R s m args below meth c Q nL D cs xa A c0 s0 ad M pcb ls st := by
  obtain ⟨rfl, rfl, hn⟩ := goN_ok ha
  obtain ⟨x, i, v, M', st', rfl, h1, h2⟩ := ast_some h
  obtain ⟨m1, m2, m3, m4⟩ := aput_ok hst.1 (vok1 hst.i64) (by omega) h1
  have k2 := IH _ _ _ _ ad h2 ⟨m1, by rw [m2]; exact hst.2.1, by rw [m2]; exact hst.pop.pop.pop.2.2⟩ (by rw [m4]; exact Nat.le_refl _) (by rw [m4]; exact Nat.le_refl _) rfl (by rw [m3]; exact Nat.le_refl _) (fun _ _ => rfl)
  rw [hn] at k2
  exact go_lastore hx hb hK hst.pop.i32 h1 hd k2
theorem st_aaload (hx : p.tables.exec = Jvm.exec) (hb : c.code = cc) (hK : va_K D vwCl (tysOf cs) s) (hE : EXTOK X xa A s s.heap) (hst : SOK M ls st) (hd : decode cc pcb = .ok (real, len)) (ha : agr1 own bps pc pcb real len lp .aaload = true) (h : istep prog clsT X call .aaload pc ls st M k = some r)
    (IH : ∀ (pc' : Nat) (ls' st' : List MV) (M' : Mem) (ad' : Nat → Nat), k pc' ls' st' M' = some r → SOK M' ls' st' → M.2.2.1 ≤ M'.2.2.1 → M.2.2.2 ≤ M'.2.2.2 → ls'.length = ls.length → M.1.length ≤ M'.1.length → (∀ a, a < M.1.length → ad' a = ad a) → GO p l e R s m args below meth c Q nL D cs xa A c0 s0 ad' M' (bps.getD pc' 0) ls' st') : GO p l e R s m args below meth c Q nL D cs xa A c0 s0 ad M pcb ls st := by
  obtain ⟨rfl, rfl, hn⟩ := goN_ok ha
  match st, h, hst with
  | (ti, i) :: (tx, x) :: st', h, hst =>
    have h9 : (if ti = 0 ∧ tx = 2 then (if (lay? M x).1 = 104 ∨ (lay? M x).1 = 105 then (aget X (lay? M x).1 M x i).bind fun v => k (pc + 1) ls ((2, v) :: st') M else none) else none) = some r := h
    by_cases hc : ti = 0 ∧ tx = 2
    · rw [if_pos hc] at h9
      obtain ⟨rfl, rfl⟩ := hc
      by_cases h45 : (lay? M x).1 = 104 ∨ (lay? M x).1 = 105
      · rw [if_pos h45] at h9
        obtain ⟨v, h1, h2⟩ := bind_some h9
        have hX : (X x).1 ≠ (lay? M x).1 := by
          have := hE.2.2.2.2.2.1 x
          rcases h45 with z | z <;> rw [z]
          · exact this.2.2.1
          · exact this.2.2.2
        have k2 := IH _ _ _ _ ad h2 (hst.pop.pop.push2 (agetR_ok hst.1 h45 hX h1)) (Nat.le_refl _) (Nat.le_refl _) rfl (Nat.le_refl _) (fun _ _ => rfl)
        rw [hn] at k2
        exact go_aaload hx hb hK hE hst.i32 h45 h1 hd k2
      · rw [if_neg h45] at h9; cases h9
    · rw [if_neg hc] at h9; cases h9
theorem st_aastore (hx : p.tables.exec = Jvm.exec) (hb : c.code = cc) (hK : va_K D vwCl (tysOf cs) s) (hst : SOK M ls st) (hd : decode cc pcb = .ok (real, len)) (ha : agr1 own bps pc pcb real len lp .aastore = true) (h : istep prog clsT X call .aastore pc ls st M k = some r)
    (IH : ∀ (pc' : Nat) (ls' st' : List MV) (M' : Mem) (ad' : Nat → Nat), k pc' ls' st' M' = some r → SOK M' ls' st' → M.2.2.1 ≤ M'.2.2.1 → M.2.2.2 ≤ M'.2.2.2 → ls'.length = ls.length → M.1.length ≤ M'.1.length → (∀ a, a < M.1.length → ad' a = ad a) → GO p l e R s m args below meth c Q nL D cs xa A c0 s0 ad' M' (bps.getD pc' 0) ls' st') : GO p l e R s m args below meth c Q nL D cs xa A c0 s0 ad M pcb ls st := by
  obtain ⟨rfl, rfl, hn⟩ := goN_ok ha
  match st, h, hst with
  | (tv, v) :: (ti, i) :: (tx, x) :: st', h, hst =>
    have h9 : (if tv = 2 ∧ ti = 0 ∧ tx = 2 ∧ 0 ≤ v ∧ (lay? M v).1 = 7 then (aput 104 M x i v).bind fun M' => k (pc + 1) ls st' M' else none) = some r := h
    by_cases hc : tv = 2 ∧ ti = 0 ∧ tx = 2 ∧ 0 ≤ v ∧ (lay? M v).1 = 7
    · rw [if_pos hc] at h9
      obtain ⟨rfl, rfl, rfl, hv0, hv7⟩ := hc
      obtain ⟨M', h1, h2⟩ := bind_some h9
      obtain ⟨m1, m2, m3, m4⟩ := aput_ok (kd := 104) hst.1 (vok2 hst.ref : VOK (nx M) (2, v)) (by omega) h1
      have k2 := IH _ _ _ _ ad h2 ⟨m1, by rw [m2]; exact hst.2.1, by rw [m2]; exact hst.pop.pop.pop.2.2⟩ (by rw [m4]; exact Nat.le_refl _) (by rw [m4]; exact Nat.le_refl _) rfl (by rw [m3]; exact Nat.le_refl _) (fun _ _ => rfl)
      rw [hn] at k2
      exact go_aastore hx hb hK hst.pop.i32 hst.1 hv7 h1 hd k2
    · rw [if_neg hc] at h9; cases h9
theorem st_alen (hx : p.tables.exec = Jvm.exec) (hb : c.code = cc) (hK : va_K D vwCl (tysOf cs) s) (hE : EXTOK X xa A s s.heap) (hst : SOK M ls st) (hd : decode cc pcb = .ok (real, len)) (ha : agr1 own bps pc pcb real len lp .arraylength = true) (h : istep prog clsT X call .arraylength pc ls st M k = some r)
    (IH : ∀ (pc' : Nat) (ls' st' : List MV) (M' : Mem) (ad' : Nat → Nat), k pc' ls' st' M' = some r → SOK M' ls' st' → M.2.2.1 ≤ M'.2.2.1 → M.2.2.2 ≤ M'.2.2.2 → ls'.length = ls.length → M.1.length ≤ M'.1.length → (∀ a, a < M.1.length → ad' a = ad a) → GO p l e R s m args below meth c Q nL D cs xa A c0 s0 ad' M' (bps.getD pc' 0) ls' st') : GO p l e R s m args below meth c Q nL D cs xa A c0 s0 ad M pcb ls st := by
  obtain ⟨rfl, rfl, hn⟩ := goN_ok ha
  match st, h, hst with
  | (tx, x) :: st', h, hst =>
    have h9 : (if tx = 2 then (alen X M x).bind fun n => k (pc + 1) ls ((0, n) :: st') M else none) = some r := h
    by_cases hc : tx = 2
    · rw [if_pos hc] at h9
      subst hc
      obtain ⟨n, h1, h2⟩ := bind_some h9
      have k2 := IH _ _ _ _ ad h2 (hst.pop.push0 (alen_ok hst.1 hE h1)) (Nat.le_refl _) (Nat.le_refl _) rfl (Nat.le_refl _) (fun _ _ => rfl)
      rw [hn] at k2
      exact go_alen hx hb hK hE hst.1 h1 hd k2
    · rw [if_neg hc] at h9; cases h9
theorem st_getfield (hx : p.tables.exec = Jvm.exec) (hb : c.code = cc) (hts : ∀ w ∈ GW, w.before args s = true) (hown : s.vm.findClass (onm own) = some m.cls) (hK : va_K D vwCl (tysOf cs) s) (hE : EXTOK X xa A s s.heap) {f : Nat} (hst : SOK M ls st) (hd : decode cc pcb = .ok (real, len)) (ha : agr1 own bps pc pcb real len lp (.getfield f) = true) (h : istep prog clsT X call (.getfield f) pc ls st M k = some r)
    (IH : ∀ (pc' : Nat) (ls' st' : List MV) (M' : Mem) (ad' : Nat → Nat), k pc' ls' st' M' = some r → SOK M' ls' st' → M.2.2.1 ≤ M'.2.2.1 → M.2.2.2 ≤ M'.2.2.2 → ls'.length = ls.length → M.1.length ≤ M'.1.length → (∀ a, a < M.1.length → ad' a = ad a) → GO p l e R s m args below meth c Q nL D cs xa A c0 s0 ad' M' (bps.getD pc' 0) ls' st') : GO p l e R s m args below meth c Q nL D cs xa A c0 s0 ad M pcb ls st := by
  have ha2 : (goN pcb len (bps.getD (pc + 1) 0) real (.getfield (ixOf real)) 3 && (if f < 10000 then lkIs own lp 0 (ixOf real) f && decide (fPl f < (clsT.getD (fCl f) []).length) && decide (fCl f < 13) && decide (fTy f = (clsT.getD (fCl f) []).getD (fPl f) 0) else lkIs own lp 10 (ixOf real) f && decide (f = 10000 ∨ f = 10001))) = true := ha
  rw [Bool.and_eq_true] at ha2
  obtain ⟨g, ha2⟩ := ha2
  obtain ⟨er, rfl, hn⟩ := goN_ok g
  rw [er] at hd
  match st, h, hst with
  | (tx, x) :: st', h, hst =>
    have h9 : (if tx = 2 then (fget f M x).bind fun v => k (pc + 1) ls ((if f = 10000 then 2 else if f = 10001 then 0 else fTg f, v) :: st') M else none) = some r := h
    by_cases hc : tx = 2
    · rw [if_pos hc] at h9
      subst hc
      obtain ⟨v, h1, h2⟩ := bind_some h9
      by_cases hf : f < 10000
      · rw [if_pos hf] at ha2
        simp only [Bool.and_eq_true, decide_eq_true_eq] at ha2
        obtain ⟨⟨⟨g1, g2⟩, g3⟩, g4⟩ := ha2
        unfold fget at h1
        rw [if_pos hf] at h1
        have hc0 : 0 ≤ x := by by_cases z : 0 ≤ x; exact z; rw [if_neg z] at h1; cases h1
        rw [if_pos hc0] at h1
        have hc1 : (lay? M x).1 = fCl f := by by_cases z : (lay? M x).1 = fCl f; exact z; rw [if_neg z] at h1; cases h1
        rw [if_pos hc1] at h1
        have hv := Option.some.inj h1
        subst hv
        rw [if_neg (by omega), if_neg (by omega)] at h2
        have hok : VOK (nx M) (fTg f, get? M x (fPl f)) ∧ fTg f < 3 := by
          obtain ⟨-, hq⟩ := lay_some (M := M) (x := x) (by omega)
          have hl2 : (lay? M x).2 = (clsT.getD (fCl f) []).length := by
            rcases (hst.1 _ _ hq).1 with ⟨_, z⟩ | ⟨z, _⟩
            · rw [z, hc1]
            · omega
          have := (hst.1 _ _ hq).2.2 (fPl f) (by rw [hl2]; exact g2)
          rw [tgt, if_pos (by omega), hc1, ← fTg_eq g4] at this
          exact ⟨this, by rw [fTg_eq g4]; exact fTag_lt _ _⟩
        have k2 := IH _ _ _ _ ad h2 (hst.pop.push hok.1 hok.2) (Nat.le_refl _) (Nat.le_refl _) rfl (Nat.le_refl _) (fun _ _ => rfl)
        rw [hn] at k2
        exact go_getfield hx hb hts hown hK hst.1 hc1 g3 g2 g4 (lk_word hts g1 rfl) hd k2
      · rw [if_neg hf] at ha2
        simp only [Bool.and_eq_true, decide_eq_true_eq] at ha2
        obtain ⟨g1, g2⟩ := ha2
        have hok : VOK (nx M) (if f = 10000 then 2 else if f = 10001 then 0 else fTg f, v) ∧ (if f = 10000 then 2 else if f = 10001 then 0 else fTg f) < 3 := by
          have h1' := h1
          unfold fget at h1'
          rw [if_neg hf] at h1'
          rcases g2 with rfl | rfl
          · rw [if_pos rfl] at h1' ⊢
            refine ⟨vok2 ?_, by decide⟩
            by_cases z : -30 < x ∧ x ≤ -10
            · rw [if_pos z] at h1'
              have := Option.some.inj h1'
              unfold nx; omega
            · rw [if_neg z] at h1'; cases h1'
          · rw [if_neg (by decide)] at h1' ⊢
            rw [if_pos rfl]
            refine ⟨vok0 ?_, by decide⟩
            by_cases z : -30 < x ∧ x ≤ -10
            · rw [if_pos z] at h1'
              have := Option.some.inj h1'
              subst this
              exact in32_0
            · rw [if_neg z] at h1'; cases h1'
        have k2 := IH _ _ _ _ ad h2 (hst.pop.push hok.1 hok.2) (Nat.le_refl _) (Nat.le_refl _) rfl (Nat.le_refl _) (fun _ _ => rfl)
        rw [hn] at k2
        exact go_strf hx hb hown hE g2 h1 (lk_word hts g1 rfl) hd k2
    · rw [if_neg hc] at h9; cases h9
theorem st_putfield (hx : p.tables.exec = Jvm.exec) (hb : c.code = cc) (hts : ∀ w ∈ GW, w.before args s = true) (hown : s.vm.findClass (onm own) = some m.cls) (hK : va_K D vwCl (tysOf cs) s) {f : Nat} (hini : (fldN f).2.2.2 = true → meth.name = "<init>") (hst : SOK M ls st) (hd : decode cc pcb = .ok (real, len)) (ha : agr1 own bps pc pcb real len lp (.putfield f) = true) (h : istep prog clsT X call (.putfield f) pc ls st M k = some r)
    (IH : ∀ (pc' : Nat) (ls' st' : List MV) (M' : Mem) (ad' : Nat → Nat), k pc' ls' st' M' = some r → SOK M' ls' st' → M.2.2.1 ≤ M'.2.2.1 → M.2.2.2 ≤ M'.2.2.2 → ls'.length = ls.length → M.1.length ≤ M'.1.length → (∀ a, a < M.1.length → ad' a = ad a) → GO p l e R s m args below meth c Q nL D cs xa A c0 s0 ad' M' (bps.getD pc' 0) ls' st') : GO p l e R s m args below meth c Q nL D cs xa A c0 s0 ad M pcb ls st := by
  have ha2 : (goN pcb len (bps.getD (pc + 1) 0) real (.putfield (ixOf real)) 3 && lkIs own lp 0 (ixOf real) f && decide (f < 10000) && decide (fPl f < (clsT.getD (fCl f) []).length) && decide (fCl f < 13) && decide (fTy f = (clsT.getD (fCl f) []).getD (fPl f) 0) && (!(fldN f).2.2.2 || decide (fCl f = own))) = true := ha
  simp only [Bool.and_eq_true, Bool.or_eq_true, decide_eq_true_eq, Bool.not_eq_true'] at ha2
  obtain ⟨⟨⟨⟨⟨⟨g, g1⟩, g0⟩, g2⟩, g3⟩, g4⟩, g5⟩ := ha2
  obtain ⟨er, rfl, hn⟩ := goN_ok g
  rw [er] at hd
  match st, h, hst with
  | (tv, v) :: (tx, x) :: st', h, hst =>
    have h9 : (if tx = 2 ∧ tv = fTg f ∧ (tv = 2 → vref M v = true) ∧ (fTy f = 3 → one01 v = true) then (fput f M x v).bind fun M' => k (pc + 1) ls st' M' else none) = some r := h
    by_cases hc : tx = 2 ∧ tv = fTg f ∧ (tv = 2 → vref M v = true) ∧ (fTy f = 3 → one01 v = true)
    · rw [if_pos hc] at h9
      obtain ⟨rfl, rfl, hvr, h3⟩ := hc
      obtain ⟨M', h1, h2⟩ := bind_some h9
      unfold fput at h1
      have hc0 : 0 ≤ x := by by_cases z : 0 ≤ x; exact z; rw [if_neg z] at h1; cases h1
      rw [if_pos hc0] at h1
      have hc1 : (lay? M x).1 = fCl f := by by_cases z : (lay? M x).1 = fCl f; exact z; rw [if_neg z] at h1; cases h1
      rw [if_pos hc1] at h1
      have hv := Option.some.inj h1
      subst hv
      obtain ⟨-, hq⟩ := lay_some (M := M) (x := x) (by omega)
      have m1 : MOK (put M x (fPl f) v) := MOK_put hst.1 hq (by rw [tgt, if_pos (by omega), hc1, ← fTg_eq g4]; exact hst.top.1)
      have k2 := IH _ _ _ _ ad h2 (SOK_put hst.pop.pop m1) (Nat.le_refl _) (Nat.le_refl _) rfl (Nat.le_refl _) (fun _ _ => rfl)
      rw [hn] at k2
      refine go_putfield hx hb hts hown hK hst.1 hc1 g3 g2 g4 h3 ?_ (lk_word hts g1 rfl) hd k2
      cases hff : (fldN f).2.2.2 with
      | false => exact Or.inl rfl
      | true =>
        refine Or.inr ⟨?_, hini hff⟩
        rcases g5 with z | z
        · rw [hff] at z; cases z
        · rw [z]; exact own_nm own (by omega)
    · rw [if_neg hc] at h9; cases h9
end STEP2
