/-! Part 20: each mini instruction is met by the real one. -/
theorem goN_ok {pc len nxt n : Nat} {real x : Instr} (h : goN pc len nxt real x n = true) : real = x ∧ len = n ∧ nxt = pc + n := by
  unfold goN at h
  simp only [Bool.and_eq_true, decide_eq_true_eq] at h
  exact ⟨h.1.1, h.1.2, h.2⟩
theorem is32_ok {v : Int} (h : is32 v = true) : in32 v := by unfold is32 at h; simpa [in32] using h
theorem is64_ok {v : Int} (h : is64 v = true) : in64 v := by unfold is64 at h; simpa [in64] using h
section STEP
variable {p : Program} {l : Launch} {e : Env} {R : Room} {s : State} {m : MethodId} {args : Array Value} {below : List Frame} {meth : Method} {c : Code} {Q : State → Prop} {nL : Nat} {D : va_G} {cs : Nat → ClassId} {xa : Int → Option Nat} {A : Nat → Prop} {c0 s0 : Nat} {ad : Nat → Nat} {M : Mem} {pcb pc : Nat} {ls st : List MV} {cc : ByteArray} {X : MExt} {own len lp : Nat} {real : Instr} {bps : List Nat} {call : MC} {k : MK} {r : MRes}

theorem st_iadd (hx : p.tables.exec = Jvm.exec) (hb : c.code = cc) (hst : SOK M ls st) (hd : decode cc pcb = .ok (real, len)) (ha : agr1 own bps pc pcb real len lp .iadd = true) (h : istep prog clsT X call .iadd pc ls st M k = some r)
    (IH : ∀ (pc' : Nat) (ls' st' : List MV) (M' : Mem) (ad' : Nat → Nat), k pc' ls' st' M' = some r → SOK M' ls' st' → M.2.2.1 ≤ M'.2.2.1 → M.2.2.2 ≤ M'.2.2.2 → ls'.length = ls.length → M.1.length ≤ M'.1.length → (∀ a, a < M.1.length → ad' a = ad a) → GO p l e R s m args below meth c Q nL D cs xa A c0 s0 ad' M' (bps.getD pc' 0) ls' st') : GO p l e R s m args below meth c Q nL D cs xa A c0 s0 ad M pcb ls st := by
  obtain ⟨rfl, rfl, hn⟩ := goN_ok ha
  obtain ⟨x, y, st', rfl, h2⟩ := bin_some h
  have k2 := IH _ _ _ _ ad h2 (hst.pop.pop.push0 (in32_w _)) (Nat.le_refl _) (Nat.le_refl _) rfl (Nat.le_refl _) (fun _ _ => rfl)
  rw [hn] at k2
  exact go_iadd hx hb hd k2
theorem st_isub (hx : p.tables.exec = Jvm.exec) (hb : c.code = cc) (hst : SOK M ls st) (hd : decode cc pcb = .ok (real, len)) (ha : agr1 own bps pc pcb real len lp .isub = true) (h : istep prog clsT X call .isub pc ls st M k = some r)
    (IH : ∀ (pc' : Nat) (ls' st' : List MV) (M' : Mem) (ad' : Nat → Nat), k pc' ls' st' M' = some r → SOK M' ls' st' → M.2.2.1 ≤ M'.2.2.1 → M.2.2.2 ≤ M'.2.2.2 → ls'.length = ls.length → M.1.length ≤ M'.1.length → (∀ a, a < M.1.length → ad' a = ad a) → GO p l e R s m args below meth c Q nL D cs xa A c0 s0 ad' M' (bps.getD pc' 0) ls' st') : GO p l e R s m args below meth c Q nL D cs xa A c0 s0 ad M pcb ls st := by
  obtain ⟨rfl, rfl, hn⟩ := goN_ok ha
  obtain ⟨x, y, st', rfl, h2⟩ := bin_some h
  have k2 := IH _ _ _ _ ad h2 (hst.pop.pop.push0 (in32_w _)) (Nat.le_refl _) (Nat.le_refl _) rfl (Nat.le_refl _) (fun _ _ => rfl)
  rw [hn] at k2
  exact go_isub hx hb hd k2
theorem st_imul (hx : p.tables.exec = Jvm.exec) (hb : c.code = cc) (hst : SOK M ls st) (hd : decode cc pcb = .ok (real, len)) (ha : agr1 own bps pc pcb real len lp .imul = true) (h : istep prog clsT X call .imul pc ls st M k = some r)
    (IH : ∀ (pc' : Nat) (ls' st' : List MV) (M' : Mem) (ad' : Nat → Nat), k pc' ls' st' M' = some r → SOK M' ls' st' → M.2.2.1 ≤ M'.2.2.1 → M.2.2.2 ≤ M'.2.2.2 → ls'.length = ls.length → M.1.length ≤ M'.1.length → (∀ a, a < M.1.length → ad' a = ad a) → GO p l e R s m args below meth c Q nL D cs xa A c0 s0 ad' M' (bps.getD pc' 0) ls' st') : GO p l e R s m args below meth c Q nL D cs xa A c0 s0 ad M pcb ls st := by
  obtain ⟨rfl, rfl, hn⟩ := goN_ok ha
  obtain ⟨x, y, st', rfl, h2⟩ := bin_some h
  have k2 := IH _ _ _ _ ad h2 (hst.pop.pop.push0 (in32_w _)) (Nat.le_refl _) (Nat.le_refl _) rfl (Nat.le_refl _) (fun _ _ => rfl)
  rw [hn] at k2
  exact go_imul hx hb hd k2
theorem st_iand (hx : p.tables.exec = Jvm.exec) (hb : c.code = cc) (hst : SOK M ls st) (hd : decode cc pcb = .ok (real, len)) (ha : agr1 own bps pc pcb real len lp .iand = true) (h : istep prog clsT X call .iand pc ls st M k = some r)
    (IH : ∀ (pc' : Nat) (ls' st' : List MV) (M' : Mem) (ad' : Nat → Nat), k pc' ls' st' M' = some r → SOK M' ls' st' → M.2.2.1 ≤ M'.2.2.1 → M.2.2.2 ≤ M'.2.2.2 → ls'.length = ls.length → M.1.length ≤ M'.1.length → (∀ a, a < M.1.length → ad' a = ad a) → GO p l e R s m args below meth c Q nL D cs xa A c0 s0 ad' M' (bps.getD pc' 0) ls' st') : GO p l e R s m args below meth c Q nL D cs xa A c0 s0 ad M pcb ls st := by
  obtain ⟨rfl, rfl, hn⟩ := goN_ok ha
  obtain ⟨x, y, st', rfl, h2⟩ := bin_some h
  have k2 := IH _ _ _ _ ad h2 (hst.pop.pop.push0 (in32_bv _)) (Nat.le_refl _) (Nat.le_refl _) rfl (Nat.le_refl _) (fun _ _ => rfl)
  rw [hn] at k2
  exact go_iand hx hb hd k2
theorem st_ior (hx : p.tables.exec = Jvm.exec) (hb : c.code = cc) (hst : SOK M ls st) (hd : decode cc pcb = .ok (real, len)) (ha : agr1 own bps pc pcb real len lp .ior = true) (h : istep prog clsT X call .ior pc ls st M k = some r)
    (IH : ∀ (pc' : Nat) (ls' st' : List MV) (M' : Mem) (ad' : Nat → Nat), k pc' ls' st' M' = some r → SOK M' ls' st' → M.2.2.1 ≤ M'.2.2.1 → M.2.2.2 ≤ M'.2.2.2 → ls'.length = ls.length → M.1.length ≤ M'.1.length → (∀ a, a < M.1.length → ad' a = ad a) → GO p l e R s m args below meth c Q nL D cs xa A c0 s0 ad' M' (bps.getD pc' 0) ls' st') : GO p l e R s m args below meth c Q nL D cs xa A c0 s0 ad M pcb ls st := by
  obtain ⟨rfl, rfl, hn⟩ := goN_ok ha
  obtain ⟨x, y, st', rfl, h2⟩ := bin_some h
  have k2 := IH _ _ _ _ ad h2 (hst.pop.pop.push0 (in32_bv _)) (Nat.le_refl _) (Nat.le_refl _) rfl (Nat.le_refl _) (fun _ _ => rfl)
  rw [hn] at k2
  exact go_ior hx hb hd k2
theorem st_ixor (hx : p.tables.exec = Jvm.exec) (hb : c.code = cc) (hst : SOK M ls st) (hd : decode cc pcb = .ok (real, len)) (ha : agr1 own bps pc pcb real len lp .ixor = true) (h : istep prog clsT X call .ixor pc ls st M k = some r)
    (IH : ∀ (pc' : Nat) (ls' st' : List MV) (M' : Mem) (ad' : Nat → Nat), k pc' ls' st' M' = some r → SOK M' ls' st' → M.2.2.1 ≤ M'.2.2.1 → M.2.2.2 ≤ M'.2.2.2 → ls'.length = ls.length → M.1.length ≤ M'.1.length → (∀ a, a < M.1.length → ad' a = ad a) → GO p l e R s m args below meth c Q nL D cs xa A c0 s0 ad' M' (bps.getD pc' 0) ls' st') : GO p l e R s m args below meth c Q nL D cs xa A c0 s0 ad M pcb ls st := by
  obtain ⟨rfl, rfl, hn⟩ := goN_ok ha
  obtain ⟨x, y, st', rfl, h2⟩ := bin_some h
  have k2 := IH _ _ _ _ ad h2 (hst.pop.pop.push0 (in32_bv _)) (Nat.le_refl _) (Nat.le_refl _) rfl (Nat.le_refl _) (fun _ _ => rfl)
  rw [hn] at k2
  exact go_ixor hx hb hd k2
theorem st_ishl (hx : p.tables.exec = Jvm.exec) (hb : c.code = cc) (hst : SOK M ls st) (hd : decode cc pcb = .ok (real, len)) (ha : agr1 own bps pc pcb real len lp .ishl = true) (h : istep prog clsT X call .ishl pc ls st M k = some r)
    (IH : ∀ (pc' : Nat) (ls' st' : List MV) (M' : Mem) (ad' : Nat → Nat), k pc' ls' st' M' = some r → SOK M' ls' st' → M.2.2.1 ≤ M'.2.2.1 → M.2.2.2 ≤ M'.2.2.2 → ls'.length = ls.length → M.1.length ≤ M'.1.length → (∀ a, a < M.1.length → ad' a = ad a) → GO p l e R s m args below meth c Q nL D cs xa A c0 s0 ad' M' (bps.getD pc' 0) ls' st') : GO p l e R s m args below meth c Q nL D cs xa A c0 s0 ad M pcb ls st := by
  obtain ⟨rfl, rfl, hn⟩ := goN_ok ha
  obtain ⟨x, y, st', rfl, h2⟩ := bin_some h
  have k2 := IH _ _ _ _ ad h2 (hst.pop.pop.push0 (in32_bv _)) (Nat.le_refl _) (Nat.le_refl _) rfl (Nat.le_refl _) (fun _ _ => rfl)
  rw [hn] at k2
  exact go_ishl hx hb hd k2
theorem st_ishr (hx : p.tables.exec = Jvm.exec) (hb : c.code = cc) (hst : SOK M ls st) (hd : decode cc pcb = .ok (real, len)) (ha : agr1 own bps pc pcb real len lp .ishr = true) (h : istep prog clsT X call .ishr pc ls st M k = some r)
    (IH : ∀ (pc' : Nat) (ls' st' : List MV) (M' : Mem) (ad' : Nat → Nat), k pc' ls' st' M' = some r → SOK M' ls' st' → M.2.2.1 ≤ M'.2.2.1 → M.2.2.2 ≤ M'.2.2.2 → ls'.length = ls.length → M.1.length ≤ M'.1.length → (∀ a, a < M.1.length → ad' a = ad a) → GO p l e R s m args below meth c Q nL D cs xa A c0 s0 ad' M' (bps.getD pc' 0) ls' st') : GO p l e R s m args below meth c Q nL D cs xa A c0 s0 ad M pcb ls st := by
  obtain ⟨rfl, rfl, hn⟩ := goN_ok ha
  obtain ⟨x, y, st', rfl, h2⟩ := bin_some h
  have k2 := IH _ _ _ _ ad h2 (hst.pop.pop.push0 (in32_bv _)) (Nat.le_refl _) (Nat.le_refl _) rfl (Nat.le_refl _) (fun _ _ => rfl)
  rw [hn] at k2
  exact go_ishr hx hb hd k2
theorem st_iushr (hx : p.tables.exec = Jvm.exec) (hb : c.code = cc) (hst : SOK M ls st) (hd : decode cc pcb = .ok (real, len)) (ha : agr1 own bps pc pcb real len lp .iushr = true) (h : istep prog clsT X call .iushr pc ls st M k = some r)
    (IH : ∀ (pc' : Nat) (ls' st' : List MV) (M' : Mem) (ad' : Nat → Nat), k pc' ls' st' M' = some r → SOK M' ls' st' → M.2.2.1 ≤ M'.2.2.1 → M.2.2.2 ≤ M'.2.2.2 → ls'.length = ls.length → M.1.length ≤ M'.1.length → (∀ a, a < M.1.length → ad' a = ad a) → GO p l e R s m args below meth c Q nL D cs xa A c0 s0 ad' M' (bps.getD pc' 0) ls' st') : GO p l e R s m args below meth c Q nL D cs xa A c0 s0 ad M pcb ls st := by
  obtain ⟨rfl, rfl, hn⟩ := goN_ok ha
  obtain ⟨x, y, st', rfl, h2⟩ := bin_some h
  have k2 := IH _ _ _ _ ad h2 (hst.pop.pop.push0 (in32_bv _)) (Nat.le_refl _) (Nat.le_refl _) rfl (Nat.le_refl _) (fun _ _ => rfl)
  rw [hn] at k2
  exact go_iushr hx hb hd k2
theorem st_ladd (hx : p.tables.exec = Jvm.exec) (hb : c.code = cc) (hst : SOK M ls st) (hd : decode cc pcb = .ok (real, len)) (ha : agr1 own bps pc pcb real len lp .ladd = true) (h : istep prog clsT X call .ladd pc ls st M k = some r)
    (IH : ∀ (pc' : Nat) (ls' st' : List MV) (M' : Mem) (ad' : Nat → Nat), k pc' ls' st' M' = some r → SOK M' ls' st' → M.2.2.1 ≤ M'.2.2.1 → M.2.2.2 ≤ M'.2.2.2 → ls'.length = ls.length → M.1.length ≤ M'.1.length → (∀ a, a < M.1.length → ad' a = ad a) → GO p l e R s m args below meth c Q nL D cs xa A c0 s0 ad' M' (bps.getD pc' 0) ls' st') : GO p l e R s m args below meth c Q nL D cs xa A c0 s0 ad M pcb ls st := by
  obtain ⟨rfl, rfl, hn⟩ := goN_ok ha
  obtain ⟨x, y, st', rfl, h2⟩ := bin_some h
  have k2 := IH _ _ _ _ ad h2 (hst.pop.pop.push1 (in64_w _)) (Nat.le_refl _) (Nat.le_refl _) rfl (Nat.le_refl _) (fun _ _ => rfl)
  rw [hn] at k2
  exact go_ladd hx hb hd k2
theorem st_lsub (hx : p.tables.exec = Jvm.exec) (hb : c.code = cc) (hst : SOK M ls st) (hd : decode cc pcb = .ok (real, len)) (ha : agr1 own bps pc pcb real len lp .lsub = true) (h : istep prog clsT X call .lsub pc ls st M k = some r)
    (IH : ∀ (pc' : Nat) (ls' st' : List MV) (M' : Mem) (ad' : Nat → Nat), k pc' ls' st' M' = some r → SOK M' ls' st' → M.2.2.1 ≤ M'.2.2.1 → M.2.2.2 ≤ M'.2.2.2 → ls'.length = ls.length → M.1.length ≤ M'.1.length → (∀ a, a < M.1.length → ad' a = ad a) → GO p l e R s m args below meth c Q nL D cs xa A c0 s0 ad' M' (bps.getD pc' 0) ls' st') : GO p l e R s m args below meth c Q nL D cs xa A c0 s0 ad M pcb ls st := by
  obtain ⟨rfl, rfl, hn⟩ := goN_ok ha
  obtain ⟨x, y, st', rfl, h2⟩ := bin_some h
  have k2 := IH _ _ _ _ ad h2 (hst.pop.pop.push1 (in64_w _)) (Nat.le_refl _) (Nat.le_refl _) rfl (Nat.le_refl _) (fun _ _ => rfl)
  rw [hn] at k2
  exact go_lsub hx hb hd k2
theorem st_lmul (hx : p.tables.exec = Jvm.exec) (hb : c.code = cc) (hst : SOK M ls st) (hd : decode cc pcb = .ok (real, len)) (ha : agr1 own bps pc pcb real len lp .lmul = true) (h : istep prog clsT X call .lmul pc ls st M k = some r)
    (IH : ∀ (pc' : Nat) (ls' st' : List MV) (M' : Mem) (ad' : Nat → Nat), k pc' ls' st' M' = some r → SOK M' ls' st' → M.2.2.1 ≤ M'.2.2.1 → M.2.2.2 ≤ M'.2.2.2 → ls'.length = ls.length → M.1.length ≤ M'.1.length → (∀ a, a < M.1.length → ad' a = ad a) → GO p l e R s m args below meth c Q nL D cs xa A c0 s0 ad' M' (bps.getD pc' 0) ls' st') : GO p l e R s m args below meth c Q nL D cs xa A c0 s0 ad M pcb ls st := by
  obtain ⟨rfl, rfl, hn⟩ := goN_ok ha
  obtain ⟨x, y, st', rfl, h2⟩ := bin_some h
  have k2 := IH _ _ _ _ ad h2 (hst.pop.pop.push1 (in64_w _)) (Nat.le_refl _) (Nat.le_refl _) rfl (Nat.le_refl _) (fun _ _ => rfl)
  rw [hn] at k2
  exact go_lmul hx hb hd k2
theorem st_land (hx : p.tables.exec = Jvm.exec) (hb : c.code = cc) (hst : SOK M ls st) (hd : decode cc pcb = .ok (real, len)) (ha : agr1 own bps pc pcb real len lp .land = true) (h : istep prog clsT X call .land pc ls st M k = some r)
    (IH : ∀ (pc' : Nat) (ls' st' : List MV) (M' : Mem) (ad' : Nat → Nat), k pc' ls' st' M' = some r → SOK M' ls' st' → M.2.2.1 ≤ M'.2.2.1 → M.2.2.2 ≤ M'.2.2.2 → ls'.length = ls.length → M.1.length ≤ M'.1.length → (∀ a, a < M.1.length → ad' a = ad a) → GO p l e R s m args below meth c Q nL D cs xa A c0 s0 ad' M' (bps.getD pc' 0) ls' st') : GO p l e R s m args below meth c Q nL D cs xa A c0 s0 ad M pcb ls st := by
  obtain ⟨rfl, rfl, hn⟩ := goN_ok ha
  obtain ⟨x, y, st', rfl, h2⟩ := bin_some h
  have k2 := IH _ _ _ _ ad h2 (hst.pop.pop.push1 (in64_bv _)) (Nat.le_refl _) (Nat.le_refl _) rfl (Nat.le_refl _) (fun _ _ => rfl)
  rw [hn] at k2
  exact go_land hx hb hd k2
theorem st_lor (hx : p.tables.exec = Jvm.exec) (hb : c.code = cc) (hst : SOK M ls st) (hd : decode cc pcb = .ok (real, len)) (ha : agr1 own bps pc pcb real len lp .lor = true) (h : istep prog clsT X call .lor pc ls st M k = some r)
    (IH : ∀ (pc' : Nat) (ls' st' : List MV) (M' : Mem) (ad' : Nat → Nat), k pc' ls' st' M' = some r → SOK M' ls' st' → M.2.2.1 ≤ M'.2.2.1 → M.2.2.2 ≤ M'.2.2.2 → ls'.length = ls.length → M.1.length ≤ M'.1.length → (∀ a, a < M.1.length → ad' a = ad a) → GO p l e R s m args below meth c Q nL D cs xa A c0 s0 ad' M' (bps.getD pc' 0) ls' st') : GO p l e R s m args below meth c Q nL D cs xa A c0 s0 ad M pcb ls st := by
  obtain ⟨rfl, rfl, hn⟩ := goN_ok ha
  obtain ⟨x, y, st', rfl, h2⟩ := bin_some h
  have k2 := IH _ _ _ _ ad h2 (hst.pop.pop.push1 (in64_bv _)) (Nat.le_refl _) (Nat.le_refl _) rfl (Nat.le_refl _) (fun _ _ => rfl)
  rw [hn] at k2
  exact go_lor hx hb hd k2
theorem st_lxor (hx : p.tables.exec = Jvm.exec) (hb : c.code = cc) (hst : SOK M ls st) (hd : decode cc pcb = .ok (real, len)) (ha : agr1 own bps pc pcb real len lp .lxor = true) (h : istep prog clsT X call .lxor pc ls st M k = some r)
    (IH : ∀ (pc' : Nat) (ls' st' : List MV) (M' : Mem) (ad' : Nat → Nat), k pc' ls' st' M' = some r → SOK M' ls' st' → M.2.2.1 ≤ M'.2.2.1 → M.2.2.2 ≤ M'.2.2.2 → ls'.length = ls.length → M.1.length ≤ M'.1.length → (∀ a, a < M.1.length → ad' a = ad a) → GO p l e R s m args below meth c Q nL D cs xa A c0 s0 ad' M' (bps.getD pc' 0) ls' st') : GO p l e R s m args below meth c Q nL D cs xa A c0 s0 ad M pcb ls st := by
  obtain ⟨rfl, rfl, hn⟩ := goN_ok ha
  obtain ⟨x, y, st', rfl, h2⟩ := bin_some h
  have k2 := IH _ _ _ _ ad h2 (hst.pop.pop.push1 (in64_bv _)) (Nat.le_refl _) (Nat.le_refl _) rfl (Nat.le_refl _) (fun _ _ => rfl)
  rw [hn] at k2
  exact go_lxor hx hb hd k2
theorem st_lshl (hx : p.tables.exec = Jvm.exec) (hb : c.code = cc) (hst : SOK M ls st) (hd : decode cc pcb = .ok (real, len)) (ha : agr1 own bps pc pcb real len lp .lshl = true) (h : istep prog clsT X call .lshl pc ls st M k = some r)
    (IH : ∀ (pc' : Nat) (ls' st' : List MV) (M' : Mem) (ad' : Nat → Nat), k pc' ls' st' M' = some r → SOK M' ls' st' → M.2.2.1 ≤ M'.2.2.1 → M.2.2.2 ≤ M'.2.2.2 → ls'.length = ls.length → M.1.length ≤ M'.1.length → (∀ a, a < M.1.length → ad' a = ad a) → GO p l e R s m args below meth c Q nL D cs xa A c0 s0 ad' M' (bps.getD pc' 0) ls' st') : GO p l e R s m args below meth c Q nL D cs xa A c0 s0 ad M pcb ls st := by
  obtain ⟨rfl, rfl, hn⟩ := goN_ok ha
  obtain ⟨x, y, st', rfl, h2⟩ := shf_some h
  have k2 := IH _ _ _ _ ad h2 (hst.pop.pop.push1 (in64_bv _)) (Nat.le_refl _) (Nat.le_refl _) rfl (Nat.le_refl _) (fun _ _ => rfl)
  rw [hn] at k2
  exact go_lshl hx hb hst.i32 hd k2
theorem st_lshr (hx : p.tables.exec = Jvm.exec) (hb : c.code = cc) (hst : SOK M ls st) (hd : decode cc pcb = .ok (real, len)) (ha : agr1 own bps pc pcb real len lp .lshr = true) (h : istep prog clsT X call .lshr pc ls st M k = some r)
    (IH : ∀ (pc' : Nat) (ls' st' : List MV) (M' : Mem) (ad' : Nat → Nat), k pc' ls' st' M' = some r → SOK M' ls' st' → M.2.2.1 ≤ M'.2.2.1 → M.2.2.2 ≤ M'.2.2.2 → ls'.length = ls.length → M.1.length ≤ M'.1.length → (∀ a, a < M.1.length → ad' a = ad a) → GO p l e R s m args below meth c Q nL D cs xa A c0 s0 ad' M' (bps.getD pc' 0) ls' st') : GO p l e R s m args below meth c Q nL D cs xa A c0 s0 ad M pcb ls st := by
  obtain ⟨rfl, rfl, hn⟩ := goN_ok ha
  obtain ⟨x, y, st', rfl, h2⟩ := shf_some h
  have k2 := IH _ _ _ _ ad h2 (hst.pop.pop.push1 (in64_bv _)) (Nat.le_refl _) (Nat.le_refl _) rfl (Nat.le_refl _) (fun _ _ => rfl)
  rw [hn] at k2
  exact go_lshr hx hb hst.i32 hd k2
theorem st_lushr (hx : p.tables.exec = Jvm.exec) (hb : c.code = cc) (hst : SOK M ls st) (hd : decode cc pcb = .ok (real, len)) (ha : agr1 own bps pc pcb real len lp .lushr = true) (h : istep prog clsT X call .lushr pc ls st M k = some r)
    (IH : ∀ (pc' : Nat) (ls' st' : List MV) (M' : Mem) (ad' : Nat → Nat), k pc' ls' st' M' = some r → SOK M' ls' st' → M.2.2.1 ≤ M'.2.2.1 → M.2.2.2 ≤ M'.2.2.2 → ls'.length = ls.length → M.1.length ≤ M'.1.length → (∀ a, a < M.1.length → ad' a = ad a) → GO p l e R s m args below meth c Q nL D cs xa A c0 s0 ad' M' (bps.getD pc' 0) ls' st') : GO p l e R s m args below meth c Q nL D cs xa A c0 s0 ad M pcb ls st := by
  obtain ⟨rfl, rfl, hn⟩ := goN_ok ha
  obtain ⟨x, y, st', rfl, h2⟩ := shf_some h
  have k2 := IH _ _ _ _ ad h2 (hst.pop.pop.push1 (in64_bv _)) (Nat.le_refl _) (Nat.le_refl _) rfl (Nat.le_refl _) (fun _ _ => rfl)
  rw [hn] at k2
  exact go_lushr hx hb hst.i32 hd k2
theorem st_i2l (hx : p.tables.exec = Jvm.exec) (hb : c.code = cc) (hst : SOK M ls st) (hd : decode cc pcb = .ok (real, len)) (ha : agr1 own bps pc pcb real len lp .i2l = true) (h : istep prog clsT X call .i2l pc ls st M k = some r)
    (IH : ∀ (pc' : Nat) (ls' st' : List MV) (M' : Mem) (ad' : Nat → Nat), k pc' ls' st' M' = some r → SOK M' ls' st' → M.2.2.1 ≤ M'.2.2.1 → M.2.2.2 ≤ M'.2.2.2 → ls'.length = ls.length → M.1.length ≤ M'.1.length → (∀ a, a < M.1.length → ad' a = ad a) → GO p l e R s m args below meth c Q nL D cs xa A c0 s0 ad' M' (bps.getD pc' 0) ls' st') : GO p l e R s m args below meth c Q nL D cs xa A c0 s0 ad M pcb ls st := by
  obtain ⟨rfl, rfl, hn⟩ := goN_ok ha
  obtain ⟨x, st', rfl, h2⟩ := una_some h
  have k2 := IH _ _ _ _ ad h2 (hst.pop.push1 (by have := hst.i32; unfold idI in64; unfold in32 at this; omega)) (Nat.le_refl _) (Nat.le_refl _) rfl (Nat.le_refl _) (fun _ _ => rfl)
  rw [hn] at k2
  exact go_i2l hx hb hst.i32 hd k2
theorem st_l2i (hx : p.tables.exec = Jvm.exec) (hb : c.code = cc) (hst : SOK M ls st) (hd : decode cc pcb = .ok (real, len)) (ha : agr1 own bps pc pcb real len lp .l2i = true) (h : istep prog clsT X call .l2i pc ls st M k = some r)
    (IH : ∀ (pc' : Nat) (ls' st' : List MV) (M' : Mem) (ad' : Nat → Nat), k pc' ls' st' M' = some r → SOK M' ls' st' → M.2.2.1 ≤ M'.2.2.1 → M.2.2.2 ≤ M'.2.2.2 → ls'.length = ls.length → M.1.length ≤ M'.1.length → (∀ a, a < M.1.length → ad' a = ad a) → GO p l e R s m args below meth c Q nL D cs xa A c0 s0 ad' M' (bps.getD pc' 0) ls' st') : GO p l e R s m args below meth c Q nL D cs xa A c0 s0 ad M pcb ls st := by
  obtain ⟨rfl, rfl, hn⟩ := goN_ok ha
  obtain ⟨x, st', rfl, h2⟩ := una_some h
  have k2 := IH _ _ _ _ ad h2 (hst.pop.push0 (in32_w _)) (Nat.le_refl _) (Nat.le_refl _) rfl (Nat.le_refl _) (fun _ _ => rfl)
  rw [hn] at k2
  exact go_l2i hx hb hd k2
theorem st_i2b (hx : p.tables.exec = Jvm.exec) (hb : c.code = cc) (hst : SOK M ls st) (hd : decode cc pcb = .ok (real, len)) (ha : agr1 own bps pc pcb real len lp .i2b = true) (h : istep prog clsT X call .i2b pc ls st M k = some r)
    (IH : ∀ (pc' : Nat) (ls' st' : List MV) (M' : Mem) (ad' : Nat → Nat), k pc' ls' st' M' = some r → SOK M' ls' st' → M.2.2.1 ≤ M'.2.2.1 → M.2.2.2 ≤ M'.2.2.2 → ls'.length = ls.length → M.1.length ≤ M'.1.length → (∀ a, a < M.1.length → ad' a = ad a) → GO p l e R s m args below meth c Q nL D cs xa A c0 s0 ad' M' (bps.getD pc' 0) ls' st') : GO p l e R s m args below meth c Q nL D cs xa A c0 s0 ad M pcb ls st := by
  obtain ⟨rfl, rfl, hn⟩ := goN_ok ha
  obtain ⟨x, st', rfl, h2⟩ := una_some h
  have k2 := IH _ _ _ _ ad h2 (hst.pop.push0 (in32_8 _)) (Nat.le_refl _) (Nat.le_refl _) rfl (Nat.le_refl _) (fun _ _ => rfl)
  rw [hn] at k2
  exact go_i2b hx hb hd k2
theorem st_i2c (hx : p.tables.exec = Jvm.exec) (hb : c.code = cc) (hst : SOK M ls st) (hd : decode cc pcb = .ok (real, len)) (ha : agr1 own bps pc pcb real len lp .i2c = true) (h : istep prog clsT X call .i2c pc ls st M k = some r)
    (IH : ∀ (pc' : Nat) (ls' st' : List MV) (M' : Mem) (ad' : Nat → Nat), k pc' ls' st' M' = some r → SOK M' ls' st' → M.2.2.1 ≤ M'.2.2.1 → M.2.2.2 ≤ M'.2.2.2 → ls'.length = ls.length → M.1.length ≤ M'.1.length → (∀ a, a < M.1.length → ad' a = ad a) → GO p l e R s m args below meth c Q nL D cs xa A c0 s0 ad' M' (bps.getD pc' 0) ls' st') : GO p l e R s m args below meth c Q nL D cs xa A c0 s0 ad M pcb ls st := by
  obtain ⟨rfl, rfl, hn⟩ := goN_ok ha
  obtain ⟨x, st', rfl, h2⟩ := una_some h
  have k2 := IH _ _ _ _ ad h2 (hst.pop.push0 (in32_16 _)) (Nat.le_refl _) (Nat.le_refl _) rfl (Nat.le_refl _) (fun _ _ => rfl)
  rw [hn] at k2
  exact go_i2c hx hb hd k2
theorem st_idiv (hx : p.tables.exec = Jvm.exec) (hb : c.code = cc) (hst : SOK M ls st) (hd : decode cc pcb = .ok (real, len)) (ha : agr1 own bps pc pcb real len lp .idiv = true) (h : istep prog clsT X call .idiv pc ls st M k = some r)
    (IH : ∀ (pc' : Nat) (ls' st' : List MV) (M' : Mem) (ad' : Nat → Nat), k pc' ls' st' M' = some r → SOK M' ls' st' → M.2.2.1 ≤ M'.2.2.1 → M.2.2.2 ≤ M'.2.2.2 → ls'.length = ls.length → M.1.length ≤ M'.1.length → (∀ a, a < M.1.length → ad' a = ad a) → GO p l e R s m args below meth c Q nL D cs xa A c0 s0 ad' M' (bps.getD pc' 0) ls' st') : GO p l e R s m args below meth c Q nL D cs xa A c0 s0 ad M pcb ls st := by
  obtain ⟨rfl, rfl, hn⟩ := goN_ok ha
  match st, h, hst with
  | (ty, y) :: (tx, x) :: st', h, hst =>
    have h9 : (if tx = 0 ∧ ty = 0 then (if y = 0 then none else k (pc + 1) ls ((0, tdv x y) :: st') M) else none) = some r := h
    by_cases hc : tx = 0 ∧ ty = 0
    · rw [if_pos hc] at h9
      obtain ⟨rfl, rfl⟩ := hc
      by_cases hy : y = 0
      · rw [if_pos hy] at h9; cases h9
      · rw [if_neg hy] at h9
        have k2 := IH _ _ _ _ ad h9 (hst.pop.pop.push0 (in32_w _)) (Nat.le_refl _) (Nat.le_refl _) rfl (Nat.le_refl _) (fun _ _ => rfl)
        rw [hn] at k2
        exact go_idiv hx hb hst.pop.i32 hst.i32 hy hd k2
    · rw [if_neg hc] at h9; cases h9
theorem st_lcmp (hx : p.tables.exec = Jvm.exec) (hb : c.code = cc) (hst : SOK M ls st) (hd : decode cc pcb = .ok (real, len)) (ha : agr1 own bps pc pcb real len lp .lcmp = true) (h : istep prog clsT X call .lcmp pc ls st M k = some r)
    (IH : ∀ (pc' : Nat) (ls' st' : List MV) (M' : Mem) (ad' : Nat → Nat), k pc' ls' st' M' = some r → SOK M' ls' st' → M.2.2.1 ≤ M'.2.2.1 → M.2.2.2 ≤ M'.2.2.2 → ls'.length = ls.length → M.1.length ≤ M'.1.length → (∀ a, a < M.1.length → ad' a = ad a) → GO p l e R s m args below meth c Q nL D cs xa A c0 s0 ad' M' (bps.getD pc' 0) ls' st') : GO p l e R s m args below meth c Q nL D cs xa A c0 s0 ad M pcb ls st := by
  obtain ⟨rfl, rfl, hn⟩ := goN_ok ha
  match st, h, hst with
  | (ty, y) :: (tx, x) :: st', h, hst =>
    have h9 : (if tx = 1 ∧ ty = 1 then k (pc + 1) ls ((0, lcmpI x y) :: st') M else none) = some r := h
    by_cases hc : tx = 1 ∧ ty = 1
    · rw [if_pos hc] at h9
      obtain ⟨rfl, rfl⟩ := hc
      have k2 := IH _ _ _ _ ad h9 (hst.pop.pop.push0 (by unfold lcmpI in32; split <;> first | omega | (split <;> omega))) (Nat.le_refl _) (Nat.le_refl _) rfl (Nat.le_refl _) (fun _ _ => rfl)
      rw [hn] at k2
      exact go_lcmp hx hb hst.pop.i64 hst.i64 hd k2
    · rw [if_neg hc] at h9; cases h9
theorem st_dup (hx : p.tables.exec = Jvm.exec) (hb : c.code = cc) (hst : SOK M ls st) (hd : decode cc pcb = .ok (real, len)) (ha : agr1 own bps pc pcb real len lp .dup = true) (h : istep prog clsT X call .dup pc ls st M k = some r)
    (IH : ∀ (pc' : Nat) (ls' st' : List MV) (M' : Mem) (ad' : Nat → Nat), k pc' ls' st' M' = some r → SOK M' ls' st' → M.2.2.1 ≤ M'.2.2.1 → M.2.2.2 ≤ M'.2.2.2 → ls'.length = ls.length → M.1.length ≤ M'.1.length → (∀ a, a < M.1.length → ad' a = ad a) → GO p l e R s m args below meth c Q nL D cs xa A c0 s0 ad' M' (bps.getD pc' 0) ls' st') : GO p l e R s m args below meth c Q nL D cs xa A c0 s0 ad M pcb ls st := by
  obtain ⟨rfl, rfl, hn⟩ := goN_ok ha
  match st, h, hst with
  | (t, x) :: st', h, hst =>
    have h9 : (if t = 1 then none else k (pc + 1) ls ((t, x) :: (t, x) :: st') M) = some r := h
    by_cases hc : t = 1
    · rw [if_pos hc] at h9; cases h9
    · rw [if_neg hc] at h9
      have k2 := IH _ _ _ _ ad h9 (hst.push hst.top.1 hst.top.2) (Nat.le_refl _) (Nat.le_refl _) rfl (Nat.le_refl _) (fun _ _ => rfl)
      rw [hn] at k2
      exact go_dup hx hb hc hd k2
theorem st_dup2 (hx : p.tables.exec = Jvm.exec) (hb : c.code = cc) (hst : SOK M ls st) (hd : decode cc pcb = .ok (real, len)) (ha : agr1 own bps pc pcb real len lp .dup2 = true) (h : istep prog clsT X call .dup2 pc ls st M k = some r)
    (IH : ∀ (pc' : Nat) (ls' st' : List MV) (M' : Mem) (ad' : Nat → Nat), k pc' ls' st' M' = some r → SOK M' ls' st' → M.2.2.1 ≤ M'.2.2.1 → M.2.2.2 ≤ M'.2.2.2 → ls'.length = ls.length → M.1.length ≤ M'.1.length → (∀ a, a < M.1.length → ad' a = ad a) → GO p l e R s m args below meth c Q nL D cs xa A c0 s0 ad' M' (bps.getD pc' 0) ls' st') : GO p l e R s m args below meth c Q nL D cs xa A c0 s0 ad M pcb ls st := by
  obtain ⟨rfl, rfl, hn⟩ := goN_ok ha
  match st, h, hst with
  | (t, x) :: (t', x') :: st', h, hst =>
    have h9 : (if t = 1 ∨ t' = 1 then none else k (pc + 1) ls ((t, x) :: (t', x') :: (t, x) :: (t', x') :: st') M) = some r := h
    by_cases hc : t = 1 ∨ t' = 1
    · rw [if_pos hc] at h9; cases h9
    · rw [if_neg hc] at h9
      have k2 := IH _ _ _ _ ad h9 ((hst.push hst.pop.top.1 hst.pop.top.2).push hst.top.1 hst.top.2) (Nat.le_refl _) (Nat.le_refl _) rfl (Nat.le_refl _) (fun _ _ => rfl)
      rw [hn] at k2
      exact go_dup2 hx hb (fun z => hc (Or.inl z)) (fun z => hc (Or.inr z)) hd k2
theorem st_pop2 (hx : p.tables.exec = Jvm.exec) (hb : c.code = cc) (hst : SOK M ls st) (hd : decode cc pcb = .ok (real, len)) (ha : agr1 own bps pc pcb real len lp .pop2 = true) (h : istep prog clsT X call .pop2 pc ls st M k = some r)
    (IH : ∀ (pc' : Nat) (ls' st' : List MV) (M' : Mem) (ad' : Nat → Nat), k pc' ls' st' M' = some r → SOK M' ls' st' → M.2.2.1 ≤ M'.2.2.1 → M.2.2.2 ≤ M'.2.2.2 → ls'.length = ls.length → M.1.length ≤ M'.1.length → (∀ a, a < M.1.length → ad' a = ad a) → GO p l e R s m args below meth c Q nL D cs xa A c0 s0 ad' M' (bps.getD pc' 0) ls' st') : GO p l e R s m args below meth c Q nL D cs xa A c0 s0 ad M pcb ls st := by
  obtain ⟨rfl, rfl, hn⟩ := goN_ok ha
  match st, h, hst with
  | (t, x) :: st', h, hst =>
    have h9 : (if t = 1 then none else k (pc + 1) ls st' M) = some r := h
    by_cases hc : t = 1
    · rw [if_pos hc] at h9; cases h9
    · rw [if_neg hc] at h9
      have k2 := IH _ _ _ _ ad h9 hst.pop (Nat.le_refl _) (Nat.le_refl _) rfl (Nat.le_refl _) (fun _ _ => rfl)
      rw [hn] at k2
      exact go_pop hx hb hc hd k2
theorem st_null (hx : p.tables.exec = Jvm.exec) (hb : c.code = cc) (hst : SOK M ls st) (hd : decode cc pcb = .ok (real, len)) (ha : agr1 own bps pc pcb real len lp .aconst_null = true) (h : istep prog clsT X call .aconst_null pc ls st M k = some r)
    (IH : ∀ (pc' : Nat) (ls' st' : List MV) (M' : Mem) (ad' : Nat → Nat), k pc' ls' st' M' = some r → SOK M' ls' st' → M.2.2.1 ≤ M'.2.2.1 → M.2.2.2 ≤ M'.2.2.2 → ls'.length = ls.length → M.1.length ≤ M'.1.length → (∀ a, a < M.1.length → ad' a = ad a) → GO p l e R s m args below meth c Q nL D cs xa A c0 s0 ad' M' (bps.getD pc' 0) ls' st') : GO p l e R s m args below meth c Q nL D cs xa A c0 s0 ad M pcb ls st := by
  obtain ⟨rfl, rfl, hn⟩ := goN_ok ha
  have k2 := IH _ _ _ _ ad h (hst.push2 (by unfold nx; omega)) (Nat.le_refl _) (Nat.le_refl _) rfl (Nat.le_refl _) (fun _ _ => rfl)
  rw [hn] at k2
  exact go_null hx hb hd k2
theorem st_iload (hx : p.tables.exec = Jvm.exec) (hb : c.code = cc) {n : Nat} (hst : SOK M ls st) (hd : decode cc pcb = .ok (real, len)) (ha : agr1 own bps pc pcb real len lp (.iload n) = true) (h : istep prog clsT X call (.iload n) pc ls st M k = some r)
    (IH : ∀ (pc' : Nat) (ls' st' : List MV) (M' : Mem) (ad' : Nat → Nat), k pc' ls' st' M' = some r → SOK M' ls' st' → M.2.2.1 ≤ M'.2.2.1 → M.2.2.2 ≤ M'.2.2.2 → ls'.length = ls.length → M.1.length ≤ M'.1.length → (∀ a, a < M.1.length → ad' a = ad a) → GO p l e R s m args below meth c Q nL D cs xa A c0 s0 ad' M' (bps.getD pc' 0) ls' st') : GO p l e R s m args below meth c Q nL D cs xa A c0 s0 ad M pcb ls st := by
  obtain ⟨x, h1, h2⟩ := lod_some h
  have hv := hst.2.1 _ (List.mem_of_getElem? h1)
  have k2 := IH _ _ _ _ ad h2 (hst.push hv (Nat.le_of_ble_eq_true rfl : (0 : Nat) < 3)) (Nat.le_refl _) (Nat.le_refl _) rfl (Nat.le_refl _) (fun _ _ => rfl)
  have ha2 : (goN pcb len (bps.getD (pc + 1) 0) real (.iload n) 2 || (decide (n < 4) && goN pcb len (bps.getD (pc + 1) 0) real (.iload_n (Fin.ofNat 4 n)) 1)) = true := ha
  rw [Bool.or_eq_true, Bool.and_eq_true, decide_eq_true_eq] at ha2
  rcases ha2 with ha2 | ⟨h4, ha2⟩
  · obtain ⟨rfl, rfl, hn⟩ := goN_ok ha2
    rw [hn] at k2
    exact go_iload hx hb h1 hd k2
  · obtain ⟨rfl, rfl, hn⟩ := goN_ok ha2
    rw [hn] at k2
    exact go_iloadn hx hb (Nat.mod_eq_of_lt h4) h1 hd k2
theorem st_lload (hx : p.tables.exec = Jvm.exec) (hb : c.code = cc) {n : Nat} (hst : SOK M ls st) (hd : decode cc pcb = .ok (real, len)) (ha : agr1 own bps pc pcb real len lp (.lload n) = true) (h : istep prog clsT X call (.lload n) pc ls st M k = some r)
    (IH : ∀ (pc' : Nat) (ls' st' : List MV) (M' : Mem) (ad' : Nat → Nat), k pc' ls' st' M' = some r → SOK M' ls' st' → M.2.2.1 ≤ M'.2.2.1 → M.2.2.2 ≤ M'.2.2.2 → ls'.length = ls.length → M.1.length ≤ M'.1.length → (∀ a, a < M.1.length → ad' a = ad a) → GO p l e R s m args below meth c Q nL D cs xa A c0 s0 ad' M' (bps.getD pc' 0) ls' st') : GO p l e R s m args below meth c Q nL D cs xa A c0 s0 ad M pcb ls st := by
  obtain ⟨x, h1, h2⟩ := lod_some h
  have hv := hst.2.1 _ (List.mem_of_getElem? h1)
  have k2 := IH _ _ _ _ ad h2 (hst.push hv (Nat.le_of_ble_eq_true rfl : (1 : Nat) < 3)) (Nat.le_refl _) (Nat.le_refl _) rfl (Nat.le_refl _) (fun _ _ => rfl)
  have ha2 : (goN pcb len (bps.getD (pc + 1) 0) real (.lload n) 2 || (decide (n < 4) && goN pcb len (bps.getD (pc + 1) 0) real (.lload_n (Fin.ofNat 4 n)) 1)) = true := ha
  rw [Bool.or_eq_true, Bool.and_eq_true, decide_eq_true_eq] at ha2
  rcases ha2 with ha2 | ⟨h4, ha2⟩
  · obtain ⟨rfl, rfl, hn⟩ := goN_ok ha2
    rw [hn] at k2
    exact go_lload hx hb h1 hd k2
  · obtain ⟨rfl, rfl, hn⟩ := goN_ok ha2
    rw [hn] at k2
    exact go_lloadn hx hb (Nat.mod_eq_of_lt h4) h1 hd k2
theorem st_aload (hx : p.tables.exec = Jvm.exec) (hb : c.code = cc) {n : Nat} (hst : SOK M ls st) (hd : decode cc pcb = .ok (real, len)) (ha : agr1 own bps pc pcb real len lp (.aload n) = true) (h : istep prog clsT X call (.aload n) pc ls st M k = some r)
    (IH : ∀ (pc' : Nat) (ls' st' : List MV) (M' : Mem) (ad' : Nat → Nat), k pc' ls' st' M' = some r → SOK M' ls' st' → M.2.2.1 ≤ M'.2.2.1 → M.2.2.2 ≤ M'.2.2.2 → ls'.length = ls.length → M.1.length ≤ M'.1.length → (∀ a, a < M.1.length → ad' a = ad a) → GO p l e R s m args below meth c Q nL D cs xa A c0 s0 ad' M' (bps.getD pc' 0) ls' st') : GO p l e R s m args below meth c Q nL D cs xa A c0 s0 ad M pcb ls st := by
  obtain ⟨x, h1, h2⟩ := lod_some h
  have hv := hst.2.1 _ (List.mem_of_getElem? h1)
  have k2 := IH _ _ _ _ ad h2 (hst.push hv (Nat.le_of_ble_eq_true rfl : (2 : Nat) < 3)) (Nat.le_refl _) (Nat.le_refl _) rfl (Nat.le_refl _) (fun _ _ => rfl)
  have ha2 : (goN pcb len (bps.getD (pc + 1) 0) real (.aload n) 2 || (decide (n < 4) && goN pcb len (bps.getD (pc + 1) 0) real (.aload_n (Fin.ofNat 4 n)) 1)) = true := ha
  rw [Bool.or_eq_true, Bool.and_eq_true, decide_eq_true_eq] at ha2
  rcases ha2 with ha2 | ⟨h4, ha2⟩
  · obtain ⟨rfl, rfl, hn⟩ := goN_ok ha2
    rw [hn] at k2
    exact go_aload hx hb h1 hd k2
  · obtain ⟨rfl, rfl, hn⟩ := goN_ok ha2
    rw [hn] at k2
    exact go_aloadn hx hb (Nat.mod_eq_of_lt h4) h1 hd k2
theorem st_istore (hx : p.tables.exec = Jvm.exec) (hb : c.code = cc) {n : Nat} (hnL : n < nL) (hst : SOK M ls st) (hd : decode cc pcb = .ok (real, len)) (ha : agr1 own bps pc pcb real len lp (.istore n) = true) (h : istep prog clsT X call (.istore n) pc ls st M k = some r)
    (IH : ∀ (pc' : Nat) (ls' st' : List MV) (M' : Mem) (ad' : Nat → Nat), k pc' ls' st' M' = some r → SOK M' ls' st' → M.2.2.1 ≤ M'.2.2.1 → M.2.2.2 ≤ M'.2.2.2 → ls'.length = ls.length → M.1.length ≤ M'.1.length → (∀ a, a < M.1.length → ad' a = ad a) → GO p l e R s m args below meth c Q nL D cs xa A c0 s0 ad' M' (bps.getD pc' 0) ls' st') : GO p l e R s m args below meth c Q nL D cs xa A c0 s0 ad M pcb ls st := by
  match st, h, hst with
  | (t, x) :: st', h, hst =>
    have h9 : (if t = 0 then k (pc + 1) (set1 ls n (t, x)) st' M else none) = some r := h
    by_cases hc : t = 0
    · rw [if_pos hc] at h9
      subst hc
      have k2 := IH _ _ _ _ ad h9 (hst.pop.set1 hst.top.1) (Nat.le_refl _) (Nat.le_refl _) (set1_len _ _ _) (Nat.le_refl _) (fun _ _ => rfl)
      have ha2 : (goN pcb len (bps.getD (pc + 1) 0) real (.istore n) 2 || (decide (n < 4) && goN pcb len (bps.getD (pc + 1) 0) real (.istore_n (Fin.ofNat 4 n)) 1)) = true := ha
      rw [Bool.or_eq_true, Bool.and_eq_true, decide_eq_true_eq] at ha2
      rcases ha2 with ha2 | ⟨h4, ha2⟩
      · obtain ⟨rfl, rfl, hn⟩ := goN_ok ha2
        rw [hn] at k2
        exact go_istore hx hb hnL hd k2
      · obtain ⟨rfl, rfl, hn⟩ := goN_ok ha2
        rw [hn] at k2
        exact go_istoren hx hb (Nat.mod_eq_of_lt h4) hnL hd k2
    · rw [if_neg hc] at h9; cases h9
theorem st_astore (hx : p.tables.exec = Jvm.exec) (hb : c.code = cc) {n : Nat} (hnL : n < nL) (hst : SOK M ls st) (hd : decode cc pcb = .ok (real, len)) (ha : agr1 own bps pc pcb real len lp (.astore n) = true) (h : istep prog clsT X call (.astore n) pc ls st M k = some r)
    (IH : ∀ (pc' : Nat) (ls' st' : List MV) (M' : Mem) (ad' : Nat → Nat), k pc' ls' st' M' = some r → SOK M' ls' st' → M.2.2.1 ≤ M'.2.2.1 → M.2.2.2 ≤ M'.2.2.2 → ls'.length = ls.length → M.1.length ≤ M'.1.length → (∀ a, a < M.1.length → ad' a = ad a) → GO p l e R s m args below meth c Q nL D cs xa A c0 s0 ad' M' (bps.getD pc' 0) ls' st') : GO p l e R s m args below meth c Q nL D cs xa A c0 s0 ad M pcb ls st := by
  match st, h, hst with
  | (t, x) :: st', h, hst =>
    have h9 : (if t = 2 then k (pc + 1) (set1 ls n (t, x)) st' M else none) = some r := h
    by_cases hc : t = 2
    · rw [if_pos hc] at h9
      subst hc
      have k2 := IH _ _ _ _ ad h9 (hst.pop.set1 hst.top.1) (Nat.le_refl _) (Nat.le_refl _) (set1_len _ _ _) (Nat.le_refl _) (fun _ _ => rfl)
      have ha2 : (goN pcb len (bps.getD (pc + 1) 0) real (.astore n) 2 || (decide (n < 4) && goN pcb len (bps.getD (pc + 1) 0) real (.astore_n (Fin.ofNat 4 n)) 1)) = true := ha
      rw [Bool.or_eq_true, Bool.and_eq_true, decide_eq_true_eq] at ha2
      rcases ha2 with ha2 | ⟨h4, ha2⟩
      · obtain ⟨rfl, rfl, hn⟩ := goN_ok ha2
        rw [hn] at k2
        exact go_astore hx hb hnL hd k2
      · obtain ⟨rfl, rfl, hn⟩ := goN_ok ha2
        rw [hn] at k2
        exact go_astoren hx hb (Nat.mod_eq_of_lt h4) hnL hd k2
    · rw [if_neg hc] at h9; cases h9
theorem st_lstore (hx : p.tables.exec = Jvm.exec) (hb : c.code = cc) {n : Nat} (hnL : n + 1 < nL) (hst : SOK M ls st) (hd : decode cc pcb = .ok (real, len)) (ha : agr1 own bps pc pcb real len lp (.lstore n) = true) (h : istep prog clsT X call (.lstore n) pc ls st M k = some r)
    (IH : ∀ (pc' : Nat) (ls' st' : List MV) (M' : Mem) (ad' : Nat → Nat), k pc' ls' st' M' = some r → SOK M' ls' st' → M.2.2.1 ≤ M'.2.2.1 → M.2.2.2 ≤ M'.2.2.2 → ls'.length = ls.length → M.1.length ≤ M'.1.length → (∀ a, a < M.1.length → ad' a = ad a) → GO p l e R s m args below meth c Q nL D cs xa A c0 s0 ad' M' (bps.getD pc' 0) ls' st') : GO p l e R s m args below meth c Q nL D cs xa A c0 s0 ad M pcb ls st := by
  match st, h, hst with
  | (t, x) :: st', h, hst =>
    have h9 : (if t = 1 then k (pc + 1) ((set1 ls n (t, x)).set (n + 1) (3, 0)) st' M else none) = some r := h
    by_cases hc : t = 1
    · rw [if_pos hc] at h9
      subst hc
      have k2 := IH _ _ _ _ ad h9 ((hst.pop.set1 hst.top.1).set vok3) (Nat.le_refl _) (Nat.le_refl _) ((List.length_set ..).trans (set1_len _ _ _)) (Nat.le_refl _) (fun _ _ => rfl)
      have ha2 : (goN pcb len (bps.getD (pc + 1) 0) real (.lstore n) 2 || (decide (n < 4) && goN pcb len (bps.getD (pc + 1) 0) real (.lstore_n (Fin.ofNat 4 n)) 1)) = true := ha
      rw [Bool.or_eq_true, Bool.and_eq_true, decide_eq_true_eq] at ha2
      rcases ha2 with ha2 | ⟨h4, ha2⟩
      · obtain ⟨rfl, rfl, hn⟩ := goN_ok ha2
        rw [hn] at k2
        exact go_lstore hx hb hnL hd k2
      · obtain ⟨rfl, rfl, hn⟩ := goN_ok ha2
        rw [hn] at k2
        exact go_lstoren hx hb (Nat.mod_eq_of_lt h4) hnL hd k2
    · rw [if_neg hc] at h9; cases h9
theorem st_iinc (hx : p.tables.exec = Jvm.exec) (hb : c.code = cc) {n : Nat} {d : Int} (hnL : n < nL) (hst : SOK M ls st) (hd : decode cc pcb = .ok (real, len)) (ha : agr1 own bps pc pcb real len lp (.iinc n d) = true) (h : istep prog clsT X call (.iinc n d) pc ls st M k = some r)
    (IH : ∀ (pc' : Nat) (ls' st' : List MV) (M' : Mem) (ad' : Nat → Nat), k pc' ls' st' M' = some r → SOK M' ls' st' → M.2.2.1 ≤ M'.2.2.1 → M.2.2.2 ≤ M'.2.2.2 → ls'.length = ls.length → M.1.length ≤ M'.1.length → (∀ a, a < M.1.length → ad' a = ad a) → GO p l e R s m args below meth c Q nL D cs xa A c0 s0 ad' M' (bps.getD pc' 0) ls' st') : GO p l e R s m args below meth c Q nL D cs xa A c0 s0 ad M pcb ls st := by
  obtain ⟨rfl, rfl, hn⟩ := goN_ok ha
  obtain ⟨x, h1, h2⟩ := incr_some h
  have k2 := IH _ _ _ _ ad h2 (hst.set (vok0 (in32_w _))) (Nat.le_refl _) (Nat.le_refl _) (List.length_set ..) (Nat.le_refl _) (fun _ _ => rfl)
  rw [hn] at k2
  exact go_iinc hx hb hnL h1 hd k2
end STEP
