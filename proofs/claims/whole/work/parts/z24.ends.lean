/-! Part 24: a method's entry; its ends; calls as steps. -/
theorem in32_fits16 {x : Int} (h : is16 x = true) : c16 x = x := by
  unfold is16 at h
  simp only [Bool.and_eq_true, decide_eq_true_eq] at h
  unfold c16; omega
theorem in8_fits {x : Int} (h : is8 x = true) : sx8 x = x := by
  unfold is8 at h
  simp only [Bool.and_eq_true, decide_eq_true_eq] at h
  unfold sx8; rw [Int.bmod_def]; split <;> omega
theorem nar_z {x : Int} (h : one01 x = true) : narrow .boolean (.int (Int32.ofInt x)) = .int (Int32.ofInt x) := by
  unfold one01 at h
  simp only [Bool.or_eq_true, decide_eq_true_eq] at h
  rcases h with rfl | rfl <;> rfl
theorem nar_c {x : Int} (h : is16 x = true) : narrow .char (.int (Int32.ofInt x)) = .int (Int32.ofInt x) := by
  have e := i3_16 x
  rw [in32_fits16 h] at e
  show Value.int ((Int32.ofInt x).toUInt32 % 65536).toInt32 = _
  rw [e]
theorem nar_b {x : Int} (h : is8 x = true) : narrow .byte (.int (Int32.ofInt x)) = .int (Int32.ofInt x) := by
  have e := i3_8 x
  rw [in8_fits h] at e
  show Value.int (Int32.ofInt x).toInt8.toInt32 = _
  rw [e]
/-- the locals at the entry -/
theorem wt_lin : ∀ (as : List MV), (lin as).length = wt as
  | [] => rfl
  | v :: r => by
    unfold lin wt
    by_cases h : v.1 = 1
    · rw [if_pos h, if_pos h, List.length_cons, List.length_cons, wt_lin r]; omega
    · rw [if_neg h, if_neg h, List.length_cons, wt_lin r]; omega
theorem wt_sl (ad : Nat → Nat) (xa : Int → Option Nat) : ∀ (as : List MV), (lg_sl (as.map (mrv ad xa))).length = wt as
  | [] => rfl
  | v :: r => by
    have ih := wt_sl ad xa r
    unfold wt
    rw [List.map_cons]
    unfold lg_sl at ih ⊢
    rw [List.flatMap_cons, List.length_append, ih]
    by_cases h : v.1 = 1
    · obtain ⟨t, x⟩ := v
      have h : t = 1 := h
      subst h
      rfl
    · rw [if_neg h, if_neg (by rw [mrv_cat h]; decide)]
      rfl
theorem lin_args (ad : Nat → Nat) (xa : Int → Option Nat) : ∀ (as : List MV) (i j : Nat) (v : MV), (∀ w ∈ as, w.1 < 3) → (lin as)[i]? = some v → v.1 < 3 → (j + i, mrv ad xa v) ∈ lv_args j (as.map (mrv ad xa))
  | [], i, j, v, _, h, _ => by simp [lin] at h
  | w :: r, i, j, v, ha, h, h3 => by
    rw [List.map_cons]
    unfold lv_args
    have hr : ∀ w ∈ r, w.1 < 3 := fun w hw => ha w (List.mem_cons_of_mem _ hw)
    by_cases hw : w.1 = 1
    · have hc : (mrv ad xa w).category = 2 := by
        obtain ⟨t, x⟩ := w
        have hw : t = 1 := hw
        subst hw; rfl
      rw [if_pos hc]
      unfold lin at h
      rw [if_pos hw] at h
      match i, h with
      | 0, h =>
        have e : w = v := by simpa using h
        subst e
        exact List.mem_cons_self
      | 1, h =>
        have e : (3, 0) = v := by simpa using h
        subst e
        exact absurd h3 (by decide)
      | i + 2, h =>
        have h2 : (lin r)[i]? = some v := by simpa using h
        have := lin_args ad xa r i (j + 2) v hr h2 h3
        rw [show j + (i + 2) = j + 2 + i by omega]
        exact List.mem_cons_of_mem _ this
    · rw [if_neg (by rw [mrv_cat hw]; decide)]
      unfold lin at h
      rw [if_neg hw] at h
      match i, h with
      | 0, h =>
        have e : w = v := by simpa using h
        subst e
        exact List.mem_cons_self
      | i + 1, h =>
        have h2 : (lin r)[i]? = some v := by simpa using h
        have := lin_args ad xa r i (j + 1) v hr h2 h3
        rw [show j + (i + 1) = j + 1 + i by omega]
        exact List.mem_cons_of_mem _ this
theorem LREL_entry {nL : Nat} {ad : Nat → Nat} {xa : Int → Option Nat} {as : List MV} (h3 : ∀ v ∈ as, v.1 < 3) (hw : wt as ≤ nL) :
    LREL nL ad xa (lin0 nL as) ((lg_sl (as.map (mrv ad xa)) ++ List.replicate (nL - (lg_sl (as.map (mrv ad xa))).length) Slot.unset).toArray) := by
  have hl := lv_entry (as.map (mrv ad xa)) (n := nL) (by rw [wt_sl]; exact hw)
  have hlen : (lin0 nL as).length = nL := by
    unfold lin0
    rw [List.length_append, List.length_replicate, wt_lin]; omega
  refine ⟨⟨hl.1, hl.2.1, fun _ h => by cases h⟩, hlen, fun i v hv hv3 => ?_⟩
  unfold lin0 at hv
  by_cases hi : i < (lin as).length
  · rw [List.getElem?_append_left hi] at hv
    have := hl.2.2 _ (lin_args ad xa as i 0 v h3 hv hv3)
    simpa using this
  · rw [List.getElem?_append_right (by omega)] at hv
    have := List.mem_of_getElem? hv
    rw [(List.mem_replicate.mp this).2] at hv3
    exact absurd hv3 (by decide)
theorem lin_ok {n : Int} : ∀ (as : List MV), (∀ v ∈ as, VOK n v) → ∀ v ∈ lin as, VOK n v
  | [], _, v, hv => by simp [lin] at hv
  | w :: r, h, v, hv => by
    unfold lin at hv
    have hr := lin_ok r (fun v hv => h v (List.mem_cons_of_mem _ hv))
    split at hv
    · rcases List.mem_cons.mp hv with rfl | hv
      · exact h _ List.mem_cons_self
      · rcases List.mem_cons.mp hv with rfl | hv
        · exact vok3
        · exact hr v hv
    · rcases List.mem_cons.mp hv with rfl | hv
      · exact h _ List.mem_cons_self
      · exact hr v hv
theorem SOK_entry {M : Mem} {as : List MV} {nL : Nat} (hM : MOK M) (h : ∀ v ∈ as, VOK (nx M) v ∧ v.1 < 3) : SOK M (lin0 nL as) [] := by
  refine ⟨hM, fun v hv => ?_, fun v hv => by cases hv⟩
  unfold lin0 at hv
  rcases List.mem_append.mp hv with hv | hv
  · exact lin_ok as (fun v hv => (h v hv).1) v hv
  · rw [(List.mem_replicate.mp hv).2]; exact vok3
/-- what an instruction asks of its method: its locals, its return type, final fields -/
def chkI (nL : Nat) (ret : Option FieldType) (ini : Bool) : Instr → Bool
  | .istore n => decide (n < nL)
  | .astore n => decide (n < nL)
  | .lstore n => decide (n + 1 < nL)
  | .iinc n _ => decide (n < nL)
  | .putfield f => ini || !(fldN f).2.2.2
  | .ireturn => decide (ret = some .int)
  | .freturn => decide (ret = some .boolean)
  | .dreturn => decide (ret = some .char)
  | .dneg => decide (ret = some .byte)
  | .lreturn => decide (ret = some .long)
  | .areturn => match ret with | some (.object _) => true | some (.array _) => true | _ => false
  | .return_ => decide (ret = none)
  | _ => true
def chkM (j : Nat) : Bool := (prog j).1.all (fun q => chkI (prog j).2.2.1 (mth j).2.2.2.1 (decide ((mth j).1.name = "<init>")) q.1)
def isRet : Instr → Bool
  | .ireturn => true | .freturn => true | .dreturn => true | .dneg => true | .lreturn => true | .areturn => true | .return_ => true | _ => false
theorem rtn_some {ok : Int → Bool} {t : Nat} {st : List MV} {M : Mem} {r : MRes} (h : rtn ok t st M = some r) : ∃ x, st = [(t, x)] ∧ ok x = true ∧ r = ((t, x), M) := by
  unfold rtn at h
  match st, h with
  | [(tx, x)], h =>
    have h9 : (if tx = t ∧ ok x = true then some ((t, x), M) else none) = some r := h
    by_cases hc : tx = t ∧ ok x = true
    · rw [if_pos hc] at h9; cases h9; obtain ⟨rfl, h2⟩ := hc; exact ⟨x, rfl, h2, rfl⟩
    · rw [if_neg hc] at h9; cases h9
section ENDS
variable {p : Program} {l : Launch} {e : Env} {R : Room} {s : State} {m : MethodId} {args : Array Value} {below : List Frame} {meth : Method} {c : Code} {nL : Nat} {D : va_G} {cs : Nat → ClassId} {xa : Int → Option Nat} {A : Nat → Prop} {ad ad0 : Nat → Nat} {M M0 : Mem} {pcb pc : Nat} {ls st : List MV} {cc : ByteArray} {X : MExt} {own len lp : Nat} {real : Instr} {bps : List Nat} {call : MC} {k : MK} {r : MRes}
theorem st_ret (hx : p.tables.exec = Jvm.exec) (hb : c.code = cc) (hlocks : meth.locks = false) {ret : Option FieldType} (hr : meth.sig.returnType = ret) {sz : Nat} {ini : Bool} (hsz : s.heap.size = sz) (hA : A = va_A (WS cs ad0 xa M0) sz) (hle : M0.1.length ≤ M.1.length) (had : ∀ a, a < M0.1.length → ad a = ad0 a)
    {i : Instr} (hi : isRet i = true) (hc : chkI nL ret ini i = true) (hst : SOK M ls st) (hd : decode cc pcb = .ok (real, len)) (ha : agr1 own bps pc pcb real len lp i = true) (h : istep prog clsT X call i pc ls st M k = some r) :
    GO p l e R s m args below meth c (MQ below (MQC D cs xa ad0 M0 r.1 r.2 sz) args s (r.2.2.2.1 - M0.2.2.1) (r.2.2.2.2 - M0.2.2.2) A) nL D cs xa A M0.2.2.1 M0.2.2.2 ad M pcb ls st := by
  intro H locs arr hP hD hS hL
  have hpost : ∀ (v : MV), r = (v, M) → VOK (nx M) v → ∀ t : State, t.heap = H → s.WarmedH t.vm → ∀ o, o = (if v.1 = 3 then none else some (mrv ad xa v)) → MQC D cs xa ad0 M0 r.1 r.2 sz args s (.returned o) t := by
    intro v er hv t ht hW o ho
    rw [er, ho]
    refine ⟨⟨ad, had, rfl, by rw [ht]; exact hP, by rw [← hA]; exact hD, hst.1, fun _ => hv, hle⟩, ?_⟩
    rw [← hA]
    exact hS.F ht
  cases i <;> first | (exact absurd hi Bool.false_ne_true) | skip
  case ireturn =>
    obtain ⟨x, rfl, -, er⟩ := rtn_some h
    have g : (decide (real = .ireturn) && decide (len = 1)) = true := ha
    simp only [Bool.and_eq_true, decide_eq_true_eq] at g
    rw [g.1, g.2] at hd
    have hc : ret = some .int := of_decide_eq_true hc
    subst hc
    have k := W.iret (v := Int32.ofInt x) (free := A) (locs := locs) (cells := M.2.2.1 - M0.2.2.1) (slots := M.2.2.2 - M0.2.2.2) (Qc := MQC D cs xa ad0 M0 r.1 r.2 sz) hx hb hr (fun t ht hW => hpost _ er hst.top.1 t ht hW _ rfl) hS.2.2 (ls := arr) hd hlocks (p := p) (l := l) (e := e) (R := R) (below := below) (m := m)
    rw [er] at k ⊢
    exact k
  case freturn =>
    obtain ⟨x, rfl, h01, er⟩ := rtn_some h
    have g : (decide (real = .ireturn) && decide (len = 1)) = true := ha
    simp only [Bool.and_eq_true, decide_eq_true_eq] at g
    rw [g.1, g.2] at hd
    have hc : ret = some .boolean := of_decide_eq_true hc
    subst hc
    have k := W.zret (v := Int32.ofInt x) (free := A) (locs := locs) (cells := M.2.2.1 - M0.2.2.1) (slots := M.2.2.2 - M0.2.2.2) (Qc := MQC D cs xa ad0 M0 r.1 r.2 sz) hx hb hr (nar_z h01) (fun t ht hW => hpost _ er hst.top.1 t ht hW _ rfl) hS.2.2 (ls := arr) hd hlocks (p := p) (l := l) (e := e) (R := R) (below := below) (m := m)
    rw [er] at k ⊢
    exact k
  case dreturn =>
    obtain ⟨x, rfl, h01, er⟩ := rtn_some h
    have g : (decide (real = .ireturn) && decide (len = 1)) = true := ha
    simp only [Bool.and_eq_true, decide_eq_true_eq] at g
    rw [g.1, g.2] at hd
    have hc : ret = some .char := of_decide_eq_true hc
    subst hc
    have k := W.zret (v := Int32.ofInt x) (free := A) (locs := locs) (cells := M.2.2.1 - M0.2.2.1) (slots := M.2.2.2 - M0.2.2.2) (Qc := MQC D cs xa ad0 M0 r.1 r.2 sz) hx hb hr (nar_c h01) (fun t ht hW => hpost _ er hst.top.1 t ht hW _ rfl) hS.2.2 (ls := arr) hd hlocks (p := p) (l := l) (e := e) (R := R) (below := below) (m := m)
    rw [er] at k ⊢
    exact k
  case dneg =>
    obtain ⟨x, rfl, h01, er⟩ := rtn_some h
    have g : (decide (real = .ireturn) && decide (len = 1)) = true := ha
    simp only [Bool.and_eq_true, decide_eq_true_eq] at g
    rw [g.1, g.2] at hd
    have hc : ret = some .byte := of_decide_eq_true hc
    subst hc
    have k := W.zret (v := Int32.ofInt x) (free := A) (locs := locs) (cells := M.2.2.1 - M0.2.2.1) (slots := M.2.2.2 - M0.2.2.2) (Qc := MQC D cs xa ad0 M0 r.1 r.2 sz) hx hb hr (nar_b h01) (fun t ht hW => hpost _ er hst.top.1 t ht hW _ rfl) hS.2.2 (ls := arr) hd hlocks (p := p) (l := l) (e := e) (R := R) (below := below) (m := m)
    rw [er] at k ⊢
    exact k
  case lreturn =>
    obtain ⟨x, rfl, -, er⟩ := rtn_some h
    have g : (decide (real = .lreturn) && decide (len = 1)) = true := ha
    simp only [Bool.and_eq_true, decide_eq_true_eq] at g
    rw [g.1, g.2] at hd
    have hc : ret = some .long := of_decide_eq_true hc
    subst hc
    have k := W.lret (v := Int64.ofInt x) (free := A) (locs := locs) (cells := M.2.2.1 - M0.2.2.1) (slots := M.2.2.2 - M0.2.2.2) (Qc := MQC D cs xa ad0 M0 r.1 r.2 sz) hx hb hr (fun t ht hW => hpost _ er hst.top.1 t ht hW _ rfl) hS.2.2 (ls := arr) hd hlocks (p := p) (l := l) (e := e) (R := R) (below := below) (m := m)
    rw [er] at k ⊢
    exact k
  case areturn =>
    obtain ⟨x, rfl, -, er⟩ := rtn_some h
    have g : (decide (real = .areturn) && decide (len = 1)) = true := ha
    simp only [Bool.and_eq_true, decide_eq_true_eq] at g
    rw [g.1, g.2] at hd
    obtain ⟨rt, hrt, hrk⟩ : ∃ rt, ret = some rt ∧ ((∃ n, rt = .object n) ∨ ∃ t, rt = .array t) := by
      cases ret with
      | none => cases hc
      | some rt => cases rt <;> first | exact ⟨_, rfl, Or.inl ⟨_, rfl⟩⟩ | exact ⟨_, rfl, Or.inr ⟨_, rfl⟩⟩ | cases hc
    subst hrt
    have hv : mrv ad xa (2, x) = .null ∨ ∃ a, mrv ad xa (2, x) = .ref a := by
      rw [mrv2]
      cases mrf ad xa x with
      | none => exact Or.inl rfl
      | some a => exact Or.inr ⟨a, rfl⟩
    have k := W.aret (v := mrv ad xa (2, x)) (free := A) (locs := locs) (cells := M.2.2.1 - M0.2.2.1) (slots := M.2.2.2 - M0.2.2.2) (Qc := MQC D cs xa ad0 M0 r.1 r.2 sz) hx hb hr hrk hv (fun t ht hW => hpost _ er hst.top.1 t ht hW _ rfl) hS.2.2 (ls := arr) hd hlocks (p := p) (l := l) (e := e) (R := R) (below := below) (m := m)
    rw [er] at k ⊢
    exact k
  case return_ =>
    match st, h, hst with
    | [], h, hst =>
      have er : r = ((3, 0), M) := (Option.some.inj h).symm
      have g : (decide (real = .return_) && decide (len = 1)) = true := ha
      simp only [Bool.and_eq_true, decide_eq_true_eq] at g
      rw [g.1, g.2] at hd
      have hc : ret = none := of_decide_eq_true hc
      subst hc
      have k := W.vret (free := A) (locs := locs) (cells := M.2.2.1 - M0.2.2.1) (slots := M.2.2.2 - M0.2.2.2) (Qc := MQC D cs xa ad0 M0 r.1 r.2 sz) hx hb hr (fun t ht hW => hpost _ er vok3 t ht hW _ rfl) hS.2.2 (ls := arr) hd hlocks (p := p) (l := l) (e := e) (R := R) (below := below) (m := m)
      rw [er] at k ⊢
      exact k
end ENDS
