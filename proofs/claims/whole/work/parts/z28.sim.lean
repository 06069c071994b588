/-! Part 28: what the mini machine does, the machine does. -/

def FACTS (j : Nat) : Prop := ∃ (R : List (Nat × Instr × Nat × Nat)) (own : Nat), onm own = (mth j).1.cls ∧ (∀ q ∈ R, decode (mth j).2.1 q.1 = .ok (q.2.1, q.2.2.1)) ∧ agrL own (R.map (·.1)) 0 R (prog j).1 = true ∧ chkM j = true ∧ (∀ pc ks, (prog j).1[pc]? = some (.athrow, ks) → own = 11 ∧ THR5 (mth j).2.1 ((R.map (·.1)).getD pc 0)) ∧
  (∀ pc a h ks, (prog j).1[pc]? = some (.invokeinterface a h, ks) → own = 14 ∧ ∀ c : Code, c.exceptionTable.toList = tableOf (hhN j) → CATCH c (mth j).2.1 (R.map (·.1)) (mth j).2.2.1 pc h) ∧ (R.map (·.1)).getD 0 0 = 0
section RUN
variable {p : Program} {l : Launch} {e : Env} {R : Room} {s : State} {m : MethodId} {args : Array Value} {below : List Frame} {meth : Method} {c : Code} {Q : State → Prop} {nL : Nat} {D : va_G} {cs : Nat → ClassId} {xa : Int → Option Nat} {A : Nat → Prop} {ad0 : Nat → Nat} {M0 : Mem} {cc : ByteArray} {X : MExt} {own : Nat} {r : MRes} {d : Nat}
/-- one run of one method's code -/
theorem run_all (hx : p.tables.exec = Jvm.exec) (hb : c.code = cc) (hml : c.maxLocals = nL) (hts : ∀ w ∈ GW, w.before args s = true) (hown : s.vm.findClass (onm own) = some m.cls) (hK : va_K D vwCl (tysOf cs) s) (hNW : NWOK s) (hZ : TZOK A s s.heap) (hE : EXTOK X xa A s s.heap) (hA : ∀ q, s.heap.size ≤ q → A q) (hF : MFALL) (hFW : ∀ j, 266 ≤ j → j < 271 → MFW j) (h5 : ∀ x, x < -1 → x ≠ -5 → ∃ q, xa x = some q) (hR : ROK d R) (hRc : r.2.2.2.1 - M0.2.2.1 ≤ R.cells) (hRs : r.2.2.2.2 - M0.2.2.2 ≤ R.slots)
    {code : List (Instr × List Nat)} {RR : List (Nat × Instr × Nat × Nat)} (hdec : ∀ q ∈ RR, decode cc q.1 = .ok (q.2.1, q.2.2.1)) (hagr : agrL own (RR.map (·.1)) 0 RR code = true) {ret : Option FieldType} {ini : Bool} (hchk : code.all (fun q => chkI nL ret ini q.1) = true) (hini : ini = true → meth.name = "<init>")
    (hcat : ∀ pc a h ks, code[pc]? = some (.invokeinterface a h, ks) → own = 14 ∧ CATCH c cc (RR.map (·.1)) nL pc h) {n : Nat} (hcall : ∀ k, k < n → CALLOK l X D cs xa (exC prog clsT X k d) d)
    (HT : ∀ (k : Nat) (pc : Nat) (ls st : List MV) (M : Mem) (ad : Nat → Nat) (i : Instr) (ks : List Nat) (real : Instr) (len lp : Nat), code[pc]? = some (i, ks) → (isRet i = true ∨ i = .athrow) → chkI nL ret ini i = true → istep prog clsT X (exC prog clsT X k d) i pc ls st M (ex prog clsT X k d code) = some r → SOK M ls st → CLE M0 M → M0.1.length ≤ M.1.length → (∀ a, a < M0.1.length → ad a = ad0 a) → decode cc ((RR.map (·.1)).getD pc 0) = .ok (real, len) → agr1 own (RR.map (·.1)) pc ((RR.map (·.1)).getD pc 0) real len lp i = true → GO p l e R s m args below meth c Q nL D cs xa A M0.2.2.1 M0.2.2.2 ad M ((RR.map (·.1)).getD pc 0) ls st) :
    ∀ (k : Nat), k ≤ n → ∀ (pc : Nat) (ls st : List MV) (M : Mem) (ad : Nat → Nat), ex prog clsT X k d code pc ls st M = some r → SOK M ls st → ls.length = nL → CLE M0 M → M0.1.length ≤ M.1.length → (∀ a, a < M0.1.length → ad a = ad0 a) → GO p l e R s m args below meth c Q nL D cs xa A M0.2.2.1 M0.2.2.2 ad M ((RR.map (·.1)).getD pc 0) ls st := by
  intro k
  induction k with
  | zero => intro _ pc ls st M ad h; cases h
  | succ k ih =>
    intro hk pc ls0 st M ad h hst0 hll0 hcle hle had
    rw [ex_succ] at h
    unfold bstep at h
    cases hcode : code[pc]? with
    | none => rw [hcode] at h; cases h
    | some q =>
      obtain ⟨i, ks⟩ := q
      rw [hcode] at h
      replace h : istep prog clsT X (exC prog clsT X k d) i pc (kl ks ls0) st M (ex prog clsT X k d code) = some r := h
      refine go_kl ks ?_
      have hst := SOK.kl ks ls0 hst0
      have hll : (kl ks ls0).length = nL := by
        have : ∀ (ks : List Nat) (ls : List MV), (kl ks ls).length = ls.length := by
          intro ks
          induction ks with
          | nil => intro ls; rfl
          | cons a ks ih => intro ls; exact (ih _).trans (List.length_set ..)
        rw [this]; exact hll0
      generalize kl ks ls0 = ls at h hst hll
      obtain ⟨q, hq, ha⟩ := agrL_at hagr hcode
      rw [Nat.zero_add] at ha
      obtain ⟨pcb, real, len, lp⟩ := q
      have hpc : (RR.map (·.1)).getD pc 0 = pcb := by rw [List.getD_eq_getElem?_getD, List.getElem?_map, hq]; rfl
      have hd := hdec _ (List.mem_of_getElem? hq)
      have hci : chkI nL ret ini i = true := List.all_eq_true.mp hchk _ (List.mem_of_getElem? hcode)
      have hmo : KMO (ex prog clsT X k d code) r := fun pc' ls' st' M' h' => ex_cle prog clsT X _ _ _ _ _ _ _ _ h'
      have hmo2 : ∀ (pc' : Nat) (ls' st' : List MV) (M' : Mem), ex prog clsT X k d code pc' ls' st' M' = some r → M'.2.2.1 ≤ r.2.2.2.1 ∧ M'.2.2.2 ≤ r.2.2.2.2 := hmo
      have hcm := exC_cle prog clsT X k d
      have hco := hcall k (by omega)
      have hRf : 1 ≤ R.frames := by have := hR.1; omega
      have hRl : 300 ≤ R.locals := by have := hR.2; omega
      have hRl1 : 100 ≤ R.locals := by omega
      have IH : ∀ (pc' : Nat) (ls' st' : List MV) (M' : Mem) (ad' : Nat → Nat), ex prog clsT X k d code pc' ls' st' M' = some r → SOK M' ls' st' → M.2.2.1 ≤ M'.2.2.1 → M.2.2.2 ≤ M'.2.2.2 → ls'.length = ls.length → M.1.length ≤ M'.1.length → (∀ a, a < M.1.length → ad' a = ad a) → GO p l e R s m args below meth c Q nL D cs xa A M0.2.2.1 M0.2.2.2 ad' M' ((RR.map (·.1)).getD pc' 0) ls' st' := fun pc' ls' st' M' ad' h' s' c1 c2 e1 e2 e3 => ih (by omega) pc' ls' st' M' ad' h' s' (e1.trans hll) (hcle.tr ⟨c1, c2⟩) (Nat.le_trans hle e2) (fun a ha => (e3 a (Nat.lt_of_lt_of_le ha hle)).trans (had a ha))
      rw [hpc]
      have HT2 : (isRet i = true ∨ i = .athrow) → GO p l e R s m args below meth c Q nL D cs xa A M0.2.2.1 M0.2.2.2 ad M pcb ls st := fun hi => by
        have := HT k pc ls st M ad i ks real len lp hcode hi hci h hst hcle hle had (by rw [hpc]; exact hd) (by rw [hpc]; exact ha)
        rw [hpc] at this
        exact this
      cases i
      case sipush v => exact st_sipush hx hb hts hown hE hst hd ha h IH
      case bipush v => exact st_bipush hx hb hts hown hst hd ha h IH
      case ldc n => exact st_ldc hx hb hts hown hE hst hd ha h IH
      case aconst_null => exact st_null hx hb hst hd ha h IH
      case iload n => exact st_iload hx hb hst hd ha h IH
      case lload n => exact st_lload hx hb hst hd ha h IH
      case aload n => exact st_aload hx hb hst hd ha h IH
      case istore n => exact st_istore hx hb (of_decide_eq_true hci) hst hd ha h IH
      case astore n => exact st_astore hx hb (of_decide_eq_true hci) hst hd ha h IH
      case lstore n => exact st_lstore hx hb (of_decide_eq_true hci) hst hd ha h IH
      case iinc n d => exact st_iinc hx hb (of_decide_eq_true hci) hst hd ha h IH
      case iadd => exact st_iadd hx hb hst hd ha h IH
      case isub => exact st_isub hx hb hst hd ha h IH
      case imul => exact st_imul hx hb hst hd ha h IH
      case idiv => exact st_idiv hx hb hst hd ha h IH
      case iand => exact st_iand hx hb hst hd ha h IH
      case ior => exact st_ior hx hb hst hd ha h IH
      case ixor => exact st_ixor hx hb hst hd ha h IH
      case ishl => exact st_ishl hx hb hst hd ha h IH
      case ishr => exact st_ishr hx hb hst hd ha h IH
      case iushr => exact st_iushr hx hb hst hd ha h IH
      case ladd => exact st_ladd hx hb hst hd ha h IH
      case lsub => exact st_lsub hx hb hst hd ha h IH
      case lmul => exact st_lmul hx hb hst hd ha h IH
      case land => exact st_land hx hb hst hd ha h IH
      case lor => exact st_lor hx hb hst hd ha h IH
      case lxor => exact st_lxor hx hb hst hd ha h IH
      case lshl => exact st_lshl hx hb hst hd ha h IH
      case lshr => exact st_lshr hx hb hst hd ha h IH
      case lushr => exact st_lushr hx hb hst hd ha h IH
      case lcmp => exact st_lcmp hx hb hst hd ha h IH
      case i2l => exact st_i2l hx hb hst hd ha h IH
      case l2i => exact st_l2i hx hb hst hd ha h IH
      case i2b => exact st_i2b hx hb hst hd ha h IH
      case i2c => exact st_i2c hx hb hst hd ha h IH
      case dup => exact st_dup hx hb hst hd ha h IH
      case dup2 => exact st_dup2 hx hb hst hd ha h IH
      case dup2_x1 => exact st_dup2L hx hb hst hd ha h IH
      case pop2 => exact st_pop2 hx hb hst hd ha h IH
      case goto t => exact st_goto hx hb hst hd ha h IH
      case if_icmp c t => exact st_icmp hx hb hst hd ha h IH
      case ifCond c t => exact st_if hx hb hst hd ha h IH
      case ifnull t => exact st_ifnull hx hb h5 hst hd ha h IH
      case ifnonnull t => exact st_ifnonnull hx hb h5 hst hd ha h IH
      case iaload => exact st_iaload hx hb hK hE hst hd ha h IH
      case laload => exact st_laload hx hb hK hE hst hd ha h IH
      case baload => exact st_baload hx hb hK hE hst hd ha h IH
      case caload => exact st_caload hx hb hK hE hst hd ha h IH
      case aaload => exact st_aaload hx hb hK hE hst hd ha h IH
      case iastore => exact st_iastore hx hb hK hst hd ha h IH
      case lastore => exact st_lastore hx hb hK hst hd ha h IH
      case bastore => exact st_bastore hx hb hK hst hd ha h IH
      case castore => exact st_castore hx hb hK hst hd ha h IH
      case aastore => exact st_aastore hx hb hK hst hd ha h IH
      case arraylength => exact st_alen hx hb hK hE hst hd ha h IH
      case getfield f => exact st_getfield hx hb hts hown hK hE hst hd ha h IH
      case putfield f =>
        refine st_putfield hx hb hts hown hK (fun hf => ?_) hst hd ha h IH
        have hci : (ini || !(fldN f).2.2.2) = true := hci
        rw [hf] at hci
        exact hini (by simpa using hci)
      case fadd => exact st_fadd hx hb hml hts hown hF hcle.1 hcle.2 hmo2 hRc hRs hRf hRl1 hst hd ha h IH
      case fsub => exact st_fsub hx hb hml hts hown hF hcle.1 hcle.2 hmo2 hRc hRs hRf hRl1 hst hd ha h IH
      case new c => exact st_new hx hb hts hown hK hA hF hcle.1 hcle.2 hmo2 hRc hRs hst hd ha h IH
      case newarray t => exact st_newarray hx hb hts hown hK hA hF hcle.1 hcle.2 hmo2 hRc hRs hst hd ha h IH
      case anewarray n => exact st_anewarray hx hb hts hown hK hA hcle.1 hcle.2 hmo2 hRc hRs hNW hst hd ha h IH
      case multianewarray a b => exact st_multi hx hb hts hown hK hA hF hcle.1 hcle.2 hmo2 hRc hRs hNW hst hd ha h IH
      case pop => exact st_pop hx hb hml hts hown hF hRf hRl1 hst hd ha h IH
      case fmul => exact st_fmul hx hb hml hts hown hK hF hRf hRl hst hd ha h IH
      case tableswitch d lo hi offs => exact st_tab hx hb hst hd ha h IH
      case invokestatic j => exact st_invokestatic hx hb hml hts hown hK hNW hZ hE hA hF hR hco hcm hcle.1 hcle.2 hmo hRc hRs hst hd ha h IH
      case invokedynamic j => exact st_invokedynamic hx hb hml hts hown hK hNW hZ hE hA hFW hR hco hcm hcle.1 hcle.2 hmo hRc hRs hst hd ha h IH
      case invokespecial j => exact st_invokespecial hx hb hml hts hown hK hNW hZ hE hA hF hR hco hcm hcle.1 hcle.2 hmo hRc hRs hst hd ha h IH
      case invokevirtual j => exact st_invokevirtual hx hb hml hts hown hK hNW hZ hE hA hF hR hco hcm hcle.1 hcle.2 hmo hRc hRs hst hd ha h IH
      case invokeinterface j hh => exact st_invokeinterface hx hb hml hts hown hK hNW hZ hE hA hF hR hco hcm hcle.1 hcle.2 hmo hRc hRs hpc (hcat _ _ _ _ hcode) hll hst hd ha h IH
      case ireturn => exact HT2 (Or.inl rfl)
      case freturn => exact HT2 (Or.inl rfl)
      case dreturn => exact HT2 (Or.inl rfl)
      case dneg => exact HT2 (Or.inl rfl)
      case lreturn => exact HT2 (Or.inl rfl)
      case areturn => exact HT2 (Or.inl rfl)
      case return_ => exact HT2 (Or.inl rfl)
      case athrow => exact HT2 (Or.inr rfl)
      all_goals (exact absurd h (by intro z; cases z))
end RUN
theorem ret_ne {PG : Nat → MMeth} {CT : MCls} {X : MExt} {call : MC} {i : Instr} {pc : Nat} {ls st : List MV} {M : Mem} {k : MK} {r : MRes} (hi : isRet i = true) (h : istep PG CT X call i pc ls st M k = some r) : r.1.1 ≠ 4 := by
  cases i <;> first | (exact absurd hi Bool.false_ne_true) | skip
  case return_ =>
    match st, h with
    | [], h => cases h; intro z; cases z
  all_goals (obtain ⟨x, -, -, rfl⟩ := rtn_some h; intro z; cases z)
theorem thr_eq {PG : Nat → MMeth} {CT : MCls} {X : MExt} {call : MC} {pc : Nat} {ls st : List MV} {M : Mem} {k : MK} {r : MRes} (h : istep PG CT X call .athrow pc ls st M k = some r) : r.1.1 = 4 := by
  match st, h with
  | [], h => cases h; rfl
