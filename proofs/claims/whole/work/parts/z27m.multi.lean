/-! Part 27m: a long doubled; rows of rows made at once. -/
/-- the outer row when i of its n rows stand, h0 being its own place -/
def muO (cA : ClassId) (n h0 i : Nat) : Cell := arrV cA n (fun j => if j < i then .ref (h0 + 1 + j) else .null)
def muI (cI : ClassId) (k : Nat) : Cell := arrV cI k (fun _ => .int 0)
def muS (T : State) (cA cI : ClassId) (n k : Nat) : Nat → State
  | 0 => T.pushCell (muO cA n T.heap.size 0)
  | i + 1 => ((muS T cA cI n k i).pushCell (muI cI k)).setCell T.heap.size (muO cA n T.heap.size (i + 1))
theorem muO_next (cA : ClassId) (n h0 i : Nat) : (muO cA n h0 i).setSlot i (.ref (h0 + 1 + i)) = muO cA n h0 (i + 1) := by
  unfold muO
  rw [arrV_store]
  congr 1
  funext j
  unfold updV
  by_cases h : j = i
  · subst h; rw [if_pos rfl, if_pos (by omega)]
  · rw [if_neg h]
    show (if j < i then Value.ref (h0 + 1 + j) else Value.null) = _
    by_cases h2 : j < i
    · rw [if_pos h2, if_pos (by omega)]
    · rw [if_neg h2, if_neg (by omega)]
theorem muS_is (T : State) (cA cI : ClassId) (n k : Nat) : ∀ i, (muS T cA cI n k i).heap.size = T.heap.size + 1 + i ∧ (muS T cA cI n k i).heap[T.heap.size]? = some (muO cA n T.heap.size i) ∧ (muS T cA cI n k i).vm = T.vm ∧ (muS T cA cI n k i).slotsUsed = T.slotsUsed + n + i * k ∧
    (∀ q, q < T.heap.size → (muS T cA cI n k i).heap[q]? = T.heap[q]?) ∧ ∀ j, j < i → (muS T cA cI n k i).heap[T.heap.size + 1 + j]? = some (muI cI k)
  | 0 => ⟨by simp [muS], by simp [muS], rfl, by simp [muS, muO, arrV_size], fun q hq => State.heap_pushCell_of_lt _ _ hq, fun j hj => absurd hj (Nat.not_lt_zero _)⟩
  | i + 1 => by
    obtain ⟨a1, a2, a3, a4, a5, a6⟩ := muS_is T cA cI n k i
    have hb : ((muS T cA cI n k i).pushCell (muI cI k)).heap[T.heap.size]? = some (muO cA n T.heap.size i) := by rw [State.heap_pushCell_of_lt _ _ (show T.heap.size < (muS T cA cI n k i).heap.size by rw [a1]; omega)]; exact a2
    refine ⟨?_, State.heap_setCell_self hb, by simp [muS, a3], ?_, fun q hq => ?_, fun j hj => ?_⟩
    · simp [muS, State.setCell, a1]; omega
    · simp [muS, a4, muI, arrV_size, Nat.succ_mul]; omega
    · show (((muS T cA cI n k i).pushCell (muI cI k)).setCell T.heap.size _).heap[q]? = _
      rw [State.heap_setCell_other (Nat.ne_of_gt hq), State.heap_pushCell_of_lt _ _ (show q < (muS T cA cI n k i).heap.size by rw [a1]; omega)]
      exact a5 q hq
    · show (((muS T cA cI n k i).pushCell (muI cI k)).setCell T.heap.size _).heap[T.heap.size + 1 + j]? = _
      rw [State.heap_setCell_other (show T.heap.size ≠ T.heap.size + 1 + j by omega)]
      by_cases hj2 : j < i
      · rw [State.heap_pushCell_of_lt _ _ (show T.heap.size + 1 + j < (muS T cA cI n k i).heap.size by rw [a1]; omega)]
        exact a6 j hj2
      · rw [show T.heap.size + 1 + j = (muS T cA cI n k i).heap.size by rw [a1]; omega]
        exact State.heap_pushCell_size _ _
theorem muS_top (T : State) (f : JFrame) (cA cI : ClassId) (n k : Nat) : ∀ i, muS (T.setTop f) cA cI n k i = (muS T cA cI n k i).setTop f
  | 0 => rfl
  | i + 1 => by simp only [muS, muS_top T f cA cI n k i, State.heap_setTop, State.pushCell_setTop, State.setCell_setTop]
section MUW
variable {E : CtlPost} {e : Env} {d : Bool} {acts : List Action} {s : State}
/-- one row made -/
theorem mu_row {c comp : ClassId} {k : Class} {type : FieldType} {len : Nat} {init : Value} (hk : s.vm.classes[c]? = some k) (hkind : k.kind = .array comp type) (hl : ¬ len > e.platform.arrayLengthLimit) (hh : ¬ len * componentBytes type > e.platform.maxHeapBytes) (hfit : Jvm.fits type init = true) (hdef : init.isDefault = true) {Q : Addr → Pre}
    (h1 : s.heap.size < e.platform.maxCells) (h2 : s.slotsUsed + len ≤ e.platform.maxSlots) (hq : Q s.heap.size d acts (s.pushCell (arrV c len (fun _ => init)))) : wp (Jvm.newArray c len init) Q E e d acts s := by
  rw [← arrV_new] at hq
  have hf : ∀ i v, (Array.replicate len init)[i]? = some v → s.fitsSlot c .none i v = true := by
    intro i v hv
    rw [Array.getElem?_replicate] at hv
    split at hv
    · cases hv; simp [State.fitsSlot, State.slotType?, hk, hkind, hfit]
    · cases hv
  have ha : allocActs (Array.replicate len init) s.heap.size acts = acts := by
    unfold allocActs
    rw [if_pos (by rw [Array.all_replicate]; split <;> simp [hdef])]
  simp only [Jvm.newArray, Jvm.arrayFits, wp_bind', W.ask, W.ite, hl, if_false, wp_pure', W.theClass, hk, hkind, hh, W.alloc, W.stop, Option.some.injEq, exists_eq_left', Array.size_replicate, ha]
  rw [if_neg (by omega)]
  exact ⟨h1, h2, hf, hq⟩
theorem mu_make {cA cI cc : ClassId} {kA kI : Class} {n k : Int32} (hA : s.vm.classes[cA]? = some kA) (hAk : kA.kind = .array cI (.array .int)) (hI : s.vm.classes[cI]? = some kI) (hIk : kI.kind = .array cc .int) (hn : ¬ n < 0) (hk : ¬ k < 0)
    (l1 : ¬ n.toNatClampNeg > e.platform.arrayLengthLimit) (b1 : ¬ n.toNatClampNeg * componentBytes (.array .int) > e.platform.maxHeapBytes) (l2 : ¬ k.toNatClampNeg > e.platform.arrayLengthLimit) (b2 : ¬ k.toNatClampNeg * componentBytes .int > e.platform.maxHeapBytes)
    (hc : s.heap.size + 1 + n.toNatClampNeg ≤ e.platform.maxCells) (hs : s.slotsUsed + n.toNatClampNeg + n.toNatClampNeg * k.toNatClampNeg ≤ e.platform.maxSlots) {Q : Addr → Pre}
    (hq : ∀ d' acts', Q s.heap.size d' acts' (muS s cA cI n.toNatClampNeg k.toNatClampNeg n.toNatClampNeg)) : wp (multianewarray.make cA [n, k]) Q E e d acts s := by
  generalize eN : n.toNatClampNeg = N at *
  generalize eK : k.toNatClampNeg = K at *
  have hfind : ([k].find? (· < 0)) = none := by simp [hk]
  rw [multianewarray.make]
  simp only [wp_bind', W.ite, hn, if_false, wp_pure', W.theClass, hA, hAk, Option.some.injEq, exists_eq_left', eN]
  refine mu_row hA hAk l1 b1 rfl rfl (by omega) (by have := Nat.zero_le (N * K); omega) ?_
  simp only [hfind]
  rw [ite_self, wp_bind', Std.Legacy.Range.forIn_eq_forIn_range', show ([:N] : Std.Legacy.Range).size = N by simp [Std.Legacy.Range.size]]
  show wp (forIn (List.range' 0 N 1) PUnit.unit _) _ E e d acts _
  have h00 : s.pushCell (arrV cA N (fun _ => Value.null)) = muS s cA cI N K 0 := by
    show _ = s.pushCell (muO cA N s.heap.size 0)
    congr 1
  rw [h00]
  refine wp_forIn_inv (fun rest s' => ∃ i, i ≤ N ∧ rest = List.range' i (N - i) ∧ s' = muS s cA cI N K i) _ _ ⟨0, Nat.zero_le _, rfl, rfl⟩ ?_ ?_
  · rintro x rest s' d' acts' Q' ⟨i, hi, hl, rfl⟩ hnext
    by_cases hlt : i < N
    · rw [show N - i = (N - (i + 1)) + 1 by omega, List.range'_succ] at hl
      obtain ⟨rfl, hrest⟩ := List.cons.inj hl
      obtain ⟨a1, a2, a3, a4, -, -⟩ := muS_is s cA cI N K x
      have hmul : x * K + K ≤ N * K := by rw [← Nat.succ_mul]; exact Nat.mul_le_mul_right K hlt
      simp only [wp_bind']
      rw [multianewarray.make]
      simp only [wp_bind', W.ite, hk, if_false, wp_pure', W.theClass, a3, hI, hIk, Option.some.injEq, exists_eq_left', eK]
      refine mu_row (by rw [a3]; exact hI) hIk l2 b2 rfl rfl (by rw [a1]; omega) (by rw [a4]; omega) ?_
      have hb : ((muS s cA cI N K x).pushCell (muI cI K)).heap[s.heap.size]? = some (muO cA N s.heap.size x) := by rw [State.heap_pushCell_of_lt _ _ (show s.heap.size < (muS s cA cI N K x).heap.size by rw [a1]; omega)]; exact a2
      simp only [wp_bind', W.writeLoc, wp_pure']
      refine ⟨muO cA N s.heap.size x, hb, by simp [muO, arrV], by rw [show (muO cA N s.heap.size x).slots.size = N from arrV_size _ _ _]; exact hlt, ?_, hnext _ _ _ ⟨x + 1, hlt, hrest, ?_⟩⟩
      · show State.fitsSlot _ cA .none x _ = true
        simp [State.fitsSlot, State.slotType?, a3, hA, hAk, Jvm.fits]
      · rw [a1, muO_next]; rfl
    · rw [show N - i = 0 by omega] at hl; cases hl
  · rintro s' d' acts' ⟨i, hi, hl, rfl⟩
    by_cases hlt : i < N
    · rw [show N - i = (N - (i + 1)) + 1 by omega, List.range'_succ] at hl; cases hl
    · obtain rfl : i = N := by omega
      simp only [wp_pure']
      exact hq _ _
end MUW
section STEPM
variable {p : Program} {l : Launch} {e : Env} {R : Room} {s : State} {m : MethodId} {args : Array Value} {below : List Frame} {meth : Method} {c : Code} {Q : State → Prop} {nL : Nat} {D : va_G} {cs : Nat → ClassId} {xa : Int → Option Nat} {A : Nat → Prop} {c0 s0 : Nat} {ad : Nat → Nat} {M : Mem} {pcb pc : Nat} {ls st : List MV} {cc : ByteArray} {X : MExt} {own len lp : Nat} {real : Instr} {bps : List Nat} {call : MC} {k : MK} {r : MRes} {T : State} {H : Heap} {locs : List Loc} {cells slots : Nat}
theorem mu_stand (Xs : Stand p l e R s m args below meth c T locs cells slots) (cA cI : ClassId) (N K : Nat) : ∀ i, ∃ L : List Loc, (∀ z ∈ L, z.base = T.heap.size) ∧ Stand p l e R s m args below meth c (muS T cA cI N K i) (locs ++ L) (cells + 1 + i) (slots + N + i * K)
  | 0 => by
    have h := Xs.pushed (muO cA N T.heap.size 0)
    rw [show (muO cA N T.heap.size 0).slots.size = N from arrV_size _ _ _] at h
    exact ⟨[], (fun z hz => by cases hz), by simpa [muS] using h⟩
  | i + 1 => by
    obtain ⟨L, hL, Xi⟩ := mu_stand Xs cA cI N K i
    obtain ⟨a1, a2, -, -, -, -⟩ := muS_is T cA cI N K i
    have hb : ((muS T cA cI N K i).pushCell (muI cI K)).heap[T.heap.size]? = some (muO cA N T.heap.size i) := by rw [State.heap_pushCell_of_lt _ _ (show T.heap.size < (muS T cA cI N K i).heap.size by rw [a1]; omega)]; exact a2
    have h := (Xi.pushed (muI cI K)).stored hb i (.ref (T.heap.size + 1 + i))
    rw [muO_next, show (muI cI K).slots.size = K from arrV_size _ _ _] at h
    refine ⟨L ++ [⟨T.heap.size, i⟩], fun z hz => ?_, ?_⟩
    · rcases List.mem_append.mp hz with hz | hz
      · exact hL z hz
      · simp only [List.mem_cons, List.not_mem_nil, or_false] at hz; rw [hz]
    · rw [show slots + N + (i + 1) * K = slots + N + i * K + K by rw [Nat.succ_mul]; omega, ← List.append_assoc]
      exact h
/-- new int[n][k] -/
theorem W_multi (hx : p.tables.exec = Jvm.exec) (hb : c.code = cc) {own : String} {ix : Nat} (hown : s.vm.findClass own = some m.cls) (hlink : (Cond.classLink own ix "[[I").before args s = true) (hover : AOA s) (harr : (Cond.arrayClass .int).before args s = true) {n k : Int32} {N K : Nat} (hn : ¬ n < 0) (hk : ¬ k < 0) (eN : n.toNatClampNeg = N) (eK : k.toNatClampNeg = K) (hN : N ≤ 20000) (hK : K ≤ 20000) (hcells : cells + (1 + N) ≤ R.cells) (hslots : slots + (N + N * K) ≤ R.slots) {ls : Array Slot} {rest : List Value} (hdg : decode cc pc = .ok (.multianewarray ix 2, 4))
    (kk : ∀ (cA cI : ClassId) (H1 : Heap) (L : List Loc), s.vm.findClass "[[I" = some cA → s.vm.findClass "[I" = some cI → H1.size = H.size + 1 + N → (∀ q, q < H.size → H1[q]? = H[q]?) → H1[H.size]? = some (muO cA N H.size N) → (∀ j, j < N → H1[H.size + 1 + j]? = some (muI cI K)) → (∀ z ∈ L, z.base = H.size) →
      W p l e R s m args below meth c H1 (locs ++ L) (cells + 1 + N) (slots + N + N * K) Q (F0 m (pc + 4) ls (.ref H.size :: rest))) : W p l e R s m args below meth c H locs cells slots Q (F0 m pc ls (.int k :: .int n :: rest)) := by
  intro T hT Xs
  subst hT; subst hb; subst eN; subst eK
  have hpl : e.platform.magicAccessors = ({} : Platform).magicAccessors := by rw [Xs.admits.platform]
  obtain ⟨cI, cA, kA, f1, -, f3, f4, f5⟩ := aoa_spec hover
  obtain ⟨cI', kI, cc, g1, g2, g3⟩ := Cond.arrayClass_spec harr
  cases Option.some.inj (g1.symm.trans f1)
  obtain ⟨c9, q1, q2⟩ := Cond.classLink_spec hown hlink e.platform hpl
  cases Option.some.inj (f5.symm.trans q1)
  obtain ⟨hg, hwarm, -⟩ := State.classEntry (e := e) Xs.warmed q2
  generalize T.vm.noted m.cls ix (.cls cA) = vm₁ at hg hwarm
  obtain ⟨kA₁, w1, w2⟩ := hwarm.alike.2.2 _ _ f3
  obtain ⟨kI₁, w3, w4⟩ := hwarm.alike.2.2 _ _ g2
  have X₁ := Xs.noted hwarm
  obtain ⟨r1, r2⟩ := Xs.roomAbove hcells hslots
  obtain ⟨L, hL, XF⟩ := mu_stand X₁ cA cI n.toNatClampNeg k.toNatClampNeg n.toNatClampNeg
  obtain ⟨a1, a2, -, -, a5, a6⟩ := muS_is (T.setVm vm₁) cA cI n.toNatClampNeg k.toNatClampNeg n.toNatClampNeg
  obtain ⟨t, b1, b2⟩ := kk cA cI _ L f5 f1 a1 a5 a2 a6 hL _ rfl XF
  refine ⟨t, ?_, b2⟩
  have l1 : ¬ n.toNatClampNeg > e.platform.arrayLengthLimit := by rw [Launch.admits_arrayLengthLimit Xs.admits]; omega
  have h1 : ¬ n.toNatClampNeg * componentBytes (.array .int) > e.platform.maxHeapBytes := by rw [Launch.admits_maxHeapBytes Xs.admits]; show ¬ n.toNatClampNeg * 4 > 536870912; omega
  have l2 : ¬ k.toNatClampNeg > e.platform.arrayLengthLimit := by rw [Launch.admits_arrayLengthLimit Xs.admits]; omega
  have h2 : ¬ k.toNatClampNeg * componentBytes .int > e.platform.maxHeapBytes := by rw [Launch.admits_maxHeapBytes Xs.admits]; show ¬ k.toNatClampNeg * 4 > 536870912; omega
  jvm_step Xs.here [hx, hdg]
  simp only [multianewarray.sem, wp_bind', W.resolveClassAt_links (State.method?_setTop (F0 m pc ls (.int k :: .int n :: rest)) Xs.here.top) hg]
  rw [W.popN, if_neg (by decide)]
  refine ⟨F0 m pc ls (.int k :: .int n :: rest), State.topJava?_setTop' (s := T.setVm vm₁) _ Xs.here.top, [.int n, .int k], rest, rfl, rfl, ?_⟩
  simp only [List.mapM_cons, List.mapM_nil, wp_bind', wp_pure']
  refine mu_make (cA := cA) (cI := cI) (cc := cc) w1 (by rw [w2]; exact f4) w3 (by rw [w4]; exact g3) hn hk l1 h1 l2 h2 (by show T.heap.size + 1 + _ ≤ _; omega) (by show T.slotsUsed + _ + _ ≤ _; omega) (fun d' acts' => ?_)
  have eS : ((T.setTop (F0 m pc ls (.int k :: .int n :: rest))).setVm vm₁).setTop (F0 m pc ls rest) = (T.setVm vm₁).setTop (F0 m pc ls rest) := by
    show ((T.setVm vm₁).setTop (F0 m pc ls (.int k :: .int n :: rest))).setTop _ = _
    rw [State.setTop_setTop]
  first
    | rw [eS, muS_top]
    | (show wp _ _ _ _ _ _ (muS (((T.setTop (F0 m pc ls (.int k :: .int n :: rest))).setVm vm₁).setTop (F0 m pc ls rest)) cA cI _ _ _); rw [eS, muS_top])
  simp only [wp_bind', W.mark, W.pushRef, State.topJava?_setTop' _ XF.here.top, Option.some.injEq, exists_eq_left', State.setTop_setTop, State.heap_setTop]
  intro acts
  simp [jvm, XF.here.top]
  exact b1
theorem st_dup2L (hx : p.tables.exec = Jvm.exec) (hb : c.code = cc) (hst : SOK M ls st) (hd : decode cc pcb = .ok (real, len)) (ha : agr1 own bps pc pcb real len lp .dup2_x1 = true) (h : istep prog clsT X call .dup2_x1 pc ls st M k = some r)
    (IH : ∀ (pc' : Nat) (ls' st' : List MV) (M' : Mem) (ad' : Nat → Nat), k pc' ls' st' M' = some r → SOK M' ls' st' → M.2.2.1 ≤ M'.2.2.1 → M.2.2.2 ≤ M'.2.2.2 → ls'.length = ls.length → M.1.length ≤ M'.1.length → (∀ a, a < M.1.length → ad' a = ad a) → GO p l e R s m args below meth c Q nL D cs xa A c0 s0 ad' M' (bps.getD pc' 0) ls' st') : GO p l e R s m args below meth c Q nL D cs xa A c0 s0 ad M pcb ls st := by
  obtain ⟨rfl, rfl, hn⟩ := goN_ok ha
  match st, h, hst with
  | (t, x) :: st', h, hst =>
    have h9 : (if t = 1 then k (pc + 1) ls ((t, x) :: (t, x) :: st') M else none) = some r := h
    by_cases hc : t = 1
    · rw [if_pos hc] at h9
      subst hc
      have k2 := IH _ _ _ _ ad h9 (hst.push hst.top.1 hst.top.2) (Nat.le_refl _) (Nat.le_refl _) rfl (Nat.le_refl _) (fun _ _ => rfl)
      rw [hn] at k2
      exact go_dup2L hx hb hd k2
    · rw [if_neg hc] at h9; cases h9
theorem growRows_is (M : Mem) (n : Nat) : ∀ r, (growRows M n r).1 = M.1 ++ List.replicate r (100, n) ∧ (∀ a, a < M.1.length → (growRows M n r).2.1 a = M.2.1 a) ∧ (∀ i, i < r → (growRows M n r).2.1 (M.1.length + i) = fun _ => 0) ∧ (growRows M n r).2.2.1 = M.2.2.1 + r ∧ (growRows M n r).2.2.2 = M.2.2.2 + r * n
  | 0 => ⟨by simp [growRows], fun _ _ => rfl, fun i hi => absurd hi (Nat.not_lt_zero _), rfl, by simp [growRows]⟩
  | r + 1 => by
    obtain ⟨a1, a2, a3, a4, a5⟩ := growRows_is M n r
    have hl : (growRows M n r).1.length = M.1.length + r := by rw [a1]; simp
    refine ⟨?_, fun a ha => ?_, fun i hi => ?_, ?_, ?_⟩
    · show (growRows M n r).1 ++ [(100, n)] = _
      rw [a1, List.append_assoc, ← List.replicate_succ']
    · funext j
      show (if a = (growRows M n r).1.length then _ else (growRows M n r).2.1 a j) = _
      rw [if_neg (by omega), a2 a ha]
    · funext j
      show (if M.1.length + i = (growRows M n r).1.length then (0 : Int) else (growRows M n r).2.1 (M.1.length + i) j) = 0
      by_cases hi2 : i < r
      · rw [if_neg (by omega), a3 i hi2]
      · rw [if_pos (by omega)]
    · show (growRows M n r).2.2.1 + 1 = _; rw [a4]; omega
    · show (growRows M n r).2.2.2 + n = _; rw [a5, Nat.succ_mul]; omega
theorem st_multi (hx : p.tables.exec = Jvm.exec) (hb : c.code = cc) (hts : ∀ w ∈ GW, w.before args s = true) (hown : s.vm.findClass (onm own) = some m.cls) (hK : va_K D vwCl (tysOf cs) s) (hA : ∀ q, s.heap.size ≤ q → A q) (hF : MFALL) (hc0 : c0 ≤ M.2.2.1) (hs0 : s0 ≤ M.2.2.2) (hmo : ∀ (pc' : Nat) (ls' st' : List MV) (M' : Mem), k pc' ls' st' M' = some r → M'.2.2.1 ≤ r.2.2.2.1 ∧ M'.2.2.2 ≤ r.2.2.2.2) (hRc : r.2.2.2.1 - c0 ≤ R.cells) (hRs : r.2.2.2.2 - s0 ≤ R.slots) (hNW : NWOK s) {a1 a2 : Nat} (hst : SOK M ls st) (hd : decode cc pcb = .ok (real, len)) (ha : agr1 own bps pc pcb real len lp (.multianewarray a1 a2) = true) (h : istep prog clsT X call (.multianewarray a1 a2) pc ls st M k = some r)
    (IH : ∀ (pc' : Nat) (ls' st' : List MV) (M' : Mem) (ad' : Nat → Nat), k pc' ls' st' M' = some r → SOK M' ls' st' → M.2.2.1 ≤ M'.2.2.1 → M.2.2.2 ≤ M'.2.2.2 → ls'.length = ls.length → M.1.length ≤ M'.1.length → (∀ a, a < M.1.length → ad' a = ad a) → GO p l e R s m args below meth c Q nL D cs xa A c0 s0 ad' M' (bps.getD pc' 0) ls' st') : GO p l e R s m args below meth c Q nL D cs xa A c0 s0 ad M pcb ls st := by
  have ha2 : (goN pcb len (bps.getD (pc + 1) 0) real (.multianewarray (ixOf real) 2) 4 && lkIs own lp 11 (ixOf real) 0) = true := ha
  rw [Bool.and_eq_true] at ha2
  obtain ⟨g, g1⟩ := ha2
  obtain ⟨er, rfl, hn⟩ := goN_ok g
  rw [er] at hd
  match st, h, hst with
  | (tn, n) :: (tm, w) :: st', h, hst =>
    have h9 : (if tn = 0 ∧ tm = 0 ∧ 0 ≤ n ∧ n ≤ 20000 ∧ 0 < w ∧ w ≤ 20000 then k (pc + 1) ls ((2, nx M) :: st') (growRows (growF M 105 w.toNat (fun j : Nat => nx M + 1 + (j : Int))) n.toNat w.toNat) else none) = some r := h
    by_cases hc : tn = 0 ∧ tm = 0 ∧ 0 ≤ n ∧ n ≤ 20000 ∧ 0 < w ∧ w ≤ 20000
    case neg => rw [if_neg hc] at h9; cases h9
    rw [if_pos hc] at h9
    obtain ⟨rfl, rfl, hn0, hn1, hw0, hw1⟩ := hc
    obtain ⟨b1, b2, b3, b4, b5⟩ := growRows_is (growF M 105 w.toNat (fun j : Nat => nx M + 1 + (j : Int))) n.toNat w.toNat
    generalize hM2 : growRows (growF M 105 w.toNat (fun j : Nat => nx M + 1 + (j : Int))) n.toNat w.toNat = M2 at h9 b1 b2 b3 b4 b5
    have hl1 : (growF M 105 w.toNat (fun j : Nat => nx M + 1 + (j : Int))).1.length = M.1.length + 1 := by show (M.1 ++ [_]).length = _; simp
    rw [hl1] at b2 b3
    have c1 : M2.1 = M.1 ++ ((105, w.toNat) :: List.replicate w.toNat (100, n.toNat)) := by rw [b1]; show M.1 ++ [(105, w.toNat)] ++ _ = _; simp
    have c2 : ∀ a, a < M.1.length → M2.2.1 a = M.2.1 a := by
      intro a ha
      rw [b2 a (by omega)]
      funext j
      show (if a = M.1.length then _ else M.2.1 a j) = _
      rw [if_neg (by omega)]
    have c3 : M2.2.1 M.1.length = fun j : Nat => nx M + 1 + (j : Int) := by
      rw [b2 _ (by omega)]
      funext j
      show (if M.1.length = M.1.length then _ else _) = _
      rw [if_pos rfl]
    have c4 : M2.2.2.1 = M.2.2.1 + 1 + w.toNat := b4
    have c5 : M2.2.2.2 = M.2.2.2 + w.toNat + w.toNat * n.toNat := b5
    have c6 : nx M2 = nx M + 1 + w := by
      unfold nx; rw [c1]; simp; omega
    have hMok : MOK M2 := by
      intro a q ha
      rw [c1] at ha
      by_cases hl : a < M.1.length
      · rw [List.getElem?_append_left hl] at ha
        obtain ⟨h1, h2, h3⟩ := hst.1 a q ha
        refine ⟨h1, h2, fun j hj => ?_⟩
        rw [c2 a hl]
        exact (h3 j hj).mono (by omega)
      · rw [List.getElem?_append_right (by omega)] at ha
        cases hz : a - M.1.length with
        | zero =>
          have e : a = M.1.length := by omega
          subst e
          rw [hz] at ha
          simp only [List.getElem?_cons_zero, Option.some.injEq] at ha
          subst ha
          refine ⟨Or.inr (by omega), by show w.toNat ≤ 20000; omega, fun j hj => ?_⟩
          have hj : j < w.toNat := hj
          rw [c3]
          show VOK _ (_, nx M + 1 + (j : Int))
          refine vok2 ?_
          rw [c6]; omega
        | succ i =>
          rw [hz] at ha
          simp only [List.getElem?_cons_succ] at ha
          obtain ⟨hi, rfl⟩ : i < w.toNat ∧ (100, n.toNat) = q := by
            have h2 := List.getElem?_eq_some_iff.mp ha
            obtain ⟨h3, h4⟩ := h2
            rw [List.length_replicate] at h3
            rw [List.getElem_replicate] at h4
            exact ⟨h3, h4⟩
          refine ⟨Or.inr (by omega), by show n.toNat ≤ 20000; omega, fun j hj => ?_⟩
          rw [show a = M.1.length + 1 + i by omega, b3 i hi]
          exact vok0 in32_0
    have hm := hmo _ _ _ _ h9
    have hI : in32 n := by unfold in32; omega
    have hI2 : in32 w := by unfold in32; omega
    have hneg1 : ¬ Int32.ofInt w < 0 := fun z => by have := (i3_lt hI2 in32_0).mp z; omega
    have hneg2 : ¬ Int32.ofInt n < 0 := fun z => by have := (i3_lt hI in32_0).mp z; omega
    have hcl1 : (Int32.ofInt w).toNatClampNeg = w.toNat := i3_cl hI2 (by omega)
    have hcl2 : (Int32.ofInt n).toNatClampNeg = n.toNat := i3_cl hI hn0
    intro H locs arr hP hD hS hL
    rw [List.map_cons, List.map_cons, mrv0, mrv0]
    have hR1 : M.2.2.1 - c0 + (1 + w.toNat) ≤ R.cells := by have := hm.1; omega
    have hR2 : M.2.2.2 - s0 + (w.toNat + w.toNat * n.toNat) ≤ R.slots := by have := hm.2; omega
    have q1 : M.2.2.1 - c0 + 1 + w.toNat = M2.2.2.1 - c0 := by omega
    have q2 : M.2.2.2 - s0 + w.toNat + w.toNat * n.toNat = M2.2.2.2 - s0 := by omega
    have qn : (nx M).toNat = M.1.length := by unfold nx; omega
    have qz : 0 ≤ nx M := by unfold nx; omega
    refine W_multi hx hb hown (lk_word hts g1 rfl) hNW.2.2.1 (hts _ hF.2.2.2.2.2.1.1) hneg1 hneg2 hcl1 hcl2 (by omega) (by omega) hR1 hR2 hd (fun cA cI H1 L k1 k2 z1 z2 z3 z4 hLb => ?_)
    have eA : cA = cs 5 := by
      have := (hK.2 5 _ rfl).2
      exact Option.some.inj (k1.symm.trans this)
    have eI : cI = cs 0 := by
      have := (hK.2 0 _ rfl).2
      exact Option.some.inj (k2.symm.trans this)
    subst eA; subst eI
    obtain ⟨ad', had⟩ : ∃ f : Nat → Nat, f = fun a => if a < M.1.length then ad a else H.size + (a - M.1.length) := ⟨_, rfl⟩
    have had1 : ∀ a, a < M.1.length → ad' a = ad a := fun a ha => by rw [had]; exact if_pos ha
    have had2 : ∀ i, ad' (M.1.length + i) = H.size + i := fun i => by
      rw [had]
      show (if M.1.length + i < M.1.length then _ else _) = _
      rw [if_neg (by omega)]; omega
    have hws := WS_app (cs := cs) (ad := ad) (ad' := ad') (xa := xa) hst.1 c1 c2 had1
    generalize hnew : (List.range ((105, w.toNat) :: List.replicate w.toNat (100, n.toNat)).length).map (fun i => (ad' (M.1.length + i), ent1 cs ad' xa (((105, w.toNat) :: List.replicate w.toNat (100, n.toNat)).getD i (0, 0)) (M2.2.1 (M.1.length + i)))) = NEW at hws
    have hN : ∀ i x, NEW[i]? = some x → i < w.toNat + 1 ∧ x.1 = H.size + i ∧ H1[x.1]? = some (match x.2 with | .inl a => vp_cell a.1 a.2 | .inr _ => vp_cell (cs 0) (0, .inl (fun _ => 0))) ∧ ∃ a, x.2 = .inl a := by
      intro i x hx
      rw [← hnew] at hx
      have hi : i < w.toNat + 1 := by
        have := (List.getElem?_eq_some_iff.mp hx).1
        simpa using this
      rw [rng_get _ (by simpa using hi)] at hx
      have hx := Option.some.inj hx
      subst hx
      refine ⟨hi, had2 i, ?_⟩
      show H1[ad' (M.1.length + i)]? = _ ∧ _
      rw [had2 i]
      cases i with
      | zero =>
        rw [show (((105, w.toNat) :: List.replicate w.toNat (100, n.toNat)).getD 0 (0, 0) : Nat × Nat) = (105, w.toNat) from rfl, ent_ref 5 rfl (Or.inr rfl), Nat.add_zero, Nat.add_zero, z3, c3]
        refine ⟨?_, _, rfl⟩
        show some (muO _ _ _ _) = some (vp_cell _ _)
        rw [vp_cell_q]
        unfold muO
        congr 1
        unfold arrV
        congr 1
        apply Array.ext
        · simp
        · intro j hj1 hj2
          have hj : j < w.toNat := by simpa using hj1
          simp only [Array.getElem_ofFn]
          rw [if_pos hj, if_pos hj, mrf_pos (x := nx M + 1 + (j : Int)) (by unfold nx; omega), show (nx M + 1 + (j : Int)).toNat = M.1.length + (1 + j) by omega, had2]
          exact congrArg Value.ref (Nat.add_assoc _ _ _)
      | succ i =>
        have hi2 : i < w.toNat := by omega
        rw [show (((105, w.toNat) :: List.replicate w.toNat (100, n.toNat)).getD (i + 1) (0, 0) : Nat × Nat) = (100, n.toNat) by
          rw [List.getD_eq_getElem?_getD, List.getElem?_cons_succ, List.getElem?_replicate, if_pos hi2]; rfl]
        rw [ent_int 0 rfl (Or.inl rfl), show H.size + (i + 1) = H.size + 1 + i by omega, z4 i hi2, show M.1.length + (i + 1) = M.1.length + 1 + i by omega, b3 i hi2]
        exact ⟨rfl, _, rfl⟩
    have hP1 : va_P D vwCl (WS cs ad' xa M2) H1 := by
      rw [hws]
      refine (hP.kept (fun k q hk => z2 q.1 ((hP k q hk).lt))).app (fun i x hx => ?_)
      obtain ⟨-, -, h3, a, h4⟩ := hN i x hx
      obtain ⟨xx, xe⟩ := x
      have h4 : xe = .inl a := h4
      subst h4
      exact h3
    have hD1 : va_D A (WS cs ad' xa M2) := by
      rw [hws]
      have hlow : ∀ (i : Nat) (q : Nat × va_E), (WS cs ad xa M)[i]? = some q → q.1 < H.size := fun i q hq => (hP i q hq).lt
      refine ⟨fun i j p q hi hj hpq => ?_, fun k q hk => ?_⟩
      · by_cases h1 : i < (WS cs ad xa M).length
        · rw [List.getElem?_append_left h1] at hi
          by_cases h2 : j < (WS cs ad xa M).length
          · rw [List.getElem?_append_left h2] at hj
            exact hD.1 i j p q hi hj hpq
          · rw [List.getElem?_append_right (by omega)] at hj
            have := hlow _ _ hi
            have := (hN _ _ hj).2.1
            omega
        · rw [List.getElem?_append_right (by omega)] at hi
          by_cases h2 : j < (WS cs ad xa M).length
          · rw [List.getElem?_append_left h2] at hj
            have := hlow _ _ hj
            have := (hN _ _ hi).2.1
            omega
          · rw [List.getElem?_append_right (by omega)] at hj
            have := (hN _ _ hi).2.1
            have := (hN _ _ hj).2.1
            omega
      · by_cases h1 : k < (WS cs ad xa M).length
        · rw [List.getElem?_append_left h1] at hk
          exact hD.2 k q hk
        · rw [List.getElem?_append_right (by omega)] at hk
          have := (hN _ _ hk).2.1
          exact hA _ (by have := hS.1; omega)
    have hS1 : va_S A s.heap H1 (locs ++ L) := ⟨by have := hS.1; omega, fun q h1 h2 => by rw [z2 q (by have := hS.1; omega)]; exact hS.2.1 q h1 h2, fun z hz => by
      rcases List.mem_append.mp hz with hz | hz
      · exact hS.2.2 z hz
      · rw [hLb z hz]; exact hA _ hS.1⟩
    have kf := IH _ _ _ M2 ad' h9 ((SOK.push2 ⟨hMok, fun v hv => (hst.2.1 v hv).mono (by omega), fun v hv => ⟨(hst.pop.pop.2.2 v hv).1.mono (by omega), (hst.pop.pop.2.2 v hv).2⟩⟩ (by omega))) (by omega) (by omega) rfl (by rw [c1]; simp) had1 H1 (locs ++ L) arr hP1 hD1 hS1 (LREL_up hL hst.2.1 had1)
    rw [hn, List.map_cons, mrv2, mrf_pos qz, qn, st_up hst.pop.pop.2.2 had1] at kf
    rw [q1, q2]
    have e0 := had2 0
    rw [Nat.add_zero, Nat.add_zero] at e0
    rw [e0] at kf
    exact kf
end STEPM
