/-! Part 02: a run's answer without counting its instructions: Ev, Call, and their equations. -/
abbrev MC : Type := Nat → List MV → Mem → Option MRes
def MLe (call call' : MC) : Prop := ∀ j as M r, call j as M = some r → call' j as M = some r
/-- an answer comes out of at most one way on -/
def MPt (F : MC → MK → Option MRes) : Prop := ∀ call k r, F call k = some r → (∀ call' k', MLe call call' → F call' k' = some r) ∨ ∃ pc ls st M, k pc ls st M = some r ∧ ∀ call' k', MLe call call' → k' pc ls st M = some r → F call' k' = some r
theorem mp_none : MPt (fun _ _ => none) := fun _ _ _ h => by cases h
theorem mp_some (x : MRes) : MPt (fun _ _ => some x) := fun _ _ _ h => Or.inl fun _ _ _ => h
theorem mp_k (a : Nat) (b c : List MV) (d : Mem) : MPt (fun _ k => k a b c d) := fun _ _ _ h => Or.inr ⟨a, b, c, d, h, fun _ _ _ h => h⟩
theorem mp_ite {p : Prop} [Decidable p] {F G : MC → MK → Option MRes} (hF : MPt F) (hG : MPt G) : MPt (fun c k => if p then F c k else G c k) := by
  intro call k r h
  by_cases hp : p
  · simp only [if_pos hp] at h ⊢; exact hF call k r h
  · simp only [if_neg hp] at h ⊢; exact hG call k r h
theorem mp_incr (n : Nat) (c : Int) (pc : Nat) (ls st : List MV) (M : Mem) : MPt (fun _ k => incr n c pc ls st M k) := by
  unfold incr
  cases ls[n]? with
  | none => exact mp_none
  | some v => exact mp_ite (mp_k _ _ _ _) mp_none
theorem mp_bind {α : Type} (o : Option α) {F : α → MC → MK → Option MRes} (hF : ∀ v, MPt (F v)) : MPt (fun c k => o.bind fun v => F v c k) := by
  cases o with
  | none => exact mp_none
  | some v => exact hF v
theorem mp_call (j : Nat) (as : List MV) (M : Mem) {F : MRes → MC → MK → Option MRes} (hF : ∀ v, MPt (F v)) : MPt (fun c k => (c j as M).bind fun v => F v c k) := by
  intro call k r h
  dsimp only at h
  cases hc : call j as M with
  | none => rw [hc] at h; cases h
  | some v =>
    rw [hc] at h
    have h : F v call k = some r := h
    rcases hF v call k r h with q | ⟨pc, ls, st, M2, q1, q2⟩
    · refine Or.inl fun call' k' hle => ?_
      show (call' j as M).bind _ = _
      rw [hle _ _ _ _ hc]
      exact q call' k' hle
    · refine Or.inr ⟨pc, ls, st, M2, q1, fun call' k' hle hk => ?_⟩
      show (call' j as M).bind _ = _
      rw [hle _ _ _ _ hc]
      exact q2 call' k' hle hk
theorem mp_lod (t n pc : Nat) (ls st : List MV) (M : Mem) : MPt (fun _ k => lod t n pc ls st M k) := by
  unfold lod
  cases ls[n]? with
  | none => exact mp_none
  | some v => exact mp_ite (mp_k _ _ _ _) mp_none
theorem mp_bin (t : Nat) (op : Int → Int → Int) (pc : Nat) (ls st : List MV) (M : Mem) : MPt (fun _ k => bin t op pc ls st M k) := by
  unfold bin
  match st with
  | [] => exact mp_none
  | [_] => exact mp_none
  | _ :: _ :: _ => exact mp_ite (mp_k _ _ _ _) mp_none
theorem mp_shf (op : Int → Int → Int) (pc : Nat) (ls st : List MV) (M : Mem) : MPt (fun _ k => shf op pc ls st M k) := by
  unfold shf
  match st with
  | [] => exact mp_none
  | [_] => exact mp_none
  | _ :: _ :: _ => exact mp_ite (mp_k _ _ _ _) mp_none
theorem mp_una (t t' : Nat) (op : Int → Int) (pc : Nat) (ls st : List MV) (M : Mem) : MPt (fun _ k => una t t' op pc ls st M k) := by
  unfold una
  match st with
  | [] => exact mp_none
  | _ :: _ => exact mp_ite (mp_k _ _ _ _) mp_none
theorem mp_ald (X : MExt) (kd pc : Nat) (ls st : List MV) (M : Mem) : MPt (fun _ k => ald X kd pc ls st M k) := by
  unfold ald
  match st with
  | [] => exact mp_none
  | [_] => exact mp_none
  | _ :: _ :: _ => exact mp_ite (mp_bind _ fun _ => mp_k _ _ _ _) mp_none
theorem mp_ast (kd : Nat) (nr : Int → Int) (pc : Nat) (ls st : List MV) (M : Mem) : MPt (fun _ k => ast kd nr pc ls st M k) := by
  unfold ast
  match st with
  | [] => exact mp_none
  | [_] => exact mp_none
  | [_, _] => exact mp_none
  | _ :: _ :: _ :: _ => exact mp_ite (mp_bind _ fun _ => mp_k _ _ _ _) mp_none
theorem mp_jmp (b : Bool) (t pc : Nat) (ls st : List MV) (M : Mem) : MPt (fun _ k => jmp b t pc ls st M k) := mp_ite (mp_k _ _ _ _) (mp_k _ _ _ _)
theorem mp_inv (j n mx pc : Nat) (ls st : List MV) (M : Mem) : MPt (fun call k => inv call j n mx pc ls st M k) := mp_ite mp_none (mp_call _ _ _ fun _ => mp_ite mp_none (mp_k _ _ _ _))
theorem mp_rtn (ok : Int → Bool) (t : Nat) (st : List MV) (M : Mem) : MPt (fun _ _ => rtn ok t st M) := by
  unfold rtn
  match st with
  | [] => exact mp_none
  | [_] => exact mp_ite (mp_some _) mp_none
  | _ :: _ :: _ => exact mp_none
theorem mp_istep (PG : Nat → MMeth) (CT : MCls) (X : MExt) (i : Instr) (pc : Nat) (ls st : List MV) (M : Mem) : MPt (fun call k => istep PG CT X call i pc ls st M k) := by
  cases i <;> first
    | exact mp_none
    | exact mp_k _ _ _ _
    | exact mp_lod _ _ _ _ _ _
    | exact mp_incr _ _ _ _ _ _
    | exact mp_bin _ _ _ _ _ _
    | exact mp_shf _ _ _ _ _
    | exact mp_una _ _ _ _ _ _ _
    | exact mp_ald _ _ _ _ _ _
    | exact mp_ast _ _ _ _ _ _
    | exact mp_inv _ _ _ _ _ _ _
    | exact mp_rtn _ _ _ _
    | exact mp_some _
    | exact mp_ite (mp_inv _ _ _ _ _ _ _) mp_none
    | exact mp_ite (mp_bin _ _ _ _ _ _) mp_none
    | exact mp_ite (mp_ite mp_none (mp_call _ _ _ fun _ => mp_ite (mp_k _ _ _ _) (mp_k _ _ _ _))) mp_none
    | (rcases st with _ | ⟨_, _ | ⟨_, _ | ⟨_, _ | ⟨_, _ | ⟨_, _⟩⟩⟩⟩⟩ <;> first
        | exact mp_none
        | exact mp_some _
        | exact mp_ite (mp_k _ _ _ _) mp_none
        | exact mp_ite mp_none (mp_k _ _ _ _)
        | exact mp_ite (mp_ite mp_none (mp_k _ _ _ _)) mp_none
        | exact mp_ite (mp_jmp _ _ _ _ _ _) mp_none
        | exact mp_ite (mp_bind _ fun _ => mp_k _ _ _ _) mp_none
        | exact mp_ite (mp_ite (mp_bind _ fun _ => mp_k _ _ _ _) mp_none) mp_none
        | exact mp_ite (mp_ite (mp_k _ _ _ _) (mp_bind _ fun _ => mp_k _ _ _ _)) mp_none)
theorem mp_bstep (PG : Nat → MMeth) (CT : MCls) (X : MExt) (c : List (Instr × List Nat)) (pc : Nat) (ls st : List MV) (M : Mem) : MPt (fun call k => bstep PG CT X call c pc ls st M k) := by
  unfold bstep
  cases c[pc]? with
  | none => exact mp_none
  | some v => exact mp_istep _ _ _ _ _ _ _ _
section EVS
variable (PG : Nat → MMeth) (CT : MCls) (X : MExt)
def exC (n d : Nat) : MC := fun j as M' => match d with
  | 0 => none
  | d' + 1 => ex PG CT X n d' (PG j).1 0 (lin0 (PG j).2.2.1 as) [] M'
theorem ex_succ (n d : Nat) (c : List (Instr × List Nat)) (pc : Nat) (ls st : List MV) (M : Mem) : ex PG CT X (n + 1) d c pc ls st M = bstep PG CT X (exC PG CT X n d) c pc ls st M (ex PG CT X n d c) := rfl
theorem ex_mono : ∀ (n d : Nat) (c : List (Instr × List Nat)) (pc : Nat) (ls st : List MV) (M : Mem) (r : MRes), ex PG CT X n d c pc ls st M = some r → ex PG CT X (n + 1) d c pc ls st M = some r := by
  intro n
  induction n with
  | zero => intro d c pc ls st M r h; cases h
  | succ n ih =>
    intro d c pc ls st M r h
    rw [ex_succ] at h ⊢
    have hle : MLe (exC PG CT X n d) (exC PG CT X (n + 1) d) := by
      intro j as M2 r2 h2
      cases d with
      | zero => exact h2
      | succ d => exact ih _ _ _ _ _ _ _ h2
    rcases mp_bstep PG CT X c pc ls st M _ _ _ h with q | ⟨pc2, ls2, st2, M2, q1, q2⟩
    · exact q _ _ hle
    · exact q2 _ _ hle (ih _ _ _ _ _ _ _ q1)
theorem ex_le {n n' : Nat} (h : n ≤ n') {d : Nat} {c : List (Instr × List Nat)} {pc : Nat} {ls st : List MV} {M : Mem} {r : MRes} (hr : ex PG CT X n d c pc ls st M = some r) : ex PG CT X n' d c pc ls st M = some r := by
  obtain ⟨k, rfl⟩ := Nat.exists_eq_add_of_le h
  induction k with
  | zero => exact hr
  | succ k ih => exact ex_mono PG CT X _ _ _ _ _ _ _ _ (ih (Nat.le_add_right _ _))
theorem exC_le {n n' : Nat} (h : n ≤ n') (d : Nat) : MLe (exC PG CT X n d) (exC PG CT X n' d) := by
  intro j as M r hr
  cases d with
  | zero => exact hr
  | succ d => exact ex_le PG CT X h hr
theorem ev_ex (d : Nat) (c : List (Instr × List Nat)) (pc : Nat) (ls st : List MV) (M : Mem) : ∃ o : Option MRes, ∀ r, o = some r ↔ ∃ n, ex PG CT X n d c pc ls st M = some r := by
  rcases Classical.em (∃ r n, ex PG CT X n d c pc ls st M = some r) with ⟨r, n, h⟩ | h
  · refine ⟨some r, fun r2 => ⟨fun e => ⟨n, by rw [h, e]⟩, fun ⟨n2, h2⟩ => ?_⟩⟩
    have a := ex_le PG CT X (Nat.le_max_left n n2) h
    have b := ex_le PG CT X (Nat.le_max_right n n2) h2
    exact a.symm.trans b
  · exact ⟨none, fun r2 => ⟨fun e => (nomatch e), fun ⟨n2, h2⟩ => absurd ⟨r2, n2, h2⟩ h⟩⟩
/-- the answer of a run from here, however long; calls at most d deep -/
noncomputable def Ev (d : Nat) (c : List (Instr × List Nat)) : MK := fun pc ls st M => Classical.choose (ev_ex PG CT X d c pc ls st M)
noncomputable def Call (d : Nat) : MC := fun j as M => match d with
  | 0 => none
  | d' + 1 => Ev PG CT X d' (PG j).1 0 (lin0 (PG j).2.2.1 as) [] M
theorem Ev_iff {d : Nat} {c : List (Instr × List Nat)} {pc : Nat} {ls st : List MV} {M : Mem} {r : MRes} : Ev PG CT X d c pc ls st M = some r ↔ ∃ n, ex PG CT X n d c pc ls st M = some r := Classical.choose_spec (ev_ex PG CT X d c pc ls st M) r
theorem exC_Call (n d : Nat) : MLe (exC PG CT X n d) (Call PG CT X d) := by
  intro j as M r hr
  cases d with
  | zero => exact hr
  | succ d => exact (Ev_iff PG CT X).mpr ⟨n, hr⟩
theorem Call_exC {d j : Nat} {as : List MV} {M : Mem} {r : MRes} (h : Call PG CT X d j as M = some r) : ∃ n, exC PG CT X n d j as M = some r := by
  cases d with
  | zero => cases h
  | succ d => exact (Ev_iff PG CT X).mp h
/-- what is asked of the calls is asked of one of them -/
def MPt1 (F : MC → MK → Option MRes) : Prop := ∀ call k r, F call k = some r → ∃ (o : Option (Nat × List MV × Mem × MRes)), (∀ q, o = some q → call q.1 q.2.1 q.2.2.1 = some q.2.2.2) ∧ ∀ call', (∀ q, o = some q → call' q.1 q.2.1 q.2.2.1 = some q.2.2.2) → F call' k = some r
theorem mq_const {F : MC → MK → Option MRes} (h : ∀ c c' k, F c k = F c' k) : MPt1 F := fun call k r hr => ⟨none, fun q h => (by cases h), fun call' _ => (h call' call k).trans hr⟩
theorem mq_call (j : Nat) (as : List MV) (M : Mem) {F : MRes → MK → Option MRes} : MPt1 (fun c k => (c j as M).bind fun v => F v k) := by
  intro call k r h
  dsimp only at h
  cases hc : call j as M with
  | none => rw [hc] at h; cases h
  | some v =>
    rw [hc] at h
    refine ⟨some (j, as, M, v), fun q e => by cases e; exact hc, fun call' hq => ?_⟩
    dsimp only
    rw [hq _ rfl]
    exact h
theorem mq_ite {p : Prop} [Decidable p] {F G : MC → MK → Option MRes} (hF : MPt1 F) (hG : MPt1 G) : MPt1 (fun c k => if p then F c k else G c k) := by
  intro call k r h
  by_cases hp : p
  · simp only [if_pos hp] at h ⊢; exact hF call k r h
  · simp only [if_neg hp] at h ⊢; exact hG call k r h
theorem mq_inv (j n mx pc : Nat) (ls st : List MV) (M : Mem) : MPt1 (fun call k => inv call j n mx pc ls st M k) := mq_ite (mq_const fun _ _ _ => rfl) (mq_call _ _ _)
theorem mq_istep (i : Instr) (pc : Nat) (ls st : List MV) (M : Mem) : MPt1 (fun call k => istep PG CT X call i pc ls st M k) := by
  cases i <;> first
    | exact mq_const fun _ _ _ => rfl
    | exact mq_inv _ _ _ _ _ _ _
    | exact mq_ite (mq_inv _ _ _ _ _ _ _) (mq_const fun _ _ _ => rfl)
    | exact mq_ite (mq_ite (mq_const fun _ _ _ => rfl) (mq_call _ _ _)) (mq_const fun _ _ _ => rfl)
theorem mq_bstep (c : List (Instr × List Nat)) (pc : Nat) (ls st : List MV) (M : Mem) : MPt1 (fun call k => bstep PG CT X call c pc ls st M k) := by
  unfold bstep
  cases c[pc]? with
  | none => exact mq_const fun _ _ _ => rfl
  | some v => exact mq_istep PG CT X _ _ _ _ _
/-- THE EQUATION of a run: one instruction, then on -/
theorem Ev_eq (d : Nat) (c : List (Instr × List Nat)) (pc : Nat) (ls st : List MV) (M : Mem) : Ev PG CT X d c pc ls st M = bstep PG CT X (Call PG CT X d) c pc ls st M (Ev PG CT X d c) := by
  apply Option.ext
  intro r
  constructor
  · intro h
    obtain ⟨n, hn⟩ := (Ev_iff PG CT X).mp h
    cases n with
    | zero => cases hn
    | succ n =>
      rw [ex_succ] at hn
      rcases mp_bstep PG CT X c pc ls st M _ _ _ hn with q | ⟨pc2, ls2, st2, M2, q1, q2⟩
      · exact q _ _ (exC_Call PG CT X n d)
      · exact q2 _ _ (exC_Call PG CT X n d) ((Ev_iff PG CT X).mpr ⟨n, q1⟩)
  · intro h
    obtain ⟨o, h1, h2⟩ := mq_bstep PG CT X c pc ls st M _ _ _ h
    have hC : ∃ n, ∀ q, o = some q → exC PG CT X n d q.1 q.2.1 q.2.2.1 = some q.2.2.2 := by
      cases o with
      | none => exact ⟨0, fun q e => by cases e⟩
      | some q =>
        obtain ⟨n, hn⟩ := Call_exC PG CT X (h1 q rfl)
        exact ⟨n, fun q' e => by cases e; exact hn⟩
    obtain ⟨n, hn⟩ := hC
    have h3 := h2 _ hn
    rcases mp_bstep PG CT X c pc ls st M _ _ _ h3 with q | ⟨pc2, ls2, st2, M2, q1, q2⟩
    · exact (Ev_iff PG CT X).mpr ⟨n + 1, q _ _ (fun _ _ _ _ h => h)⟩
    · obtain ⟨n2, hn2⟩ := (Ev_iff PG CT X).mp q1
      refine (Ev_iff PG CT X).mpr ⟨max n n2 + 1, ?_⟩
      rw [ex_succ]
      exact q2 _ _ (exC_le PG CT X (Nat.le_max_left n n2) d) (ex_le PG CT X (Nat.le_max_right n n2) hn2)
/-- n instructions, or up to a cut -/
noncomputable def evK (d : Nat) (c : List (Instr × List Nat)) (cut : List Nat) : Nat → MK
  | 0 => Ev PG CT X d c
  | n + 1 => fun pc ls st M => bstep PG CT X (Call PG CT X d) c pc ls st M (fun pc' ls' st' M' => if pc' ∈ cut then Ev PG CT X d c pc' ls' st' M' else evK d c cut n pc' ls' st' M')
theorem Ev_evK (d : Nat) (c : List (Instr × List Nat)) (cut : List Nat) : ∀ n, evK PG CT X d c cut n = Ev PG CT X d c
  | 0 => rfl
  | n + 1 => by
    funext pc ls st M
    rw [Ev_eq]
    unfold evK
    congr 1
    funext pc' ls' st' M'
    rw [Ev_evK d c cut n, ite_self]
end EVS
