/-! Part 23: what has been made only grows; ends of methods. -/
def CLE (M M' : Mem) : Prop := M.2.2.1 ≤ M'.2.2.1 ∧ M.2.2.2 ≤ M'.2.2.2
theorem CLE.rf (M : Mem) : CLE M M := ⟨Nat.le_refl _, Nat.le_refl _⟩
theorem CLE.tr {M M' M'' : Mem} (h : CLE M M') (h' : CLE M' M'') : CLE M M'' := ⟨Nat.le_trans h.1 h'.1, Nat.le_trans h.2 h'.2⟩
section MONO
variable {M : Mem} {r : MRes} {k : MK}
def MO1 (M : Mem) (r : MRes) (o : Option MRes) : Prop := o = some r → CLE M r.2
def KMO (k : MK) (r : MRes) : Prop := ∀ (pc' : Nat) (ls' st' : List MV) (M' : Mem), k pc' ls' st' M' = some r → CLE M' r.2
theorem mo_none : MO1 M r none := fun h => by cases h
theorem mo_k (hk : KMO k r) {M' : Mem} (h : CLE M M') {pc : Nat} {ls st : List MV} : MO1 M r (k pc ls st M') := fun q => h.tr (hk _ _ _ _ q)
theorem mo_ite {p : Prop} [Decidable p] {a b : Option MRes} (ha : MO1 M r a) (hb : MO1 M r b) : MO1 M r (if p then a else b) := by
  split
  · exact ha
  · exact hb
theorem mo_some {x : MRes} (h : CLE M x.2) : MO1 M r (some x) := fun q => by cases q; exact h
theorem mo_bind {α : Type} {o : Option α} {f : α → Option MRes} (h : ∀ v, o = some v → MO1 M r (f v)) : MO1 M r (o.bind f) := by
  cases o with
  | none => exact mo_none
  | some v => exact h v rfl
theorem aput_cle {kd : Nat} {x i v : Int} {M' : Mem} (h : aput kd M x i v = some M') : CLE M M' := by
  obtain ⟨-, -, -, -, rfl⟩ := aput_some h
  exact CLE.rf _
theorem fput_cle {f : Nat} {x v : Int} {M' : Mem} (h : fput f M x v = some M') : CLE M M' := by
  unfold fput at h
  split at h
  · split at h
    · cases h; exact CLE.rf _
    · cases h
  · cases h
theorem acopy_cle {s sp d dp n : Int} {M' : Mem} (h : acopy M s sp d dp n = some M') : CLE M M' := by
  obtain ⟨-, rfl⟩ := acopy_some h
  exact CLE.rf _
theorem growF_cle (M : Mem) (k n : Nat) (d : Nat → Int) : CLE M (growF M k n d) := ⟨Nat.le_add_right _ _, Nat.le_add_right _ _⟩
theorem growRows_cle (M : Mem) (n : Nat) : ∀ r, CLE M (growRows M n r)
  | 0 => CLE.rf _
  | r + 1 => (growRows_cle M n r).tr (growF_cle _ _ _ _)
theorem mo_lod (hk : KMO k r) {t n pc : Nat} {ls st : List MV} : MO1 M r (lod t n pc ls st M k) := by
  unfold lod
  cases ls[n]? with
  | none => exact mo_none
  | some v => exact mo_ite (mo_k hk (CLE.rf _)) mo_none
theorem mo_incr (hk : KMO k r) {n pc : Nat} {c : Int} {ls st : List MV} : MO1 M r (incr n c pc ls st M k) := by
  unfold incr
  cases ls[n]? with
  | none => exact mo_none
  | some v => exact mo_ite (mo_k hk (CLE.rf _)) mo_none
theorem mo_bin (hk : KMO k r) {t pc : Nat} {op : Int → Int → Int} {ls st : List MV} : MO1 M r (bin t op pc ls st M k) := by
  unfold bin
  match st with
  | [] => exact mo_none
  | [_] => exact mo_none
  | _ :: _ :: _ => exact mo_ite (mo_k hk (CLE.rf _)) mo_none
theorem mo_shf (hk : KMO k r) {pc : Nat} {op : Int → Int → Int} {ls st : List MV} : MO1 M r (shf op pc ls st M k) := by
  unfold shf
  match st with
  | [] => exact mo_none
  | [_] => exact mo_none
  | _ :: _ :: _ => exact mo_ite (mo_k hk (CLE.rf _)) mo_none
theorem mo_una (hk : KMO k r) {t t' pc : Nat} {op : Int → Int} {ls st : List MV} : MO1 M r (una t t' op pc ls st M k) := by
  unfold una
  match st with
  | [] => exact mo_none
  | _ :: _ => exact mo_ite (mo_k hk (CLE.rf _)) mo_none
theorem mo_ald (hk : KMO k r) {X : MExt} {kd pc : Nat} {ls st : List MV} : MO1 M r (ald X kd pc ls st M k) := by
  unfold ald
  match st with
  | [] => exact mo_none
  | [_] => exact mo_none
  | _ :: _ :: _ => exact mo_ite (mo_bind fun _ _ => mo_k hk (CLE.rf _)) mo_none
theorem mo_ast (hk : KMO k r) {kd pc : Nat} {nr : Int → Int} {ls st : List MV} : MO1 M r (ast kd nr pc ls st M k) := by
  unfold ast
  match st with
  | [] => exact mo_none
  | [_] => exact mo_none
  | [_, _] => exact mo_none
  | _ :: _ :: _ :: _ => exact mo_ite (mo_bind fun _ h => mo_k hk (aput_cle h)) mo_none
theorem mo_jmp (hk : KMO k r) {b : Bool} {t pc : Nat} {ls st : List MV} : MO1 M r (jmp b t pc ls st M k) := mo_ite (mo_k hk (CLE.rf _)) (mo_k hk (CLE.rf _))
theorem mo_rtn {ok : Int → Bool} {t : Nat} {st : List MV} : MO1 M r (rtn ok t st M) := by
  unfold rtn
  match st with
  | [] => exact mo_none
  | [_] => exact mo_ite (mo_some (CLE.rf _)) mo_none
  | _ :: _ :: _ => exact mo_none
def CMO (call : MC) : Prop := ∀ j as M r, call j as M = some r → CLE M r.2
theorem mo_inv (hk : KMO k r) {call : MC} (hc : CMO call) {j n mx pc : Nat} {ls st : List MV} : MO1 M r (inv call j n mx pc ls st M k) :=
  mo_ite mo_none (mo_bind fun _ h => mo_ite mo_none (mo_k hk (hc _ _ _ _ h)))
theorem mo_istep {PG : Nat → MMeth} {CT : MCls} {X : MExt} {call : MC} (hc : CMO call) (hk : KMO k r) (i : Instr) (pc : Nat) (ls st : List MV) : MO1 M r (istep PG CT X call i pc ls st M k) := by
  cases i <;> first
    | exact mo_none
    | exact mo_k hk (CLE.rf _)
    | exact mo_k hk (growF_cle _ _ _ _)
    | exact mo_lod hk
    | exact mo_incr hk
    | exact mo_bin hk
    | exact mo_shf hk
    | exact mo_una hk
    | exact mo_ald hk
    | exact mo_ast hk
    | exact mo_inv hk hc
    | exact mo_rtn
    | exact mo_ite (mo_inv hk hc) mo_none
    | exact mo_ite (mo_bin hk) mo_none
    | exact mo_ite (mo_ite mo_none (mo_bind fun _ h => mo_ite (mo_k hk (hc _ _ _ _ h)) (mo_k hk (hc _ _ _ _ h)))) mo_none
    | (rcases st with _ | ⟨_, _ | ⟨_, _ | ⟨_, _ | ⟨_, _ | ⟨_, _⟩⟩⟩⟩⟩ <;> first
        | exact mo_none
        | exact mo_some (CLE.rf _)
        | exact mo_some ⟨Nat.le_add_right _ _, Nat.le_add_right _ _⟩
        | exact mo_ite (mo_k hk (CLE.rf _)) mo_none
        | exact mo_ite (mo_k hk (growF_cle _ _ _ _)) mo_none
        | exact mo_ite (mo_k hk ((growF_cle _ _ _ _).tr (growRows_cle _ _ _))) mo_none
        | exact mo_ite mo_none (mo_k hk (CLE.rf _))
        | exact mo_ite (mo_ite mo_none (mo_k hk (CLE.rf _))) mo_none
        | exact mo_ite (mo_jmp hk) mo_none
        | exact mo_ite (mo_bind fun _ h => mo_k hk (aput_cle h)) mo_none
        | exact mo_ite (mo_bind fun _ h => mo_k hk (fput_cle h)) mo_none
        | exact mo_ite (mo_bind fun _ h => mo_k hk (acopy_cle h)) mo_none
        | exact mo_ite (mo_bind fun _ _ => mo_k hk (CLE.rf _)) mo_none
        | exact mo_ite (mo_ite (mo_bind fun _ _ => mo_k hk (CLE.rf _)) mo_none) mo_none
        | exact mo_ite (mo_ite (mo_k hk (CLE.rf _)) (mo_bind fun _ _ => mo_k hk (CLE.rf _))) mo_none)
end MONO
theorem ex_cle (PG : Nat → MMeth) (CT : MCls) (X : MExt) : ∀ (n d : Nat) (c : List (Instr × List Nat)) (pc : Nat) (ls st : List MV) (M : Mem) (r : MRes), ex PG CT X n d c pc ls st M = some r → CLE M r.2 := by
  intro n
  induction n with
  | zero => intro d c pc ls st M r h; cases h
  | succ n ih =>
    intro d c pc ls st M r h
    rw [ex_succ] at h
    unfold bstep at h
    cases hc : c[pc]? with
    | none => rw [hc] at h; cases h
    | some q =>
      rw [hc] at h
      refine mo_istep (r := r) (fun j as M2 r2 h2 => ?_) (fun pc' ls' st' M' h' => ih _ _ _ _ _ _ _ h') _ _ _ _ h
      cases d with
      | zero => cases h2
      | succ d => exact ih _ _ _ _ _ _ _ h2
theorem exC_cle (PG : Nat → MMeth) (CT : MCls) (X : MExt) (n d : Nat) : CMO (exC PG CT X n d) := by
  intro j as M r h
  cases d with
  | zero => cases h
  | succ d => exact ex_cle PG CT X _ _ _ _ _ _ _ _ h
