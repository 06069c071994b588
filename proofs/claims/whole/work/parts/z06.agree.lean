/-! Part 06: when a mini instruction stands for a real one. -/
def lkIs (own lp kind ix : Nat) (t : Int) : Bool := match (lksL.getD own [])[lp]? with
  | some q => decide (q.1 = (kind, ix, t))
  | none => false
theorem lkIs_ok {own lp kind ix : Nat} {t : Int} (h : lkIs own lp kind ix t = true) : lkW own (kind, ix, t) ∈ tables_1 := by
  unfold lkIs at h
  cases hq : (lksL.getD own [])[lp]? with
  | none => rw [hq] at h; cases h
  | some q =>
    rw [hq] at h
    have e := decide_eq_true_eq.mp h
    rw [← e]
    exact lks_ok own q (List.mem_of_getElem? hq)
/-- the index that a linked instruction names -/
def ixOf : Instr → Nat
  | .ldc i => i | .ldc_w i => i | .ldc2_w i => i | .getfield i => i | .putfield i => i | .getstatic i => i | .invokevirtual i => i | .invokestatic i => i | .invokespecial i => i | .new i => i | .anewarray i => i | .multianewarray i _ => i | _ => 0
/-- 0 static, 1 of an object, 2 a constructor -/
def kL : List Nat := [2, 1, 1, 1, 1, 1, 1, 1, 1, 2, 1, 1, 1, 1, 1, 1, 1, 2, 1, 1, 1, 1, 1, 1, 1, 1, 2, 1, 1, 1, 1, 1, 1, 2, 1, 1, 1, 2, 1, 1, 1, 1, 1, 1, 1, 1, 1, 1, 1, 1, 1, 1, 1, 1, 1, 1, 1, 1, 1, 1, 2, 1, 1, 1, 1, 2, 1, 1, 1, 1, 2, 1, 1, 1, 1, 0, 1, 1, 1, 2, 1, 1, 1, 2, 1, 1, 1, 1, 2, 1, 0, 1, 1, 1, 1, 1, 1, 1, 1, 1, 1, 1, 1, 1, 1, 1, 1, 1, 1, 1, 1, 1, 1, 1, 1, 1, 1, 1, 1, 1, 1, 1, 1, 1, 1, 1, 1, 1, 1, 1, 1, 1, 1, 1, 1, 1, 1, 1, 1, 1, 1, 1, 1, 1, 1, 1, 1, 1, 1, 2, 1, 1, 0, 1, 1, 1, 1, 1, 0, 1, 1, 1, 1, 1, 1, 1, 1, 1, 1, 1, 1, 1, 1, 1, 1, 1, 1, 1, 1, 1, 1, 1, 1, 1, 1, 1, 1, 1, 1, 1, 1, 1, 1, 1, 1, 1, 1, 1, 1, 1, 1, 1, 1, 1, 1, 1, 1, 1, 1, 1, 1, 1, 1, 1, 1, 1, 1, 1, 1, 1, 1, 1, 1, 1, 1, 1, 1, 1, 1, 1, 1, 1, 1, 1, 1, 1, 1, 1, 1, 1, 1, 1, 1, 1, 1, 1, 1, 1, 0, 1, 1, 1, 1, 1, 1, 0, 0, 0, 0, 0, 0, 0, 0, 0, 0, 0, 0, 0, 0, 0, 0, 0]
def kOf (j : Nat) : Nat := kL.getD j 9
def okJ (j : Nat) : Bool := decide (j < 266) && decide (j ≠ 260) && decide (j ≠ 261)
def goN (pc len nxt : Nat) (real x : Instr) (n : Nat) : Bool := decide (real = x) && decide (len = n) && decide (nxt = pc + n)
def is32 (v : Int) : Bool := decide (-2147483648 ≤ v) && decide (v < 2147483648)
def is64 (v : Int) : Bool := decide (-9223372036854775808 ≤ v) && decide (v < 9223372036854775808)
def agr1 (own : Nat) (bps : List Nat) (idx pc : Nat) (real : Instr) (len lp : Nat) (mini : Instr) : Bool :=
  let nxt := bps.getD (idx + 1) 0
  let ix := ixOf real
  let go := goN pc len nxt real
  let to (t off : Int) := decide ((pc : Int) + off = (bps.getD t.toNat 0 : Int))
  match mini with
  | .sipush v => is32 v && ((go (.iconst v) 1) || (go (.bipush v) 2 && decide ((Int8.ofInt v).toInt32 = Int32.ofInt v)) || (go (.sipush v) 3 && decide ((Int16.ofInt v).toInt32 = Int32.ofInt v)) || (go (.ldc ix) 2 && lkIs own lp 5 ix v) || (go (.ldc_w ix) 3 && lkIs own lp 5 ix v) || (go (.getstatic ix) 3 && lkIs own lp 7 ix 1 && decide (v = 1)))
  | .bipush v => is64 v && ((go (.lconst 0) 1 && decide (v = 0)) || (go (.lconst 1) 1 && decide (v = 1)) || (go (.ldc2_w ix) 3 && lkIs own lp 4 ix v))
  | .ldc n => (go (.ldc ix) 2 && lkIs own lp 6 ix (-(n : Int))) || (go (.ldc_w ix) 3 && lkIs own lp 6 ix (-(n : Int)) && decide (n = 0)) || (go (.getstatic ix) 3 && lkIs own lp 7 ix (-(n : Int)) && decide (3 ≤ n ∧ n ≤ 5))
  | .iload n => go (.iload n) 2 || (decide (n < 4) && go (.iload_n (Fin.ofNat 4 n)) 1)
  | .lload n => go (.lload n) 2 || (decide (n < 4) && go (.lload_n (Fin.ofNat 4 n)) 1)
  | .aload n => go (.aload n) 2 || (decide (n < 4) && go (.aload_n (Fin.ofNat 4 n)) 1)
  | .istore n => go (.istore n) 2 || (decide (n < 4) && go (.istore_n (Fin.ofNat 4 n)) 1)
  | .lstore n => go (.lstore n) 2 || (decide (n < 4) && go (.lstore_n (Fin.ofNat 4 n)) 1)
  | .astore n => go (.astore n) 2 || (decide (n < 4) && go (.astore_n (Fin.ofNat 4 n)) 1)
  | .iinc n c => go (.iinc n c) 3
  | .goto t => (match real with | .goto off => decide (len = 3) && to t off | _ => false)
  | .if_icmp c t => (match real with | .if_icmp c' off => decide (c = c') && decide (nxt = pc + 3) && decide (len = 3) && to t off | _ => false)
  | .ifCond c t => (match real with | .ifCond c' off => decide (c = c') && decide (nxt = pc + 3) && decide (len = 3) && to t off | _ => false)
  | .ifnull t => (match real with | .ifnull off => decide (nxt = pc + 3) && decide (len = 3) && to t off | _ => false)
  | .ifnonnull t => (match real with | .ifnonnull off => decide (nxt = pc + 3) && decide (len = 3) && to t off | _ => false)
  | .getfield f => go (.getfield ix) 3 && (if f < 10000 then lkIs own lp 0 ix f && decide (fPl f < (clsT.getD (fCl f) []).length) && decide (fCl f < 13) && decide (fTy f = (clsT.getD (fCl f) []).getD (fPl f) 0) else lkIs own lp 10 ix f && decide (f = 10000 ∨ f = 10001))
  | .putfield f => go (.putfield ix) 3 && lkIs own lp 0 ix f && decide (f < 10000) && decide (fPl f < (clsT.getD (fCl f) []).length) && decide (fCl f < 13) && decide (fTy f = (clsT.getD (fCl f) []).getD (fPl f) 0) && (!(fldN f).2.2.2 || decide (fCl f = own))
  | .new n => go (.new ix) 3 && lkIs own lp 3 ix n && decide (n < 13)
  | .newarray t => go (.newarray t) 2 && decide (t = .int ∨ t = .long ∨ t = .boolean ∨ t = .byte)
  | .anewarray n => go (.anewarray ix) 3 && lkIs own lp 3 ix n && decide (n = 7)
  | .multianewarray _ _ => go (.multianewarray ix 2) 4 && lkIs own lp 11 ix 0
  | .invokestatic j => go (.invokestatic ix) 3 && (lkIs own lp 1 ix j || lkIs own lp 2 ix j) && decide (kOf j = 0) && okJ j
  | .invokedynamic j => go (.invokestatic ix) 3 && lkIs own lp 1 ix j && decide (266 ≤ j ∧ j < 271)
  | .invokespecial j => go (.invokespecial ix) 3 && (lkIs own lp 1 ix j || lkIs own lp 2 ix j) && decide (kOf j = 2) && okJ j
  | .invokevirtual j => go (.invokevirtual ix) 3 && lkIs own lp 1 ix j && decide (kOf j = 1) && okJ j
  | .invokeinterface j _ => go (.invokevirtual ix) 3 && lkIs own lp 1 ix j && decide (kOf j = 1) && okJ j
  | .pop => go (.invokespecial ix) 3 && lkIs own lp 8 ix 0
  | .pop2 => go .pop 1
  | .fmul => go (.invokestatic ix) 3 && lkIs own lp 9 ix 0
  | .fadd => go (.invokestatic ix) 3 && lkIs own lp 1 ix 260
  | .fsub => go (.invokestatic ix) 3 && lkIs own lp 1 ix 261
  | .caload => go .baload 1
  | .castore => go .bastore 1
  | .dup2_x1 => go .dup2 1
  | .freturn => decide (real = .ireturn) && decide (len = 1)
  | .dreturn => decide (real = .ireturn) && decide (len = 1)
  | .dneg => decide (real = .ireturn) && decide (len = 1)
  | .ireturn => decide (real = .ireturn) && decide (len = 1)
  | .lreturn => decide (real = .lreturn) && decide (len = 1)
  | .areturn => decide (real = .areturn) && decide (len = 1)
  | .return_ => decide (real = .return_) && decide (len = 1)
  | .athrow => decide (real = .new ix) && decide (len = 3)
  | .tableswitch d lo hi offs => (match real with
    | .tableswitch d' lo' hi' offs' => decide (lo = lo') && decide (hi = hi') && to d d' && decide (offs.size = offs'.size) && (List.range offs.size).all (fun i => to (offs.getD i 0) (offs'.getD i 0))
    | _ => false)
  | .nop => true
  | i => go i 1
def agrL (own : Nat) (bps : List Nat) : Nat → List (Nat × Instr × Nat × Nat) → List (Instr × List Nat) → Bool
  | idx, q :: r, c :: cs => agr1 own bps idx q.1 q.2.1 q.2.2.1 q.2.2.2 c.1 && agrL own bps (idx + 1) r cs
  | _, [], [] => true
  | _, _, _ => false
theorem agrL_at {own : Nat} {bps : List Nat} : ∀ {idx : Nat} {R : List (Nat × Instr × Nat × Nat)} {C : List (Instr × List Nat)}, agrL own bps idx R C = true → ∀ {k : Nat} {c : Instr × List Nat}, C[k]? = some c → ∃ q, R[k]? = some q ∧ agr1 own bps (idx + k) q.1 q.2.1 q.2.2.1 q.2.2.2 c.1 = true
  | idx, q :: r, c :: cs, h, k, c', hk => by
    simp only [agrL, Bool.and_eq_true] at h
    cases k with
    | zero =>
      simp only [List.getElem?_cons_zero, Option.some.injEq] at hk
      subst hk
      exact ⟨q, rfl, h.1⟩
    | succ k =>
      simp only [List.getElem?_cons_succ] at hk
      obtain ⟨q', h1, h2⟩ := agrL_at h.2 hk
      refine ⟨q', by simpa using h1, ?_⟩
      rw [show idx + (k + 1) = idx + 1 + k by omega]
      exact h2
  | idx, [], [], h, k, c', hk => by simp at hk
  | idx, [], c :: cs, h, k, c', hk => by simp [agrL] at h
  | idx, q :: r, [], h, k, c', hk => by simp at hk
