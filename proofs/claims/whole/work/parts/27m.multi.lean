/-! Part 27m: a pair of a long doubled; rows of rows. -/
section STEPM
variable {p : Program} {l : Launch} {e : Env} {R : Room} {s : State} {m : MethodId} {args : Array Value} {below : List Frame} {meth : Method} {c : Code} {Q : State → Prop} {nL : Nat} {D : va_G} {cs : Nat → ClassId} {xa : Int → Option Nat} {A : Nat → Prop} {c0 s0 : Nat} {ad : Nat → Nat} {M : Mem} {pcb pc : Nat} {ls st : List MV} {cc : ByteArray} {X : MExt} {own len lp : Nat} {real : Instr} {bps : List Nat} {call : MC} {k : MK} {r : MRes}
theorem st_dup2L (hx : p.tables.exec = Jvm.exec) (hb : c.code = cc) (hst : SOK M ls st) (hd : decode cc pcb = .ok (real, len)) (ha : agr own bps pc pcb real len lp .dup2_x1 = true) (h : istep prog clsT X call .dup2_x1 pc ls st M k = some r)
    (IH : ∀ (pc' : Nat) (ls' st' : List MV) (M' : Mem) (ad' : Nat → Nat), k pc' ls' st' M' = some r → SOK M' ls' st' → M.2.2.1 ≤ M'.2.2.1 → M.2.2.2 ≤ M'.2.2.2 → ls'.length = ls.length → M.1.length ≤ M'.1.length → (∀ a, a < M.1.length → ad' a = ad a) → GO p l e R s m args below meth c Q nL D cs xa A c0 s0 ad' M' (bps.getD pc' 0) ls' st') : GO p l e R s m args below meth c Q nL D cs xa A c0 s0 ad M pcb ls st := by
  obtain ⟨rfl, rfl, hn⟩ := goN_ok ha
  match st, h, hst with
  | (t, x) :: st', h, hst =>
    have h9 : (if t = 1 then k (pc + 1) ls ((t, x) :: (t, x) :: st') M else none) = some r := h
    by_cases hc : t = 1
    · rw [if_pos hc] at h9
      subst hc
      have k2 := IH _ _ _ _ ad h9 (hst.push hst.top.1 hst.top.2) (Nat.le_refl _) (Nat.le_refl _) rfl (Nat.le_refl _) (fun _ _ => rfl)
      rw [hn] at k2
      exact go_dup2L hx hb hd k2
    · rw [if_neg hc] at h9; cases h9
theorem st_multi (hx : p.tables.exec = Jvm.exec) (hb : c.code = cc) (hts : ∀ w ∈ GW, w.before args s = true) (hown : s.vm.findClass (onm own) = some m.cls) (hK : va_K D vwCl (tysOf cs) s) (hA : ∀ q, s.heap.size ≤ q → A q) (hF : MFALL) (hc0 : c0 ≤ M.2.2.1) (hs0 : s0 ≤ M.2.2.2) (hmo : ∀ (pc' : Nat) (ls' st' : List MV) (M' : Mem), k pc' ls' st' M' = some r → M'.2.2.1 ≤ r.2.2.2.1 ∧ M'.2.2.2 ≤ r.2.2.2.2) (hRc : r.2.2.2.1 - c0 ≤ R.cells) (hRs : r.2.2.2.2 - s0 ≤ R.slots) (hNW : NWOK s) {a1 a2 : Nat} (hst : SOK M ls st) (hd : decode cc pcb = .ok (real, len)) (ha : agr own bps pc pcb real len lp (.multianewarray a1 a2) = true) (h : istep prog clsT X call (.multianewarray a1 a2) pc ls st M k = some r)
    (IH : ∀ (pc' : Nat) (ls' st' : List MV) (M' : Mem) (ad' : Nat → Nat), k pc' ls' st' M' = some r → SOK M' ls' st' → M.2.2.1 ≤ M'.2.2.1 → M.2.2.2 ≤ M'.2.2.2 → ls'.length = ls.length → M.1.length ≤ M'.1.length → (∀ a, a < M.1.length → ad' a = ad a) → GO p l e R s m args below meth c Q nL D cs xa A c0 s0 ad' M' (bps.getD pc' 0) ls' st') : GO p l e R s m args below meth c Q nL D cs xa A c0 s0 ad M pcb ls st := by
  sorry
end STEPM
