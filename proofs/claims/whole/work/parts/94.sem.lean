/-! Part 94: what an expression is worth: the class's steps on a stack, the reference's registers by depth. -/
def ntI (v : Int) : Int := if v = 0 then 1 else 0
def jn (op l r : Int) : Int := if op = 20001 then bI (l ≠ 0 ∧ r ≠ 0) else if op = 20002 then bI (l ≠ 0 ∨ r ≠ 0) else if op = 20003 then bI (l < r) else if op = 20004 then bI (l = r) else if op = 20005 then w32 (l + r) else if op = 20006 then w32 (l - r) else w32 (l * r)
def cst (row : Nat → Int) (st : List Int) (op : Int) : List Int :=
  if op < 20000 then (if st.length < 32 then (if op < 10000 then op else row (op - 10000).toNat) :: st else st)
  else if op = 20000 then (match st with | [] => [] | x :: r => ntI x :: r)
  else (match st with | y :: x :: r => jn op x y :: r | q => q)
def crun (row : Nat → Int) (st : List Int) (P : List Int) : List Int := P.foldl (cst row) st
theorem crun_app (row : Nat → Int) (st P P' : List Int) : crun row st (P ++ P') = crun row (crun row st P) P' := List.foldl_append
theorem cst_jn (row : Nat → Int) (st : List Int) (op x y : Int) (h : 20001 ≤ op) : cst row (y :: x :: st) op = jn op x y :: st := by
  unfold cst
  rw [if_neg (by omega), if_neg (by omega)]
def sm1 (g : Nat → Nat → Int) (d : Nat) : Int := if g 122 d = 21 then w32 (g 121 d - g 123 d) else w32 (g 121 d + g 123 d)
def sms (g : Nat → Nat → Int) (d : Nat) : Nat → Nat → Int := up (up g 121 d (sm1 g d)) 124 d 0
def tv1 (g : Nat → Nat → Int) (d : Nat) : Int := if g 120 d = 25 then bI (g 119 d = sm1 g d) else if g 120 d = 24 then bI (g 119 d < sm1 g d) else sm1 g d
def tv2 (g : Nat → Nat → Int) (d : Nat) : Int := if g 118 d = 27 then bI (g 117 d ≠ 0 ∨ tv1 g d ≠ 0) else if g 118 d = 26 then bI (g 117 d ≠ 0 ∧ tv1 g d ≠ 0) else tv1 g d
def tst (g : Nat → Nat → Int) (d : Nat) : Nat → Nat → Int := up (up (up (up (sms g d) 117 d (tv2 g d)) 120 d 0) 121 d 0) 122 d 20
def opn (g : Nat → Nat → Int) (d : Nat) : Nat → Nat → Int := up (up (up (up (up g 118 d 0) 120 d 0) 121 d 0) 122 d 20) 124 d 0
def cpr (g : Nat → Nat → Int) (d : Nat) (c : Int) : Nat → Nat → Int := up (up (up (up (sms g d) 119 d (sm1 g d)) 120 d c) 121 d 0) 122 d 20
def ap (g : Nat → Nat → Int) (d : Nat) (v : Int) : Int := if g 124 d = 0 then v else w32 (g 123 d * v)
def fin (g : Nat → Nat → Int) : Nat → Int → Nat × (Nat → Nat → Int)
  | 0, v => (0, up g 123 0 (ap g 0 v))
  | d + 1, v => if g 125 (d + 1) = 1 then fin g d (ntI v) else (d + 1, up g 123 (d + 1) (ap g (d + 1) v))
def mst (a : Nat × (Nat → Nat → Int)) (c : Int) : Nat × (Nat → Nat → Int) :=
  if c = 28 ∨ c = 30 then (a.1 + 1, opn (up a.2 125 (a.1 + 1) (if c = 30 then 1 else 0)) (a.1 + 1))
  else if c = 20 ∨ c = 21 then (a.1, up (sms a.2 a.1) 122 a.1 c)
  else if c = 22 then (a.1, up a.2 124 a.1 c)
  else if c = 24 ∨ c = 25 then (a.1, cpr a.2 a.1 c)
  else if c = 26 ∨ c = 27 then (a.1, up (tst a.2 a.1) 118 a.1 c)
  else if c = 29 then fin (tst a.2 a.1) (a.1 - 1) (tv2 a.2 a.1)
  else fin a.2 a.1 (if 100 ≤ c then w32 (c - 100) else a.2 126 c.toNat)
def mrun (a : Nat × (Nat → Nat → Int)) (Q : List Int) : Nat × (Nat → Nat → Int) := Q.foldl mst a
theorem mrun_app (a : Nat × (Nat → Nat → Int)) (Q Q' : List Int) : mrun a (Q ++ Q') = mrun (mrun a Q) Q' := List.foldl_append
theorem mrun_cons (a : Nat × (Nat → Nat → Int)) (c : Int) (Q : List Int) : mrun a (c :: Q) = mrun (mst a c) Q := rfl
theorem crun_1 (row : Nat → Int) (st : List Int) (op : Int) : crun row st [op] = cst row st op := rfl
/-- g1 is g but for registers above depth D, and those from lo on at D -/
def agX (lo D : Nat) (g g1 : Nat → Nat → Int) : Prop := ∀ x i, ¬ (117 ≤ x ∧ x ≤ 125 ∧ D < i) → ¬ (lo ≤ x ∧ x ≤ 124 ∧ i = D) → g1 x i = g x i
theorem agX_refl (lo D : Nat) (g : Nat → Nat → Int) : agX lo D g g := fun _ _ _ _ => rfl
theorem agX_tr {lo lo' D : Nat} {g g1 g2 : Nat → Nat → Int} (h : agX lo D g g1) (hl : lo ≤ lo') (h2 : agX lo' D g1 g2) : agX lo D g g2 := fun x i a b => (h2 x i a (fun q => b ⟨by omega, q.2⟩)).trans (h x i a b)
theorem agX_le {lo lo' D : Nat} {g g1 : Nat → Nat → Int} (h : agX lo' D g g1) (hl : lo ≤ lo') : agX lo D g g1 := agX_tr (agX_refl lo D g) hl h
theorem agX_lev {lo D x i : Nat} {v : Int} {g g1 : Nat → Nat → Int} (h : agX lo D g g1) (hx : 117 ≤ x ∧ x ≤ 125) (hi : D < i) : agX lo D g (up g1 x i v) := fun y j a b => (up_ne (fun q => a ⟨by omega, by omega, by omega⟩)).trans (h y j a b)
theorem agX_loc {lo D x : Nat} {v : Int} {g g1 : Nat → Nat → Int} (h : agX lo D g g1) (hx : lo ≤ x ∧ x ≤ 124) : agX lo D g (up g1 x D v) := fun y j a b => (up_ne (fun q => b ⟨by omega, by omega, by omega⟩)).trans (h y j a b)
theorem agX_dn {lo lo' D : Nat} {g g1 g2 : Nat → Nat → Int} (h : agX lo D g g1) (hl : 117 ≤ lo') (h2 : agX lo' (D + 1) g1 g2) : agX lo D g g2 := fun x i a b => (h2 x i (fun q => a ⟨q.1, q.2.1, by omega⟩) (fun q => a ⟨by omega, by omega, by omega⟩)).trans (h x i a b)
abbrev bas (D : Nat) (g : Nat → Nat → Int) : Prop := D = 0 ∨ g 125 D ≠ 1
theorem bas_ag {lo D : Nat} {g g1 : Nat → Nat → Int} (h : agX lo D g g1) (hb : bas D g) : bas D g1 := by
  rcases hb with q | q
  · exact Or.inl q
  · refine Or.inr ?_
    rw [h 125 D (by omega) (by omega)]
    exact q
theorem fin_bas {D : Nat} {g : Nat → Nat → Int} (h : bas D g) (v : Int) : fin g D v = (D, up g 123 D (ap g D v)) := by
  cases D with
  | zero => rfl
  | succ D =>
    rcases h with q | q
    · exact absurd q (by omega)
    · show (if g 125 (D + 1) = 1 then fin g D (ntI v) else _) = _
      rw [if_neg q]
abbrev rowOK (row : Nat → Int) : Prop := ∀ f, in32 (row f)
def fits (row : Nat → Int) (g : Nat → Nat → Int) : Prop := ∀ f : Nat, f < 11 → g 126 (f + 1) = row f
theorem fits_ag {lo D : Nat} {row : Nat → Int} {g g1 : Nat → Nat → Int} (h : agX lo D g g1) (hf : fits row g) : fits row g1 := fun f hl => by
  rw [h 126 (f + 1) (by omega) (by omega)]
  exact hf f hl
/-- steps that can be done; codes that can be -/
def vop (x : Int) : Prop := 0 ≤ x ∧ (x < 10011 ∨ (20000 ≤ x ∧ x ≤ 20007))
def vcd (c : Int) : Prop := (1 ≤ c ∧ c ≤ 11) ∨ (20 ≤ c ∧ c ≤ 30 ∧ c ≠ 23) ∨ (100 ≤ c ∧ c ≤ 10099)
def msf (a : Nat × (Nat → Nat → Int)) : List Int → Prop
  | [] => True
  | c :: Q => a.1 < 6 ∧ vcd c ∧ (c = 29 → 0 < a.1) ∧ msf (mst a c) Q
theorem msf_app : ∀ (Q Q' : List Int) (a : Nat × (Nat → Nat → Int)), msf a Q → msf (mrun a Q) Q' → msf a (Q ++ Q')
  | [], _, _, _, h2 => h2
  | _ :: Q, Q', _, h1, h2 => ⟨h1.1, h1.2.1, h1.2.2.1, msf_app Q Q' _ h1.2.2.2 h2⟩
theorem vop_app {P P' : List Int} (h : ∀ x, x ∈ P → vop x) (h' : ∀ x, x ∈ P' → vop x) : ∀ x, x ∈ P ++ P' → vop x := fun x hx => by
  rcases List.mem_append.mp hx with q | q
  · exact h x q
  · exact h' x q
theorem vop_1 {o : Int} (h : vop o) : ∀ x, x ∈ [o] → vop x := fun x hx => by
  rw [List.mem_singleton.mp hx]; exact h
/-- of a plan's steps: the facts of a plan alone -/
def vof (pl : Bool) (x : Int) : Prop := vop x ∧ (pl = true → ¬ (10008 ≤ x ∧ x < 20000))
theorem vof_of {pl : Bool} {x : Int} (h : vop x) (h2 : ¬ (10008 ≤ x ∧ x < 20000)) : vof pl x := ⟨h, fun _ => h2⟩
theorem vof_app {pl : Bool} {P P' : List Int} (h : ∀ x, x ∈ P → vof pl x) (h' : ∀ x, x ∈ P' → vof pl x) : ∀ x, x ∈ P ++ P' → vof pl x := fun x hx => by
  rcases List.mem_append.mp hx with q | q
  · exact h x q
  · exact h' x q
theorem vof_1 {pl : Bool} {o : Int} (h : vof pl o) : ∀ x, x ∈ [o] → vof pl x := fun x hx => by
  rw [List.mem_singleton.mp hx]; exact h
def fitp (pl : Bool) (row : Nat → Int) (g : Nat → Nat → Int) : Prop := ∀ f : Nat, f < 11 → (pl = true → f < 8) → g 126 (f + 1) = row f
theorem fitp_ag {pl : Bool} {lo D : Nat} {row : Nat → Int} {g g1 : Nat → Nat → Int} (h : agX lo D g g1) (hf : fitp pl row g) : fitp pl row g1 := fun f hl h8 => by
  rw [h 126 (f + 1) (by omega) (by omega)]
  exact hf f hl h8
/-- a part, a product, a sum, a test, an expression at depth D: the class's steps P, the reference's Q -/
def semP (pl : Bool) (D : Nat) (P Q : List Int) : Prop := (∀ x, x ∈ P → vof pl x) ∧ ∀ row, rowOK row → ∃ v, in32 v ∧ (∀ st : List Int, st.length + (21 - 4 * D) ≤ 32 → crun row st P = v :: st) ∧ ∀ g, fitp pl row g → ∃ g1, mrun (D, g) Q = fin g1 D v ∧ agX 126 D g g1 ∧ msf (D, g) Q
def semM (pl : Bool) (D : Nat) (P Q : List Int) : Prop := (∀ x, x ∈ P → vof pl x) ∧ ∀ row, rowOK row → ∃ v, in32 v ∧ (∀ st : List Int, st.length + (22 - 4 * D) ≤ 32 → crun row st P = v :: st) ∧ ∀ g, fitp pl row g → bas D g → g 124 D = 0 → ∃ g1, mrun (D, g) Q = (D, g1) ∧ agX 123 D g g1 ∧ g1 123 D = v ∧ msf (D, g) Q
abbrev pre3 (D : Nat) (g : Nat → Nat → Int) : Prop := g 121 D = 0 ∧ g 122 D = 20 ∧ g 124 D = 0
def semS (pl : Bool) (D : Nat) (P Q : List Int) : Prop := (∀ x, x ∈ P → vof pl x) ∧ ∀ row, rowOK row → ∃ v, in32 v ∧ (∀ st : List Int, st.length + (23 - 4 * D) ≤ 32 → crun row st P = v :: st) ∧ ∀ g, fitp pl row g → bas D g → pre3 D g → ∃ g1, mrun (D, g) Q = (D, g1) ∧ agX 121 D g g1 ∧ sm1 g1 D = v ∧ msf (D, g) Q
def semT (pl : Bool) (D : Nat) (P Q : List Int) : Prop := (∀ x, x ∈ P → vof pl x) ∧ ∀ row, rowOK row → ∃ v, in32 v ∧ (∀ st : List Int, st.length + (24 - 4 * D) ≤ 32 → crun row st P = v :: st) ∧ ∀ g, fitp pl row g → bas D g → pre3 D g → g 120 D = 0 → ∃ g1, mrun (D, g) Q = (D, g1) ∧ agX 119 D g g1 ∧ tv1 g1 D = v ∧ msf (D, g) Q
def semE (pl : Bool) (D : Nat) (P Q : List Int) : Prop := (∀ x, x ∈ P → vof pl x) ∧ ∀ row, rowOK row → ∃ v, in32 v ∧ (∀ st : List Int, st.length + (25 - 4 * D) ≤ 32 → crun row st P = v :: st) ∧ ∀ g, fitp pl row g → bas D g → pre3 D g → g 120 D = 0 → g 118 D = 0 → ∃ g1, mrun (D, g) Q = (D, g1) ∧ agX 117 D g g1 ∧ tv2 g1 D = v ∧ msf (D, g) Q
theorem in32_01 (p : Prop) [Decidable p] : in32 (bI p) := by rcases bI_01 p with h | h <;> rw [h] <;> unfold in32 <;> omega
theorem in32_nt (v : Int) : in32 (ntI v) := by unfold ntI; split <;> unfold in32 <;> omega
theorem in32_jn (op x y : Int) : in32 (jn op x y) := by
  unfold jn
  repeat' split
  all_goals first | exact in32_01 _ | exact in32_w _
theorem semP_num {pl : Bool} (D : Nat) (hD : D ≤ 5) (n : Int) (h : 0 ≤ n ∧ n ≤ 9999) : semP pl D [n] [100 + n] := by
  refine ⟨vof_1 (vof_of (by unfold vop; omega) (by omega)), fun row hr => ?_⟩
  refine ⟨n, by unfold in32; omega, fun st hs => ?_, fun g hf => ⟨g, ?_, agX_refl _ _ _, ⟨by show D < 6; omega, by unfold vcd; omega, fun q => by omega, trivial⟩⟩⟩
  · rw [crun_1]
    unfold cst
    rw [if_pos (by omega), if_pos (by omega), if_pos (by omega)]
  · show mst (D, g) (100 + n) = _
    unfold mst
    rw [if_neg (by omega), if_neg (by omega), if_neg (by omega), if_neg (by omega), if_neg (by omega), if_neg (by omega), if_pos (by omega), show 100 + n - 100 = n by omega, w32_of (by omega) (by omega)]
theorem semP_fact {pl : Bool} (D : Nat) (hD : D ≤ 5) (f : Nat) (hf : f < 11) (h8 : pl = true → f < 8) : semP pl D [10000 + (f : Int)] [(f : Int) + 1] := by
  refine ⟨vof_1 ⟨by unfold vop; omega, fun q => by have := h8 q; omega⟩, fun row hr => ?_⟩
  refine ⟨row f, hr f, fun st hs => ?_, fun g hg => ⟨g, ?_, agX_refl _ _ _, ⟨by show D < 6; omega, by unfold vcd; omega, fun q => by omega, trivial⟩⟩⟩
  · rw [crun_1]
    unfold cst
    rw [if_pos (by omega), if_pos (by omega), if_neg (by omega), show (10000 + (f : Int) - 10000).toNat = f by omega]
  · show mst (D, g) ((f : Int) + 1) = _
    unfold mst
    rw [if_neg (by omega), if_neg (by omega), if_neg (by omega), if_neg (by omega), if_neg (by omega), if_neg (by omega), if_neg (by omega), show ((f : Int) + 1).toNat = f + 1 by omega]
    show fin g D (g 126 (f + 1)) = _
    rw [hg f hf h8]
theorem agX_opn {D lo : Nat} {g : Nat → Nat → Int} {v : Int} : agX lo D g (opn (up g 125 (D + 1) v) (D + 1)) := by
  unfold opn
  exact agX_lev (agX_lev (agX_lev (agX_lev (agX_lev (agX_lev (agX_refl _ _ _) (by omega) (by omega)) (by omega) (by omega)) (by omega) (by omega)) (by omega) (by omega)) (by omega) (by omega)) (by omega) (by omega)
theorem opn_v (g : Nat → Nat → Int) (d : Nat) : opn g d 118 d = 0 ∧ opn g d 120 d = 0 ∧ opn g d 121 d = 0 ∧ opn g d 122 d = 20 ∧ opn g d 124 d = 0 ∧ opn g d 125 d = g 125 d := by
  unfold opn
  simp [up_at, up_cell]
theorem semP_not {pl : Bool} {D : Nat} (hD : D < 5) {P Q : List Int} (h : semP pl (D + 1) P Q) : semP pl D (P ++ [20000]) (30 :: Q) := by
  refine ⟨vof_app h.1 (vof_1 (vof_of (by unfold vop; omega) (by omega))), fun row hr => ?_⟩
  obtain ⟨v, h1, h2, h3⟩ := h.2 row hr
  refine ⟨ntI v, in32_nt v, fun st hs => ?_, fun g hg => ?_⟩
  · rw [crun_app, h2 st (by omega), crun_1]
    unfold cst
    rw [if_neg (by omega), if_pos rfl]
  · have e : mst (D, g) 30 = (D + 1, opn (up g 125 (D + 1) 1) (D + 1)) := by
      unfold mst; rw [if_pos (by omega), if_pos rfl]
    have ha : agX 126 D g (opn (up g 125 (D + 1) 1) (D + 1)) := agX_opn
    have hb : opn (up g 125 (D + 1) 1) (D + 1) 125 (D + 1) = 1 := by rw [(opn_v _ _).2.2.2.2.2]; exact up_same
    have hm : ∀ g0, opn (up g 125 (D + 1) 1) (D + 1) = g0 → msf (D + 1, g0) Q → msf (D, g) (30 :: Q) := fun g0 hg0 hq => ⟨by show D < 6; omega, by unfold vcd; omega, fun q => by omega, by rw [e, hg0]; exact hq⟩
    rw [mrun_cons, e]
    generalize hg0 : opn (up g 125 (D + 1) 1) (D + 1) = g0 at ha hb
    obtain ⟨g1, k1, k2, k3⟩ := h3 g0 (fitp_ag ha hg)
    refine ⟨g1, ?_, agX_dn ha (by omega) k2, hm g0 hg0 k3⟩
    rw [k1]
    show (if g1 125 (D + 1) = 1 then fin g1 D (ntI v) else _) = _
    rw [if_pos (by rw [k2 125 (D + 1) (by omega) (by omega)]; exact hb)]
theorem agX_tst {D : Nat} {g : Nat → Nat → Int} : agX 117 D g (tst g D) := by
  unfold tst sms
  exact agX_loc (agX_loc (agX_loc (agX_loc (agX_loc (agX_loc (agX_refl _ _ _) (by omega)) (by omega)) (by omega)) (by omega)) (by omega)) (by omega)
theorem semP_par {pl : Bool} {D : Nat} (hD : D < 5) {P Q : List Int} (h : semE pl (D + 1) P Q) : semP pl D P (28 :: (Q ++ [29])) := by
  refine ⟨h.1, fun row hr => ?_⟩
  obtain ⟨v, h1, h2, h3⟩ := h.2 row hr
  refine ⟨v, h1, fun st hs => h2 st (by omega), fun g hg => ?_⟩
  have e : mst (D, g) 28 = (D + 1, opn (up g 125 (D + 1) 0) (D + 1)) := by
    unfold mst; rw [if_pos (by omega), if_neg (by omega)]
  have ha : agX 126 D g (opn (up g 125 (D + 1) 0) (D + 1)) := agX_opn
  have hv := opn_v (up g 125 (D + 1) 0) (D + 1)
  rw [show up g 125 (D + 1) 0 125 (D + 1) = 0 from up_same] at hv
  have hm : ∀ g0 g1, opn (up g 125 (D + 1) 0) (D + 1) = g0 → mrun (D + 1, g0) Q = (D + 1, g1) → msf (D + 1, g0) Q → msf (D, g) (28 :: (Q ++ [29])) := fun g0 g1 hg0 hr hq => ⟨by show D < 6; omega, by unfold vcd; omega, fun q => by omega, by
    rw [e, hg0]
    refine msf_app _ _ _ hq ?_
    rw [hr]
    exact ⟨by show D + 1 < 6; omega, by unfold vcd; omega, fun _ => by show 0 < D + 1; omega, trivial⟩⟩
  rw [mrun_cons, e]
  generalize hg0 : opn (up g 125 (D + 1) 0) (D + 1) = g0 at ha hv
  obtain ⟨g1, k1, k2, k3, k4⟩ := h3 g0 (fitp_ag ha hg) (Or.inr (by rw [hv.2.2.2.2.2]; decide)) ⟨hv.2.2.1, hv.2.2.2.1, hv.2.2.2.2.1⟩ hv.2.1 hv.1
  refine ⟨tst g1 (D + 1), ?_, agX_dn (agX_dn ha (by omega) k2) (by omega) agX_tst, hm g0 g1 hg0 k1 k4⟩
  rw [mrun_app, k1]
  show mst (D + 1, g1) 29 = _
  unfold mst
  rw [if_neg (by omega), if_neg (by omega), if_neg (by omega), if_neg (by omega), if_neg (by omega), if_pos rfl]
  show fin (tst g1 (D + 1)) D (tv2 g1 (D + 1)) = _
  rw [k3]
theorem semM_1 {pl : Bool} {D : Nat} {P Q : List Int} (h : semP pl D P Q) : semM pl D P Q := by
  refine ⟨h.1, fun row hr => ?_⟩
  obtain ⟨v, h1, h2, h3⟩ := h.2 row hr
  refine ⟨v, h1, fun st hs => h2 st (by omega), fun g hg hb hz => ?_⟩
  obtain ⟨g1, k1, k2, k4⟩ := h3 g hg
  refine ⟨up g1 123 D v, ?_, agX_loc (agX_le k2 (by omega)) (by omega), up_same, k4⟩
  rw [k1, fin_bas (bas_ag k2 hb)]
  unfold ap
  rw [if_pos (by rw [k2 124 D (by omega) (by omega)]; exact hz)]
theorem semM_s {pl : Bool} {D : Nat} (hD : D ≤ 5) {P Q P' Q' : List Int} (h : semM pl D P Q) (h' : semP pl D P' Q') : semM pl D (P ++ P' ++ [20007]) (Q ++ 22 :: Q') := by
  refine ⟨vof_app (vof_app h.1 h'.1) (vof_1 (vof_of (by unfold vop; omega) (by omega))), fun row hr => ?_⟩
  obtain ⟨v, h1, h2, h3⟩ := h.2 row hr
  obtain ⟨w, i1, i2, i3⟩ := h'.2 row hr
  refine ⟨w32 (v * w), in32_w _, fun st hs => ?_, fun g hg hb hz => ?_⟩
  · rw [crun_app, crun_app, h2 st (by omega), i2 (v :: st) (by simp only [List.length_cons]; omega), crun_1, cst_jn _ _ _ _ _ (by omega)]
    rfl
  · obtain ⟨g1, k1, k2, k3, k4⟩ := h3 g hg hb hz
    have e : mst (D, g1) 22 = (D, up g1 124 D 22) := by
      unfold mst; rw [if_neg (by omega), if_neg (by omega), if_pos rfl]
    have ha : agX 123 D g (up g1 124 D 22) := agX_loc k2 (by omega)
    have hv : up g1 124 D 22 124 D = 22 ∧ up g1 124 D 22 123 D = v := ⟨up_same, by rw [up_cell (by decide)]; exact k3⟩
    have hm : ∀ g2, up g1 124 D 22 = g2 → msf (D, g2) Q' → msf (D, g) (Q ++ 22 :: Q') := fun g2 hg2 hq => msf_app _ _ _ k4 (by rw [k1]; exact ⟨by show D < 6; omega, by unfold vcd; omega, fun q => by omega, by rw [e, hg2]; exact hq⟩)
    rw [mrun_app, k1, mrun_cons, e]
    generalize hg2 : up g1 124 D 22 = g2 at ha hv
    obtain ⟨g3, l1, l2, l4⟩ := i3 g2 (fitp_ag ha hg)
    refine ⟨up g3 123 D (w32 (v * w)), ?_, agX_loc (agX_tr ha (by omega) l2) (by omega), up_same, hm g2 hg2 l4⟩
    rw [l1, fin_bas (bas_ag l2 (bas_ag ha hb))]
    unfold ap
    rw [if_neg (by rw [l2 124 D (by omega) (by omega), hv.1]; decide), l2 123 D (by omega) (by omega), hv.2]
theorem semS_1 {pl : Bool} {D : Nat} {P Q : List Int} (h : semM pl D P Q) : semS pl D P Q := by
  refine ⟨h.1, fun row hr => ?_⟩
  obtain ⟨v, h1, h2, h3⟩ := h.2 row hr
  refine ⟨v, h1, fun st hs => h2 st (by omega), fun g hg hb hz => ?_⟩
  obtain ⟨g1, k1, k2, k3, k4⟩ := h3 g hg hb hz.2.2
  refine ⟨g1, k1, agX_le k2 (by omega), ?_, k4⟩
  unfold sm1
  rw [k2 122 D (by omega) (by omega), hz.2.1, if_neg (by decide), k2 121 D (by omega) (by omega), hz.1, k3, Int.zero_add, w32_id h1]
theorem semS_s {pl : Bool} {D : Nat} (hD : D ≤ 5) {P Q P' Q' : List Int} (h : semS pl D P Q) (h' : semM pl D P' Q') (b : Bool) : semS pl D (P ++ P' ++ [if b = true then 20005 else 20006]) (Q ++ (if b = true then 20 else 21) :: Q') := by
  refine ⟨vof_app (vof_app h.1 h'.1) (vof_1 (vof_of (by unfold vop; split <;> omega) (by split <;> omega))), fun row hr => ?_⟩
  obtain ⟨v, h1, h2, h3⟩ := h.2 row hr
  obtain ⟨w, i1, i2, i3⟩ := h'.2 row hr
  refine ⟨if b = true then w32 (v + w) else w32 (v - w), by split <;> exact in32_w _, fun st hs => ?_, fun g hg hb hz => ?_⟩
  · rw [crun_app, crun_app, h2 st (by omega), i2 (v :: st) (by simp only [List.length_cons]; omega), crun_1, cst_jn _ _ _ _ _ (by split <;> omega)]
    cases b <;> rfl
  · obtain ⟨g1, k1, k2, k3, k4⟩ := h3 g hg hb hz
    have e : mst (D, g1) (if b = true then 20 else 21) = (D, up (sms g1 D) 122 D (if b = true then 20 else 21)) := by
      unfold mst; rw [if_neg (by split <;> omega), if_pos (by split <;> omega)]
    have ha : agX 121 D g (up (sms g1 D) 122 D (if b = true then 20 else 21)) := by
      unfold sms
      exact agX_loc (agX_loc (agX_loc k2 (by omega)) (by omega)) (by omega)
    have hv : up (sms g1 D) 122 D (if b = true then 20 else 21) 124 D = 0 ∧ up (sms g1 D) 122 D (if b = true then 20 else 21) 121 D = v ∧ up (sms g1 D) 122 D (if b = true then 20 else 21) 122 D = if b = true then 20 else 21 := by
      refine ⟨?_, ?_, up_same⟩
      · rw [up_cell (by decide)]; exact up_same
      · rw [up_cell (by decide)]; unfold sms; rw [up_cell (by decide), up_same, k3]
    have hm : ∀ g2, up (sms g1 D) 122 D (if b = true then 20 else 21) = g2 → msf (D, g2) Q' → msf (D, g) (Q ++ (if b = true then 20 else 21) :: Q') := fun g2 hg2 hq => msf_app _ _ _ k4 (by rw [k1]; exact ⟨by show D < 6; omega, by unfold vcd; split <;> omega, fun q => by split at q <;> omega, by rw [e, hg2]; exact hq⟩)
    rw [mrun_app, k1, mrun_cons, e]
    generalize hg2 : up (sms g1 D) 122 D (if b = true then 20 else 21) = g2 at ha hv
    obtain ⟨g3, l1, l2, l3, l4⟩ := i3 g2 (fitp_ag ha hg) (bas_ag ha hb) hv.1
    refine ⟨g3, l1, agX_tr ha (by omega) l2, ?_, hm g2 hg2 l4⟩
    unfold sm1
    rw [l2 122 D (by omega) (by omega), hv.2.2, l2 121 D (by omega) (by omega), hv.2.1, l3]
    cases b <;> rfl
theorem semT_1 {pl : Bool} {D : Nat} {P Q : List Int} (h : semS pl D P Q) : semT pl D P Q := by
  refine ⟨h.1, fun row hr => ?_⟩
  obtain ⟨v, h1, h2, h3⟩ := h.2 row hr
  refine ⟨v, h1, fun st hs => h2 st (by omega), fun g hg hb hz hq => ?_⟩
  obtain ⟨g1, k1, k2, k3, k4⟩ := h3 g hg hb hz
  refine ⟨g1, k1, agX_le k2 (by omega), ?_, k4⟩
  unfold tv1
  rw [k2 120 D (by omega) (by omega), hq, if_neg (by decide), if_neg (by decide), k3]
theorem semT_2 {pl : Bool} {D : Nat} (hD : D ≤ 5) {P Q P' Q' : List Int} (h : semS pl D P Q) (h' : semS pl D P' Q') (b : Bool) : semT pl D (P ++ P' ++ [if b = true then 20003 else 20004]) (Q ++ (if b = true then 24 else 25) :: Q') := by
  refine ⟨vof_app (vof_app h.1 h'.1) (vof_1 (vof_of (by unfold vop; split <;> omega) (by split <;> omega))), fun row hr => ?_⟩
  obtain ⟨v, h1, h2, h3⟩ := h.2 row hr
  obtain ⟨w, i1, i2, i3⟩ := h'.2 row hr
  refine ⟨if b = true then bI (v < w) else bI (v = w), by split <;> exact in32_01 _, fun st hs => ?_, fun g hg hb hz hq => ?_⟩
  · rw [crun_app, crun_app, h2 st (by omega), i2 (v :: st) (by simp only [List.length_cons]; omega), crun_1, cst_jn _ _ _ _ _ (by split <;> omega)]
    cases b <;> rfl
  · obtain ⟨g1, k1, k2, k3, k4⟩ := h3 g hg hb hz
    have e : mst (D, g1) (if b = true then 24 else 25) = (D, cpr g1 D (if b = true then 24 else 25)) := by
      unfold mst; rw [if_neg (by split <;> omega), if_neg (by split <;> omega), if_neg (by split <;> omega), if_pos (by split <;> omega)]
    have ha : agX 119 D g (cpr g1 D (if b = true then 24 else 25)) := by
      unfold cpr sms
      exact agX_loc (agX_loc (agX_loc (agX_loc (agX_loc (agX_loc (agX_le k2 (by omega)) (by omega)) (by omega)) (by omega)) (by omega)) (by omega)) (by omega)
    have hv : pre3 D (cpr g1 D (if b = true then 24 else 25)) ∧ cpr g1 D (if b = true then 24 else 25) 119 D = v ∧ cpr g1 D (if b = true then 24 else 25) 120 D = if b = true then 24 else 25 := by
      unfold pre3 cpr sms
      simp [up_at, up_cell, k3]
    have hm : ∀ g2, cpr g1 D (if b = true then 24 else 25) = g2 → msf (D, g2) Q' → msf (D, g) (Q ++ (if b = true then 24 else 25) :: Q') := fun g2 hg2 hq => msf_app _ _ _ k4 (by rw [k1]; exact ⟨by show D < 6; omega, by unfold vcd; split <;> omega, fun q => by split at q <;> omega, by rw [e, hg2]; exact hq⟩)
    rw [mrun_app, k1, mrun_cons, e]
    generalize hg2 : cpr g1 D (if b = true then 24 else 25) = g2 at ha hv
    obtain ⟨g3, l1, l2, l3, l4⟩ := i3 g2 (fitp_ag ha hg) (bas_ag ha hb) hv.1
    refine ⟨g3, l1, agX_tr ha (by omega) l2, ?_, hm g2 hg2 l4⟩
    unfold tv1
    rw [l2 120 D (by omega) (by omega), hv.2.2, l2 119 D (by omega) (by omega), hv.2.1, l3]
    cases b <;> rfl
theorem semE_1 {pl : Bool} {D : Nat} {P Q : List Int} (h : semT pl D P Q) : semE pl D P Q := by
  refine ⟨h.1, fun row hr => ?_⟩
  obtain ⟨v, h1, h2, h3⟩ := h.2 row hr
  refine ⟨v, h1, fun st hs => h2 st (by omega), fun g hg hb hz hq hk => ?_⟩
  obtain ⟨g1, k1, k2, k3, k4⟩ := h3 g hg hb hz hq
  refine ⟨g1, k1, agX_le k2 (by omega), ?_, k4⟩
  unfold tv2
  rw [k2 118 D (by omega) (by omega), hk, if_neg (by decide), if_neg (by decide), k3]
theorem semE_s {pl : Bool} {D : Nat} (hD : D ≤ 5) {P Q P' Q' : List Int} (h : semE pl D P Q) (h' : semT pl D P' Q') (b : Bool) : semE pl D (P ++ P' ++ [if b = true then 20001 else 20002]) (Q ++ (if b = true then 26 else 27) :: Q') := by
  refine ⟨vof_app (vof_app h.1 h'.1) (vof_1 (vof_of (by unfold vop; split <;> omega) (by split <;> omega))), fun row hr => ?_⟩
  obtain ⟨v, h1, h2, h3⟩ := h.2 row hr
  obtain ⟨w, i1, i2, i3⟩ := h'.2 row hr
  refine ⟨if b = true then bI (v ≠ 0 ∧ w ≠ 0) else bI (v ≠ 0 ∨ w ≠ 0), by split <;> exact in32_01 _, fun st hs => ?_, fun g hg hb hz hq hk => ?_⟩
  · rw [crun_app, crun_app, h2 st (by omega), i2 (v :: st) (by simp only [List.length_cons]; omega), crun_1, cst_jn _ _ _ _ _ (by split <;> omega)]
    cases b <;> rfl
  · obtain ⟨g1, k1, k2, k3, k4⟩ := h3 g hg hb hz hq hk
    have e : mst (D, g1) (if b = true then 26 else 27) = (D, up (tst g1 D) 118 D (if b = true then 26 else 27)) := by
      unfold mst; rw [if_neg (by split <;> omega), if_neg (by split <;> omega), if_neg (by split <;> omega), if_neg (by split <;> omega), if_pos (by split <;> omega)]
    have ha : agX 117 D g (up (tst g1 D) 118 D (if b = true then 26 else 27)) := agX_loc (agX_tr k2 (by omega) agX_tst) (by omega)
    have hv : pre3 D (up (tst g1 D) 118 D (if b = true then 26 else 27)) ∧ up (tst g1 D) 118 D (if b = true then 26 else 27) 120 D = 0 ∧ up (tst g1 D) 118 D (if b = true then 26 else 27) 117 D = v ∧ up (tst g1 D) 118 D (if b = true then 26 else 27) 118 D = if b = true then 26 else 27 := by
      unfold pre3 tst sms
      simp [up_at, up_cell, k3]
    have hm : ∀ g2, up (tst g1 D) 118 D (if b = true then 26 else 27) = g2 → msf (D, g2) Q' → msf (D, g) (Q ++ (if b = true then 26 else 27) :: Q') := fun g2 hg2 hq => msf_app _ _ _ k4 (by rw [k1]; exact ⟨by show D < 6; omega, by unfold vcd; split <;> omega, fun q => by split at q <;> omega, by rw [e, hg2]; exact hq⟩)
    rw [mrun_app, k1, mrun_cons, e]
    generalize hg2 : up (tst g1 D) 118 D (if b = true then 26 else 27) = g2 at ha hv
    obtain ⟨g3, l1, l2, l3, l4⟩ := i3 g2 (fitp_ag ha hg) (bas_ag ha hb) hv.1 hv.2.1
    refine ⟨g3, l1, agX_tr ha (by omega) l2, ?_, hm g2 hg2 l4⟩
    unfold tv2
    rw [l2 118 D (by omega) (by omega), hv.2.2.2, l2 117 D (by omega) (by omega), hv.2.2.1, l3]
    cases b <;> rfl
