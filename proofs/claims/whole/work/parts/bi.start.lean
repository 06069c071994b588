/-! Part bi: printed by a program: the memory with which the law's loop begins. -/
/-- the cells, as they are after the constructors -/
def LFx : List Cll := [(11, 16, (cF88 0 (fDef (clsT.getD 11 [])))), (10, 7, (cF83 1 (fDef (clsT.getD 10 [])))), (100, 10, (fl 10 (-1) zz)), (100, 10, zz), (102, 10, zz), (100, 40, (fl 40 (-1) zz)), (100, 40, zz), (100, 40, zz), (100, 40, zz), (5, 9, (cF37 9 (fDef (clsT.getD 5 [])))), (103, 1000, zz), (7, 8, (cF65 11 (fDef (clsT.getD 7 [])))), (100, 6, zz), (100, 11, (fl 11 (-1) zz)), (100, 11, zz), (100, 0, zz), (104, 10, (fun _ => -1)), (7, 8, (cF65 17 (fDef (clsT.getD 7 [])))), (100, 6, zz), (100, 11, (fl 11 (-1) zz)), (100, 11, zz), (100, 0, zz), (7, 8, (cF65 22 (fDef (clsT.getD 7 [])))), (100, 6, zz), (100, 11, (fl 11 (-1) zz)), (100, 11, zz), (100, 0, zz), (8, 2, (cF70 27 (fDef (clsT.getD 8 [])))), (100, 11, zz), (100, 32, zz), (2, 7, (cF17 30 (fDef (clsT.getD 2 [])))), (100, 40, zz), (100, 40, zz), (101, 40, zz), (100, 40, zz), (100, 40, zz), (4, 4, (cF33 36 (fDef (clsT.getD 4 [])))), (100, 4, (fl 4 (-1) zz)), (100, 24, zz), (100, 10, (fl 10 (-1) zz)), (3, 7, (cF26 40 (fDef (clsT.getD 3 [])))), (100, 3, zz), (100, 10, zz), (100, 10, (fl 10 (1) zz)), (100, 50, (fl 50 (-1) zz)), (100, 10, zz), (100, 10, zz), (100, 3, zz), (6, 7, (cF60 48 (fDef (clsT.getD 6 [])))), (100, 10, zz), (100, 10, zz), (100, 10, zz), (100, 4, zz), (100, 4, zz), (100, 4, zz), (0, 11, (cF0 55 (fDef (clsT.getD 0 [])))), (100, 40, zz), (100, 40, zz), (100, 40, zz), (100, 40, zz), (100, 3, (pt (pt (pt zz 0 3) 1 2) 2 1)), (100, 3, zz), (100, 10, zz), (100, 10, zz), (100, 10, zz), (1, 8, (cF9 65 (fDef (clsT.getD 1 [])))), (100, 11, zz), (100, 11, zz), (100, 3, zz), (100, 15, zz), (100, 4, zz), (100, 3, zz), (9, 6, (cF79 72 (fDef (clsT.getD 9 [])))), (100, 4, zz), (100, 4, zz), (101, 4, zz), (105, 4, (fun j => ((76 : Nat) : Int) + 1 + j)), (100, 40, zz), (100, 40, zz), (100, 40, zz), (100, 40, zz), (105, 4, (fun j => ((81 : Nat) : Int) + 1 + j)), (100, 10, zz), (100, 10, zz), (100, 10, zz), (100, 10, zz), (100, 10, zz), (101, 1024, zz), (100, 1024, zz), (12, 87, (cF149 89 (fDef (clsT.getD 12 [])))), (102, 10, zz), (100, 10, zz), (100, 10, zz), (102, 10, zz), (102, 40, zz), (100, 40, zz), (100, 40, zz), (100, 40, zz), (100, 40, zz), (100, 40, zz), (100, 40, zz), (101, 40, zz), (100, 40, zz), (100, 40, zz), (102, 40, zz), (100, 1000, zz), (102, 10, zz), (100, 13, zz), (100, 13, zz), (100, 13, zz), (102, 117, zz), (100, 117, zz), (100, 117, zz), (100, 117, zz), (100, 13000, zz), (100, 7, zz), (102, 7, zz), (100, 7, zz), (100, 7, zz), (100, 7, zz), (100, 7, zz), (100, 7, zz), (100, 7, zz), (100, 7, zz), (100, 7, zz), (100, 7, zz), (100, 20, zz), (102, 4, zz), (100, 4, zz), (100, 24, zz), (100, 10, (fl 10 (-1) zz)), (100, 3, zz), (100, 10, zz), (100, 10, (fl 10 1 zz)), (100, 10, zz), (100, 3, zz), (100, 10, zz), (100, 10, zz), (100, 4, zz), (100, 4, zz), (100, 4, zz), (100, 10, zz), (100, 3, (ys 3)), (100, 3, zz), (100, 10, zz), (100, 10, zz), (100, 3, zz), (100, 15, zz), (100, 40, zz), (100, 10, zz), (102, 2048, zz), (100, 2048, zz), (100, 50, (fl 50 (-1) zz)), (100, 4, zz), (100, 4, zz), (102, 160, zz), (100, 160, zz), (100, 40, zz), (101, 1, zz)]
def ML1 : List Cll := [] ++ (11, 16, cF88 0 (fDef (clsT.getD 11 []))) :: (cB88 0).reverse
def ML2 : List Cll := ML1 ++ (12, 87, cF149 89 (fDef (clsT.getD 12 []))) :: (cB149 89).reverse
set_option maxRecDepth 100000 in
theorem ML1_len : ML1.length = 89 := rfl
set_option maxRecDepth 100000 in
theorem ML2_len : ML2.length = 158 := by unfold ML2; rw [List.length_append, ML1_len]; rfl
set_option maxRecDepth 100000 in
theorem LF_eq : ML2 ++ [(101, 1, fun _ => 0)] = LFx := rfl
def g0 : Nat → Nat → Int := fun a j => (LFx.getD a (0, 0, fun _ => 0)).2.2 j
/-- every fixed reference stands in its place -/
def ckP : Bool := (List.range 90).all fun a => (List.range 87).all fun j => match (ptrs a)[j]? with | some (some v) => decide (g0 a j = v) | _ => true
set_option maxRecDepth 100000 in
theorem ckP_t : ckP = true := by decide +kernel
theorem ptrs_big {a : Nat} (h : 90 ≤ a) : ptrs a = [] := by
  unfold ptrs
  split <;> first | rfl | omega
theorem ptrs_long (a : Nat) : (ptrs a).length ≤ 87 := by
  unfold ptrs
  split <;> exact by decide
theorem hh_g0 : hh g0 = g0 := by
  funext a j
  show (match (ptrs a)[j]? with | some (some v) => v | _ => g0 a j) = g0 a j
  by_cases ha : a < 90
  · by_cases hj : j < 87
    · have h := List.all_eq_true.mp (List.all_eq_true.mp ckP_t a (List.mem_range.mpr ha)) j (List.mem_range.mpr hj)
      revert h
      cases (ptrs a)[j]? with
      | none => intro _; rfl
      | some o =>
        cases o with
        | none => intro _; rfl
        | some v => intro h; exact (of_decide_eq_true h).symm
    · rw [List.getElem?_eq_none (Nat.le_trans (ptrs_long a) (by omega))]
  · rw [ptrs_big (by omega)]
    rfl
set_option maxRecDepth 100000 in
theorem memD_mk (c s : Nat) : memD LFx c s = mk [] c s (hh g0) := by
  rw [hh_g0]
  rfl
section START
variable (X : MExt)
theorem newM {L : List Cll} {n k m c s : Nat} {d : Nat → Int} : growF (memD L c s) k m d = memO L (k, m, d) [] (c + 1) (s + m) := growD L c s k m d
theorem nxM {L : List Cll} {n c s : Nat} (hn : L.length = n) : nx (memD L c s) = (n : Int) := by
  unfold nx memD
  rw [List.length_map, hn]
theorem subM {D j k m cl cc ss : Nat} {Ff : Nat → (Nat → Int) → Nat → Int} {Bf : Nat → List Cll} {d : Nat → Int} {L : List Cll} {n c s : Nat} {K : MRes → Option MRes} (hn : L.length = n) (h : ∀ (L0 : List Cll) (n : Nat), L0.length = n → ∀ (f : Nat → Int) (c s : Nat), Call prog clsT X D j [(2, (n : Int))] (memO L0 (k, m, f) [] c s) = some ((3, 0), memO L0 (k, m, Ff n f) (Bf n) (c + cc) (s + ss))) (hc : cl = k + 1) : (if (2 : Nat) = 2 ∧ rcv (growF (memD L c s) k m d) (nx (memD L c s)) cl = true then ((Call prog clsT X D j [(2, nx (memD L c s))] (growF (memD L c s) k m d)).bind fun r => if r.1.1 = 4 then none else K r) else none) = K ((3, 0), memD (L ++ (k, m, Ff n d) :: (Bf n).reverse) (c + 1 + cc) (s + m + ss)) := by
  rw [nxM hn, newM (n := n)]
  have hr : rcv (memO L (k, m, d) [] (c + 1) (s + m)) (n : Int) cl = true := by
    unfold rcv
    rw [if_pos (by omega)]
    have e := (atD L k m d [] (c + 1) (s + m)).1
    rw [hn] at e
    have e2 : memO L (k, m, d) [] (c + 1) (s + m) = memD (L ++ (k, m, d) :: []) (c + 1) (s + m) := rfl
    rw [e2, e]
    exact decide_eq_true hc.symm
  rw [if_pos ⟨rfl, hr⟩, call3 (h L n hn d (c + 1) (s + m))]
  rfl
end START
set_option maxRecDepth 100000 in
theorem law_start (X : MExt) (d : Nat) : Ev prog clsT X (d + 80) mc271 0 [(2, -2), (3, 0), (3, 0), (3, 0), (3, 0), (3, 0), (3, 0), (3, 0)] [] (memD [] 0 0) = Ev prog clsT X (d + 80) mc271 13 [(2, -2), (2, 0), (2, 89), (2, 158), (0, 0), (3, 0), (3, 0), (3, 0)] [] (mk [] 159 24242 (hh g0)) := by
  refine (q271_0 X (d + 80) _ _).trans ?_
  refine Eq.trans (subM X (n := 0) rfl (fun L0 n hn f c s => c88 X (d + 76) L0 n hn f c s) rfl) ?_
  refine (q271_3 X (d + 80) _ _ _).trans ?_
  refine Eq.trans (subM X (L := ML1) (n := 89) ML1_len (fun L0 n hn f c s => c149 X (d + 79) L0 n hn f c s) rfl) ?_
  refine (q271_7 X (d + 80) _ _ _ _).trans ?_
  show Ev prog clsT X (d + 80) mc271 13 [(2, -2), (2, nx (memD [] 0 0)), (2, nx (memD ML1 (0 + 1 + 88) (0 + 16 + 4316))), (2, nx (memD ML2 (0 + 1 + 88 + 1 + 68) (0 + 16 + 4316 + 87 + 19822))), (0, 0), (3, 0), (3, 0), (3, 0)] [] (growF (memD ML2 (0 + 1 + 88 + 1 + 68) (0 + 16 + 4316 + 87 + 19822)) 101 1 (fun _ => 0)) = _
  rw [nxM (L := []) (n := 0) rfl, nxM (L := ML1) (n := 89) ML1_len, nxM (L := ML2) (n := 158) ML2_len, growD, LF_eq, memD_mk]
  rfl
