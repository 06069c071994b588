/-! Part bd: printed by a program: the constructors. -/
abbrev Cll : Type := Nat × Nat × (Nat → Int)
/-- a memory as the list of its cells -/
def memD (L : List Cll) (c s : Nat) : Mem := (L.map (fun q => (q.1, q.2.1)), fun a j => (L.getD a (0, 0, fun _ => 0)).2.2 j, c, s)
/-- .. an object behind L0, and behind it what it made, the newest first -/
def memO (L0 : List Cll) (o : Cll) (B : List Cll) (c s : Nat) : Mem := memD (L0 ++ o :: B.reverse) c s
theorem growD (L : List Cll) (c s k n : Nat) (d : Nat → Int) : growF (memD L c s) k n d = memD (L ++ [(k, n, d)]) (c + 1) (s + n) := by
  unfold growF memD
  refine Prod.ext ?_ (Prod.ext ?_ rfl)
  · simp
  · funext a j
    simp only [List.length_map, List.getD_eq_getElem?_getD]
    by_cases h : a = L.length
    · subst h; simp
    · rw [if_neg h]
      by_cases h2 : a < L.length
      · rw [List.getElem?_append_left h2]
      · rw [List.getElem?_eq_none (by omega), List.getElem?_eq_none (by rw [List.length_append]; show L.length + 1 ≤ a; omega)]
theorem growO (L0 : List Cll) (o : Cll) (B : List Cll) (c s k n : Nat) (d : Nat → Int) : growF (memO L0 o B c s) k n d = memO L0 o ((k, n, d) :: B) (c + 1) (s + n) := by
  unfold memO
  rw [growD, List.reverse_cons, List.append_assoc]
  rfl
theorem lenO {L0 : List Cll} {n : Nat} (hn : L0.length = n) (o : Cll) {B : List Cll} {b : Nat} (hb : B.length = b) : (L0 ++ o :: B.reverse).length = n + 1 + b := by
  rw [List.length_append, List.length_cons, List.length_reverse, hn, hb]; omega
theorem nxO {L0 : List Cll} {n : Nat} (hn : L0.length = n) (o : Cll) {B : List Cll} {b : Nat} (hb : B.length = b) (c s : Nat) : nx (memO L0 o B c s) = ((n + 1 + b : Nat) : Int) := by
  unfold nx memO memD
  rw [List.length_map, lenO hn o hb]
/-- a cell in the middle -/
theorem atD (P : List Cll) (k n : Nat) (f : Nat → Int) (Q : List Cll) (c s : Nat) : lay? (memD (P ++ (k, n, f) :: Q) c s) (P.length : Int) = (k, n) ∧ (∀ i, get? (memD (P ++ (k, n, f) :: Q) c s) (P.length : Int) i = f i) ∧ ∀ i v, put (memD (P ++ (k, n, f) :: Q) c s) (P.length : Int) i v = memD (P ++ (k, n, pt f i v) :: Q) c s := by
  refine ⟨?_, fun i => ?_, fun i v => ?_⟩
  · unfold lay? memD
    rw [if_pos (by omega)]
    simp
  · unfold get? memD
    simp
  · unfold put memD
    refine Prod.ext (by simp) (Prod.ext ?_ rfl)
    funext a j
    simp only [Int.toNat_natCast, List.getD_eq_getElem?_getD]
    by_cases h : a = P.length
    · subst h
      simp only [true_and]
      rw [List.getElem?_append_right (Nat.le_refl _), List.getElem?_append_right (Nat.le_refl _), Nat.sub_self]
      show (if j = i then v else f j) = pt f i v j
      rfl
    · rw [if_neg (fun q => h q.1)]
      by_cases h2 : a < P.length
      · rw [List.getElem?_append_left h2, List.getElem?_append_left h2]
      · rw [List.getElem?_append_right (by omega), List.getElem?_append_right (by omega)]
        obtain ⟨t, ht⟩ : ∃ t, a - P.length = t + 1 := ⟨a - P.length - 1, by omega⟩
        rw [ht]
        rfl
section OBJ
variable {L0 : List Cll} {n : Nat}
theorem fputO (hn : L0.length = n) {F k m : Nat} {f : Nat → Int} {B : List Cll} {c s : Nat} {v : Int} (hF : F / 512 = k) : fput F (memO L0 (k, m, f) B c s) (n : Int) v = some (memO L0 (k, m, pt f (fPl F) v) B c s) := by
  subst hn
  unfold fput memO
  rw [if_pos (by omega), (atD L0 k m f B.reverse c s).1, if_pos (show k = fCl F from hF.symm), (atD L0 k m f B.reverse c s).2.2]
theorem fgetO (hn : L0.length = n) {F k m : Nat} {f : Nat → Int} {B : List Cll} {c s : Nat} {v : Int} (hF : F / 512 = k ∧ F < 10000) (hv : f (fPl F) = v) : fget F (memO L0 (k, m, f) B c s) (n : Int) = some v := by
  subst hn
  unfold fget memO
  rw [if_pos hF.2, if_pos (by omega), (atD L0 k m f B.reverse c s).1, if_pos (show k = fCl F from hF.1.symm), (atD L0 k m f B.reverse c s).2.1, hv]
/-- a reference into a field -/
theorem fputR (hn : L0.length = n) {F k m : Nat} {f : Nat → Int} {B : List Cll} {b c s : Nat} {v : Int} {K : Mem → Option MRes} (hb : B.length = b) (hF : F / 512 = k ∧ F % 4 = 2) (hv : v < ((n + 1 + b : Nat) : Int)) : (if (2 : Nat) = 2 ∧ (2 : Nat) = fTg F ∧ ((2 : Nat) = 2 → vref (memO L0 (k, m, f) B c s) v = true) ∧ (fTy F = 3 → one01 v = true) then (fput F (memO L0 (k, m, f) B c s) (n : Int) v).bind K else none) = K (memO L0 (k, m, pt f (fPl F) v) B c s) := by
  have h1 : 2 = fTg F := by
    unfold fTg
    rw [if_neg (by omega)]
    exact hF.2.symm
  have h2 : vref (memO L0 (k, m, f) B c s) v = true := by
    unfold vref
    rw [nxO hn _ hb]
    exact decide_eq_true hv
  have h3 : fTy F ≠ 3 := by
    unfold fTy
    omega
  exact (if_pos ⟨rfl, h1, fun _ => h2, fun q => absurd q h3⟩).trans (by rw [fputO hn hF.1]; rfl)
/-- .. written as it stands -/
theorem fputS (hn : L0.length = n) {F k m : Nat} {f : Nat → Int} {B : List Cll} {b c s : Nat} {v w : Int} {K : Mem → Option MRes} (hw : v = w) (hb : B.length = b) (hF : F / 512 = k ∧ F % 4 = 2) (hv : w < ((n + 1 + b : Nat) : Int)) : (if (2 : Nat) = 2 ∧ (2 : Nat) = fTg F ∧ ((2 : Nat) = 2 → vref (memO L0 (k, m, f) B c s) v = true) ∧ (fTy F = 3 → one01 v = true) then (fput F (memO L0 (k, m, f) B c s) (n : Int) v).bind K else none) = K (memO L0 (k, m, pt f (fPl F) w) B c s) := by
  subst hw
  exact fputR hn hb hF hv
/-- a new array into a field -/
theorem newO (hn : L0.length = n) {F k m kd nn : Nat} {f d : Nat → Int} {B : List Cll} {b c s : Nat} {K : Mem → Option MRes} (hb : B.length = b) (hF : F / 512 = k ∧ F % 4 = 2) : (if (2 : Nat) = 2 ∧ (2 : Nat) = fTg F ∧ ((2 : Nat) = 2 → vref (growF (memO L0 (k, m, f) B c s) kd nn d) (nx (memO L0 (k, m, f) B c s)) = true) ∧ (fTy F = 3 → one01 (nx (memO L0 (k, m, f) B c s)) = true) then (fput F (growF (memO L0 (k, m, f) B c s) kd nn d) (n : Int) (nx (memO L0 (k, m, f) B c s))).bind K else none) = K (memO L0 (k, m, pt f (fPl F) ((n + 1 + b : Nat) : Int)) ((kd, nn, d) :: B) (c + 1) (s + nn)) := by
  rw [growO, nxO hn _ hb]
  exact fputR hn (b := b + 1) (by rw [List.length_cons, hb]) hF (by omega)
theorem rcvO (hn : L0.length = n) {o : Cll} {k m cl : Nat} {f : Nat → Int} {B : List Cll} {b c s : Nat} (hb : B.length = b) (hc : cl = k + 1) : rcv (memO L0 o ((k, m, f) :: B) c s) ((n + 1 + b : Nat) : Int) cl = true := by
  unfold rcv
  rw [if_pos (by omega)]
  have e := (atD (L0 ++ o :: B.reverse) k m f [] c s).1
  rw [lenO hn o hb] at e
  have e2 : memO L0 o ((k, m, f) :: B) c s = memD ((L0 ++ o :: B.reverse) ++ (k, m, f) :: []) c s := by
    unfold memO
    rw [List.reverse_cons, List.append_assoc]
    rfl
  rw [e2, e]
  exact decide_eq_true hc.symm
/-- a constructor of an object that is made within -/
theorem subC (hn : L0.length = n) {X : MExt} {D j k m cc ss : Nat} {A : List MV} {Ff : Nat → (Nat → Int) → Nat → Int} {Bf : Nat → List Cll} (h : ∀ (L0 : List Cll) (n : Nat), L0.length = n → ∀ (f : Nat → Int) (c s : Nat), Call prog clsT X D j ((2, (n : Int)) :: A) (memO L0 (k, m, f) [] c s) = some ((3, 0), memO L0 (k, m, Ff n f) (Bf n) (c + cc) (s + ss))) {o : Cll} {f : Nat → Int} {B : List Cll} {b c s : Nat} (hb : B.length = b) : Call prog clsT X D j ((2, ((n + 1 + b : Nat) : Int)) :: A) (memO L0 o ((k, m, f) :: B) c s) = some ((3, 0), memO L0 o (Bf (n + 1 + b) ++ (k, m, Ff (n + 1 + b) f) :: B) (c + cc) (s + ss)) := by
  have e1 : ∀ (f : Nat → Int) (B2 : List Cll) (c s : Nat), memO L0 o (B2 ++ (k, m, f) :: B) c s = memO (L0 ++ o :: B.reverse) (k, m, f) B2 c s := fun f B2 c s => by
    unfold memO
    rw [List.reverse_append, List.reverse_cons, List.append_assoc, List.append_assoc]
    simp
  have := h (L0 ++ o :: B.reverse) (n + 1 + b) (lenO hn o hb) f c s
  rw [← e1, ← e1] at this
  exact this
theorem eqB (o : Cll) (P Q : List Cll) (a : Cll) (c s : Nat) : memO L0 o (P ++ a :: Q) c s = memD ((L0 ++ o :: Q.reverse) ++ a :: P.reverse) c s := by
  unfold memO
  rw [List.reverse_append, List.reverse_cons, List.append_assoc, List.append_assoc]
  simp
/-- an array written to -/
theorem aputB (hn : L0.length = n) {o : Cll} {P Q : List Cll} {nn : Nat} {f : Nat → Int} {b c s : Nat} {i v : Int} (hb : Q.length = b) (hi : 0 ≤ i ∧ i < (nn : Int)) : aput 100 (memO L0 o (P ++ (100, nn, f) :: Q) c s) ((n + 1 + b : Nat) : Int) i v = some (memO L0 o (P ++ (100, nn, pt f i.toNat v) :: Q) c s) := by
  rw [eqB, eqB]
  have e := atD (L0 ++ o :: Q.reverse) 100 nn f P.reverse c s
  rw [lenO hn o hb] at e
  unfold aput
  rw [if_pos (by omega), e.1, if_pos rfl, inb_is, if_pos hi, e.2.2]
theorem alenB (X : MExt) (hn : L0.length = n) {o : Cll} {P Q : List Cll} {nn : Nat} {f : Nat → Int} {b c s : Nat} (hb : Q.length = b) : alen X (memO L0 o (P ++ (100, nn, f) :: Q) c s) ((n + 1 + b : Nat) : Int) = some (nn : Int) := by
  rw [eqB]
  have e := atD (L0 ++ o :: Q.reverse) 100 nn f P.reverse c s
  rw [lenO hn o hb] at e
  unfold alen
  rw [if_pos (by omega), e.1, if_pos (show (100 : Nat) ≤ 100 ∧ (100 : Nat) < 106 by decide)]
/-- the first places filled -/
def fl (n : Nat) (v : Int) (f : Nat → Int) : Nat → Int := fun j => if j < n then v else f j
theorem fl_s (i : Nat) (v : Int) (f : Nat → Int) : pt (fl i v f) i v = fl (i + 1) v f := by
  funext j
  unfold pt fl
  by_cases h : j = i
  · rw [if_pos h, if_pos (by omega)]
  · rw [if_neg h]
    by_cases h2 : j < i
    · rw [if_pos h2, if_pos (by omega)]
    · rw [if_neg h2, if_neg (by omega)]
theorem fl_0 (v : Int) (f : Nat → Int) : fl 0 v f = f := by
  funext j
  exact if_neg (Nat.not_lt_zero j)
theorem bindE {α β : Type} {o : Option α} {v : α} {k : α → Option β} (e : o = some v) : o.bind k = k v := by subst e; rfl
/-- an object made within, and its constructor -/
theorem subN {X : MExt} {D j k m cl cc ss : Nat} {A : List MV} {Ff : Nat → (Nat → Int) → Nat → Int} {Bf : Nat → List Cll} {d : Nat → Int} (hn : L0.length = n) (h : ∀ (L0 : List Cll) (n : Nat), L0.length = n → ∀ (f : Nat → Int) (c s : Nat), Call prog clsT X D j ((2, (n : Int)) :: A) (memO L0 (k, m, f) [] c s) = some ((3, 0), memO L0 (k, m, Ff n f) (Bf n) (c + cc) (s + ss))) {o : Cll} {B : List Cll} {b c s : Nat} {K : MRes → Option MRes} (hb : B.length = b) (hc : cl = k + 1) : (if (2 : Nat) = 2 ∧ rcv (growF (memO L0 o B c s) k m d) (nx (memO L0 o B c s)) cl = true then ((Call prog clsT X D j ((2, nx (memO L0 o B c s)) :: A) (growF (memO L0 o B c s) k m d)).bind fun r => if r.1.1 = 4 then none else K r) else none) = K ((3, 0), memO L0 o (Bf (n + 1 + b) ++ (k, m, Ff (n + 1 + b) d) :: B) (c + 1 + cc) (s + m + ss)) := by
  rw [nxO hn o hb, growO, if_pos ⟨rfl, rcvO hn hb hc⟩, call3 (subC hn h hb)]
/-- an array of rows -/
theorem rowsO (o : Cll) (B : List Cll) (c s w : Nat) (g : Nat → Int) : growRows (growF (memO L0 o B c s) 105 4 g) w 4 = memO L0 o ((100, w, fun _ => 0) :: (100, w, fun _ => 0) :: (100, w, fun _ => 0) :: (100, w, fun _ => 0) :: (105, 4, g) :: B) (c + 1 + 1 + 1 + 1 + 1) (s + 4 + w + w + w + w) := by
  show growF (growF (growF (growF (growF (memO L0 o B c s) 105 4 g) 100 w _) 100 w _) 100 w _) 100 w _ = _
  rw [growO, growO, growO, growO, growO]
theorem newR (hn : L0.length = n) {F k m w : Nat} {f : Nat → Int} {B : List Cll} {b c s : Nat} {K : Mem → Option MRes} (hb : B.length = b) (hF : F / 512 = k ∧ F % 4 = 2) : (if (2 : Nat) = 2 ∧ (2 : Nat) = fTg F ∧ ((2 : Nat) = 2 → vref (growRows (growF (memO L0 (k, m, f) B c s) 105 4 (fun j => nx (memO L0 (k, m, f) B c s) + 1 + j)) w 4) (nx (memO L0 (k, m, f) B c s)) = true) ∧ (fTy F = 3 → one01 (nx (memO L0 (k, m, f) B c s)) = true) then (fput F (growRows (growF (memO L0 (k, m, f) B c s) 105 4 (fun j => nx (memO L0 (k, m, f) B c s) + 1 + j)) w 4) (n : Int) (nx (memO L0 (k, m, f) B c s))).bind K else none) = K (memO L0 (k, m, pt f (fPl F) ((n + 1 + b : Nat) : Int)) ((100, w, fun _ => 0) :: (100, w, fun _ => 0) :: (100, w, fun _ => 0) :: (100, w, fun _ => 0) :: (105, 4, fun j => ((n + 1 + b : Nat) : Int) + 1 + j) :: B) (c + 1 + 1 + 1 + 1 + 1) (s + 4 + w + w + w + w)) := by
  rw [rowsO, nxO hn _ hb]
  exact fputR hn (b := b + 5) (by rw [← hb]; rfl) hF (by omega)
theorem memO_e (o : Cll) (B : List Cll) {c s c' s' : Nat} (hc : c = c') (hs : s = s') : memO L0 o B c s = memO L0 o B c' s' := by subst hc; subst hs; rfl
end OBJ
