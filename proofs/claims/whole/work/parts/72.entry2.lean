/-! Part 72: entry, the reference's side. -/
theorem laid_z (g : Nat → Nat → Int) (v : Int) : laid (up g 89 0 v) = laid g := by
  show laidTo (up g 89 0 v) (nE g) = laidTo g (nE g)
  have key : ∀ m, laidTo (up g 89 0 v) m = laidTo g m := by
    intro m
    induction m with
    | zero => rfl
    | succ m ih => show lor64 _ _ = lor64 _ _; rw [ih]; rfl
  exact key _
def addM (g : Nat → Nat → Int) (x1 x2 x3 x5 : Int) : Nat → Nat → Int := up (up (up (up (up (up (up (up g 89 0 0) 99 (nE g) x1) 100 (nE g) x2) 101 (nE g) x3) 102 (nE g) x5) 103 (nE g) 0) 104 (nE g) 0) 89 10 ((nE g + 1 : Nat) : Int)
theorem m156 {X : MExt} {E : List (Nat × Nat)} {c s : Nat} {g : Nat → Nat → Int} (h : RN g) (d : Nat) (x1 x2 x3 x5 : Int) : Call prog clsT X (d + 3) 156 [(2, 89), (0, x1), (0, x2), (1, x3), (0, x5)] (mk E c s (hh g)) = if entC g x1 x2 x3 x5 then some ((0, (nE g : Int)), mk E c s (hh (addM g x1 x2 x3 x5))) else some ((0, -1), mk E c s (hh (up g 89 0 0))) := by
  have hle := h.le
  rw [rc156_, call0 (show Call prog clsT X (d + 2) 157 [(2, 89), (0, x1)] (mk E c s (hh (up g 89 0 0))) = some ((0, bI (0 ≤ x1 ∧ x1 ≤ 9 ∧ g 106 x1.toNat ≠ 0)), mk E c s (hh (up g 89 0 0))) from m157 X E c s (g := up g 89 0 0) d x1), push0, r156_6, cmp_eq, bI_eq0]
  by_cases k0 : 0 ≤ x1 ∧ x1 ≤ 9 ∧ g 106 x1.toNat ≠ 0
  case neg => rw [if_pos k0, if_neg (fun q => k0 q.1)]
  rw [if_neg (fun q => q k0), call0 (show Call prog clsT X (d + 2) 154 [(2, 89), (0, x2)] (mk E c s (hh (up g 89 0 0))) = some ((0, bI (0 ≤ x2 ∧ x2 ≤ 9 ∧ g 90 x2.toNat ≠ 0)), mk E c s (hh (up g 89 0 0))) from m154 X E c s (g := up g 89 0 0) d x2), push0, r156_10, cmp_eq, bI_eq0]
  by_cases k1 : 0 ≤ x2 ∧ x2 ≤ 9 ∧ g 90 x2.toNat ≠ 0
  case neg => rw [if_pos k1, if_neg (fun q => k1 q.2.1)]
  rw [if_neg (fun q => q k1), cmp_lt, lcmplt]
  by_cases k2 : x3 < 0
  · rw [if_pos k2, if_neg (fun q => by have := q.2.2.2.2.1.1; omega)]
  rw [if_neg k2, cmp_ge, lcmpge]
  by_cases k3 : 1099511627776 ≤ x3
  · rw [if_pos k3, if_neg (fun q => by have := q.2.2.2.2.1.2; omega)]
  rw [if_neg k3, call0 (m158 X E c s (d + 1) x3), push0, r156_21, call0 (m152 X E c s (d + 1) _ 1 8), push0, r156_24, cmp_eq, bI_eq0]
  by_cases k4 : 1 ≤ bits40 x3 ∧ bits40 x3 ≤ 8
  case neg => rw [if_pos k4, if_neg (fun q => k4 q.2.2.2.2.2.1)]
  rw [if_neg (fun q => q k4), call0 (m152 X E c s (d + 1) x5 0 9), push0, r156_29, cmp_eq, bI_eq0]
  by_cases k5 : 0 ≤ x5 ∧ x5 ≤ 9
  case neg => rw [if_pos k5, if_neg (fun q => k5 q.2.2.1)]
  have en : up g 89 0 0 89 10 = nE g := h.n2
  rw [if_neg (fun q => q k5), cmp_ne, en]
  by_cases k6 : nE g < 40
  case neg => rw [if_neg (by omega), if_neg (fun q => k6 q.2.2.2.1)]
  rw [if_pos (by omega), call0 (show Call prog clsT X (d + 2) 159 [(2, 89), (1, x3), (0, x2)] (mk E c s (hh (up g 89 0 0))) = some ((0, bI (theirs g x3 x2)), mk E c s (hh (up g 89 0 0))) from m159 X E c s (g := up g 89 0 0) (d + 1) x3 x2), push0, r156_40, cmp_eq, bI_eq0]
  by_cases k7 : theirs g x3 x2
  case neg => rw [if_pos k7, if_neg (fun q => k7 q.2.2.2.2.2.2.1)]
  rw [if_neg (fun q => q k7), call1 (m155 X E c s (g := up g 89 0 0) h (d + 1)), push1, r156_44, laid_z, cmp_eq, lcmp0, en]
  by_cases k8 : land64 x3 (laid g) = 0
  case neg => rw [if_neg k8, if_neg (fun q => k8 q.2.2.2.2.2.2.2)]
  rw [if_pos k8, inb_is, if_pos (by omega), inb_is, if_pos (by omega), inb_is, if_pos (by omega), inb_is, if_pos (by omega), inb_is, if_pos (by omega), inb_is, if_pos (by omega), if_pos ⟨k0, k1, k5, k6, ⟨by omega, by omega⟩, k4, k7, k8⟩, Int.toNat_natCast, w32_succ (by omega), show ((nE g + 1 : Nat) : Int) - 1 = (nE g : Int) by omega, w32_of (by omega) (by omega)]
  rfl
theorem tb_in (a : Int) (k i : Nat) (hk : k < 64) : tb (lor64 a (lshl64 1 (k : Int))) i = (tb a i || decide (i = k)) := by
  rw [tb_or, tb_1sh k i hk]
theorem op_entry (X : MExt) (x1 x2 x3 x5 : Int) (h3 : in64 x3) : Op X 96 156 5 [(0, x1), (0, x2), (1, x3), (0, x5)] := by
  intro E c s d g h hb
  by_cases hc : entC g x1 x2 x3 x5
  case neg => exact ⟨-1, _, _, (c96 X E c s h.1 h.2.1 hb d x1 x2 x3 x5 h3).trans (if_neg hc), (m156 h.1.rn (d + 2) x1 x2 x3 x5).trans (if_neg hc), I0_z h, fr_z⟩
  have en : nE (addC g x1 x2 x3 x5) = nE g := rfl
  have hle := h.1.le
  have el : laid (addC g x1 x2 x3 x5) = laid g := by
    unfold addC
    rw [laid_up (by decide), laid_up (by decide), laid_up (by decide), laid_up (by decide), laid_up (by decide), laid_up (by decide), laid_up (by decide)]
  have hc2 : entC (addC g x1 x2 x3 x5) x1 x2 x3 x5 := by
    refine ⟨hc.1, hc.2.1, hc.2.2.1, hc.2.2.2.1, hc.2.2.2.2.1, hc.2.2.2.2.2.1, hc.2.2.2.2.2.2.1, ?_⟩
    rw [el]; exact hc.2.2.2.2.2.2.2
  refine ⟨nE g, _, _, (c96 X E c s h.1 h.2.1 hb d x1 x2 x3 x5 h3).trans (if_pos hc), (m156 (g := addC g x1 x2 x3 x5) h.1.rn (d + 2) x1 x2 x3 x5).trans (if_pos hc2), ⟨?_, h.2.1.fr ?_, h.2.2.1.fr ?_, h.2.2.2.1.fr ?_, h.2.2.2.2.1.fr ?_, ?_⟩, ?_⟩
  case refine_1 =>
    obtain ⟨a1, a2, a3, a4, a5, a6, a7, a8, a9, a10, a11, a12, a13, a14, a15, a16, a17⟩ := h.1
    have hn : (nE (addM (addC g x1 x2 x3 x5) x1 x2 x3 x5)) = nE g + 1 := by
      show (((nE g + 1 : Nat) : Int)).toNat = nE g + 1
      omega
    obtain ⟨p1, p2, p3, p4, p5, p6, p7, p8⟩ := hc
    refine ⟨rfl, ?_, ?_, in64_or _ _, fun e he => ?_, fun e => ?_, fun e => ?_, fun e => ?_, fun e => ?_, fun e => ?_, fun e => ?_, fun e => ?_, fun e => ?_, fun e => ?_, fun e => ?_, fun e => ?_, fun e => ?_⟩
    case refine_1 => show 0 ≤ ((nE g + 1 : Nat) : Int); omega
    case refine_2 => show ((nE g + 1 : Nat) : Int) ≤ 40; omega
    case refine_3 =>
      rw [hn]
      show tb (lor64 (g 30 1) (lshl64 1 (nE g : Int))) e = decide (e < nE g + 1 ∧ up g 104 (nE g) 0 104 e = 0)
      rw [tb_in _ _ _ (by omega), a5 e he, up_at]
      by_cases q : e = nE g
      · subst q; simp
      · have : e < nE g + 1 ↔ e < nE g := by omega
        simp [q, this]
    all_goals
      have b6 := a6 e; have b7 := a7 e; have b8 := a8 e; have b9 := a9 e; have b10 := a10 e; have b11 := a11 e; have b12 := a12 e; have b13 := a13 e; have b14 := a14 e; have b15 := a15 e; have b16 := a16 e; have b17 := a17 e
      unfold addM addC
      rw [show nE (up (up (up (up (up (up (up g 31 (nE g) x1) 32 (nE g) x2) 33 (nE g) x3) 34 (nE g) x5) 35 (nE g) 0) 30 1 (lor64 (g 30 1) (lshl64 1 (nE g : Int)))) 30 0 ((nE g + 1 : Nat) : Int)) = nE g from rfl]
      generalize nE g = kk at *
      simp only [up_at, ne_eq, Nat.reduceEqDiff, not_false_eq_true, up_cell]
      by_cases q : e = kk
      · simp only [if_pos q] <;> first | rfl | omega | exact h3 | exact Or.inl trivial
      · simp only [if_neg q]; first | assumption | omega
  case refine_6 =>
    obtain ⟨q1, q2, q3⟩ := h.2.2.2.2.2
    have hn : (nE (addM (addC g x1 x2 x3 x5) x1 x2 x3 x5)) = nE g + 1 := by
      show (((nE g + 1 : Nat) : Int)).toNat = nE g + 1
      omega
    refine ⟨fun e he => ?_, q2, fun e he => ?_⟩
    · show g 90 (up g 100 (nE g) x2 100 e).toNat ≠ 0
      rw [hn] at he
      rw [up_at]
      by_cases q : e = nE g
      · rw [if_pos q]; exact hc.2.1.2.2
      · rw [if_neg q]; exact q1 e (by omega)
    · show g 106 (up g 99 (nE g) x1 99 e).toNat ≠ 0
      rw [hn] at he
      rw [up_at]
      by_cases q : e = nE g
      · rw [if_pos q]; exact hc.1.2.2
      · rw [if_neg q]; exact q3 e (by omega)
  all_goals (first | unfold addM addC | skip)
  all_goals repeat (first | exact fr_refl _ _ | refine fr_up rfl ?_)
