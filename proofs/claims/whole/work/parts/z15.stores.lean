/-! Part 15: stores into arrays, lengths, new things. -/
section OPS5
variable {p : Program} {l : Launch} {e : Env} {R : Room} {s : State} {m : MethodId} {args : Array Value} {below : List Frame} {meth : Method} {c : Code} {Q : State → Prop} {nL : Nat} {D : va_G} {cs : Nat → ClassId} {xa : Int → Option Nat} {A : Nat → Prop} {c0 s0 : Nat} {ad : Nat → Nat} {M : Mem} {pc : Nat} {ls st : List MV} {cc : ByteArray} {X : MExt}
theorem upd_row (row : Nat → Int) (i : Nat) (v : Int) : upd (fun j => Int32.ofInt (row j)) i (Int32.ofInt v) = (fun j => Int32.ofInt (if j = i then v else row j)) := by
  funext j
  by_cases hj : j = i
  · subst hj; rw [pk_us, if_pos rfl]
  · rw [pk_un hj, if_neg hj]
theorem updL_row (row : Nat → Int) (i : Nat) (v : Int) : vp_updL (fun j => Int64.ofInt (row j)) i (Int64.ofInt v) = (fun j => Int64.ofInt (if j = i then v else row j)) := by
  funext j
  by_cases hj : j = i
  · subst hj; rw [pk_uLs, if_pos rfl]
  · rw [pk_uLn hj, if_neg hj]
theorem go_iastore (hx : p.tables.exec = Jvm.exec) (hb : c.code = cc) (hK : va_K D vwCl (tysOf cs) s) {x i v : Int} {M' : Mem} (hi : in32 i) (hv : aput 100 M x i v = some M') (hdg : decode cc pc = .ok (.iastore, 1)) (k : GO p l e R s m args below meth c Q nL D cs xa A c0 s0 ad M' (pc + 1) ls st) : GO p l e R s m args below meth c Q nL D cs xa A c0 s0 ad M pc ls ((0, v) :: (0, i) :: (2, x) :: st) := by
  intro H locs arr hP hD hS hL
  obtain ⟨h0, h1, h2, h3, rfl⟩ := aput_some hv
  obtain ⟨-, hq⟩ := lay_some (M := M) (x := x) (by omega)
  have he := WS_get (cs := cs) (ad := ad) (xa := xa) hq
  rw [ent_int 0 h1 (Or.inl rfl)] at he
  rw [List.map_cons, List.map_cons, List.map_cons, mrv0, mrv0, mrv2, mrf_pos h0]
  refine va_iast hx hb hK hP hD hS x.toNat 0 he rfl (i3_in hi h2 h3) hdg fun H1 locs1 hP1 hD1 hS1 => ?_
  have hws := WS_put (cs := cs) (ad := ad) (xa := xa) (i := i.toNat) (v := v) hq
  rw [ent_int 0 h1 (Or.inl rfl)] at hws
  rw [i3_cl hi h2, upd_row, ← hws] at hP1 hD1
  exact k H1 locs1 arr hP1 hD1 hS1 hL
theorem go_bastore (hx : p.tables.exec = Jvm.exec) (hb : c.code = cc) (hK : va_K D vwCl (tysOf cs) s) {x i v : Int} {M' : Mem} (hi : in32 i) (hv : aput 102 M x i (bit1 v) = some M') (hdg : decode cc pc = .ok (.bastore, 1)) (k : GO p l e R s m args below meth c Q nL D cs xa A c0 s0 ad M' (pc + 1) ls st) : GO p l e R s m args below meth c Q nL D cs xa A c0 s0 ad M pc ls ((0, v) :: (0, i) :: (2, x) :: st) := by
  intro H locs arr hP hD hS hL
  obtain ⟨h0, h1, h2, h3, rfl⟩ := aput_some hv
  obtain ⟨-, hq⟩ := lay_some (M := M) (x := x) (by omega)
  have he := WS_get (cs := cs) (ad := ad) (xa := xa) hq
  rw [ent_int 2 h1 (Or.inr (Or.inl rfl))] at he
  rw [List.map_cons, List.map_cons, List.map_cons, mrv0, mrv0, mrv2, mrf_pos h0]
  refine va_zast hx hb hK hP hD hS x.toNat 2 he rfl (i3_in hi h2 h3) hdg fun H1 locs1 hP1 hD1 hS1 => ?_
  have hws := WS_put (cs := cs) (ad := ad) (xa := xa) (i := i.toNat) (v := bit1 v) hq
  rw [ent_int 2 h1 (Or.inr (Or.inl rfl))] at hws
  rw [i3_cl hi h2, i3_b1, upd_row, ← hws] at hP1 hD1
  exact k H1 locs1 arr hP1 hD1 hS1 hL
theorem go_castore (hx : p.tables.exec = Jvm.exec) (hb : c.code = cc) (hK : va_K D vwCl (tysOf cs) s) {x i v : Int} {M' : Mem} (hi : in32 i) (hv : aput 103 M x i (sx8 v) = some M') (hdg : decode cc pc = .ok (.bastore, 1)) (k : GO p l e R s m args below meth c Q nL D cs xa A c0 s0 ad M' (pc + 1) ls st) : GO p l e R s m args below meth c Q nL D cs xa A c0 s0 ad M pc ls ((0, v) :: (0, i) :: (2, x) :: st) := by
  intro H locs arr hP hD hS hL
  obtain ⟨h0, h1, h2, h3, rfl⟩ := aput_some hv
  obtain ⟨-, hq⟩ := lay_some (M := M) (x := x) (by omega)
  have he := WS_get (cs := cs) (ad := ad) (xa := xa) hq
  rw [ent_int 3 h1 (Or.inr (Or.inr rfl))] at he
  rw [List.map_cons, List.map_cons, List.map_cons, mrv0, mrv0, mrv2, mrf_pos h0]
  refine va_bast hx hb hK hP hD hS x.toNat 3 he rfl (i3_in hi h2 h3) hdg fun H1 locs1 hP1 hD1 hS1 => ?_
  have hws := WS_put (cs := cs) (ad := ad) (xa := xa) (i := i.toNat) (v := sx8 v) hq
  rw [ent_int 3 h1 (Or.inr (Or.inr rfl))] at hws
  rw [i3_cl hi h2, i3_nb, upd_row, ← hws] at hP1 hD1
  exact k H1 locs1 arr hP1 hD1 hS1 hL
theorem go_lastore (hx : p.tables.exec = Jvm.exec) (hb : c.code = cc) (hK : va_K D vwCl (tysOf cs) s) {x i v : Int} {M' : Mem} (hi : in32 i) (hv : aput 101 M x i v = some M') (hdg : decode cc pc = .ok (.lastore, 1)) (k : GO p l e R s m args below meth c Q nL D cs xa A c0 s0 ad M' (pc + 1) ls st) : GO p l e R s m args below meth c Q nL D cs xa A c0 s0 ad M pc ls ((1, v) :: (0, i) :: (2, x) :: st) := by
  intro H locs arr hP hD hS hL
  obtain ⟨h0, h1, h2, h3, rfl⟩ := aput_some hv
  obtain ⟨-, hq⟩ := lay_some (M := M) (x := x) (by omega)
  have he := WS_get (cs := cs) (ad := ad) (xa := xa) hq
  rw [ent_long h1] at he
  rw [List.map_cons, List.map_cons, List.map_cons, mrv1, mrv0, mrv2, mrf_pos h0]
  refine va_last hx hb hK hP hD hS x.toNat 1 he rfl (i3_in hi h2 h3) hdg fun H1 locs1 hP1 hD1 hS1 => ?_
  have hws := WS_put (cs := cs) (ad := ad) (xa := xa) (i := i.toNat) (v := v) hq
  rw [ent_long h1] at hws
  rw [i3_cl hi h2, updL_row, ← hws] at hP1 hD1
  exact k H1 locs1 arr hP1 hD1 hS1 hL
theorem go_aastore (hx : p.tables.exec = Jvm.exec) (hb : c.code = cc) (hK : va_K D vwCl (tysOf cs) s) {x i v : Int} {M' : Mem} (hi : in32 i) (hM : MOK M) (hv7 : (lay? M v).1 = 7) (hv : aput 104 M x i v = some M') (hdg : decode cc pc = .ok (.aastore, 1)) (k : GO p l e R s m args below meth c Q nL D cs xa A c0 s0 ad M' (pc + 1) ls st) : GO p l e R s m args below meth c Q nL D cs xa A c0 s0 ad M pc ls ((2, v) :: (0, i) :: (2, x) :: st) := by
  intro H locs arr hP hD hS hL
  obtain ⟨h0, h1, h2, h3, rfl⟩ := aput_some hv
  obtain ⟨-, hq⟩ := lay_some (M := M) (x := x) (by omega)
  obtain ⟨g0, gq⟩ := lay_some (M := M) (x := v) (by omega)
  have he := WS_get (cs := cs) (ad := ad) (xa := xa) hq
  have ge := WS_get (cs := cs) (ad := ad) (xa := xa) gq
  rw [ent_ref 4 h1 (Or.inl rfl)] at he
  rw [ent_obj (by omega), hv7] at ge
  rw [List.map_cons, List.map_cons, List.map_cons, mrv2, mrv0, mrv2, mrf_pos h0, mrf_pos g0]
  refine va_astq (ci := 7) (r := (RX7, TX7, 8)) hx hb hK hP hD hS x.toNat 4 v.toNat he rfl ge rfl (i3_in hi h2 h3) hdg fun H1 locs1 hP1 hD1 hS1 => ?_
  have hws := WS_put (cs := cs) (ad := ad) (xa := xa) (i := i.toNat) (v := v) hq
  rw [ent_ref 4 h1 (Or.inl rfl)] at hws
  have hfn : va_up (fun j => if j < (lay? M x).2 then mrf ad xa (M.2.1 x.toNat j) else none) i.toNat (some (ad v.toNat)) = (fun j => if j < (lay? M x).2 then mrf ad xa (if j = i.toNat then v else M.2.1 x.toNat j) else none) := by
    funext j
    unfold va_up
    by_cases hj : j = i.toNat
    · subst hj
      rw [if_pos rfl, if_pos (by omega), if_pos rfl, mrf, if_pos g0]
    · rw [if_neg hj, if_neg hj]
  rw [i3_cl hi h2, hfn, ← hws] at hP1 hD1
  exact k H1 locs1 arr hP1 hD1 hS1 hL
theorem i3_nat (n : Nat) : Int32.ofNat n = Int32.ofInt (n : Int) := by
  apply i3_ext
  apply BitVec.eq_of_toNat_eq
  show (BitVec.ofNat 32 n).toNat = (BitVec.ofInt 32 (n : Int)).toNat
  rw [BitVec.toNat_ofNat, BitVec.toNat_ofInt]
  omega
theorem go_alen (hx : p.tables.exec = Jvm.exec) (hb : c.code = cc) (hK : va_K D vwCl (tysOf cs) s) (hE : EXTOK X xa A s s.heap) (hM : MOK M) {x n : Int} (hn : alen X M x = some n) (hdg : decode cc pc = .ok (.arraylength, 1)) (k : GO p l e R s m args below meth c Q nL D cs xa A c0 s0 ad M (pc + 1) ls ((0, n) :: st)) : GO p l e R s m args below meth c Q nL D cs xa A c0 s0 ad M pc ls ((2, x) :: st) := by
  intro H locs arr hP hD hS hL
  have k2 := k H locs arr hP hD hS hL
  rw [List.map_cons, mrv0] at k2
  rw [List.map_cons, mrv2]
  unfold alen at hn
  by_cases h0 : 0 ≤ x
  · rw [if_pos h0] at hn
    by_cases h1 : 100 ≤ (lay? M x).1 ∧ (lay? M x).1 < 106
    · rw [if_pos h1] at hn
      have hn := Option.some.inj hn
      obtain ⟨-, hq⟩ := lay_some (M := M) (x := x) (by omega)
      have he := WS_get (cs := cs) (ad := ad) (xa := xa) hq
      rw [mrf_pos h0]
      have hv : Int32.ofNat (lay? M x).2 = Int32.ofInt n := by rw [i3_nat, hn]
      have h6 : (lay? M x).1 = 100 ∨ (lay? M x).1 = 101 ∨ (lay? M x).1 = 102 ∨ (lay? M x).1 = 103 ∨ (lay? M x).1 = 104 ∨ (lay? M x).1 = 105 := by omega
      rcases h6 with h | h | h | h | h | h
      · rw [ent_int 0 h (by omega)] at he; exact va_alen hx hb hK hP x.toNat 0 he rfl hv hdg k2
      · rw [ent_long h] at he; exact va_alen hx hb hK hP x.toNat 1 he rfl hv hdg k2
      · rw [ent_int 2 h (by omega)] at he; exact va_alen hx hb hK hP x.toNat 2 he rfl hv hdg k2
      · rw [ent_int 3 h (by omega)] at he; exact va_alen hx hb hK hP x.toNat 3 he rfl hv hdg k2
      · rw [ent_ref 4 h (by omega)] at he; exact va_alen hx hb hK hP x.toNat 4 he rfl hv hdg k2
      · rw [ent_ref 5 h (by omega)] at he; exact va_alen hx hb hK hP x.toNat 5 he rfl hv hdg k2
    · rw [if_neg h1] at hn; cases hn
  · rw [if_neg h0] at hn
    by_cases hx1 : x < -1
    · rw [if_pos hx1] at hn
      by_cases h1 : 100 ≤ (X x).1 ∧ (X x).1 < 104
      · rw [if_pos h1] at hn
        have hn := Option.some.inj hn
        have h6 : (X x).1 = 100 ∨ (X x).1 = 103 := by have := (hE.2.2.2.2.2.1 x); omega
        have hv : Int32.ofNat (X x).2.length = Int32.ofInt n := by rw [i3_nat, hn]
        rcases h6 with h | h
        · obtain ⟨t, e1, e2⟩ := hE.1 x hx1 h
          rw [mrf_ext hx1 e1]
          obtain ⟨cell, q1, q2, q3, q4, q5, q6⟩ := e2
          refine W.alen (n := Int32.ofInt n) hx hb (ty := .int) (by rw [hS.2.1 t ((Array.getElem?_eq_some_iff.mp q1).1) q6.2]; exact q1) q2 (q5.trans hv) rfl rfl hdg k2
        · obtain ⟨t, e1, e2⟩ := hE.2.1 x hx1 h
          rw [mrf_ext hx1 e1]
          obtain ⟨cell, q1, q2, q3, q4, q5, q6⟩ := e2
          refine W.alen (n := Int32.ofInt n) hx hb (ty := .byte) (by rw [hS.2.1 t ((Array.getElem?_eq_some_iff.mp q1).1) q6.2]; exact q1) q2 (q5.trans hv) rfl rfl hdg k2
      · rw [if_neg h1] at hn; cases hn
    · rw [if_neg hx1] at hn; cases hn
end OPS5
