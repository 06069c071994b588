/-! Part 34: the classes and array classes; links; the throw. -/
theorem clsOKa : ∀ k, k < 13 → ClsOK k
  | 0, _ => clsOK0
  | 1, _ => clsOK1
  | 2, _ => clsOK2
  | 3, _ => clsOK3
  | 4, _ => clsOK4
  | 5, _ => clsOK5
  | 6, _ => clsOK6
  | 7, _ => clsOK7
  | 8, _ => clsOK8
  | 9, _ => clsOK9
  | 10, _ => clsOK10
  | 11, _ => clsOK11
  | 12, _ => clsOK12
  | n + 13, h => absurd h (by omega)
section GIVEN2
variable {args : Array Value} {s : State}
theorem known_ok (hts : ∀ w ∈ GW, w.before args s = true) : ∃ D : va_G, ∀ (c : Nat) (q : vw_C), vwCl[c]? = some q → u_Kn s q.1 q.2.1 q.2.2 (D.1 c) (D.2 c) := by
  have hk : ∀ k : Nat, ∃ q : ClassId × (Nat → Nat), ∀ r : vw_C, vwCl[k]? = some r → u_Kn s r.1 r.2.1 r.2.2 q.1 q.2 := by
    intro k
    by_cases h : k < 13
    · obtain ⟨C, T, N, ty, h1, h2, -⟩ := clsOKa k h
      have hi := hts _ (ins_all k h).1
      rw [List.getD_eq_getElem?_getD, h1] at hi
      obtain ⟨cC, iS, hu⟩ := u_known hts h2 hi
      exact ⟨(cC, iS), fun r hr => by rw [h1] at hr; cases hr; exact hu⟩
    · exact ⟨(0, fun _ => 0), fun r hr => absurd (List.getElem?_eq_some_iff.mp hr).1 h⟩
  obtain ⟨D, hD⟩ := Classical.axiomOfChoice hk
  exact ⟨(fun k => (D k).1, fun k => (D k).2), fun c q hq => hD c q hq⟩
theorem arr_prim {ty : FieldType} (h : (Cond.arrayClass ty).before args s = true) : ∃ c : ClassId, ArrOfT s c ty ∧ s.vm.findClass ("[" ++ ty.toString) = some c := by
  obtain ⟨c, k, comp, g1, g2, g3⟩ := Cond.arrayClass_spec h
  exact ⟨c, fun n z => ⟨(fun k h => by cases h), k, g2, comp, g3⟩, g1⟩
theorem tys_ok (hts : ∀ w ∈ tables_1, w.before args s = true) : ∃ cs : Nat → ClassId, ∀ (k : Nat) (q : ClassId × FieldType), (tysOf cs)[k]? = some q → ArrOfT s q.1 q.2 ∧ va_RA s q.1 q.2 := by
  obtain ⟨c0, a0, b0⟩ := arr_prim (hts _ (List.mem_of_getElem? (i := 80) (by decide +kernel)) : (Cond.arrayClass .int).before args s = true)
  obtain ⟨c1, a1, b1⟩ := arr_prim (hts _ (List.mem_of_getElem? (i := 219) (by decide +kernel)) : (Cond.arrayClass .long).before args s = true)
  obtain ⟨c2, a2, b2⟩ := arr_prim (hts _ (List.mem_of_getElem? (i := 81) (by decide +kernel)) : (Cond.arrayClass .boolean).before args s = true)
  obtain ⟨c3, a3, b3⟩ := arr_prim (hts _ (List.mem_of_getElem? (i := 132) (by decide +kernel)) : (Cond.arrayClass .byte).before args s = true)
  obtain ⟨p4, c4, k4, g1, -, g3, g4, g5⟩ := Cond.arrayOver_spec (hts _ (List.mem_of_getElem? (i := 165) (by decide +kernel)) : (Cond.arrayOver (.object "VillageShow$Rules")).before args s = true)
  obtain ⟨p5, c5, k5, h1, -, h3, h4, h5⟩ := aoa_spec (hts _ (List.mem_of_getElem? (i := 399) (by decide +kernel)) : (Cond.arrayOver (.array .int)).before args s = true)
  refine ⟨fun k => if k = 0 then c0 else if k = 1 then c1 else if k = 2 then c2 else if k = 3 then c3 else if k = 4 then c4 else c5, fun k q hq => ?_⟩
  match k, hq with
  | 0, hq => cases hq; exact ⟨a0, b0⟩
  | 1, hq => cases hq; exact ⟨a1, b1⟩
  | 2, hq => cases hq; exact ⟨a2, b2⟩
  | 3, hq => cases hq; exact ⟨a3, b3⟩
  | 4, hq => cases hq; exact ⟨fun n z => ⟨(fun k h => by cases h), k4, g3, p4, g4⟩, k4, p4, g3, g4, g1, g5⟩
  | 5, hq => cases hq; exact ⟨fun n z => ⟨(fun k h => by cases h), k5, h3, p5, h4⟩, h5⟩
  | k + 6, hq => simp [tysOf] at hq
theorem nw_ok (hts : ∀ w ∈ tables_1, w.before args s = true) : NWOK s := by
  refine ⟨fun w hw hn => ?_, va_AO.of (hts _ (List.mem_of_getElem? (i := 165) (by decide +kernel)) : (Cond.arrayOver (.object "VillageShow$Rules")).before args s = true), (hts _ (List.mem_of_getElem? (i := 399) (by decide +kernel)) : (Cond.arrayOver (.array .int)).before args s = true), va_Nw.of rfl (hts _ (List.mem_of_getElem? (i := 1150) (by decide +kernel)) : (Cond.castable nseN nseN).before args s = true), fun w hw => ?_⟩
  · have h := hts w hw
    cases w <;> first | exact va_Nw.of rfl h | cases hn
  · have hm : w ∈ tables_1 := by
      simp only [nyD, List.mem_cons, List.not_mem_nil, or_false] at hw
      rcases hw with rfl | rfl | rfl
      · exact List.mem_of_getElem? (i := 1152) (by decide +kernel)
      · exact List.mem_of_getElem? (i := 1154) (by decide +kernel)
      · exact List.mem_of_getElem? (i := 1156) (by decide +kernel)
    exact va_Nw.of (nyD_on w hw) (hts w hm)
theorem tz_ok (hts : ∀ w ∈ tables_1, w.before args s = true) (hF : ∀ c ∈ FLw, c.before args s = true) : TZOK (fun q => s.heap.size ≤ q) s s.heap := by
  have hA : ∀ a : Nat, a < s.heap.size → ¬ (fun q : Nat => s.heap.size ≤ q) a := fun a h => Nat.not_le.mpr h
  refine ⟨vx_Zqof (hts _ (List.mem_of_getElem? (i := 1175) (by decide +kernel)) : (Cond.laysStatic Bundle.tN "UNASSIGNED_STACK" Bundle.steD).before args s = true) (hts _ (List.mem_of_getElem? (i := 22) (by decide +kernel)) : (Cond.initialized Bundle.tN).before args s = true) (hF _ (List.mem_of_getElem? (i := 29) (by decide +kernel)) : (Cond.isRef (.static Bundle.tN "UNASSIGNED_STACK" Bundle.steD)).before args s = true) hA, vx_Zqof (hts _ (List.mem_of_getElem? (i := 1177) (by decide +kernel)) : (Cond.laysStatic Bundle.tN "SUPPRESSED_SENTINEL" Bundle.listD).before args s = true) (hts _ (List.mem_of_getElem? (i := 22) (by decide +kernel)) : (Cond.initialized Bundle.tN).before args s = true) (hF _ (List.mem_of_getElem? (i := 30) (by decide +kernel)) : (Cond.isRef (.static Bundle.tN "SUPPRESSED_SENTINEL" Bundle.listD)).before args s = true) hA, fun q hq => ?_⟩
  obtain ⟨adK, adV, -, hev⟩ := strings_ok hF hA
  simp only [thrT, List.mem_cons, List.not_mem_nil, or_false] at hq
  rcases hq with rfl | rfl | rfl | rfl | rfl | rfl
  · exact ⟨adK 9, vk_R.of (A := args) (hts _ (List.mem_of_getElem? (i := 1187) (by decide +kernel)) : (Cond.stringRef "VillageShow" 182 "no such entry").before args s = true) (hev 9 (by decide))⟩
  · exact ⟨adK 10, vk_R.of (A := args) (hts _ (List.mem_of_getElem? (i := 1220) (by decide +kernel)) : (Cond.stringRef "VillageShow" 190 "no such entry or fact").before args s = true) (hev 10 (by decide))⟩
  · exact ⟨adK 11, vk_R.of (A := args) (hts _ (List.mem_of_getElem? (i := 1228) (by decide +kernel)) : (Cond.stringRef "VillageShow" 234 "no such entry or judge").before args s = true) (hev 11 (by decide))⟩
  · exact ⟨adK 12, vk_R.of (A := args) (hts _ (List.mem_of_getElem? (i := 1236) (by decide +kernel)) : (Cond.stringRef "VillageShow" 333 "no such exhibitor").before args s = true) (hev 12 (by decide))⟩
  · exact ⟨adK 13, vk_R.of (A := args) (hts _ (List.mem_of_getElem? (i := 1244) (by decide +kernel)) : (Cond.stringRef "VillageShow" 338 "no such exhibitor, classes or question").before args s = true) (hev 13 (by decide))⟩
  · exact ⟨adK 14, vk_R.of (A := args) (hts _ (List.mem_of_getElem? (i := 1249) (by decide +kernel)) : (Cond.stringRef "VillageShow" 343 "too many pieces").before args s = true) (hev 14 (by decide))⟩
end GIVEN2
