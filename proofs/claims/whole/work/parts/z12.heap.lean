/-! Part 12: the classes' words; instructions on the heap. -/
def GW : List Cond := lw_tbl.filter goodWord
def codeOf : FieldType → Nat
  | .int => 0 | .long => 1 | .boolean => 3 | .object _ => 2 | .array _ => 2 | _ => 9
theorem GW_of {w : Cond} (h : w ∈ tables_1) (hg : goodWord w = true) : w ∈ GW := List.mem_filter.mpr ⟨List.mem_append_right _ h, hg⟩
theorem cw_of {l : List Cond} {ps : List Nat} (h : l = ps.filterMap (fun i => tables_1[i]?)) (hg : l.all goodWord = true) : ∀ w ∈ l, w ∈ GW := by
  intro w hw
  have h1 := List.all_eq_true.mp hg w hw
  rw [h] at hw
  obtain ⟨i, -, hi⟩ := List.mem_filterMap.mp hw
  exact GW_of (List.mem_of_getElem? hi) h1
def ClsOK (ci : Nat) : Prop := ∃ (C : String) (T : u_T) (N : Nat) (ty : Nat → FieldType), vwCl[ci]? = some (C, T, N) ∧ (∀ w ∈ u_ws C T N, w ∈ GW) ∧ (∀ k, k < N → parseFieldDescriptor (T k).2.2.1 = some (ty k)) ∧ (∀ a, a < N → ∀ b, b < N → a ≠ b → (T a).2.1 ≠ (T b).2.1) ∧ (∀ k, k < N → (T k).1 = C) ∧ N = (clsT.getD ci []).length ∧ (∀ k, k < N → codeOf (ty k) = (clsT.getD ci []).getD k 0)
theorem clsOK0 : ClsOK 0 := ⟨RX0, TX0, 11, tyX0, rfl, cw_of cwX0 (by decide +kernel), tyX0_ok, nmX0, by decide +kernel, by decide +kernel, by decide +kernel⟩
theorem clsOK1 : ClsOK 1 := ⟨RX1, TX1, 8, tyX1, rfl, cw_of cwX1 (by decide +kernel), tyX1_ok, nmX1, by decide +kernel, by decide +kernel, by decide +kernel⟩
theorem clsOK2 : ClsOK 2 := ⟨RX2, TX2, 7, tyX2, rfl, cw_of cwX2 (by decide +kernel), tyX2_ok, nmX2, by decide +kernel, by decide +kernel, by decide +kernel⟩
theorem clsOK3 : ClsOK 3 := ⟨RX3, TX3, 7, tyX3, rfl, cw_of cwX3 (by decide +kernel), tyX3_ok, nmX3, by decide +kernel, by decide +kernel, by decide +kernel⟩
theorem clsOK4 : ClsOK 4 := ⟨RX4, TX4, 4, tyX4, rfl, cw_of cwX4 (by decide +kernel), tyX4_ok, nmX4, by decide +kernel, by decide +kernel, by decide +kernel⟩
theorem clsOK5 : ClsOK 5 := ⟨RX5, TX5, 9, tyX5, rfl, cw_of cwX5 (by decide +kernel), tyX5_ok, nmX5, by decide +kernel, by decide +kernel, by decide +kernel⟩
theorem clsOK6 : ClsOK 6 := ⟨RX6, TX6, 7, tyX6, rfl, cw_of cwX6 (by decide +kernel), tyX6_ok, nmX6, by decide +kernel, by decide +kernel, by decide +kernel⟩
theorem clsOK7 : ClsOK 7 := ⟨RX7, TX7, 8, tyX7, rfl, cw_of cwX7 (by decide +kernel), tyX7_ok, nmX7, by decide +kernel, by decide +kernel, by decide +kernel⟩
theorem clsOK8 : ClsOK 8 := ⟨RX8, TX8, 2, tyX8, rfl, cw_of cwX8 (by decide +kernel), tyX8_ok, nmX8, by decide +kernel, by decide +kernel, by decide +kernel⟩
theorem clsOK9 : ClsOK 9 := ⟨RX9, TX9, 6, tyX9, rfl, cw_of cwX9 (by decide +kernel), tyX9_ok, nmX9, by decide +kernel, by decide +kernel, by decide +kernel⟩
theorem clsOK10 : ClsOK 10 := ⟨RX10, TX10, 7, tyX10, rfl, cw_of cwX10 (by decide +kernel), tyX10_ok, nmX10, by decide +kernel, by decide +kernel, by decide +kernel⟩
theorem clsOK11 : ClsOK 11 := ⟨RX11, TX11, 16, tyX11, rfl, cw_of cwX11 (by decide +kernel), tyX11_ok, nmX11, by decide +kernel, by decide +kernel, by decide +kernel⟩
theorem clsOK12 : ClsOK 12 := ⟨RX12, TX12, 87, tyX12, rfl, cw_of cwX12 (by decide +kernel), tyX12_ok, nmX12, by decide +kernel, by decide +kernel, by decide +kernel⟩
theorem cls_ok : ∀ ci, ci < 13 → ClsOK ci
  | 0, _ => clsOK0
  | 1, _ => clsOK1
  | 2, _ => clsOK2
  | 3, _ => clsOK3
  | 4, _ => clsOK4
  | 5, _ => clsOK5
  | 6, _ => clsOK6
  | 7, _ => clsOK7
  | 8, _ => clsOK8
  | 9, _ => clsOK9
  | 10, _ => clsOK10
  | 11, _ => clsOK11
  | 12, _ => clsOK12
  | n + 13, h => absurd h (by omega)

