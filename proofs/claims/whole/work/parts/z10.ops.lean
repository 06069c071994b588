/-! Part 10: each instruction, mini and real. GO: wherever the mini memory M lies in the heap, the machine comes from here to Q. -/
def tysOf (cs : Nat → ClassId) : List (ClassId × FieldType) := [(cs 0, .int), (cs 1, .long), (cs 2, .boolean), (cs 3, .byte), (cs 4, .object "VillageShow$Rules"), (cs 5, .array .int)]
def LREL (nL : Nat) (ad : Nat → Nat) (xa : Int → Option Nat) (ls : List MV) (arr : Array Slot) : Prop := lv_has arr nL [] ∧ ls.length = nL ∧ ∀ (i : Nat) (v : MV), ls[i]? = some v → v.1 < 3 → arr[i]? = some (.val (mrv ad xa v))
def GO (p : Program) (l : Launch) (e : Env) (R : Room) (s : State) (m : MethodId) (args : Array Value) (below : List Frame) (meth : Method) (c : Code) (Q : State → Prop) (nL : Nat) (D : va_G) (cs : Nat → ClassId) (xa : Int → Option Nat) (A : Nat → Prop) (c0 s0 : Nat) (ad : Nat → Nat) (M : Mem) (pc : Nat) (ls st : List MV) : Prop :=
  ∀ (H : Heap) (locs : List Loc) (arr : Array Slot), va_P D vwCl (WS cs ad xa M) H → va_D A (WS cs ad xa M) → va_S A s.heap H locs → LREL nL ad xa ls arr → W p l e R s m args below meth c H locs (M.2.2.1 - c0) (M.2.2.2 - s0) Q (F0 m pc arr (st.map (mrv ad xa)))
section OPS
variable {p : Program} {l : Launch} {e : Env} {R : Room} {s : State} {m : MethodId} {args : Array Value} {below : List Frame} {meth : Method} {c : Code} {Q : State → Prop} {nL : Nat} {D : va_G} {cs : Nat → ClassId} {xa : Int → Option Nat} {A : Nat → Prop} {c0 s0 : Nat} {ad : Nat → Nat} {M : Mem} {pc : Nat} {ls st : List MV} {cc : ByteArray}
theorem mrv0 (ad : Nat → Nat) (xa : Int → Option Nat) (x : Int) : mrv ad xa (0, x) = .int (Int32.ofInt x) := rfl
theorem mrv1 (ad : Nat → Nat) (xa : Int → Option Nat) (x : Int) : mrv ad xa (1, x) = .long (Int64.ofInt x) := rfl
theorem mrv2 (ad : Nat → Nat) (xa : Int → Option Nat) (x : Int) : mrv ad xa (2, x) = va_rf (mrf ad xa x) := rfl
theorem go_iconst (hx : p.tables.exec = Jvm.exec) (hb : c.code = cc) {v : Int} (hdg : decode cc pc = .ok (.iconst v, 1)) (k : GO p l e R s m args below meth c Q nL D cs xa A c0 s0 ad M (pc + 1) ls ((0, v) :: st)) : GO p l e R s m args below meth c Q nL D cs xa A c0 s0 ad M pc ls st :=
  fun H locs arr hP hD hS hL => lv_iconst hx hb hdg rfl (k H locs arr hP hD hS hL)
theorem go_bipush (hx : p.tables.exec = Jvm.exec) (hb : c.code = cc) {v : Int} (hdg : decode cc pc = .ok (.bipush v, 2)) (hv : (Int8.ofInt v).toInt32 = Int32.ofInt v) (k : GO p l e R s m args below meth c Q nL D cs xa A c0 s0 ad M (pc + 2) ls ((0, v) :: st)) : GO p l e R s m args below meth c Q nL D cs xa A c0 s0 ad M pc ls st :=
  fun H locs arr hP hD hS hL => lv_bipush hx hb hdg hv (k H locs arr hP hD hS hL)
theorem go_sipush (hx : p.tables.exec = Jvm.exec) (hb : c.code = cc) {v : Int} (hdg : decode cc pc = .ok (.sipush v, 3)) (hv : (Int16.ofInt v).toInt32 = Int32.ofInt v) (k : GO p l e R s m args below meth c Q nL D cs xa A c0 s0 ad M (pc + 3) ls ((0, v) :: st)) : GO p l e R s m args below meth c Q nL D cs xa A c0 s0 ad M pc ls st :=
  fun H locs arr hP hD hS hL => lv_sipush hx hb hdg hv (k H locs arr hP hD hS hL)
theorem go_ldcI (hx : p.tables.exec = Jvm.exec) (hb : c.code = cc) {own : String} {ix : Nat} {v : Int} (hown : s.vm.findClass own = some m.cls) (hw : (Cond.constant own ix (Int32.ofInt v)).before args s = true) (hdg : decode cc pc = .ok (.ldc ix, 2)) (k : GO p l e R s m args below meth c Q nL D cs xa A c0 s0 ad M (pc + 2) ls ((0, v) :: st)) : GO p l e R s m args below meth c Q nL D cs xa A c0 s0 ad M pc ls st :=
  fun H locs arr hP hD hS hL => lv_ldc hx hb hown hw hdg (k H locs arr hP hD hS hL)
theorem go_ldcwI (hx : p.tables.exec = Jvm.exec) (hb : c.code = cc) {own : String} {ix : Nat} {v : Int} (hown : s.vm.findClass own = some m.cls) (hw : (Cond.constant own ix (Int32.ofInt v)).before args s = true) (hdg : decode cc pc = .ok (.ldc_w ix, 3)) (k : GO p l e R s m args below meth c Q nL D cs xa A c0 s0 ad M (pc + 3) ls ((0, v) :: st)) : GO p l e R s m args below meth c Q nL D cs xa A c0 s0 ad M pc ls st :=
  fun H locs arr hP hD hS hL => lv_ldcw hx hb hown hw hdg (k H locs arr hP hD hS hL)
theorem go_ldc2 (hx : p.tables.exec = Jvm.exec) (hb : c.code = cc) {own : String} {ix : Nat} {v : Int} (hown : s.vm.findClass own = some m.cls) (hw : (Cond.constantLong own ix (Int64.ofInt v)).before args s = true) (hdg : decode cc pc = .ok (.ldc2_w ix, 3)) (k : GO p l e R s m args below meth c Q nL D cs xa A c0 s0 ad M (pc + 3) ls ((1, v) :: st)) : GO p l e R s m args below meth c Q nL D cs xa A c0 s0 ad M pc ls st :=
  fun H locs arr hP hD hS hL => lv_ldc2 hx hb hown hw hdg (k H locs arr hP hD hS hL)
theorem go_lconst (hx : p.tables.exec = Jvm.exec) (hb : c.code = cc) {n : Fin 2} {v : Int} (hv : Int64.ofNat (n : Nat) = Int64.ofInt v) (hdg : decode cc pc = .ok (.lconst n, 1)) (k : GO p l e R s m args below meth c Q nL D cs xa A c0 s0 ad M (pc + 1) ls ((1, v) :: st)) : GO p l e R s m args below meth c Q nL D cs xa A c0 s0 ad M pc ls st :=
  fun H locs arr hP hD hS hL => lv_lconst hx hb hdg hv (k H locs arr hP hD hS hL)
theorem go_null (hx : p.tables.exec = Jvm.exec) (hb : c.code = cc) (hdg : decode cc pc = .ok (.aconst_null, 1)) (k : GO p l e R s m args below meth c Q nL D cs xa A c0 s0 ad M (pc + 1) ls ((2, -1) :: st)) : GO p l e R s m args below meth c Q nL D cs xa A c0 s0 ad M pc ls st :=
  fun H locs arr hP hD hS hL => lv_null hx hb hdg (k H locs arr hP hD hS hL)
theorem go_ldcS (hx : p.tables.exec = Jvm.exec) (hb : c.code = cc) {own tx : String} {ix q : Nat} {x : Int} (hown : s.vm.findClass own = some m.cls) (hZ : vk_R own ix tx q s) (hq : xa x = some q) (h0 : x < -1) (hdg : decode cc pc = .ok (.ldc ix, 2)) (k : GO p l e R s m args below meth c Q nL D cs xa A c0 s0 ad M (pc + 2) ls ((2, x) :: st)) : GO p l e R s m args below meth c Q nL D cs xa A c0 s0 ad M pc ls st := by
  intro H locs arr hP hD hS hL
  have e : mrv ad xa (2, x) = .ref q := by rw [mrv2, mrf, if_neg (by omega), if_neg (by omega), hq]; rfl
  refine va_ldcS hx hb hown hZ hdg ?_
  have k2 := k H locs arr hP hD hS hL
  rw [List.map_cons, e] at k2
  exact k2
theorem go_gets (hx : p.tables.exec = Jvm.exec) (hb : c.code = cc) {C n d own ref : String} {v : MV} {ix : Nat} (hZ : va_Z C n d (mrv ad xa v) A s s.heap) (hown : s.vm.findClass own = some m.cls) (hlink : (Cond.fieldLink own ix ref n d).before args s = true) (hsame : ∀ x, s.fieldFound? C n d = some x → s.fieldFound? ref n d = some x) (hdg : decode cc pc = .ok (.getstatic ix, 3)) (k : GO p l e R s m args below meth c Q nL D cs xa A c0 s0 ad M (pc + 3) ls (v :: st)) : GO p l e R s m args below meth c Q nL D cs xa A c0 s0 ad M pc ls st :=
  fun H locs arr hP hD hS hL => va_gets hx hb hZ hS hown hlink hsame hdg (k H locs arr hP hD hS hL)
theorem go_iload (hx : p.tables.exec = Jvm.exec) (hb : c.code = cc) {n : Nat} {x : Int} (hl : ls[n]? = some (0, x)) (hdg : decode cc pc = .ok (.iload n, 2)) (k : GO p l e R s m args below meth c Q nL D cs xa A c0 s0 ad M (pc + 2) ls ((0, x) :: st)) : GO p l e R s m args below meth c Q nL D cs xa A c0 s0 ad M pc ls st :=
  fun H locs arr hP hD hS hL => lv_iload hx hb hdg (hL.2.2 n _ hl (by first | exact (Nat.le_of_ble_eq_true rfl : (0 : Nat) < 3) | exact (Nat.le_of_ble_eq_true rfl : (1 : Nat) < 3))) (k H locs arr hP hD hS hL)
theorem go_iloadn (hx : p.tables.exec = Jvm.exec) (hb : c.code = cc) {n : Nat} {f : Fin 4} {x : Int} (hf : (f : Nat) = n) (hl : ls[n]? = some (0, x)) (hdg : decode cc pc = .ok (.iload_n f, 1)) (k : GO p l e R s m args below meth c Q nL D cs xa A c0 s0 ad M (pc + 1) ls ((0, x) :: st)) : GO p l e R s m args below meth c Q nL D cs xa A c0 s0 ad M pc ls st :=
  fun H locs arr hP hD hS hL => lv_iload_n hx hb hdg hf (hL.2.2 n _ hl (by first | exact (Nat.le_of_ble_eq_true rfl : (0 : Nat) < 3) | exact (Nat.le_of_ble_eq_true rfl : (1 : Nat) < 3))) (k H locs arr hP hD hS hL)
theorem go_lload (hx : p.tables.exec = Jvm.exec) (hb : c.code = cc) {n : Nat} {x : Int} (hl : ls[n]? = some (1, x)) (hdg : decode cc pc = .ok (.lload n, 2)) (k : GO p l e R s m args below meth c Q nL D cs xa A c0 s0 ad M (pc + 2) ls ((1, x) :: st)) : GO p l e R s m args below meth c Q nL D cs xa A c0 s0 ad M pc ls st :=
  fun H locs arr hP hD hS hL => lv_lload hx hb hdg (hL.2.2 n _ hl (by first | exact (Nat.le_of_ble_eq_true rfl : (0 : Nat) < 3) | exact (Nat.le_of_ble_eq_true rfl : (1 : Nat) < 3))) (k H locs arr hP hD hS hL)
theorem go_lloadn (hx : p.tables.exec = Jvm.exec) (hb : c.code = cc) {n : Nat} {f : Fin 4} {x : Int} (hf : (f : Nat) = n) (hl : ls[n]? = some (1, x)) (hdg : decode cc pc = .ok (.lload_n f, 1)) (k : GO p l e R s m args below meth c Q nL D cs xa A c0 s0 ad M (pc + 1) ls ((1, x) :: st)) : GO p l e R s m args below meth c Q nL D cs xa A c0 s0 ad M pc ls st :=
  fun H locs arr hP hD hS hL => lv_lload_n hx hb hdg hf (hL.2.2 n _ hl (by first | exact (Nat.le_of_ble_eq_true rfl : (0 : Nat) < 3) | exact (Nat.le_of_ble_eq_true rfl : (1 : Nat) < 3))) (k H locs arr hP hD hS hL)
theorem go_iadd (hx : p.tables.exec = Jvm.exec) (hb : c.code = cc) {x y : Int} (hdg : decode cc pc = .ok (.iadd, 1)) (k : GO p l e R s m args below meth c Q nL D cs xa A c0 s0 ad M (pc + 1) ls ((0, w32 (x + y)) :: st)) : GO p l e R s m args below meth c Q nL D cs xa A c0 s0 ad M pc ls ((0, y) :: (0, x) :: st) := by
  intro H locs arr hP hD hS hL
  have k2 := k H locs arr hP hD hS hL
  rw [List.map_cons, mrv0, i3_add] at k2
  exact lv_iadd hx hb hdg k2
theorem go_isub (hx : p.tables.exec = Jvm.exec) (hb : c.code = cc) {x y : Int} (hdg : decode cc pc = .ok (.isub, 1)) (k : GO p l e R s m args below meth c Q nL D cs xa A c0 s0 ad M (pc + 1) ls ((0, w32 (x - y)) :: st)) : GO p l e R s m args below meth c Q nL D cs xa A c0 s0 ad M pc ls ((0, y) :: (0, x) :: st) := by
  intro H locs arr hP hD hS hL
  have k2 := k H locs arr hP hD hS hL
  rw [List.map_cons, mrv0, i3_sub] at k2
  exact lv_isub hx hb hdg k2
theorem go_imul (hx : p.tables.exec = Jvm.exec) (hb : c.code = cc) {x y : Int} (hdg : decode cc pc = .ok (.imul, 1)) (k : GO p l e R s m args below meth c Q nL D cs xa A c0 s0 ad M (pc + 1) ls ((0, w32 (x * y)) :: st)) : GO p l e R s m args below meth c Q nL D cs xa A c0 s0 ad M pc ls ((0, y) :: (0, x) :: st) := by
  intro H locs arr hP hD hS hL
  have k2 := k H locs arr hP hD hS hL
  rw [List.map_cons, mrv0, i3_mul] at k2
  exact lv_imul hx hb hdg k2
theorem go_iand (hx : p.tables.exec = Jvm.exec) (hb : c.code = cc) {x y : Int} (hdg : decode cc pc = .ok (.iand, 1)) (k : GO p l e R s m args below meth c Q nL D cs xa A c0 s0 ad M (pc + 1) ls ((0, iand32 x y) :: st)) : GO p l e R s m args below meth c Q nL D cs xa A c0 s0 ad M pc ls ((0, y) :: (0, x) :: st) := by
  intro H locs arr hP hD hS hL
  have k2 := k H locs arr hP hD hS hL
  rw [List.map_cons, mrv0, i3_and] at k2
  exact lv_iand hx hb hdg k2
theorem go_ior (hx : p.tables.exec = Jvm.exec) (hb : c.code = cc) {x y : Int} (hdg : decode cc pc = .ok (.ior, 1)) (k : GO p l e R s m args below meth c Q nL D cs xa A c0 s0 ad M (pc + 1) ls ((0, ior32 x y) :: st)) : GO p l e R s m args below meth c Q nL D cs xa A c0 s0 ad M pc ls ((0, y) :: (0, x) :: st) := by
  intro H locs arr hP hD hS hL
  have k2 := k H locs arr hP hD hS hL
  rw [List.map_cons, mrv0, i3_or] at k2
  exact lv_ior hx hb hdg k2
theorem go_ixor (hx : p.tables.exec = Jvm.exec) (hb : c.code = cc) {x y : Int} (hdg : decode cc pc = .ok (.ixor, 1)) (k : GO p l e R s m args below meth c Q nL D cs xa A c0 s0 ad M (pc + 1) ls ((0, ixor32 x y) :: st)) : GO p l e R s m args below meth c Q nL D cs xa A c0 s0 ad M pc ls ((0, y) :: (0, x) :: st) := by
  intro H locs arr hP hD hS hL
  have k2 := k H locs arr hP hD hS hL
  rw [List.map_cons, mrv0, i3_xor] at k2
  exact lv_ixor hx hb hdg k2
theorem go_ishl (hx : p.tables.exec = Jvm.exec) (hb : c.code = cc) {x y : Int} (hdg : decode cc pc = .ok (.ishl, 1)) (k : GO p l e R s m args below meth c Q nL D cs xa A c0 s0 ad M (pc + 1) ls ((0, ishl32 x y) :: st)) : GO p l e R s m args below meth c Q nL D cs xa A c0 s0 ad M pc ls ((0, y) :: (0, x) :: st) := by
  intro H locs arr hP hD hS hL
  have k2 := k H locs arr hP hD hS hL
  rw [List.map_cons, mrv0, i3_shl] at k2
  exact lv_ishl hx hb hdg k2
theorem go_ishr (hx : p.tables.exec = Jvm.exec) (hb : c.code = cc) {x y : Int} (hdg : decode cc pc = .ok (.ishr, 1)) (k : GO p l e R s m args below meth c Q nL D cs xa A c0 s0 ad M (pc + 1) ls ((0, ishr32 x y) :: st)) : GO p l e R s m args below meth c Q nL D cs xa A c0 s0 ad M pc ls ((0, y) :: (0, x) :: st) := by
  intro H locs arr hP hD hS hL
  have k2 := k H locs arr hP hD hS hL
  rw [List.map_cons, mrv0, i3_shr] at k2
  exact lv_ishr hx hb hdg k2
theorem go_iushr (hx : p.tables.exec = Jvm.exec) (hb : c.code = cc) {x y : Int} (hdg : decode cc pc = .ok (.iushr, 1)) (k : GO p l e R s m args below meth c Q nL D cs xa A c0 s0 ad M (pc + 1) ls ((0, iushr32 x y) :: st)) : GO p l e R s m args below meth c Q nL D cs xa A c0 s0 ad M pc ls ((0, y) :: (0, x) :: st) :=
  fun H locs arr hP hD hS hL => lv_iushr hx hb hdg (i3_ushr x y) (k H locs arr hP hD hS hL)
theorem go_idiv (hx : p.tables.exec = Jvm.exec) (hb : c.code = cc) {x y : Int} (h1 : in32 x) (h2 : in32 y) (h0 : y ≠ 0) (hdg : decode cc pc = .ok (.idiv, 1)) (k : GO p l e R s m args below meth c Q nL D cs xa A c0 s0 ad M (pc + 1) ls ((0, tdv x y) :: st)) : GO p l e R s m args below meth c Q nL D cs xa A c0 s0 ad M pc ls ((0, y) :: (0, x) :: st) := by
  intro H locs arr hP hD hS hL
  have k2 := k H locs arr hP hD hS hL
  rw [List.map_cons, mrv0, i3_div h1 h2] at k2
  exact lv_idiv hx hb hdg (fun q => h0 ((i3_eq h2 in32_0).mp q)) k2
theorem go_ladd (hx : p.tables.exec = Jvm.exec) (hb : c.code = cc) {x y : Int} (hdg : decode cc pc = .ok (.ladd, 1)) (k : GO p l e R s m args below meth c Q nL D cs xa A c0 s0 ad M (pc + 1) ls ((1, w64 (x + y)) :: st)) : GO p l e R s m args below meth c Q nL D cs xa A c0 s0 ad M pc ls ((1, y) :: (1, x) :: st) := by
  intro H locs arr hP hD hS hL
  have k2 := k H locs arr hP hD hS hL
  rw [List.map_cons, mrv1, i6_add] at k2
  exact lv_ladd hx hb hdg k2
theorem go_lsub (hx : p.tables.exec = Jvm.exec) (hb : c.code = cc) {x y : Int} (hdg : decode cc pc = .ok (.lsub, 1)) (k : GO p l e R s m args below meth c Q nL D cs xa A c0 s0 ad M (pc + 1) ls ((1, w64 (x - y)) :: st)) : GO p l e R s m args below meth c Q nL D cs xa A c0 s0 ad M pc ls ((1, y) :: (1, x) :: st) := by
  intro H locs arr hP hD hS hL
  have k2 := k H locs arr hP hD hS hL
  rw [List.map_cons, mrv1, i6_sub] at k2
  exact lv_lsub hx hb hdg k2
theorem go_lmul (hx : p.tables.exec = Jvm.exec) (hb : c.code = cc) {x y : Int} (hdg : decode cc pc = .ok (.lmul, 1)) (k : GO p l e R s m args below meth c Q nL D cs xa A c0 s0 ad M (pc + 1) ls ((1, w64 (x * y)) :: st)) : GO p l e R s m args below meth c Q nL D cs xa A c0 s0 ad M pc ls ((1, y) :: (1, x) :: st) := by
  intro H locs arr hP hD hS hL
  have k2 := k H locs arr hP hD hS hL
  rw [List.map_cons, mrv1, i6_mul] at k2
  exact lv_lmul hx hb hdg k2
theorem go_land (hx : p.tables.exec = Jvm.exec) (hb : c.code = cc) {x y : Int} (hdg : decode cc pc = .ok (.land, 1)) (k : GO p l e R s m args below meth c Q nL D cs xa A c0 s0 ad M (pc + 1) ls ((1, land64 x y) :: st)) : GO p l e R s m args below meth c Q nL D cs xa A c0 s0 ad M pc ls ((1, y) :: (1, x) :: st) := by
  intro H locs arr hP hD hS hL
  have k2 := k H locs arr hP hD hS hL
  rw [List.map_cons, mrv1, i6_and] at k2
  exact lv_land hx hb hdg k2
theorem go_lor (hx : p.tables.exec = Jvm.exec) (hb : c.code = cc) {x y : Int} (hdg : decode cc pc = .ok (.lor, 1)) (k : GO p l e R s m args below meth c Q nL D cs xa A c0 s0 ad M (pc + 1) ls ((1, lor64 x y) :: st)) : GO p l e R s m args below meth c Q nL D cs xa A c0 s0 ad M pc ls ((1, y) :: (1, x) :: st) := by
  intro H locs arr hP hD hS hL
  have k2 := k H locs arr hP hD hS hL
  rw [List.map_cons, mrv1, i6_or] at k2
  exact lv_lor hx hb hdg k2
theorem go_lxor (hx : p.tables.exec = Jvm.exec) (hb : c.code = cc) {x y : Int} (hdg : decode cc pc = .ok (.lxor, 1)) (k : GO p l e R s m args below meth c Q nL D cs xa A c0 s0 ad M (pc + 1) ls ((1, lxor64 x y) :: st)) : GO p l e R s m args below meth c Q nL D cs xa A c0 s0 ad M pc ls ((1, y) :: (1, x) :: st) := by
  intro H locs arr hP hD hS hL
  have k2 := k H locs arr hP hD hS hL
  rw [List.map_cons, mrv1, i6_xor] at k2
  exact lv_lxor hx hb hdg k2
theorem go_lshl (hx : p.tables.exec = Jvm.exec) (hb : c.code = cc) {x y : Int} (h : in32 y) (hdg : decode cc pc = .ok (.lshl, 1)) (k : GO p l e R s m args below meth c Q nL D cs xa A c0 s0 ad M (pc + 1) ls ((1, lshl64 x y) :: st)) : GO p l e R s m args below meth c Q nL D cs xa A c0 s0 ad M pc ls ((0, y) :: (1, x) :: st) :=
  fun H locs arr hP hD hS hL => lv_lshl hx hb hdg (i6_shl x h) (k H locs arr hP hD hS hL)
theorem go_lshr (hx : p.tables.exec = Jvm.exec) (hb : c.code = cc) {x y : Int} (h : in32 y) (hdg : decode cc pc = .ok (.lshr, 1)) (k : GO p l e R s m args below meth c Q nL D cs xa A c0 s0 ad M (pc + 1) ls ((1, lshr64 x y) :: st)) : GO p l e R s m args below meth c Q nL D cs xa A c0 s0 ad M pc ls ((0, y) :: (1, x) :: st) :=
  fun H locs arr hP hD hS hL => lv_lshr hx hb hdg (i6_shr x h) (k H locs arr hP hD hS hL)
theorem go_lushr (hx : p.tables.exec = Jvm.exec) (hb : c.code = cc) {x y : Int} (h : in32 y) (hdg : decode cc pc = .ok (.lushr, 1)) (k : GO p l e R s m args below meth c Q nL D cs xa A c0 s0 ad M (pc + 1) ls ((1, lushr64 x y) :: st)) : GO p l e R s m args below meth c Q nL D cs xa A c0 s0 ad M pc ls ((0, y) :: (1, x) :: st) :=
  fun H locs arr hP hD hS hL => lv_lushr hx hb hdg (i6_ushr x h) (k H locs arr hP hD hS hL)
theorem go_lcmp (hx : p.tables.exec = Jvm.exec) (hb : c.code = cc) {x y : Int} (h1 : in64 x) (h2 : in64 y) (hdg : decode cc pc = .ok (.lcmp, 1)) (k : GO p l e R s m args below meth c Q nL D cs xa A c0 s0 ad M (pc + 1) ls ((0, lcmpI x y) :: st)) : GO p l e R s m args below meth c Q nL D cs xa A c0 s0 ad M pc ls ((1, y) :: (1, x) :: st) := by
  intro H locs arr hP hD hS hL
  have k2 := k H locs arr hP hD hS hL
  rw [List.map_cons, mrv0, ← i6_cmp h1 h2] at k2
  exact W.lcmp hx hb hdg k2
theorem go_i2l (hx : p.tables.exec = Jvm.exec) (hb : c.code = cc) {x : Int} (h : in32 x) (hdg : decode cc pc = .ok (.i2l, 1)) (k : GO p l e R s m args below meth c Q nL D cs xa A c0 s0 ad M (pc + 1) ls ((1, idI x) :: st)) : GO p l e R s m args below meth c Q nL D cs xa A c0 s0 ad M pc ls ((0, x) :: st) :=
  fun H locs arr hP hD hS hL => lv_i2l hx hb hdg (i36 h) (k H locs arr hP hD hS hL)
theorem go_l2i (hx : p.tables.exec = Jvm.exec) (hb : c.code = cc) {x : Int} (hdg : decode cc pc = .ok (.l2i, 1)) (k : GO p l e R s m args below meth c Q nL D cs xa A c0 s0 ad M (pc + 1) ls ((0, w32 x) :: st)) : GO p l e R s m args below meth c Q nL D cs xa A c0 s0 ad M pc ls ((1, x) :: st) :=
  fun H locs arr hP hD hS hL => lv_l2i hx hb hdg (i63 x) (k H locs arr hP hD hS hL)
theorem go_i2b (hx : p.tables.exec = Jvm.exec) (hb : c.code = cc) {x : Int} (hdg : decode cc pc = .ok (.i2b, 1)) (k : GO p l e R s m args below meth c Q nL D cs xa A c0 s0 ad M (pc + 1) ls ((0, sx8 x) :: st)) : GO p l e R s m args below meth c Q nL D cs xa A c0 s0 ad M pc ls ((0, x) :: st) :=
  fun H locs arr hP hD hS hL => lv_i2b hx hb hdg (i3_8 x) (k H locs arr hP hD hS hL)
theorem go_i2c (hx : p.tables.exec = Jvm.exec) (hb : c.code = cc) {x : Int} (hdg : decode cc pc = .ok (.i2c, 1)) (k : GO p l e R s m args below meth c Q nL D cs xa A c0 s0 ad M (pc + 1) ls ((0, c16 x) :: st)) : GO p l e R s m args below meth c Q nL D cs xa A c0 s0 ad M pc ls ((0, x) :: st) :=
  fun H locs arr hP hD hS hL => lv_i2c hx hb hdg (i3_16 x) (k H locs arr hP hD hS hL)
theorem mrv_cat {ad : Nat → Nat} {xa : Int → Option Nat} {v : MV} (h : v.1 ≠ 1) : (mrv ad xa v).category = 1 := by
  unfold mrv
  by_cases h0 : v.1 = 0
  · rw [if_pos h0]; rfl
  · rw [if_neg h0, if_neg h]
    cases mrf ad xa v.2 <;> rfl
theorem go_dup (hx : p.tables.exec = Jvm.exec) (hb : c.code = cc) {v : MV} (h : v.1 ≠ 1) (hdg : decode cc pc = .ok (.dup, 1)) (k : GO p l e R s m args below meth c Q nL D cs xa A c0 s0 ad M (pc + 1) ls (v :: v :: st)) : GO p l e R s m args below meth c Q nL D cs xa A c0 s0 ad M pc ls (v :: st) :=
  fun H locs arr hP hD hS hL => lv_dup hx hb hdg (mrv_cat h) (k H locs arr hP hD hS hL)
theorem go_dup2 (hx : p.tables.exec = Jvm.exec) (hb : c.code = cc) {v w : MV} (h : v.1 ≠ 1) (h' : w.1 ≠ 1) (hdg : decode cc pc = .ok (.dup2, 1)) (k : GO p l e R s m args below meth c Q nL D cs xa A c0 s0 ad M (pc + 1) ls (v :: w :: v :: w :: st)) : GO p l e R s m args below meth c Q nL D cs xa A c0 s0 ad M pc ls (v :: w :: st) :=
  fun H locs arr hP hD hS hL => lv_dup2_11 hx hb hdg (mrv_cat h) (mrv_cat h') (k H locs arr hP hD hS hL)
theorem go_dup2L (hx : p.tables.exec = Jvm.exec) (hb : c.code = cc) {x : Int} (hdg : decode cc pc = .ok (.dup2, 1)) (k : GO p l e R s m args below meth c Q nL D cs xa A c0 s0 ad M (pc + 1) ls ((1, x) :: (1, x) :: st)) : GO p l e R s m args below meth c Q nL D cs xa A c0 s0 ad M pc ls ((1, x) :: st) :=
  fun H locs arr hP hD hS hL => lv_dup2_2 hx hb hdg rfl (k H locs arr hP hD hS hL)
theorem go_pop (hx : p.tables.exec = Jvm.exec) (hb : c.code = cc) {v : MV} (h : v.1 ≠ 1) (hdg : decode cc pc = .ok (.pop, 1)) (k : GO p l e R s m args below meth c Q nL D cs xa A c0 s0 ad M (pc + 1) ls st) : GO p l e R s m args below meth c Q nL D cs xa A c0 s0 ad M pc ls (v :: st) :=
  fun H locs arr hP hD hS hL => lv_pop hx hb hdg (mrv_cat h) (k H locs arr hP hD hS hL)
theorem go_goto (hx : p.tables.exec = Jvm.exec) (hb : c.code = cc) {off : Int} {t : Nat} (hdg : decode cc pc = .ok (.goto off, 3)) (ht : (pc : Int) + off = (t : Int)) (k : GO p l e R s m args below meth c Q nL D cs xa A c0 s0 ad M t ls st) : GO p l e R s m args below meth c Q nL D cs xa A c0 s0 ad M pc ls st :=
  fun H locs arr hP hD hS hL => lv_goto hx hb hdg ht (k H locs arr hP hD hS hL)
theorem go_icmp (hx : p.tables.exec = Jvm.exec) (hb : c.code = cc) {x y : Int} (h1 : in32 x) (h2 : in32 y) {cnd : ClassFile.Cond} {off : Int} {t : Nat} (hdg : decode cc pc = .ok (.if_icmp cnd off, 3)) (ht : (pc : Int) + off = (t : Int)) (kt : cmpI cnd x y = true → GO p l e R s m args below meth c Q nL D cs xa A c0 s0 ad M t ls st) (kf : cmpI cnd x y = false → GO p l e R s m args below meth c Q nL D cs xa A c0 s0 ad M (pc + 3) ls st) : GO p l e R s m args below meth c Q nL D cs xa A c0 s0 ad M pc ls ((0, y) :: (0, x) :: st) := by
  intro H locs arr hP hD hS hL
  have e := i3_eq h1 h2
  have lt := i3_lt h1 h2
  have gt := i3_lt h2 h1
  have le := i3_le h1 h2
  have ge := i3_le h2 h1
  cases cnd with
  | eq => exact lv_icmp_eq hx hb hdg ht (fun q => kt (by have h9 : x = y := e.mp q; simp [cmpI]; omega) H locs arr hP hD hS hL) (fun q => kf (by have h9 : ¬ x = y := fun z => q (e.mpr z); simp [cmpI]; omega) H locs arr hP hD hS hL)
  | ne => exact lv_icmp_ne hx hb hdg ht (fun q => kt (by have h9 : ¬ x = y := fun z => q (e.mpr z); simp [cmpI]; omega) H locs arr hP hD hS hL) (fun q => kf (by have h9 : x = y := e.mp q; simp [cmpI]; omega) H locs arr hP hD hS hL)
  | lt => exact lv_icmp_lt hx hb hdg ht (fun q => kt (by have h9 : x < y := lt.mp q; simp [cmpI]; omega) H locs arr hP hD hS hL) (fun q => kf (by have h9 : ¬ x < y := fun z => q (lt.mpr z); simp [cmpI]; omega) H locs arr hP hD hS hL)
  | ge => exact lv_icmp_ge hx hb hdg ht (fun q => kt (by have h9 : y ≤ x := ge.mp q; simp [cmpI]; omega) H locs arr hP hD hS hL) (fun q => kf (by have h9 : ¬ y ≤ x := fun z => q (ge.mpr z); simp [cmpI]; omega) H locs arr hP hD hS hL)
  | gt => exact lv_icmp_gt hx hb hdg ht (fun q => kt (by have h9 : y < x := gt.mp q; simp [cmpI]; omega) H locs arr hP hD hS hL) (fun q => kf (by have h9 : ¬ y < x := fun z => q (gt.mpr z); simp [cmpI]; omega) H locs arr hP hD hS hL)
  | le => exact lv_icmp_le hx hb hdg ht (fun q => kt (by have h9 : x ≤ y := le.mp q; simp [cmpI]; omega) H locs arr hP hD hS hL) (fun q => kf (by have h9 : ¬ x ≤ y := fun z => q (le.mpr z); simp [cmpI]; omega) H locs arr hP hD hS hL)
theorem go_if (hx : p.tables.exec = Jvm.exec) (hb : c.code = cc) {x : Int} (h1 : in32 x) {cnd : ClassFile.Cond} {off : Int} {t : Nat} (hdg : decode cc pc = .ok (.ifCond cnd off, 3)) (ht : (pc : Int) + off = (t : Int)) (kt : cmpI cnd x 0 = true → GO p l e R s m args below meth c Q nL D cs xa A c0 s0 ad M t ls st) (kf : cmpI cnd x 0 = false → GO p l e R s m args below meth c Q nL D cs xa A c0 s0 ad M (pc + 3) ls st) : GO p l e R s m args below meth c Q nL D cs xa A c0 s0 ad M pc ls ((0, x) :: st) := by
  intro H locs arr hP hD hS hL
  have h2 := in32_0
  have e : Int32.ofInt x = 0 ↔ x = 0 := i3_eq h1 h2
  have lt : Int32.ofInt x < 0 ↔ x < 0 := i3_lt h1 h2
  have gt : 0 < Int32.ofInt x ↔ 0 < x := i3_lt h2 h1
  have le : Int32.ofInt x ≤ 0 ↔ x ≤ 0 := i3_le h1 h2
  have ge : 0 ≤ Int32.ofInt x ↔ 0 ≤ x := i3_le h2 h1
  cases cnd with
  | eq => exact lv_if_eq hx hb hdg ht (fun q => kt (by have h9 : x = 0 := e.mp q; simp [cmpI]; omega) H locs arr hP hD hS hL) (fun q => kf (by have h9 : ¬ x = 0 := fun z => q (e.mpr z); simp [cmpI]; omega) H locs arr hP hD hS hL)
  | ne => exact lv_if_ne hx hb hdg ht (fun q => kt (by have h9 : ¬ x = 0 := fun z => q (e.mpr z); simp [cmpI]; omega) H locs arr hP hD hS hL) (fun q => kf (by have h9 : x = 0 := e.mp q; simp [cmpI]; omega) H locs arr hP hD hS hL)
  | lt => exact lv_if_lt hx hb hdg ht (fun q => kt (by have h9 : x < 0 := lt.mp q; simp [cmpI]; omega) H locs arr hP hD hS hL) (fun q => kf (by have h9 : ¬ x < 0 := fun z => q (lt.mpr z); simp [cmpI]; omega) H locs arr hP hD hS hL)
  | ge => exact lv_if_ge hx hb hdg ht (fun q => kt (by have h9 : 0 ≤ x := ge.mp q; simp [cmpI]; omega) H locs arr hP hD hS hL) (fun q => kf (by have h9 : ¬ 0 ≤ x := fun z => q (ge.mpr z); simp [cmpI]; omega) H locs arr hP hD hS hL)
  | gt => exact lv_if_gt hx hb hdg ht (fun q => kt (by have h9 : 0 < x := gt.mp q; simp [cmpI]; omega) H locs arr hP hD hS hL) (fun q => kf (by have h9 : ¬ 0 < x := fun z => q (gt.mpr z); simp [cmpI]; omega) H locs arr hP hD hS hL)
  | le => exact lv_if_le hx hb hdg ht (fun q => kt (by have h9 : x ≤ 0 := le.mp q; simp [cmpI]; omega) H locs arr hP hD hS hL) (fun q => kf (by have h9 : ¬ x ≤ 0 := fun z => q (le.mpr z); simp [cmpI]; omega) H locs arr hP hD hS hL)
theorem mrf_null {ad : Nat → Nat} {xa : Int → Option Nat} {x : Int} (h5 : ∀ x, x < -1 → x ≠ -5 → ∃ q, xa x = some q) (hx5 : x ≠ -5) : (x = -1 ∧ mrf ad xa x = none) ∨ (x ≠ -1 ∧ ∃ q, mrf ad xa x = some q) := by
  unfold mrf
  by_cases h0 : 0 ≤ x
  · exact Or.inr ⟨by omega, _, if_pos h0⟩
  · rw [if_neg h0]
    by_cases h1 : x = -1
    · exact Or.inl ⟨h1, if_pos h1⟩
    · rw [if_neg h1]
      exact Or.inr ⟨h1, h5 x (by omega) hx5⟩
theorem go_ifnull (hx : p.tables.exec = Jvm.exec) (hb : c.code = cc) {x : Int} (h5 : ∀ x, x < -1 → x ≠ -5 → ∃ q, xa x = some q) (hx5 : x ≠ -5) {off : Int} {t : Nat} (hdg : decode cc pc = .ok (.ifnull off, 3)) (ht : (pc : Int) + off = (t : Int)) (kt : x = -1 → GO p l e R s m args below meth c Q nL D cs xa A c0 s0 ad M t ls st) (kf : x ≠ -1 → GO p l e R s m args below meth c Q nL D cs xa A c0 s0 ad M (pc + 3) ls st) : GO p l e R s m args below meth c Q nL D cs xa A c0 s0 ad M pc ls ((2, x) :: st) := by
  intro H locs arr hP hD hS hL
  rw [List.map_cons, mrv2]
  rcases mrf_null (ad := ad) h5 hx5 with ⟨h1, h2⟩ | ⟨h1, q, h2⟩
  · rw [h2]; exact lv_ifnullN hx hb hdg ht (kt h1 H locs arr hP hD hS hL)
  · rw [h2]; exact lv_ifnull hx hb hdg (kf h1 H locs arr hP hD hS hL)
theorem go_ifnonnull (hx : p.tables.exec = Jvm.exec) (hb : c.code = cc) {x : Int} (h5 : ∀ x, x < -1 → x ≠ -5 → ∃ q, xa x = some q) (hx5 : x ≠ -5) {off : Int} {t : Nat} (hdg : decode cc pc = .ok (.ifnonnull off, 3)) (ht : (pc : Int) + off = (t : Int)) (kt : x ≠ -1 → GO p l e R s m args below meth c Q nL D cs xa A c0 s0 ad M t ls st) (kf : x = -1 → GO p l e R s m args below meth c Q nL D cs xa A c0 s0 ad M (pc + 3) ls st) : GO p l e R s m args below meth c Q nL D cs xa A c0 s0 ad M pc ls ((2, x) :: st) := by
  intro H locs arr hP hD hS hL
  rw [List.map_cons, mrv2]
  rcases mrf_null (ad := ad) h5 hx5 with ⟨h1, h2⟩ | ⟨h1, q, h2⟩
  · rw [h2]; exact lv_ifnonnullN hx hb hdg (kf h1 H locs arr hP hD hS hL)
  · rw [h2]; exact lv_ifnonnull hx hb hdg ht (kt h1 H locs arr hP hD hS hL)
theorem go_tabOut (hx : p.tables.exec = Jvm.exec) (hb : c.code = cc) {x d lo hi : Int} {offs : Array Int} {len t : Nat} (h1 : in32 x) (h : x < lo ∨ hi < x) (hdg : decode cc pc = .ok (.tableswitch d lo hi offs, len)) (ht : (pc : Int) + d = (t : Int)) (k : GO p l e R s m args below meth c Q nL D cs xa A c0 s0 ad M t ls st) : GO p l e R s m args below meth c Q nL D cs xa A c0 s0 ad M pc ls ((0, x) :: st) :=
  fun H locs arr hP hD hS hL => lv_tableOut hx hb hdg (by rw [i3_toInt, w32_id h1]; exact h) ht (k H locs arr hP hD hS hL)
theorem go_tabIn (hx : p.tables.exec = Jvm.exec) (hb : c.code = cc) {x d lo hi off : Int} {offs : Array Int} {len t : Nat} (h1 : in32 x) (h : ¬ (x < lo ∨ hi < x)) (hdg : decode cc pc = .ok (.tableswitch d lo hi offs, len)) (ho : offs[(x - lo).toNat]? = some off) (ht : (pc : Int) + off = (t : Int)) (k : GO p l e R s m args below meth c Q nL D cs xa A c0 s0 ad M t ls st) : GO p l e R s m args below meth c Q nL D cs xa A c0 s0 ad M pc ls ((0, x) :: st) :=
  fun H locs arr hP hD hS hL => lv_tableIn hx hb hdg (by rw [i3_toInt, w32_id h1]; omega) (by rw [i3_toInt, w32_id h1]; omega) (by rw [i3_toInt, w32_id h1]; exact ho) ht (k H locs arr hP hD hS hL)
end OPS
