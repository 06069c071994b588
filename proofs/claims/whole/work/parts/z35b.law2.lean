/-! Part 35b: the law's own code, checked. -/
theorem chk271 : mc271.all (fun q => chkI 8 ret false q.1) = true := by decide +kernel
theorem ifc271 : mc271.all (fun q => !isIfc q.1) = true := by decide +kernel
theorem no_ifc271 (pc a h : Nat) (ks : List Nat) : mc271[pc]? ≠ some (Instr.invokeinterface a h, ks) := fun hc => by
  have := List.all_eq_true.mp ifc271 _ (List.mem_of_getElem? hc)
  exact Bool.false_ne_true this
