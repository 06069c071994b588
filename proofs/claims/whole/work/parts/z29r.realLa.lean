/-! Part 07, the law: checks. -/
theorem rdL0 : rcL0.all (fun q => decide (decode code q.1 = .ok (q.2.1, q.2.2.1))) = true := by decide +kernel
theorem raL0 : agrL 14 bpL 0 rcL0 mcL0 = true := by decide +kernel
theorem rdL1 : rcL1.all (fun q => decide (decode code q.1 = .ok (q.2.1, q.2.2.1))) = true := by decide +kernel
theorem raL1 : agrL 14 bpL 50 rcL1 mcL1 = true := by decide +kernel
theorem rdL2 : rcL2.all (fun q => decide (decode code q.1 = .ok (q.2.1, q.2.2.1))) = true := by decide +kernel
theorem raL2 : agrL 14 bpL 100 rcL2 mcL2 = true := by decide +kernel
theorem rdL3 : rcL3.all (fun q => decide (decode code q.1 = .ok (q.2.1, q.2.2.1))) = true := by decide +kernel
theorem raL3 : agrL 14 bpL 150 rcL3 mcL3 = true := by decide +kernel
theorem rdL4 : rcL4.all (fun q => decide (decode code q.1 = .ok (q.2.1, q.2.2.1))) = true := by decide +kernel
theorem raL4 : agrL 14 bpL 200 rcL4 mcL4 = true := by decide +kernel
