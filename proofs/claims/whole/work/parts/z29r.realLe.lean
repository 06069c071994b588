/-! Part 07, the law: checks. -/
theorem rdL20 : rcL20.all (fun q => decide (decode code q.1 = .ok (q.2.1, q.2.2.1))) = true := by decide +kernel
theorem raL20 : agrL 14 bpL 1000 rcL20 mcL20 = true := by decide +kernel
theorem rdL21 : rcL21.all (fun q => decide (decode code q.1 = .ok (q.2.1, q.2.2.1))) = true := by decide +kernel
theorem raL21 : agrL 14 bpL 1050 rcL21 mcL21 = true := by decide +kernel
theorem rdL22 : rcL22.all (fun q => decide (decode code q.1 = .ok (q.2.1, q.2.2.1))) = true := by decide +kernel
theorem raL22 : agrL 14 bpL 1100 rcL22 mcL22 = true := by decide +kernel
theorem rdL23 : rcL23.all (fun q => decide (decode code q.1 = .ok (q.2.1, q.2.2.1))) = true := by decide +kernel
theorem raL23 : agrL 14 bpL 1150 rcL23 mcL23 = true := by decide +kernel
theorem rdL24 : rcL24.all (fun q => decide (decode code q.1 = .ok (q.2.1, q.2.2.1))) = true := by decide +kernel
theorem raL24 : agrL 14 bpL 1200 rcL24 mcL24 = true := by decide +kernel
