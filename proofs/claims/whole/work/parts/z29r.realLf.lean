/-! Part 07, the law: checks. -/
theorem rdL25 : rcL25.all (fun q => decide (decode code q.1 = .ok (q.2.1, q.2.2.1))) = true := by decide +kernel
theorem raL25 : agrL 14 bpL 1250 rcL25 mcL25 = true := by decide +kernel
