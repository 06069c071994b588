/-! Part 07, the law: checks. -/
theorem rdL5 : rcL5.all (fun q => decide (decode code q.1 = .ok (q.2.1, q.2.2.1))) = true := by decide +kernel
theorem raL5 : agrL 14 bpL 250 rcL5 mcL5 = true := by decide +kernel
theorem rdL6 : rcL6.all (fun q => decide (decode code q.1 = .ok (q.2.1, q.2.2.1))) = true := by decide +kernel
theorem raL6 : agrL 14 bpL 300 rcL6 mcL6 = true := by decide +kernel
theorem rdL7 : rcL7.all (fun q => decide (decode code q.1 = .ok (q.2.1, q.2.2.1))) = true := by decide +kernel
theorem raL7 : agrL 14 bpL 350 rcL7 mcL7 = true := by decide +kernel
theorem rdL8 : rcL8.all (fun q => decide (decode code q.1 = .ok (q.2.1, q.2.2.1))) = true := by decide +kernel
theorem raL8 : agrL 14 bpL 400 rcL8 mcL8 = true := by decide +kernel
theorem rdL9 : rcL9.all (fun q => decide (decode code q.1 = .ok (q.2.1, q.2.2.1))) = true := by decide +kernel
theorem raL9 : agrL 14 bpL 450 rcL9 mcL9 = true := by decide +kernel
