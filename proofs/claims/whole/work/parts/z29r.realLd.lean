/-! Part 07, the law: checks. -/
theorem rdL15 : rcL15.all (fun q => decide (decode code q.1 = .ok (q.2.1, q.2.2.1))) = true := by decide +kernel
theorem raL15 : agrL 14 bpL 750 rcL15 mcL15 = true := by decide +kernel
theorem rdL16 : rcL16.all (fun q => decide (decode code q.1 = .ok (q.2.1, q.2.2.1))) = true := by decide +kernel
theorem raL16 : agrL 14 bpL 800 rcL16 mcL16 = true := by decide +kernel
theorem rdL17 : rcL17.all (fun q => decide (decode code q.1 = .ok (q.2.1, q.2.2.1))) = true := by decide +kernel
theorem raL17 : agrL 14 bpL 850 rcL17 mcL17 = true := by decide +kernel
theorem rdL18 : rcL18.all (fun q => decide (decode code q.1 = .ok (q.2.1, q.2.2.1))) = true := by decide +kernel
theorem raL18 : agrL 14 bpL 900 rcL18 mcL18 = true := by decide +kernel
theorem rdL19 : rcL19.all (fun q => decide (decode code q.1 = .ok (q.2.1, q.2.2.1))) = true := by decide +kernel
theorem raL19 : agrL 14 bpL 950 rcL19 mcL19 = true := by decide +kernel
