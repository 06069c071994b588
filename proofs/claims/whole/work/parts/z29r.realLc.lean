/-! Part 07, the law: checks. -/
theorem rdL10 : rcL10.all (fun q => decide (decode code q.1 = .ok (q.2.1, q.2.2.1))) = true := by decide +kernel
theorem raL10 : agrL 14 bpL 500 rcL10 mcL10 = true := by decide +kernel
theorem rdL11 : rcL11.all (fun q => decide (decode code q.1 = .ok (q.2.1, q.2.2.1))) = true := by decide +kernel
theorem raL11 : agrL 14 bpL 550 rcL11 mcL11 = true := by decide +kernel
theorem rdL12 : rcL12.all (fun q => decide (decode code q.1 = .ok (q.2.1, q.2.2.1))) = true := by decide +kernel
theorem raL12 : agrL 14 bpL 600 rcL12 mcL12 = true := by decide +kernel
theorem rdL13 : rcL13.all (fun q => decide (decode code q.1 = .ok (q.2.1, q.2.2.1))) = true := by decide +kernel
theorem raL13 : agrL 14 bpL 650 rcL13 mcL13 = true := by decide +kernel
theorem rdL14 : rcL14.all (fun q => decide (decode code q.1 = .ok (q.2.1, q.2.2.1))) = true := by decide +kernel
theorem raL14 : agrL 14 bpL 700 rcL14 mcL14 = true := by decide +kernel
