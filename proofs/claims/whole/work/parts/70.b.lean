/-! the tables of trees, computed: edges, sets -/
def kT (n t : Nat) : Bool := decide (((List.range (fol0 (edg 6 n t) 0).1.length).filter (fun i => decide (6 ≤ ((fol0 (edg 6 n t) 0).1.getD i (0, 0)).1))).length ≤ 5)
theorem es0 : esT 0 0 = true := by decide +kernel
theorem es1 : esT 1 0 = true := by decide +kernel
theorem es2 : esT 2 0 = true := by decide +kernel
theorem es3 : esT 3 0 = true := by decide +kernel
theorem es4 : (List.range 3).all (esT 4) = true := by decide +kernel
theorem es5 : (List.range 15).all (esT 5) = true := by decide +kernel
theorem es6 : (List.range 105).all (esT 6) = true := by decide +kernel
theorem kt2 : kT 2 0 = true := by decide +kernel
theorem kt3 : kT 3 0 = true := by decide +kernel
theorem kt4 : (List.range 3).all (kT 4) = true := by decide +kernel
theorem kt5 : (List.range 15).all (kT 5) = true := by decide +kernel
theorem kt6 : (List.range 105).all (kT 6) = true := by decide +kernel
