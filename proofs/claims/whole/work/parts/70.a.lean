/-! the tables of trees, computed -/
theorem und2 : undOK 2 0 = true := by decide +kernel
theorem und3 : undOK 3 0 = true := by decide +kernel
theorem und4 : (List.range 3).all (undOK 4) = true := by decide +kernel
theorem und5 : (List.range 15).all (undOK 5) = true := by decide +kernel
theorem und6 : (List.range 105).all (undOK 6) = true := by decide +kernel
theorem dir2 : dirOK 2 0 0 = true := by decide +kernel
theorem dir3 : (List.range 3).all (dirOK 3 0) = true := by decide +kernel
theorem dir4 : (List.range 3).all (fun t => (List.range 5).all (dirOK 4 t)) = true := by decide +kernel
theorem dir5 : (List.range 15).all (fun t => (List.range 7).all (dirOK 5 t)) = true := by decide +kernel
theorem dir6a : (List.range 35).all (fun t => (List.range 9).all (dirOK 6 t)) = true := by decide +kernel
theorem dir6b : (List.range 35).all (fun t => (List.range 9).all (dirOK 6 (t + 35))) = true := by decide +kernel
theorem dir6c : (List.range 35).all (fun t => (List.range 9).all (dirOK 6 (t + 70))) = true := by decide +kernel
