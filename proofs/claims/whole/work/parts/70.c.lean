/-! the tables of trees -/
theorem all_r {N : Nat} {f : Nat → Bool} (h : (List.range N).all f = true) {t : Nat} (ht : t < N) : f t = true := List.all_eq_true.mp h t (List.mem_range.mpr ht)
theorem tree_e : TreeE := by
  intro n t hn ht
  have hn' : n = 0 ∨ n = 1 ∨ n = 2 ∨ n = 3 ∨ n = 4 ∨ n = 5 ∨ n = 6 := by omega
  rcases hn' with rfl | rfl | rfl | rfl | rfl | rfl | rfl
  · rw [show t = 0 from Nat.lt_one_iff.mp ht]
    exact es0
  · rw [show t = 0 from Nat.lt_one_iff.mp ht]
    exact es1
  · rw [show t = 0 from Nat.lt_one_iff.mp ht]
    exact es2
  · rw [show t = 0 from Nat.lt_one_iff.mp ht]
    exact es3
  · exact all_r es4 ht
  · exact all_r es5 ht
  · exact all_r es6 ht
theorem tree_k : TreeK := by
  intro n t h2 hn ht
  have hn' : n = 2 ∨ n = 3 ∨ n = 4 ∨ n = 5 ∨ n = 6 := by omega
  refine of_decide_eq_true (?_ : kT n t = true)
  rcases hn' with rfl | rfl | rfl | rfl | rfl
  · rw [show t = 0 from Nat.lt_one_iff.mp ht]
    exact kt2
  · rw [show t = 0 from Nat.lt_one_iff.mp ht]
    exact kt3
  · exact all_r kt4 ht
  · exact all_r kt5 ht
  · exact all_r kt6 ht
theorem tree_ok : TreeOK := by
  intro n t h2 hn ht
  have hn' : n = 2 ∨ n = 3 ∨ n = 4 ∨ n = 5 ∨ n = 6 := by omega
  rcases hn' with rfl | rfl | rfl | rfl | rfl
  · rw [show t = 0 from Nat.lt_one_iff.mp ht]
    refine ⟨und2, fun e he => ?_⟩
    rw [show e = 0 from Nat.lt_one_iff.mp he]
    exact dir2
  · rw [show t = 0 from Nat.lt_one_iff.mp ht]
    exact ⟨und3, fun e he => all_r dir3 he⟩
  · exact ⟨all_r und4 ht, fun e he => all_r (all_r dir4 ht) he⟩
  · exact ⟨all_r und5 ht, fun e he => all_r (all_r dir5 ht) he⟩
  · refine ⟨all_r und6 ht, fun e he => ?_⟩
    have ht' : t < 105 := ht
    by_cases h1 : t < 35
    · exact all_r (all_r dir6a h1) he
    · by_cases h3 : t < 70
      · have := all_r (all_r dir6b (show t - 35 < 35 by omega)) he
        rw [show t - 35 + 35 = t by omega] at this
        exact this
      · have := all_r (all_r dir6c (show t - 70 < 35 by omega)) he
        rw [show t - 70 + 70 = t by omega] at this
        exact this
