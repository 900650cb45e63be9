/-! class and reference answer alike, whatever is called -/
theorem law_ok (L : Nat) (hL : L ≤ 2048) (xs : Nat → Int32) : ∃ σ' : Mem, LL_law_18 L xs (fun σ => some (1, σ)) 600 0 (fun _ _ => 0) = some (1, σ') :=
  law_loop tree_ok tree_e tree_k L hL xs 600 0 (fun _ _ => 0) inv_0 (by omega) (by omega)
