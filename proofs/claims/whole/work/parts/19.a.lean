/-! the law's loop -/
theorem Inv0.ww {σ : Mem} {n p t : Nat} {R : Nat → Nat → Nat} (h : Inv0 σ n p R t) : WW σ n p R := h.2.2.2.2.2.2.2.2.2.2.2.2
theorem unseen_nx (hT : TreeOK) (hTE : TreeE) (hK : TreeK) {σ : Mem} {n p t : Nat} {R : Nat → Nat → Nat} (h : Inv0 σ n p R t) : Nx σ fX8_unseen fX9_unseen := by
  obtain ⟨s, s1, s2, s3, s4⟩ := h.2.2.2.2.2.2.2.2.1
  exact Nx.sm h (unseen_sm hT hTE hK h.1 h.2.1 h.2.2.2.1 h.2.2.2.2.1 h.2.2.2.2.2.1 h.2.2.2.2.2.2.1 s1 s2 s3 s4)
theorem count_nx {σ : Mem} {n p t : Nat} {R : Nat → Nat → Nat} (h : Inv0 σ n p R t) (x : Int32) : Nx σ (fX8_count x) (fX9_count x) := by
  obtain ⟨s, s1, s2, s3, s4⟩ := h.2.2.2.2.2.2.2.2.1
  obtain ⟨L, l1, l2, l3, l4⟩ := h.2.2.2.2.2.2.2.1
  obtain ⟨d, a, RS, TS, e1, e2, e3, e4, e5, e6, e7, e8⟩ := h.2.2.2.2.2.2.2.2.2.2.2.1
  exact Nx.sm h (count_sm h.1 h.2.1 (h.2.2.2.2.2.1.trans h.2.2.2.2.2.2.1.symm) (s2.trans s3.symm) (l2.trans l3.symm) (e3.trans e4.symm) x)
theorem nx_go {σ : Mem} {f8 f9 : Mem → O} (h : Nx σ f8 f9) (rec : Mem → O) : ∃ σ2, Inv σ2 ∧ bnd (f8 σ) (fun r σ3 => bnd (f9 σ3) (fun r' σ5 => if (r : Int32) = r' then rec σ5 else some (0, σ5))) = rec σ2 := by
  obtain ⟨r, s1, s2, h1, h2, h3⟩ := h
  exact ⟨s2, h3, by rw [h1, bnd_eq, h2, bnd_eq, if_pos rfl]⟩
theorem inv_0 : Inv (fun _ _ => 0) := by
  refine ⟨0, 0, fun _ _ => 0, 0, ⟨rfl, rfl, by omega, by omega, fun i hi => absurd hi (Nat.not_lt_zero i)⟩, ⟨rfl, rfl, by omega, by omega, fun i hi => absurd hi (Nat.not_lt_zero i)⟩, fun _ => rfl, fun _ => rfl, TN_pos 0, rfl, rfl, ⟨0, by omega, rfl, rfl, fun _ _ => rfl⟩, ⟨0, by omega, rfl, rfl, fun _ _ => rfl⟩, Or.inl ⟨rfl, rfl⟩, Or.inl ⟨rfl, rfl⟩, ⟨0, 0, fun _ _ _ => 0, fun _ => 0, by omega, by omega, rfl, rfl, rfl, rfl, rfl, fun j hj => absurd hj (Nat.not_lt_zero j)⟩, Or.inl rfl⟩
theorem law_end : ∀ L, L < 4 → nI L - 4 < nI (4 * 0) := by decide
theorem letv_eq (x : Int32) (k : Int32 → O) : letv x k = k x := rfl
theorem law_loop (hT : TreeOK) (hTE : TreeE) (hK : TreeK) (L : Nat) (hL : L ≤ 2048) (xs : Nat → Int32) : ∀ (f k : Nat) (σ : Mem), Inv σ → 4 * k ≤ L → L + 4 ≤ 4 * (k + f) → ∃ σ', LL_law_18 L xs (fun σ => some (1, σ)) f (nI (4 * k)) σ = some (1, σ') := by
  intro f
  induction f with
  | zero => intro k σ _ h1 h2; exact absurd h2 (by omega)
  | succ f ih =>
    intro k σ hI h1 h2
    have hstep : ∀ X : O, (LL_law_18 L xs (fun σ => some (1, σ)) (f + 1) (nI (4 * k)) σ = X) = (BL_law_18 L xs (fun σ => some (1, σ)) (LL_law_18 L xs (fun σ => some (1, σ)) f) (nI (4 * k)) σ = X) := fun _ => rfl
    by_cases hend : L < 4 * k + 4
    · have hlt : nI L - 4 < nI (4 * k) := by
        by_cases h4 : L < 4
        · have : k = 0 := by omega
          subst this
          exact law_end L h4
        · obtain ⟨l, rfl⟩ : ∃ l, L = l + 4 := ⟨L - 4, by omega⟩
          rw [← add_n l 4]
          show nI l + nI 4 - nI 4 < nI (4 * k)
          rw [Int32.add_sub_cancel]
          exact lt_n (by omega) (by omega)
      unfold BL_law_18 at hstep
      rw [if_pos hlt] at hstep
      exact ⟨σ, (hstep _).mpr rfl⟩
    · have hlt : ¬ nI L - 4 < nI (4 * k) := by
        obtain ⟨l, rfl⟩ : ∃ l, L = l + 4 := ⟨L - 4, by omega⟩
        rw [← add_n l 4]
        show ¬ nI l + nI 4 - nI 4 < nI (4 * k)
        rw [Int32.add_sub_cancel]
        exact nlt_n (by omega) (by omega)
      have hg : ∀ j, j < 4 → gd L (nI (4 * k + j)) = fun o : O => o := fun j hj => funext fun o => gd_n (by omega) (by omega)
      have e1 : nI (4 * k) + 1 = nI (4 * k + 1) := one_n _
      have e2 : nI (4 * k) + 2 = nI (4 * k + 2) := add_n _ 2
      have e3 : nI (4 * k) + 3 = nI (4 * k + 3) := add_n _ 3
      have e4 : nI (4 * k) + 4 = nI (4 * (k + 1)) := add_n _ 4
      have hgo : ∀ s, Inv s → ∃ σ', LL_law_18 L xs (fun σ => some (1, σ)) f (nI (4 * (k + 1))) s = some (1, σ') := fun s hs => ih (k + 1) s hs (by omega) (by omega)
      have hg0 := hg 0 (by omega)
      rw [Nat.add_zero] at hg0
      unfold BL_law_18 at hstep
      rw [if_neg hlt, hg0, e1, e2, e3, e4, hg 1 (by omega), hg 2 (by omega), hg 3 (by omega), letv_eq] at hstep
      dsimp only at hstep
      generalize xs (nI (4 * k)).toNatClampNeg &&& 31 = v at hstep
      generalize xs (nI (4 * k + 1)).toNatClampNeg = y1 at hstep
      generalize xs (nI (4 * k + 2)).toNatClampNeg = y2 at hstep
      generalize xs (nI (4 * k + 3)).toNatClampNeg = y3 at hstep
      generalize LL_law_18 L xs (fun σ => some (1, σ)) f (nI (4 * (k + 1))) = rec at hstep hgo
      generalize LL_law_18 L xs (fun σ => some (1, σ)) (f + 1) (nI (4 * k)) σ = o at hstep ⊢
      obtain ⟨n, p, R, t, h⟩ := hI
      by_cases c0 : v = 0
      · rw [if_pos c0] at hstep
        obtain ⟨s2, g1, g2⟩ := nx_go (type_nx h y1) rec
        obtain ⟨s3, g3⟩ := hgo s2 g1
        exact ⟨s3, (hstep _).mpr (g2.trans g3)⟩
      rw [if_neg c0] at hstep
      by_cases c1 : v = 1
      · rw [if_pos c1] at hstep
        obtain ⟨s2, g1, g2⟩ := nx_go (clear_nx h) rec
        obtain ⟨s3, g3⟩ := hgo s2 g1
        exact ⟨s3, (hstep _).mpr (g2.trans g3)⟩
      rw [if_neg c1] at hstep
      by_cases c2 : v = 2
      · rw [if_pos c2] at hstep
        obtain ⟨s2, g1, g2⟩ := nx_go (copies_nx h) rec
        obtain ⟨s3, g3⟩ := hgo s2 g1
        exact ⟨s3, (hstep _).mpr (g2.trans g3)⟩
      rw [if_neg c2] at hstep
      by_cases c3 : v = 3
      · rw [if_pos c3] at hstep
        obtain ⟨s2, g1, g2⟩ := nx_go (Nx.sm h (reading_sm h.1 h.2.1 y1 y2)) rec
        obtain ⟨s3, g3⟩ := hgo s2 g1
        exact ⟨s3, (hstep _).mpr (g2.trans g3)⟩
      rw [if_neg c3] at hstep
      by_cases c4 : v = 4
      · rw [if_pos c4] at hstep
        obtain ⟨s2, g1, g2⟩ := nx_go (reads_nx h y1 y2 y3) rec
        obtain ⟨s3, g3⟩ := hgo s2 g1
        exact ⟨s3, (hstep _).mpr (g2.trans g3)⟩
      rw [if_neg c4] at hstep
      by_cases c5 : v = 5
      · rw [if_pos c5] at hstep
        obtain ⟨s2, g1, g2⟩ := nx_go (chooses_nx h y1) rec
        obtain ⟨s3, g3⟩ := hgo s2 g1
        exact ⟨s3, (hstep _).mpr (g2.trans g3)⟩
      rw [if_neg c5] at hstep
      by_cases c6 : v = 6
      · rw [if_pos c6] at hstep
        obtain ⟨s2, g1, g2⟩ := nx_go (betters_nx hT hTE hK h) rec
        obtain ⟨s3, g3⟩ := hgo s2 g1
        exact ⟨s3, (hstep _).mpr (g2.trans g3)⟩
      rw [if_neg c6] at hstep
      by_cases c7 : v = 7
      · rw [if_pos c7] at hstep
        obtain ⟨s2, g1, g2⟩ := nx_go (undo_nx h) rec
        obtain ⟨s3, g3⟩ := hgo s2 g1
        exact ⟨s3, (hstep _).mpr (g2.trans g3)⟩
      rw [if_neg c7] at hstep
      by_cases c8 : v = 8
      · rw [if_pos c8] at hstep
        obtain ⟨s2, g1, g2⟩ := nx_go (Nx.sm h (changes_sm hT hTE h.1 h.2.1 h.2.2.1 y1 y2)) rec
        obtain ⟨s3, g3⟩ := hgo s2 g1
        exact ⟨s3, (hstep _).mpr (g2.trans g3)⟩
      rw [if_neg c8] at hstep
      by_cases c9 : v = 9
      · rw [if_pos c9] at hstep
        obtain ⟨s2, g1, g2⟩ := nx_go (Nx.sm h (directed_sm hT hTE h.1 h.2.1 y1 y2)) rec
        obtain ⟨s3, g3⟩ := hgo s2 g1
        exact ⟨s3, (hstep _).mpr (g2.trans g3)⟩
      rw [if_neg c9] at hstep
      by_cases c10 : v = 10
      · rw [if_pos c10] at hstep
        obtain ⟨s2, g1, g2⟩ := nx_go (Nx.sm h (root_sm hT hTE h.1 h.2.1 y1)) rec
        obtain ⟨s3, g3⟩ := hgo s2 g1
        exact ⟨s3, (hstep _).mpr (g2.trans g3)⟩
      rw [if_neg c10] at hstep
      by_cases c11 : v = 11
      · rw [if_pos c11] at hstep
        obtain ⟨s2, g1, g2⟩ := nx_go (Nx.sw h (rank_sw hT hTE hK h.1 h.2.1 h.2.2.1 h.ww y1)) rec
        obtain ⟨s3, g3⟩ := hgo s2 g1
        exact ⟨s3, (hstep _).mpr (g2.trans g3)⟩
      rw [if_neg c11] at hstep
      by_cases c12 : v = 12
      · rw [if_pos c12] at hstep
        obtain ⟨s2, g1, g2⟩ := nx_go (Nx.sw h (best_sw hT hTE hK h.1 h.2.1 h.2.2.1 h.ww y1)) rec
        obtain ⟨s3, g3⟩ := hgo s2 g1
        exact ⟨s3, (hstep _).mpr (g2.trans g3)⟩
      rw [if_neg c12] at hstep
      by_cases c13 : v = 13
      · rw [if_pos c13] at hstep
        obtain ⟨s2, g1, g2⟩ := nx_go (Nx.sm h (fitting_sm hT hTE hK h.1 h.2.1 h.2.2.2.2.1 h.2.2.2.2.2.1 h.2.2.2.2.2.2.1 y1 y2)) rec
        obtain ⟨s3, g3⟩ := hgo s2 g1
        exact ⟨s3, (hstep _).mpr (g2.trans g3)⟩
      rw [if_neg c13] at hstep
      by_cases c14 : v = 14
      · rw [if_pos c14] at hstep
        obtain ⟨s2, g1, g2⟩ := nx_go (Nx.sm h (quarrel_sm h.1 h.2.1 y1 y2)) rec
        obtain ⟨s3, g3⟩ := hgo s2 g1
        exact ⟨s3, (hstep _).mpr (g2.trans g3)⟩
      rw [if_neg c14] at hstep
      by_cases c15 : v = 15
      · rw [if_pos c15] at hstep
        obtain ⟨s2, g1, g2⟩ := nx_go (Nx.sm h (shared_sm h.1 h.2.1 y1 y2)) rec
        obtain ⟨s3, g3⟩ := hgo s2 g1
        exact ⟨s3, (hstep _).mpr (g2.trans g3)⟩
      rw [if_neg c15] at hstep
      by_cases c16 : v = 16
      · rw [if_pos c16] at hstep
        obtain ⟨s2, g1, g2⟩ := nx_go (Nx.sm h (mixed_sm h.1 h.2.1 y1 y2)) rec
        obtain ⟨s3, g3⟩ := hgo s2 g1
        exact ⟨s3, (hstep _).mpr (g2.trans g3)⟩
      rw [if_neg c16] at hstep
      by_cases c17 : v = 17
      · rw [if_pos c17] at hstep
        obtain ⟨s2, g1, g2⟩ := nx_go (sees_nx h y1) rec
        obtain ⟨s3, g3⟩ := hgo s2 g1
        exact ⟨s3, (hstep _).mpr (g2.trans g3)⟩
      rw [if_neg c17] at hstep
      by_cases c18 : v = 18
      · rw [if_pos c18] at hstep
        obtain ⟨s2, g1, g2⟩ := nx_go (forget_nx h) rec
        obtain ⟨s3, g3⟩ := hgo s2 g1
        exact ⟨s3, (hstep _).mpr (g2.trans g3)⟩
      rw [if_neg c18] at hstep
      by_cases c19 : v = 19
      · rw [if_pos c19] at hstep
        obtain ⟨s2, g1, g2⟩ := nx_go (unseen_nx hT hTE hK h) rec
        obtain ⟨s3, g3⟩ := hgo s2 g1
        exact ⟨s3, (hstep _).mpr (g2.trans g3)⟩
      rw [if_neg c19] at hstep
      by_cases c20 : v = 20
      · rw [if_pos c20] at hstep
        obtain ⟨s2, g1, g2⟩ := nx_go (keep_nx h y1) rec
        obtain ⟨s3, g3⟩ := hgo s2 g1
        exact ⟨s3, (hstep _).mpr (g2.trans g3)⟩
      rw [if_neg c20] at hstep
      by_cases c21 : v = 21
      · rw [if_pos c21] at hstep
        obtain ⟨s2, g1, g2⟩ := nx_go (back_nx h y1) rec
        obtain ⟨s3, g3⟩ := hgo s2 g1
        exact ⟨s3, (hstep _).mpr (g2.trans g3)⟩
      rw [if_neg c21] at hstep
      by_cases c22 : v = 22
      · rw [if_pos c22] at hstep
        obtain ⟨s2, g1, g2⟩ := nx_go (count_nx h y1) rec
        obtain ⟨s3, g3⟩ := hgo s2 g1
        exact ⟨s3, (hstep _).mpr (g2.trans g3)⟩
      rw [if_neg c22] at hstep
      obtain ⟨s3, g3⟩ := hgo σ ⟨n, p, R, t, h⟩
      exact ⟨s3, (hstep _).mpr g3⟩
