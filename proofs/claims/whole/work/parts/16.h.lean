/-! mixed copies: both alike -/
theorem RI_nC {cs : List Nat} (h : ∀ c, c ∈ cs → ∀ k, RI c k = false) : ∀ c k, RI c k = true → nC cs c k = true := by
  intro c k hk
  unfold nC
  cases hc : cs.contains c with
  | false => rfl
  | true =>
    have : c ∈ cs := by simpa using hc
    rw [h c this k] at hk
    cases hk
theorem rngc (y : Int32) {n : Nat} (hn : n < 2 ^ 30) : (y < 0 ∨ nI n < y) ∨ ∃ i, i ≤ n ∧ y = nI i := by
  rcases rng y (show n + 1 < 2 ^ 31 by omega) with (h | h) | ⟨i, hi, rfl⟩
  · exact Or.inl (Or.inl h)
  · refine Or.inl (Or.inr ?_)
    rw [Int32.le_iff_toInt_le, nI_toInt (by omega)] at h
    rw [Int32.lt_iff_toInt_lt, nI_toInt (by omega)]
    omega
  · exact Or.inr ⟨i, by omega, rfl⟩
theorem not_le_of {x y : Int32} (h : y < x) : ¬ x ≤ y := by
  rw [Int32.lt_iff_toInt_lt] at h
  rw [Int32.le_iff_toInt_le]
  omega
theorem two_others (a : Nat) {n : Nat} (h : 3 ≤ n) : ∃ p q, p < n ∧ q < n ∧ ¬ (p = a ∨ q = a ∨ p = q) := by
  by_cases h0 : a = 0
  · exact ⟨1, 2, by omega, by omega, by omega⟩
  · by_cases h1 : a = 1
    · exact ⟨0, 2, by omega, by omega, by omega⟩
    · exact ⟨0, 1, by omega, by omega, by omega⟩
theorem mixed9_eq {σ : Mem} {n p : Nat} {R : Nat → Nat → Nat} (h : MM σ n p R) {a w : Nat} (ha : a < n) (hw : w ≤ 4) : ∃ σ', fX9_mixed (nI a) (nI w) σ = some (if w = 4 then (if pm R p a 9999 n = 9999 then -9 else nI (pm R p a 9999 n)) else (if (m1 R p a n n).1 = 9 then -9 else σ' 63 w), σ') ∧ E9 (m1 R p a n n) σ' ∧ Keep (nC [63]) σ σ' := by
  have hn := h.2.2.1
  obtain ⟨s0, hs0⟩ : ∃ s0 : Mem, s0 = stm (stm σ 63 0 9999) 63 4 9999 := ⟨_, rfl⟩
  have k0 : Keep (nC [63]) σ s0 := by rw [hs0]; exact (Keep.rf.st rfl).st rfl
  have hM : MM s0 n p R := h.keep k0 rfl rfl (fun _ => rfl)
  obtain ⟨σ', t1, t2, t3, t4⟩ := mixed9_all hM (c0 := 9999) (w := w) rfl (by omega) ha (fun x2 σ23 => jn (fun x2 t0 σ24 => gd 5 t0 (if (σ24 63 t0.toNatClampNeg : Int32) = 9999 then some ((-9), σ24) else gd 5 x2 (some (σ24 63 x2.toNatClampNeg, σ24)))) (fun k219 => if (x2 : Int32) = 4 then k219 x2 4 σ23 else k219 x2 0 σ23)) (by rw [hs0]; exact ⟨Nat.le_refl 9, by rw [stm_k (by decide), stm_v]; rfl, fun z => absurd z (Nat.lt_irrefl 9)⟩) (by rw [hs0, stm_v])
  refine ⟨σ', ?_, t2, k0.tr t3⟩
  have hpl := pm_le R p a 9999 n
  have g50 : ∀ o : O, gd 5 0 o = o := fun o => gd_n (n := 5) (i := 0) (by decide) (by decide)
  have c0t : (0 : Int32).toNatClampNeg = 0 := rfl
  unfold fX9_mixed
  rw [mm_isCopy h ha, bnd_eq, if_neg (by decide), show fX9_in (nI w) 0 4 σ = some (1, σ) from mm_in_cok (n := 4) (by decide) hw, bnd_eq, if_neg (by decide), g50]
  dsimp only [letm]
  rw [gd54, c0t, c4t, ← hs0, t1]
  dsimp only [jn]
  by_cases h4 : w = 4
  · rw [if_pos (show nI w = (4 : Int32) by rw [h4]; rfl), if_pos h4, gd54, c4t, t4]
    by_cases h9 : pm R p a 9999 n = 9999
    · rw [if_pos h9, if_pos (show nI (pm R p a 9999 n) = (9999 : Int32) by rw [h9]; rfl)]
    · rw [if_neg h9, if_neg (show ¬ nI (pm R p a 9999 n) = (9999 : Int32) from ne_n (b := 9999) h9 (by omega) (by decide)), gd_n (by omega) (by decide), cl_n (by omega), h4, t4]
  · rw [if_neg (show ¬ nI w = (4 : Int32) from ne_n (b := 4) h4 (by omega) (by decide)), if_neg h4, g50, c0t, t2.2.1]
    by_cases h9 : (m1 R p a n n).1 = 9
    · rw [if_pos h9, if_pos h9, if_pos rfl]
    · have := t2.1
      rw [if_neg h9, if_neg h9, if_neg (show ¬ nI (m1 R p a n n).1 = (9999 : Int32) from ne_n (b := 9999) (by omega) (by omega) (by decide)), gd_n (by omega) (by decide), cl_n (by omega)]
theorem mixed_sm {σ : Mem} {n p : Nat} {R : Nat → Nat → Nat} (h : CC σ n p R) (m : MM σ n p R) (x y : Int32) : Sm σ (fX8_mixed x y) (fX9_mixed x y) := by
  have hp := h.2.2.2.1
  have hn := h.2.2.1
  rcases rng x (show n < 2 ^ 31 by omega) with hx | ⟨a, ha, rfl⟩
  · unfold fX8_mixed fX9_mixed
    exact Sm.same (r := -1) (by rw [cc_hasCopy_no h hx, bnd_eq, if_pos rfl]) (by rw [mm_isCopy_no m hx, bnd_eq, if_pos rfl])
  · rcases rngc y (show 4 < 2 ^ 30 by decide) with hy | ⟨w, hw, rfl⟩
    · unfold fX8_mixed fX9_mixed
      refine Sm.same (r := -1) ?_ (by rw [mm_isCopy m ha, bnd_eq, if_neg (by decide), show fX9_in y 0 4 σ = some (0, σ) from mm_in_c (n := 4) (by decide) hy, bnd_eq, if_pos rfl])
      rw [cc_hasCopy h ha, bnd_eq, if_neg (by decide)]
      by_cases h0 : y < 0
      · rw [if_pos h0]
      · rw [if_neg h0, if_neg (show ¬ y ≤ 4 from not_le_of (hy.resolve_left h0))]
    · have hk8 : ∀ c k, RI c k = true → nC [49] c k = true := RI_nC (fun c hc k => by rw [List.mem_singleton.mp hc]; rfl)
      have hk7 : ∀ c k, RI c k = true → nC [47] c k = true := RI_nC (fun c hc k => by rw [List.mem_singleton.mp hc]; rfl)
      have hk9 : ∀ c k, RI c k = true → nC [63] c k = true := RI_nC (fun c hc k => by rw [List.mem_singleton.mp hc]; rfl)
      have hkm : ∀ {s : Mem}, Keep RI σ s → MM s n p R := fun hK => m.keep hK rfl rfl (fun _ => rfl)
      have start : ∀ X : O, (fX8_mixed (nI a) (nI w) σ = X) = ((if (2 : Int32) ≤ nI n then bnd (fX3_compare (nI a) σ) (fun r3 σ4 => if nI w = (4 : Int32) then bnd (fX3_plain (nI a) σ4) (fun r7 σ8 => some (r7, σ8)) else if (σ4 4 1 : Int32) < 3 then some ((-9), σ4) else if (2 : Int32) ≤ (σ4 4 2) then bnd (fX3_find (nI a) σ4) (fun r5 σ6 => if nI w = (0 : Int32) then some (σ6 47 1, σ6) else if nI w = (1 : Int32) then some (σ6 47 2, σ6) else if nI w = (2 : Int32) then some (σ6 47 3, σ6) else some (σ6 47 4, σ6)) else some ((-9), σ4)) else some ((-9), σ)) = X) := by
        intro X
        unfold fX8_mixed
        rw [cc_hasCopy h ha, bnd_eq, if_neg (by decide), if_neg (nI_pos (by omega)), if_pos (show nI w ≤ (4 : Int32) from le_n (b := 4) hw (by decide)), h.1]
      by_cases h2 : 2 ≤ n
      · obtain ⟨s1, a1, a2, a3⟩ := compare_eq h ha
        have k1 : Keep RI σ s1 := a3.mono hk8
        have hC1 : CC s1 n p R := h.keep a3 rfl rfl (fun _ => rfl)
        rw [if_pos (show (2 : Int32) ≤ nI n from le_n (a := 2) h2 (by omega)), a1, bnd_eq] at start
        by_cases h4 : w = 4
        · rw [if_pos (show nI w = (4 : Int32) by rw [h4]; rfl), plain_eq hC1 ha a2, bnd_eq] at start
          obtain ⟨s2, b1, b2, b3⟩ := mixed9_eq (hkm k1) ha hw
          refine ⟨nI (pm R p a 8 n), s1, s2, by rw [start], ?_, k1.tr (b3.mono hk9)⟩
          rw [b1, if_pos h4]
          rcases pm_two (R := R) (p := p) (a := a) hp n with ⟨q1, -⟩ | q
          · have := q1 0 (by omega)
            have := q1 1 (by omega)
            omega
          · have := pm_le R p a 8 n
            rw [q, if_neg (by omega)]
        · rw [if_neg (show ¬ nI w = (4 : Int32) from ne_n (b := 4) h4 (by omega) (by decide)), hC1.1, hC1.2.1] at start
          by_cases hnp : n < 3 ∨ p < 2
          · obtain ⟨s2, b1, b2, b3⟩ := mixed9_eq (hkm k1) ha hw
            refine ⟨-9, s1, s2, ?_, ?_, k1.tr (b3.mono hk9)⟩
            · rw [start]
              by_cases h3 : n < 3
              · rw [if_pos (show nI n < (3 : Int32) from lt_n (b := 3) h3 (by decide))]
              · rw [if_neg (show ¬ nI n < (3 : Int32) from nlt_n (b := 3) (by omega) (by omega)), if_neg (show ¬ (2 : Int32) ≤ nI p from nle_n (a := 2) (by omega) (by decide))]
            · rw [b1, if_neg h4, m1_no ha hnp n (Nat.le_refl n), if_pos rfl]
          · obtain ⟨s2, f1, f2, f3⟩ := find_eq hC1 ha a2
            have k2 : Keep RI σ s2 := k1.tr (f3.mono hk7)
            rw [if_neg (show ¬ nI n < (3 : Int32) from nlt_n (b := 3) (by omega) (by omega)), if_pos (show (2 : Int32) ≤ nI p from le_n (a := 2) (by omega) (by omega)), f1, bnd_eq] at start
            obtain ⟨s3, b1, b2, b3⟩ := mixed9_eq (hkm k2) ha hw
            obtain ⟨u, v, hu, hv, huv⟩ := two_others a (show 3 ≤ n by omega)
            have h8 := m1_8 (R := R) hp (show 2 ≤ p by omega) huv hv n hu
            obtain ⟨c1, c2, c3⟩ := f2.2.2 (by omega)
            obtain ⟨d1, d2, d3⟩ := b2.2.2 (by omega)
            have d0 := b2.2.1
            rw [if_neg (show ¬ (m1 R p a n n).1 = 9 by omega)] at d0
            rw [if_neg h4, if_neg (show ¬ (m1 R p a n n).1 = 9 by omega)] at b1
            rcases (by omega : w = 0 ∨ w = 1 ∨ w = 2 ∨ w = 3) with rfl | rfl | rfl | rfl
            · exact ⟨nI (m1 R p a n n).1, s2, s3, by rw [start, if_pos (by decide), f2.2.1], by rw [b1, d0], k2.tr (b3.mono hk9)⟩
            · exact ⟨nI (m1 R p a n n).2.1, s2, s3, by rw [start, if_neg (by decide), if_pos (by decide), c1], by rw [b1, d1], k2.tr (b3.mono hk9)⟩
            · exact ⟨nI (m1 R p a n n).2.2.1, s2, s3, by rw [start, if_neg (by decide), if_neg (by decide), if_pos (by decide), c2], by rw [b1, d2], k2.tr (b3.mono hk9)⟩
            · exact ⟨nI (m1 R p a n n).2.2.2, s2, s3, by rw [start, if_neg (by decide), if_neg (by decide), if_neg (by decide), c3], by rw [b1, d3], k2.tr (b3.mono hk9)⟩
      · have h1 : n = 1 := by omega
        subst h1
        have h0 : a = 0 := by omega
        subst h0
        obtain ⟨s2, b1, b2, b3⟩ := mixed9_eq m ha hw
        refine ⟨-9, σ, s2, by rw [start, if_neg (by decide)], ?_, b3.mono hk9⟩
        rw [b1]
        by_cases h4 : w = 4
        · rw [if_pos h4]
          have e : pm R p 0 9999 1 = 9999 := by
            show (if 0 = 0 then _ else _) = _
            rw [if_pos rfl, pm_0]
          rw [if_pos e]
        · rw [if_neg h4, m1_no ha (Or.inl (by omega)) 1 (Nat.le_refl 1), if_pos rfl]
