/-! rank and best: both alike -/
def Sw (σ : Mem) (n p : Nat) (R : Nat → Nat → Nat) (f8 f9 : Mem → O) : Prop := ∃ r σ1 σ2, f8 σ = some (r, σ1) ∧ f9 σ1 = some (r, σ2) ∧ Keep RW σ σ2 ∧ WW σ2 n p R
theorem WT.ri {σ σ' : Mem} {n p : Nat} {R : Nat → Nat → Nat} (h : WT σ n p R) (hK : Keep RI σ σ') : WT σ' n p R := ⟨fun t ht => by rw [hK 44 t rfl]; exact h.1 t ht, fun c hc => by rw [hK 46 c rfl]; exact h.2 c hc⟩
theorem WW.ri {σ σ' : Mem} {n p : Nat} {R : Nat → Nat → Nat} (h : WW σ n p R) (hK : Keep RI σ σ') : WW σ' n p R := by
  rcases h with h | ⟨h1, h2⟩
  · exact Or.inl (by rw [hK 0 15 rfl]; exact h)
  · exact Or.inr ⟨by rw [hK 0 15 rfl]; exact h1, h2.ri hK⟩
theorem Sm.sw {σ : Mem} {n p : Nat} {R : Nat → Nat → Nat} {f8 f9 : Mem → O} (h : Sm σ f8 f9) (hw : WW σ n p R) : Sw σ n p R f8 f9 := by
  obtain ⟨r, s1, s2, h1, h2, h3⟩ := h
  exact ⟨r, s1, s2, h1, h2, h3.mono RW_RI, hw.ri h3⟩
theorem CC.rw {σ σ' : Mem} {n p : Nat} {R : Nat → Nat → Nat} (h : CC σ n p R) (hK : Keep RW σ σ') : CC σ' n p R := h.keep hK rfl rfl (fun _ => rfl)
theorem MM.rw {σ σ' : Mem} {n p : Nat} {R : Nat → Nat → Nat} (h : MM σ n p R) (hK : Keep RW σ σ') : MM σ' n p R := h.keep hK rfl rfl (fun _ => rfl)
theorem nI_inj {a b : Nat} (ha : a < 2 ^ 31) (hb : b < 2 ^ 31) (h : nI a = nI b) : a = b := (nI_eq ha hb).mp h
theorem rank_sw (hT : TreeOK) (hTE : TreeE) (hK : TreeK) {σ : Mem} {n p : Nat} {R : Nat → Nat → Nat} (h : CC σ n p R) (m : MM σ n p R) (hp0 : n = 0 → p = 0) (hw : WW σ n p R) (x : Int32) : Sw σ n p R (fX8_rank x) (fX9_rank x) := by
  have hn := h.2.2.1
  have hTN := TN_le (n := n)
  by_cases hx0 : x < 0
  · refine Sm.sw (Sm.same (r := -1) ?_ ?_) hw
    · unfold fX8_rank
      rw [if_neg (not_le_of hx0)]
    · unfold fX9_rank
      rw [if_neg (not_le_of hx0)]
  · have hx1 : (0 : Int32) ≤ x := by
      rw [Int32.lt_iff_toInt_lt] at hx0
      rw [Int32.le_iff_toInt_le]
      omega
    have hA : ∀ t, t < TN n → ahd (CHG n p R) (TN n) t < TN n := fun t ht => ahd_lt ht
    rcases rng x (show TN n < 2 ^ 31 by omega) with hx | ⟨k, hk, rfl⟩
    · have hx2 := hx.resolve_left hx0
      obtain ⟨s1, b1, b2, b3⟩ := fewest9_eq hT hTE hK m hp0
      have k1 : Keep RI σ s1 := b3.mono RI_rF
      have hne : ∀ t, t < TN n → ¬ nI (ahd (CHG n p R) (TN n) t) = x := by
        intro t ht z
        have := hA t ht
        rw [← z] at hx2
        exact nle_n this (by omega) hx2
      refine Sm.sw ⟨-9, σ, s1, ?_, ?_, k1⟩ hw
      · unfold fX8_rank
        rw [if_pos hx1, h.1, treesOf_eq hn, bnd_eq, if_neg]
        rw [Int32.le_iff_toInt_le] at hx2
        rw [Int32.lt_iff_toInt_lt]
        omega
      · unfold fX9_rank
        rw [if_pos hx1, b1, bnd_eq]
        rcases rank9_eq hK (m.ri k1) b2 x with ⟨t, t1, t2, t3⟩ | ⟨-, t3⟩
        · exact absurd t2 (hne t t1)
        · exact t3
    · obtain ⟨s1, a1, a2, a3, a4⟩ := weigh_eq hT hK h hw
      obtain ⟨t, t1, t2, t3⟩ := rank8_eq hK (h.rw a4) a3 hk
      obtain ⟨s2, b1, b2, b3⟩ := fewest9_eq hT hTE hK (m.rw a4) hp0
      have k2 : Keep RI s1 s2 := b3.mono RI_rF
      refine ⟨nI t, s1, s2, ?_, ?_, a4.tr (k2.mono RW_RI), Or.inr ⟨by rw [k2 0 15 rfl]; exact a2, a3.ri k2⟩⟩
      · unfold fX8_rank
        rw [if_pos hx1, h.1, treesOf_eq hn, bnd_eq, if_pos (lt_n hk (by omega)), a1, bnd_eq, t3]
      · unfold fX9_rank
        rw [if_pos hx1, b1, bnd_eq]
        rcases rank9_eq hK ((m.rw a4).ri k2) b2 (nI k) with ⟨u, u1, u2, u3⟩ | ⟨u1, -⟩
        · have := hA u u1
          have e := nI_inj (by omega) (by omega) u2
          rw [u3, ahd_inj u1 t1 (e.trans t2.symm)]
        · exact absurd (by rw [t2]) (u1 t t1)
theorem best9_eq {σ : Mem} {n p : Nat} {R : Nat → Nat → Nat} (hK : TreeK) (h : MM σ n p R) (hA : ∀ t, t < TN n → σ 62 t = nI (CHG n p R t)) (K : Int32 → Int32 → Int32 → Mem → O) (x : Int32) {l : Nat} (hl : l < 10000) : LX9_best_21 K 300 x (nI l) 0 0 σ = K x (nI l) (nI (ce (CHG n p R) l (TN n))) σ := by
  have hp := h.2.2.2.1
  have hn := h.2.2.1
  have hTN := TN_le (n := n)
  refine up_f (fun f o (a : Nat) => LX9_best_21 K f x (nI l) (nI a) (nI o) σ) (TN n) (ce (CHG n p R) l) (fun a => K x (nI l) (nI a) σ) (fun f o ho => ?_) (fun f => ?_) 0 300 (by omega) (by omega)
  · have d2 := CHG_le hK (R := R) hn hp ho
    show BX9_best_21 K _ x (nI l) _ (nI o) σ = LX9_best_21 K f x (nI l) (nI (ce (CHG n p R) l o + (if CHG n p R o = l then 1 else 0))) (nI (o + 1)) σ
    unfold BX9_best_21
    rw [trees9_eq hn h.1, bnd_eq, if_neg (nle_n ho (by omega)), gd_n (by omega) (by decide), cl_n (by omega), hA o ho]
    dsimp only [letv]
    by_cases e : CHG n p R o = l
    · rw [if_pos (by rw [e]), if_pos e, one_n, one_n]
    · rw [if_neg (ne_n e (by omega) (by omega)), if_neg e, one_n, show (0 : Int32) = nI 0 from rfl, add_n]
  · show BX9_best_21 K _ x (nI l) _ (nI (TN n)) σ = _
    unfold BX9_best_21
    rw [trees9_eq hn h.1, bnd_eq, if_pos (le_n (Nat.le_refl _) (by omega))]
theorem best_sw (hT : TreeOK) (hTE : TreeE) (hK : TreeK) {σ : Mem} {n p : Nat} {R : Nat → Nat → Nat} (h : CC σ n p R) (m : MM σ n p R) (hp0 : n = 0 → p = 0) (hw : WW σ n p R) (x : Int32) : Sw σ n p R (fX8_best x) (fX9_best x) := by
  have hn := h.2.2.1
  have hp := h.2.2.2.1
  have hTN := TN_le (n := n)
  have hl9 := lw_9 (CHG n p R) (TN n)
  rcases rngc x (show 3 < 2 ^ 30 by decide) with hx | ⟨w, hw3, rfl⟩
  · refine Sm.sw (Sm.same (r := -1) ?_ ?_) hw
    · unfold fX8_best
      by_cases h0 : x < 0
      · rw [if_pos h0]
      · rw [if_neg h0, if_neg (show ¬ x ≤ 3 from not_le_of (hx.resolve_left h0))]
    · unfold fX9_best
      rw [show fX9_in x 0 3 σ = some (0, σ) from mm_in_c (n := 3) (by decide) hx, bnd_eq, if_pos rfl]
  · have ref : ∀ s1 : Mem, MM s1 n p R → ∃ s2, fX9_best (nI w) s1 = (if w = 0 then some (nI (lw (CHG n p R) (TN n)), s2) else if w = 1 then some (nI (ce (CHG n p R) (lw (CHG n p R) (TN n)) (TN n)), s2) else if w = 2 then some (nI (sumR (bdN n R) p), s2) else if nI (sumR (bdN n R) p) = nI (lw (CHG n p R) (TN n)) then some (1, s2) else some (0, s2)) ∧ Keep RI s1 s2 := by
      intro s1 hm
      obtain ⟨s2, b1, b2, b3⟩ := fewest9_eq hT hTE hK hm hp0
      have k2 : Keep RI s1 s2 := b3.mono RI_rF
      refine ⟨s2, ?_, k2⟩
      unfold fX9_best
      rw [show fX9_in (nI w) 0 3 s1 = some (1, s1) from mm_in_cok (n := 3) (by decide) hw3, bnd_eq, if_neg (by decide), b1, bnd_eq, best9_eq hK (hm.ri k2) b2 _ (nI w) (by omega), bound9_eq (hm.ri k2), bnd_eq, bnd_eq]
      rcases (by omega : w = 0 ∨ w = 1 ∨ w = 2 ∨ w = 3) with rfl | rfl | rfl | rfl
      · rw [if_pos (by decide), if_pos rfl]
      · rw [if_neg (by decide), if_pos (by decide), if_neg (by decide), if_pos rfl]
      · rw [if_neg (by decide), if_neg (by decide), if_pos (by decide), if_neg (by decide), if_neg (by decide), if_pos rfl]
      · rw [if_neg (show ¬ nI 3 = (0 : Int32) by decide), if_neg (show ¬ nI 3 = (1 : Int32) by decide), if_neg (show ¬ nI 3 = (2 : Int32) by decide), if_neg (show ¬ (3 : Nat) = 0 by decide), if_neg (show ¬ (3 : Nat) = 1 by decide), if_neg (show ¬ (3 : Nat) = 2 by decide)]
    by_cases h2 : w = 2
    · subst h2
      obtain ⟨s2, b1, b2⟩ := ref σ m
      refine Sm.sw ⟨nI (sumR (bdN n R) p), σ, s2, ?_, by rw [b1, if_neg (by decide), if_neg (by decide), if_pos rfl], b2⟩ hw
      unfold fX8_best
      rw [if_neg (by decide), if_pos (by decide), if_pos (by decide), bound_eq h, bnd_eq]
    · obtain ⟨s1, a1, a2, a3, a4⟩ := weigh_eq hT hK h hw
      obtain ⟨s2, b1, b2⟩ := ref s1 (m.rw a4)
      have hC := h.rw a4
      have c8 : ∀ X : O, (fX8_best (nI w) σ = X) = ((if nI w = (0 : Int32) then some (nI (lw (CHG n p R) (TN n)), s1) else if nI w = (1 : Int32) then bnd (fX5_at 45 49 (nI (lw (CHG n p R) (TN n))) s1) (fun r7 σ8 => some (r7, σ8)) else bnd (fX8_bound s1) (fun r5 σ6 => if (r5 : Int32) = nI (lw (CHG n p R) (TN n)) then some (1, σ6) else some (0, σ6))) = X) := by
        intro X
        unfold fX8_best
        rw [if_neg (nI_pos (by omega)), if_pos (show nI w ≤ (3 : Int32) from le_n (b := 3) hw3 (by decide)), if_neg (show ¬ nI w = (2 : Int32) from ne_n (b := 2) h2 (by omega) (by decide)), a1, bnd_eq, fewest8_eq hK hC a3, bnd_eq]
      have kf : Keep RW σ s2 ∧ WW s2 n p R := ⟨a4.tr (b2.mono RW_RI), Or.inr ⟨by rw [b2 0 15 rfl]; exact a2, a3.ri b2⟩⟩
      rcases (by omega : w = 0 ∨ w = 1 ∨ w = 3) with rfl | rfl | rfl
      · exact ⟨_, s1, s2, by rw [c8, if_pos (by decide)], by rw [b1, if_pos rfl], kf⟩
      · obtain ⟨t, t1, t2⟩ := lw_ex (D := CHG n p R) (TN n) (fun t ht => CHG_le hK hn hp ht) (TN_pos n)
        have h40 := CHG_le hK (R := R) hn hp t1
        exact ⟨_, s1, s2, by rw [c8, if_neg (by decide), if_pos (by decide), at_in (by omega) (by decide), bnd_eq, show s1 (45 + 1) _ = _ from a3.2 _ (show lw (CHG n p R) (TN n) ≤ 48 by omega)], by rw [b1, if_neg (by decide), if_pos rfl], kf⟩
      · rw [if_neg (by decide), if_neg (by decide), if_neg (by decide)] at b1
        rw [if_neg (by decide), if_neg (by decide), bound_eq hC, bnd_eq] at c8
        by_cases e : nI (sumR (bdN n R) p) = nI (lw (CHG n p R) (TN n))
        · exact ⟨1, s1, s2, by rw [c8, if_pos e], by rw [b1, if_pos e], kf⟩
        · exact ⟨0, s1, s2, by rw [c8, if_neg e], by rw [b1, if_neg e], kf⟩
