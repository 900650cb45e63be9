/-! which copy was read wrongly -/
theorem allSeen_eq {σ : Mem} {s : Nat} {v : Int32} (hs : s ≤ 6) (h : σ 0 13 = nI s) : ∃ b, fX8_allSeenIs v σ = some (bI b, σ) ∧ (b = true ↔ ∀ k, k < s → σ 24 k = v) := by
  have key := up_any (fun f k => LX8_allSeenIs_2 (fun σ3 => some (1, σ3)) f v (nI k) σ) s (fun k => ¬ σ 24 k = v) (some (0, σ)) (some (1, σ))
    (fun f k hk => by
      show (_ ∧ BX8_allSeenIs_2 _ _ v (nI k) σ = _) ∨ (_ ∧ BX8_allSeenIs_2 _ _ v (nI k) σ = _)
      unfold BX8_allSeenIs_2
      rw [h, if_neg (nle_n hk (by omega)), at_in (by omega) (by decide), bnd_eq, one_n]
      by_cases e : σ 24 k = v
      · exact Or.inr ⟨fun z => z e, by rw [if_pos (show σ (23 + 1) k = v from e)]⟩
      · exact Or.inl ⟨e, by rw [if_neg (show ¬ σ (23 + 1) k = v from e)]⟩)
    (fun f => by
      show BX8_allSeenIs_2 _ _ v (nI s) σ = _
      unfold BX8_allSeenIs_2
      rw [h, if_pos (le_n (Nat.le_refl s) (by omega))])
    s 0 300 (by omega) (by omega)
  rcases key with ⟨⟨k, -, k2, k3⟩, e⟩ | ⟨hno, e⟩
  · exact ⟨false, e, fun z => Bool.noConfusion z, fun z => absurd (z k k2) k3⟩
  · exact ⟨true, e, fun _ k hk => Classical.byContradiction (fun z => hno k (Nat.zero_le k) hk z), fun _ => rfl⟩
theorem isSeen_eq {σ : Mem} {s : Nat} {v : Int32} (hs : s ≤ 6) (h : σ 50 6 = nI s) : ∃ b, fX9_isSeen v σ = some (bI b, σ) ∧ (b = true ↔ ∀ k, k < s → σ 53 k = v) := by
  obtain ⟨b, h1, h2⟩ := up_k (fun f k (b : Bool) => LX9_isSeen_4 (fun x2 σ1 => gb x2 (some (x2, σ1))) f v (bI b) (nI k) σ) s (fun k b => b = true ↔ ∀ i, i < k → σ 53 i = v) (fun b => some (bI b, σ))
    (fun f k b hk hI => by
      have hstep : ∀ X : O, (LX9_isSeen_4 (fun x2 σ1 => gb x2 (some (x2, σ1))) (f + 1) v (bI b) (nI k) σ = X) = (BX9_isSeen_4 (fun x2 σ1 => gb x2 (some (x2, σ1))) (LX9_isSeen_4 (fun x2 σ1 => gb x2 (some (x2, σ1))) f) v (bI b) (nI k) σ = X) := fun _ => rfl
      unfold BX9_isSeen_4 at hstep
      rw [h, if_neg (nle_n hk (by omega)), one_n, gd_n (by omega) (by decide), cl_n (by omega)] at hstep
      cases b with
      | false =>
        rw [if_pos (show bI false = 0 by decide)] at hstep
        refine ⟨false, ⟨fun z => Bool.noConfusion z, fun z => ?_⟩, (hstep _).mpr rfl⟩
        exact hI.mpr (fun i hi => z i (by omega))
      | true =>
        have hall := hI.mp rfl
        rw [if_neg (show ¬ bI true = 0 by decide)] at hstep
        by_cases e : σ 53 k = v
        · rw [if_pos e] at hstep
          refine ⟨true, ⟨fun _ i hi => ?_, fun _ => rfl⟩, (hstep _).mpr rfl⟩
          by_cases hik : i = k
          · subst hik; exact e
          · exact hall i (by omega)
        · rw [if_neg e] at hstep
          exact ⟨false, ⟨fun z => Bool.noConfusion z, fun z => absurd (z k (by omega)) e⟩, (hstep _).mpr rfl⟩)
    (fun f b hI => by
      show BX9_isSeen_4 _ _ v (bI b) (nI s) σ = _
      unfold BX9_isSeen_4
      rw [h, if_pos (le_n (Nat.le_refl s) (by omega))]
      cases b <;> rfl)
    0 true 300 (by omega) (by omega) ⟨fun _ i hi => absurd hi (Nat.not_lt_zero i), fun _ => rfl⟩
  exact ⟨b, h2, h1⟩
/-- a copy may have been misread -/
def Um (n p : Nat) (R : Nat → Nat → Nat) (t : Nat) (SA : Nat → Prop) (a : Nat) : Prop := R a 0 ≠ 4 ∧ ∃ r, r < 4 ∧ r ≠ R a 0 ∧ SA (Vif n p R t a 0 r)
noncomputable def uW (U : Nat → Prop) : Nat → Int32
  | 0 => 0
  | k + 1 => @ite Int32 (U k) (Classical.propDecidable _) (uW U k ||| ((1 : Int32) <<< (nI k &&& 31))) (uW U k)
theorem uW_t {U : Nat → Prop} {k : Nat} (h : U k) : uW U (k + 1) = uW U k ||| ((1 : Int32) <<< (nI k &&& 31)) := by
  show @ite Int32 (U k) (Classical.propDecidable _) _ _ = _
  rw [if_pos h]
theorem uW_f {U : Nat → Prop} {k : Nat} (h : ¬ U k) : uW U (k + 1) = uW U k := by
  show @ite Int32 (U k) (Classical.propDecidable _) _ _ = _
  rw [if_neg h]
theorem or_twice (x y : Int32) : (x ||| y) ||| y = x ||| y := b_ext (fun i _ => by rw [b_or, b_or, Bool.or_assoc, Bool.or_self])
theorem unseen_sm (hT : TreeOK) (hTE : TreeE) (hK : TreeK) {σ : Mem} {n p t s : Nat} {R : Nat → Nat → Nat} (h : CC σ n p R) (m : MM σ n p R) (hp1 : p = 0 → n = 0) (ht : t < TN n) (h14 : σ 0 14 = nI t) (h48 : σ 51 48 = nI t) (hs : s ≤ 6) (h13 : σ 0 13 = nI s) (h506 : σ 50 6 = nI s) (hsn : ∀ k, k < s → σ 24 k = σ 53 k) : Sm σ fX8_unseen fX9_unseen := by
  have hp := h.2.2.2.1
  have hn := h.2.2.1
  have hTN := TN_le (n := n)
  have hR : ∀ i, i < n → ∀ j, j < p → R i j ≤ 4 := fun i hi j hj => (h.2.2.2.2 i hi j hj).2
  obtain ⟨U, hU⟩ : ∃ U : Nat → Prop, U = Um n p R t (fun v => ∀ k, k < s → σ 24 k = nI v) := ⟨_, rfl⟩
  -- the class
  obtain ⟨s1, a1, a2, a3⟩ := loadSets_eq h (P := some 0) (fun i hi => by cases hi; omega)
  obtain ⟨s2, s3, b1, b2, b3, b4, b5⟩ := laid_eq hT (σ := s1) hn ht
  have k3 : Keep (nC cT) σ s3 := (a3.mono (nC_mono (by decide))).tr (b5.mono (nC_mono (by decide)))
  have hS3 : ∀ x, x < 6 → ∀ i, i < 8 → nb (s3 42 x) i = if i = 0 then (fun x => LSt n p R x 0) x else 15 := by
    intro x hx i hi
    rw [b5 42 x rfl, a2 x hx i hi]
    show (if i = 0 then LSt n p R x i else 15) = _
    by_cases hij : i = 0
    · rw [if_pos hij, if_pos hij, hij]
    · rw [if_neg hij, if_neg hij]
  have may : ∀ (s4 : Mem) a, a < n → Keep (nC [38]) s3 s4 → ∃ b s5, fX8_mayBeMisread (nI a) s4 = some (bI b, s5) ∧ (b = true ↔ U a) ∧ Keep (nC [38]) s3 s5 := by
    intro s4 a ha hK4
    have hp0 : 0 < p := by omega
    have k4 : Keep (nC cT) σ s4 := k3.tr (hK4.mono (nC_mono (by decide)))
    have hC4 : CC s4 n p R := h.keep k4 rfl rfl (fun _ => rfl)
    have r0 := hR a ha 0 hp0
    unfold fX8_mayBeMisread
    rw [show bnd (fX4_at 4 (nI a) 0 s4) _ = _ from b_at hC4 ha hp0]
    by_cases h4 : R a 0 = 4
    · rw [if_pos (show nI (R a 0) = (4 : Int32) by rw [h4]; rfl)]
      exact ⟨false, s4, rfl, ⟨fun z => Bool.noConfusion z, fun z => by rw [hU] at z; exact absurd h4 z.1⟩, hK4⟩
    · rw [if_neg (show ¬ nI (R a 0) = (4 : Int32) from ne_n (b := 4) h4 (by omega) (by decide))]
      refine up_loop (fun f r (q : Mem) => LX8_mayBeMisread_19 (fun σ7 => some (0, σ7)) f (nI a) (nI (R a 0)) (nI r) q) 4 (fun r q => (∀ r', r' < r → r' ≠ R a 0 → ¬ ∀ k, k < s → σ 24 k = nI (Vif n p R t a 0 r')) ∧ Keep (nC [38]) s3 q) (fun o => ∃ b s5, o = some (bI b, s5) ∧ (b = true ↔ U a) ∧ Keep (nC [38]) s3 s5) (fun f r q hr hI => ?_) (fun f q hI => ?_) 4 0 s4 300 (by omega) (by omega) ⟨fun r' hr' => absurd hr' (Nat.not_lt_zero r'), hK4⟩
      · obtain ⟨i1, i2⟩ := hI
        have hstep : ∀ X : O, (LX8_mayBeMisread_19 (fun σ7 => some (0, σ7)) (f + 1) (nI a) (nI (R a 0)) (nI r) q = X) = (BX8_mayBeMisread_19 (fun σ7 => some (0, σ7)) (LX8_mayBeMisread_19 (fun σ7 => some (0, σ7)) f) (nI a) (nI (R a 0)) (nI r) q = X) := fun _ => rfl
        unfold BX8_mayBeMisread_19 at hstep
        rw [if_neg (show ¬ (4 : Int32) ≤ nI r from nle_n (a := 4) hr (by decide)), one_n] at hstep
        by_cases hra : r = R a 0
        · rw [if_pos (by rw [hra])] at hstep
          refine Or.inr ⟨q, ⟨fun r' h1 h2 => ?_, i2⟩, (hstep _).mpr rfl⟩
          exact i1 r' (by omega) h2
        · rw [if_neg (ne_n hra (by omega) (by omega))] at hstep
          obtain ⟨s5, c1, c2⟩ := changesIf_eq hT (σ := q) (S := fun x => LSt n p R x 0) (a := a) (j := 0) (r := r) hn ht (fun h2 => ⟨(b3 h2).1.keep i2 (fun _ => rfl) (fun _ => rfl) rfl, fun z hz h6 => by rw [i2 36 z rfl]; exact (b3 h2).2 z hz h6⟩) (fun h2 => by rw [i2 30 5 rfl]; exact b4 h2) (fun x hx i hi => by rw [i2 42 x rfl]; exact hS3 x hx i hi) (by omega) (by omega) hr
          have k5 : Keep (nC cT) σ s5 := k3.tr ((i2.tr c2).mono (nC_mono (by decide)))
          obtain ⟨b, d1, d2⟩ := allSeen_eq (σ := s5) (v := nI (Vif n p R t a 0 r)) hs (by rw [k5 0 13 rfl]; exact h13)
          have d3 : b = true ↔ ∀ k, k < s → σ 24 k = nI (Vif n p R t a 0 r) := by
            rw [d2]
            constructor
            · intro z k hk; rw [← k5 24 k rfl]; exact z k hk
            · intro z k hk; rw [k5 24 k rfl]; exact z k hk
          rw [show fX8_changesIf (nI a) 0 (nI r) q = some (nI (Vif n p R t a 0 r), s5) from c1, bnd_eq, d1, bnd_eq] at hstep
          cases b with
          | false =>
            rw [if_pos (show bI false = 0 by decide)] at hstep
            refine Or.inr ⟨s5, ⟨fun r' h1 h2 => ?_, i2.tr c2⟩, (hstep _).mpr rfl⟩
            by_cases hrr : r' = r
            · subst hrr; exact fun z => Bool.noConfusion (d3.mpr z)
            · exact i1 r' (by omega) h2
          | true =>
            rw [if_neg (show ¬ bI true = 0 by decide)] at hstep
            refine Or.inl ⟨true, s5, (hstep _).mpr rfl, ⟨fun _ => ?_, fun _ => rfl⟩, i2.tr c2⟩
            rw [hU]
            exact ⟨h4, r, hr, hra, d3.mp rfl⟩
      · refine ⟨false, q, ?_, ⟨fun z => Bool.noConfusion z, fun z => ?_⟩, hI.2⟩
        · show BX8_mayBeMisread_19 _ _ (nI a) (nI (R a 0)) (nI 4) q = _
          unfold BX8_mayBeMisread_19
          rw [if_pos (show (4 : Int32) ≤ nI 4 by decide)]
          rfl
        · rw [hU] at z
          obtain ⟨-, r, r1, r2, r3⟩ := z
          exact absurd r3 (hI.1 r r1 r2)
  obtain ⟨w, ⟨i1, i2⟩, e8⟩ := up_k (fun f k (w : Int32 × Mem) => LX8_unseen_39 (fun x1 σ10 => some (x1, σ10)) f w.1 (nI k) w.2) n (fun k w => w.1 = uW U k ∧ Keep (nC [38]) s3 w.2) (fun w => some (w.1, w.2))
    (fun f k w hk hI => by
      obtain ⟨w, q⟩ := w
      obtain ⟨i1, i2⟩ := hI
      dsimp only at i1 i2 ⊢
      obtain ⟨b, s5, c1, c2, c3⟩ := may q k hk i2
      have hstep : ∀ X : O, (LX8_unseen_39 (fun x1 σ10 => some (x1, σ10)) (f + 1) w (nI k) q = X) = (BX8_unseen_39 (fun x1 σ10 => some (x1, σ10)) (LX8_unseen_39 (fun x1 σ10 => some (x1, σ10)) f) w (nI k) q = X) := fun _ => rfl
      unfold BX8_unseen_39 at hstep
      rw [show q 4 1 = nI n by rw [i2 4 1 rfl, k3 4 1 rfl]; exact h.1, if_neg (nle_n hk (by omega)), c1, bnd_eq, one_n] at hstep
      cases b with
      | false =>
        rw [if_pos (show bI false = 0 by decide)] at hstep
        exact ⟨(w, s5), ⟨by rw [uW_f (fun z => Bool.noConfusion (c2.mpr z))]; exact i1, c3⟩, (hstep _).mpr rfl⟩
      | true =>
        rw [if_neg (show ¬ bI true = 0 by decide)] at hstep
        exact ⟨(w ||| ((1 : Int32) <<< (nI k &&& 31)), s5), ⟨by rw [uW_t (c2.mp rfl), ← i1], c3⟩, (hstep _).mpr rfl⟩)
    (fun f w hI => by
      show BX8_unseen_39 _ _ w.1 (nI n) w.2 = _
      unfold BX8_unseen_39
      rw [hI.2 4 1 rfl, k3 4 1 rfl, h.1, if_pos (le_n (Nat.le_refl n) (by omega))])
    0 (0, s3) 300 (by omega) (by omega) ⟨rfl, Keep.rf⟩
  have k6 : Keep RI σ w.2 := (k3.tr (i2.mono (nC_mono (by decide)))).mono RI_cT
  -- the reference
  have m6 := m.ri k6
  obtain ⟨s7, d1, d2, d3, d4⟩ := layTree_eq hn ht m6.1
  have m7 : MM s7 n p R := m6.keep d4 rfl rfl (fun _ => rfl)
  have k7 : Keep RI σ s7 := k6.tr ((d4.mono rM_T).mono RI_rM)
  obtain ⟨v, ⟨j1, j2⟩, e9⟩ := up_k (fun f k (w : Int32 × Mem) => LX9_unseen_15 (fun x1 σ14 => some (x1, σ14)) f w.1 (nI k) w.2) n (fun k w => w.1 = uW U k ∧ Keep (nC [60, 61]) s7 w.2) (fun w => some (w.1, w.2))
    (fun f a w ha hI => by
      obtain ⟨w, q⟩ := w
      obtain ⟨i1, i2⟩ := hI
      dsimp only at i1 i2 ⊢
      have hp0 : 0 < p := by omega
      have r0 := hR a ha 0 hp0
      have e8a : (8 : Int32) * nI a = nI (8 * a + 0) := by rw [show (8 : Int32) = nI 8 from rfl, mul_n]; rfl
      have hwas : q 51 (8 * a + 0) = nI (R a 0) := by rw [i2 51 _ rfl]; exact (m7.2.2.2.2 a ha 0 hp0).1
      have hstep : ∀ X : O, (LX9_unseen_15 (fun x1 σ14 => some (x1, σ14)) (f + 1) w (nI a) q = X) = (BX9_unseen_15 (fun x1 σ14 => some (x1, σ14)) (LX9_unseen_15 (fun x1 σ14 => some (x1, σ14)) f) w (nI a) q = X) := fun _ => rfl
      unfold BX9_unseen_15 at hstep
      rw [show q 50 0 = nI n by rw [i2 50 0 rfl]; exact m7.1, if_neg (nle_n ha (by omega)), e8a, gd_n (by omega) (by decide), cl_n (by omega)] at hstep
      dsimp only [letv] at hstep
      rw [hwas] at hstep
      have kq : Keep (KK (8 * a + 0)) s7 q := i2.mono KK_nC
      -- the inner loop
      have inner : ∃ (b : Bool) (q2 : Mem), LX9_unseen_36 (fun x1 x2 x3 σ12 => gd 49 ((8 : Int32) * x2) (letm (stm σ12 51 ((8 : Int32) * x2).toNatClampNeg x3) (fun σ13 => LX9_unseen_15 (fun x1 σ14 => some (x1, σ14)) f x1 (x2 + 1) σ13))) 300 w (nI a) (nI (R a 0)) 0 q = LX9_unseen_15 (fun x1 σ14 => some (x1, σ14)) f (if b then w ||| ((1 : Int32) <<< (nI a &&& 31)) else w) (nI (a + 1)) (stm q2 51 (8 * a + 0) (nI (R a 0))) ∧ (b = true ↔ U a) ∧ Keep (KK (8 * a + 0)) s7 q2 := by
        have kend : ∀ (y : Int32) (q2 : Mem), (fun x1 x2 x3 σ12 => gd 49 ((8 : Int32) * x2) (letm (stm σ12 51 ((8 : Int32) * x2).toNatClampNeg x3) (fun σ13 => LX9_unseen_15 (fun x1 σ14 => some (x1, σ14)) f x1 (x2 + 1) σ13))) y (nI a) (nI (R a 0)) q2 = LX9_unseen_15 (fun x1 σ14 => some (x1, σ14)) f y (nI (a + 1)) (stm q2 51 (8 * a + 0) (nI (R a 0))) := by
          intro y q2
          dsimp only [letm]
          rw [e8a, gd_n (by omega) (by decide), cl_n (by omega), one_n]
        generalize hKe : (fun x1 x2 x3 σ12 => gd 49 ((8 : Int32) * x2) (letm (stm σ12 51 ((8 : Int32) * x2).toNatClampNeg x3) (fun σ13 => LX9_unseen_15 (fun x1 σ14 => some (x1, σ14)) f x1 (x2 + 1) σ13))) = Ke at kend ⊢
        by_cases h4 : R a 0 = 4
        · refine ⟨false, q, ?_, ⟨fun z => Bool.noConfusion z, fun z => by rw [hU] at z; exact absurd h4 z.1⟩, kq⟩
          show BX9_unseen_36 Ke (LX9_unseen_36 Ke 299) w (nI a) (nI (R a 0)) (nI 0) q = _
          unfold BX9_unseen_36
          rw [if_neg (by decide), if_pos (show nI (R a 0) = (4 : Int32) by rw [h4]; rfl), kend]
          rfl
        · obtain ⟨c, ⟨g1, g2⟩, e⟩ := up_k (fun g r (c : Bool × Mem) => LX9_unseen_36 Ke g (if c.1 then w ||| ((1 : Int32) <<< (nI a &&& 31)) else w) (nI a) (nI (R a 0)) (nI r) c.2) 4 (fun r c => (c.1 = true ↔ ∃ r', r' < r ∧ r' ≠ R a 0 ∧ ∀ k, k < s → σ 24 k = nI (Vif n p R t a 0 r')) ∧ Keep (KK (8 * a + 0)) s7 c.2) (fun c => Ke (if c.1 then w ||| ((1 : Int32) <<< (nI a &&& 31)) else w) (nI a) (nI (R a 0)) c.2)
            (fun g r c hr hI => by
              obtain ⟨b, q1⟩ := c
              obtain ⟨g1, g2⟩ := hI
              dsimp only at g1 g2 ⊢
              have hst : ∀ (y : Int32) (X : O), (LX9_unseen_36 Ke (g + 1) y (nI a) (nI (R a 0)) (nI r) q1 = X) = (BX9_unseen_36 Ke (LX9_unseen_36 Ke g) y (nI a) (nI (R a 0)) (nI r) q1 = X) := fun _ _ => rfl
              generalize hy : (if b then w ||| ((1 : Int32) <<< (nI a &&& 31)) else w) = y
              have hst := hst y
              unfold BX9_unseen_36 at hst
              rw [if_neg (show ¬ (4 : Int32) ≤ nI r from nle_n (a := 4) hr (by decide)), if_neg (show ¬ nI (R a 0) = (4 : Int32) from ne_n (b := 4) h4 (by omega) (by decide)), e8a, gd_n (by omega) (by decide), cl_n (by omega)] at hst
              dsimp only [letm, letv] at hst
              rw [or_0, one_n] at hst
              have same : ∀ q5 : Mem, Keep (KK (8 * a + 0)) s7 q5 → ¬ (r ≠ R a 0 ∧ ∀ k, k < s → σ 24 k = nI (Vif n p R t a 0 r)) → ((b, q5).1 = true ↔ ∃ r', r' < r + 1 ∧ r' ≠ R a 0 ∧ ∀ k, k < s → σ 24 k = nI (Vif n p R t a 0 r')) := by
                intro q5 _ hno
                rw [g1]
                constructor
                · rintro ⟨r', r1, r2⟩; exact ⟨r', by omega, r2⟩
                · rintro ⟨r', r1, r2⟩
                  by_cases hrr : r' = r
                  · subst hrr; exact absurd r2 hno
                  · exact ⟨r', by omega, r2⟩
              by_cases hra : r = R a 0
              · rw [if_pos (by rw [hra])] at hst
                have kk : Keep (KK (8 * a + 0)) s7 (stm q1 51 (8 * a + 0) (nI r)) := g2.st (KK_at _)
                exact ⟨(b, stm q1 51 (8 * a + 0) (nI r)), ⟨same _ kk (fun z => z.1 hra), kk⟩, (hst _).mpr (by rw [← hy])⟩
              · rw [if_neg (ne_n hra (by omega) (by omega))] at hst
                obtain ⟨s9, c1, c2, -⟩ := at9_eq hT hTE (j := 0) m7 ht d2 d3 g2 ha hp0 hr
                rw [show fX9_changesAt 0 (stm q1 51 (8 * a + 0) (nI r)) = some (nI (Vif n p R t a 0 r), s9) from c1, bnd_eq] at hst
                obtain ⟨b2, f1, f2⟩ := isSeen_eq (σ := s9) (v := nI (Vif n p R t a 0 r)) hs (by rw [c2 50 6 (KK_50 _ _), k7 50 6 rfl]; exact h506)
                have f3 : b2 = true ↔ ∀ k, k < s → σ 24 k = nI (Vif n p R t a 0 r) := by
                  rw [f2]
                  have e53 : ∀ k, k < s → s9 53 k = σ 24 k := fun k hk => by rw [c2 53 k rfl, k7 53 k rfl, hsn k hk]
                  constructor
                  · intro z k hk; rw [← e53 k hk]; exact z k hk
                  · intro z k hk; rw [e53 k hk]; exact z k hk
                rw [f1, bnd_eq] at hst
                cases b2 with
                | false =>
                  rw [if_pos (show bI false = 0 by decide)] at hst
                  exact ⟨(b, s9), ⟨same _ c2 (fun z => Bool.noConfusion (f3.mpr z.2)), c2⟩, (hst _).mpr (by rw [← hy])⟩
                | true =>
                  rw [if_neg (show ¬ bI true = 0 by decide)] at hst
                  refine ⟨(true, s9), ⟨⟨fun _ => ⟨r, by omega, hra, f3.mp rfl⟩, fun _ => rfl⟩, c2⟩, (hst _).mpr ?_⟩
                  rw [← hy]
                  cases b
                  · rfl
                  · show LX9_unseen_36 Ke g ((w ||| ((1 : Int32) <<< (nI a &&& 31))) ||| ((1 : Int32) <<< (nI a &&& 31))) (nI a) (nI (R a 0)) (nI (r + 1)) s9 = _
                    rw [or_twice]
                    rfl)
            (fun g c hI => by
              show BX9_unseen_36 Ke _ _ (nI a) (nI (R a 0)) (nI 4) c.2 = _
              unfold BX9_unseen_36
              rw [if_pos (show (4 : Int32) ≤ nI 4 by decide)])
            0 (false, q) 300 (by omega) (by omega) ⟨⟨fun z => Bool.noConfusion z, fun ⟨r', r1, _⟩ => absurd r1 (Nat.not_lt_zero r')⟩, kq⟩
          refine ⟨c.1, c.2, ?_, ?_, g2⟩
          · rw [← kend]
            exact e
          · rw [g1, hU]
            exact ⟨fun z => ⟨h4, z⟩, fun z => z.2⟩
      obtain ⟨b, q2, g1, g2, g3⟩ := inner
      rw [g1] at hstep
      have kfin : Keep (nC [60, 61]) s7 (stm q2 51 (8 * a + 0) (nI (R a 0))) := by
        intro c k hck
        by_cases hc : c = 51
        · subst hc
          by_cases hk : k = 8 * a + 0
          · subst hk
            rw [stm_v, (m7.2.2.2.2 a ha 0 hp0).1]
          · rw [stm_k hk, g3 51 k (KK_ne hk)]
        · rw [stm_ne hc]
          refine g3 c k ?_
          unfold KK
          rw [hck, beq_false_of_ne hc]
          rfl
      refine ⟨(if b then w ||| ((1 : Int32) <<< (nI a &&& 31)) else w, stm q2 51 (8 * a + 0) (nI (R a 0))), ⟨?_, kfin⟩, (hstep _).mpr rfl⟩
      dsimp only
      cases b with
      | false => rw [uW_f (fun z => Bool.noConfusion (g2.mpr z)), ← i1]; rfl
      | true => rw [uW_t (g2.mp rfl), ← i1]; rfl)
    (fun f w hI => by
      show BX9_unseen_15 _ _ w.1 (nI n) w.2 = _
      unfold BX9_unseen_15
      rw [hI.2 50 0 rfl, m7.1, if_pos (le_n (Nat.le_refl n) (by omega))])
    0 (0, s7) 300 (by omega) (by omega) ⟨rfl, Keep.rf⟩
  refine ⟨uW U n, w.2, v.2, ?_, ?_, k7.tr ((j2.mono rM_C).mono RI_rM)⟩
  · unfold fX8_unseen
    rw [show fX8_loadSets 0 σ = some (0, s1) from a1, bnd_eq, a3 0 14 rfl, a3 4 1 rfl, h14, h.1, b1, bnd_eq, b2, bnd_eq, show LX8_unseen_39 _ 300 0 0 s3 = _ from e8, i1]
  · unfold fX9_unseen
    have g48 : ∀ o : O, gd 49 48 o = o := fun o => gd_n (n := 49) (i := 48) (by decide) (by decide)
    have c48 : (48 : Int32).toNatClampNeg = 48 := rfl
    rw [g48, c48, k6 51 48 rfl, h48, d1, bnd_eq, show LX9_unseen_15 _ 300 0 0 s7 = _ from e9, j1]
