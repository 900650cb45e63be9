/-! fitting readings -/
def ftW (V : Nat → Nat) (z : Nat) : Nat → Int32
  | 0 => 0
  | r + 1 => if V r = z then ftW V z r ||| ((1 : Int32) <<< (nI r &&& 31)) else ftW V z r
def KK (q : Nat) : Nat → Nat → Bool := fun c k => nC [60, 61] c k && !(c == 51 && k == q)
theorem KK_nC {q : Nat} : ∀ c k, KK q c k = true → nC [60, 61] c k = true := by
  intro c k h
  unfold KK at h
  rw [Bool.and_eq_true] at h
  exact h.1
theorem KK_at (q : Nat) : KK q 51 q = false := by
  unfold KK
  rw [beq_self_eq_true, beq_self_eq_true]
  rfl
theorem KK_ne {q k : Nat} (h : k ≠ q) : KK q 51 k = true := by
  unfold KK
  rw [beq_false_of_ne h]
  rfl
theorem KK_58 (q k : Nat) : KK q 58 k = true := rfl
theorem KK_59 (q k : Nat) : KK q 59 k = true := rfl
theorem KK_50 (q k : Nat) : KK q 50 k = true := rfl
theorem MM.kk {s1 s : Mem} {n p a j v : Nat} {R : Nat → Nat → Nat} (h : MM s1 n p R) (hK : Keep (KK (8 * a + j)) s1 s) (hj : j < p) (hv : v ≤ 4) : MM (stm s 51 (8 * a + j) (nI v)) n p (updR R a j v) := by
  have hp := h.2.2.2.1
  refine ⟨by rw [stm_ne (by decide), hK 50 0 (KK_50 _ _)]; exact h.1, by rw [stm_ne (by decide), hK 50 1 (KK_50 _ _)]; exact h.2.1, h.2.2.1, hp, fun x hx i hi => ?_⟩
  by_cases e : x = a ∧ i = j
  · rw [e.1, e.2, stm_v, updR_at]
    exact ⟨rfl, hv⟩
  · rw [updR_ne e, stm_k (by omega), hK 51 _ (KK_ne (by omega))]
    exact h.2.2.2.2 x hx i hi
/-- the reference's changes at a place, a reading set otherwise -/
theorem at9_eq (hT : TreeOK) (hTE : TreeE) {s1 s : Mem} {n p t a j r : Nat} {R : Nat → Nat → Nat} (m : MM s1 n p R) (ht : t < TN n) (hE : EdG 58 59 50 19 s1 (edg n n t)) (hN : s1 50 20 = nI (if n < 3 then n else 2 * n - 2)) (hK : Keep (KK (8 * a + j)) s1 s) (ha : a < n) (hj : j < p) (hr : r < 4) : ∃ s2, fX9_changesAt (nI j) (stm s 51 (8 * a + j) (nI r)) = some (nI (Vif n p R t a j r), s2) ∧ Keep (KK (8 * a + j)) s1 s2 ∧ s2 51 (8 * a + j) = nI r := by
  have hp := m.2.2.2.1
  have k1 : Keep (KK (8 * a + j)) s1 (stm s 51 (8 * a + j) (nI r)) := hK.st (KK_at _)
  obtain ⟨s2, b1, b2⟩ := changesAt_eq hT hTE (m.kk hK hj (show r ≤ 4 by omega)) (Or.inr hj) (by omega) ht (hE.keep k1 (KK_58 _) (KK_59 _) (KK_50 _ _)) (by rw [k1 50 20 (KK_50 _ _)]; exact hN)
  rw [CH1_upd ha hj hr] at b1
  exact ⟨s2, b1, k1.tr (b2.mono KK_nC), by rw [b2 51 _ rfl, stm_v]⟩
theorem fitting_sm (hT : TreeOK) (hTE : TreeE) (hK : TreeK) {σ : Mem} {n p t : Nat} {R : Nat → Nat → Nat} (h : CC σ n p R) (m : MM σ n p R) (ht : t < TN n) (h14 : σ 0 14 = nI t) (h48 : σ 51 48 = nI t) (x y : Int32) : Sm σ (fX8_fitting x y) (fX9_fitting x y) := by
  have hp := h.2.2.2.1
  have hn := h.2.2.1
  have hTN := TN_le (n := n)
  have hR : ∀ i, i < n → ∀ j, j < p → R i j ≤ 4 := fun i hi j hj => (h.2.2.2.2 i hi j hj).2
  rcases rng x (show n < 2 ^ 31 by omega) with hx | ⟨a, ha, rfl⟩
  · exact Sm.same (r := -1) (by unfold fX8_fitting; rw [has_no h hx, bnd_eq, if_pos rfl]) (by unfold fX9_fitting; rw [mm_isCopy_no m hx, bnd_eq, if_pos rfl])
  · rcases rng y (show p < 2 ^ 31 by omega) with hy | ⟨j, hj, rfl⟩
    · exact Sm.same (r := -1) (by unfold fX8_fitting; rw [has_no2 h ha hy, bnd_eq, if_pos rfl]) (by unfold fX9_fitting; rw [mm_isCopy m ha, bnd_eq, if_neg (by decide), mm_isPlace_no m hy, bnd_eq, if_pos rfl])
    · have r0 := hR a ha j hj
      have g48 : ∀ o : O, gd 49 48 o = o := fun o => gd_n (n := 49) (i := 48) (by decide) (by decide)
      have c48 : (48 : Int32).toNatClampNeg = 48 := rfl
      have eat : ((8 : Int32) * nI a + nI j : Int32) = nI (8 * a + j) := by rw [show (8 : Int32) = nI 8 from rfl, mul_n, add_n]
      by_cases h4 : R a j = 4
      · obtain ⟨s1, a1, a2, a3⟩ := loadSets_eq h (P := some j) (fun i hi => by cases hi; omega)
        have k1 : Keep (nC cT) σ s1 := a3.mono (nC_mono (by decide))
        obtain ⟨s2, b1, b2, b3, b4⟩ := changesOf_eq hT (σ := s1) hn ht (by rw [a3 4 1 rfl]; exact h.1)
        have k2 : Keep (nC cT) σ s2 := k1.tr (b4.mono (nC_mono (by decide)))
        rw [sum_one hT (S := LSt n p R) hn ht (show j < 8 by omega) a2] at b1
        have hS2 : ∀ x, x < 6 → ∀ i, i < 8 → nb (s2 42 x) i = if i = j then (fun x => LSt n p R x j) x else 15 := by
          intro x hx i hi
          rw [b4 42 x rfl, a2 x hx i hi]
          show (if i = j then LSt n p R x i else 15) = _
          by_cases hij : i = j
          · rw [if_pos hij, if_pos hij, hij]
          · rw [if_neg hij, if_neg hij]
        have hz : CH1 n p R t j ≤ 5 := chg1_le hK hn ht _
        obtain ⟨w, ⟨i1, i2⟩, e8⟩ := up_k (fun f r (w : Int32 × Mem) => LX8_fitting_50 (fun x4 σ12 => some (x4, σ12)) f (nI a) (nI j) (nI (CH1 n p R t j)) w.1 (nI r) w.2) 4 (fun r w => w.1 = ftW (Vif n p R t a j) (CH1 n p R t j) r ∧ Keep (nC [38]) s2 w.2) (fun w => some (w.1, w.2))
          (fun f r w hr hI => by
            obtain ⟨w, s⟩ := w
            obtain ⟨i1, i2⟩ := hI
            dsimp only at i1 i2 ⊢
            obtain ⟨s3, c1, c2⟩ := changesIf_eq hT (σ := s) (S := fun x => LSt n p R x j) (a := a) (j := j) (r := r) hn ht (fun h2 => ⟨(b2 h2).1.keep i2 (fun _ => rfl) (fun _ => rfl) rfl, fun q hq h6 => by rw [i2 36 q rfl]; exact (b2 h2).2 q hq h6⟩) (fun h2 => by rw [i2 30 5 rfl]; exact b3 h2) (fun x hx i hi => by rw [i2 42 x rfl]; exact hS2 x hx i hi) (by omega) (by omega) hr
            have hV := Vif_ge hT hn ht hR ha hj hr h4
            have hV5 := Vif_le hK (p := p) (R := R) (a := a) (j := j) (r := r) hn ht
            have hstep : ∀ X : O, (LX8_fitting_50 (fun x4 σ12 => some (x4, σ12)) (f + 1) (nI a) (nI j) (nI (CH1 n p R t j)) w (nI r) s = X) = (BX8_fitting_50 (fun x4 σ12 => some (x4, σ12)) (LX8_fitting_50 (fun x4 σ12 => some (x4, σ12)) f) (nI a) (nI j) (nI (CH1 n p R t j)) w (nI r) s = X) := fun _ => rfl
            unfold BX8_fitting_50 at hstep
            rw [if_neg (show ¬ (4 : Int32) ≤ nI r from nle_n (a := 4) hr (by decide)), show fX8_changesIf (nI a) (nI j) (nI r) s = some (nI (Vif n p R t a j r), s3) from c1, bnd_eq, one_n] at hstep
            dsimp only [letv] at hstep
            by_cases e : Vif n p R t a j r = CH1 n p R t j
            · rw [if_neg (nlt_n (by omega) (by omega))] at hstep
              refine ⟨(w ||| ((1 : Int32) <<< (nI r &&& 31)), s3), ⟨?_, i2.tr c2⟩, by rw [hstep]⟩
              dsimp only
              show _ = (if Vif n p R t a j r = CH1 n p R t j then _ else _)
              rw [if_pos e, i1]
            · rw [if_pos (lt_n (by omega) (by omega))] at hstep
              refine ⟨(w, s3), ⟨?_, i2.tr c2⟩, by rw [hstep]⟩
              dsimp only
              show _ = (if Vif n p R t a j r = CH1 n p R t j then _ else _)
              rw [if_neg e, i1])
          (fun f w hI => by
            show BX8_fitting_50 _ _ (nI a) (nI j) (nI (CH1 n p R t j)) w.1 (nI 4) w.2 = _
            unfold BX8_fitting_50
            rw [if_pos (show (4 : Int32) ≤ nI 4 by decide)])
          0 (0, s2) 300 (by omega) (by omega) ⟨rfl, Keep.rf⟩
        have k3 : Keep RI σ w.2 := (k2.tr (i2.mono (nC_mono (by decide)))).mono RI_cT
        have m3 := m.ri k3
        obtain ⟨s4, d1, d2, d3, d4⟩ := layTree_eq hn ht m3.1
        obtain ⟨s5, f1, f2⟩ := changesAt_eq hT hTE (m3.keep d4 rfl rfl (fun _ => rfl)) (Or.inr hj) (by omega) ht d2 d3
        have m5 : MM s5 n p R := (m3.keep d4 rfl rfl (fun _ => rfl)).keep f2 rfl rfl (fun _ => rfl)
        have k5 : Keep RI σ s5 := k3.tr (((d4.mono rM_T).tr (f2.mono rM_C)).mono RI_rM)
        obtain ⟨v, ⟨j1, j2⟩, e9⟩ := up_k (fun f r (w : Int32 × Mem) => LX9_fitting_62 (fun x3 x5 σ15 => gd 49 x3 (letm (stm σ15 51 x3.toNatClampNeg 4) (fun σ16 => some (x5, σ16)))) f (nI j) (nI (8 * a + j)) (nI (CH1 n p R t j)) w.1 (nI r) w.2) 4 (fun r w => w.1 = ftW (Vif n p R t a j) (CH1 n p R t j) r ∧ Keep (KK (8 * a + j)) s5 w.2) (fun w => some (w.1, stm w.2 51 (8 * a + j) 4))
          (fun f r w hr hI => by
            obtain ⟨w, s⟩ := w
            obtain ⟨i1, i2⟩ := hI
            dsimp only at i1 i2 ⊢
            have hV5 := Vif_le hK (p := p) (R := R) (a := a) (j := j) (r := r) hn ht
            obtain ⟨s6, c1, c2, -⟩ := at9_eq hT hTE m5 ht (d2.keep f2 (fun _ => rfl) (fun _ => rfl) rfl) (by rw [f2 50 20 rfl]; exact d3) i2 ha hj hr
            have hstep : ∀ X : O, (LX9_fitting_62 (fun x3 x5 σ15 => gd 49 x3 (letm (stm σ15 51 x3.toNatClampNeg 4) (fun σ16 => some (x5, σ16)))) (f + 1) (nI j) (nI (8 * a + j)) (nI (CH1 n p R t j)) w (nI r) s = X) = (BX9_fitting_62 (fun x3 x5 σ15 => gd 49 x3 (letm (stm σ15 51 x3.toNatClampNeg 4) (fun σ16 => some (x5, σ16)))) (LX9_fitting_62 (fun x3 x5 σ15 => gd 49 x3 (letm (stm σ15 51 x3.toNatClampNeg 4) (fun σ16 => some (x5, σ16)))) f) (nI j) (nI (8 * a + j)) (nI (CH1 n p R t j)) w (nI r) s = X) := fun _ => rfl
            unfold BX9_fitting_62 at hstep
            rw [if_neg (show ¬ (4 : Int32) ≤ nI r from nle_n (a := 4) hr (by decide)), gd_n (by omega) (by decide), cl_n (by omega)] at hstep
            dsimp only [letm, letv] at hstep
            rw [c1, bnd_eq, one_n, or_0] at hstep
            by_cases e : Vif n p R t a j r = CH1 n p R t j
            · rw [if_pos (by rw [e])] at hstep
              refine ⟨(w ||| ((1 : Int32) <<< (nI r &&& 31)), s6), ⟨?_, c2⟩, (hstep _).mpr rfl⟩
              dsimp only
              show _ = (if Vif n p R t a j r = CH1 n p R t j then _ else _)
              rw [if_pos e, i1]
            · rw [if_neg (ne_n e (by omega) (by omega))] at hstep
              refine ⟨(w, s6), ⟨?_, c2⟩, (hstep _).mpr rfl⟩
              dsimp only
              show _ = (if Vif n p R t a j r = CH1 n p R t j then _ else _)
              rw [if_neg e, i1])
          (fun f w hI => by
            show BX9_fitting_62 _ _ (nI j) (nI (8 * a + j)) (nI (CH1 n p R t j)) w.1 (nI 4) w.2 = _
            unfold BX9_fitting_62
            rw [if_pos (show (4 : Int32) ≤ nI 4 by decide)]
            dsimp only [letm]
            rw [gd_n (by omega) (by decide), cl_n (by omega)])
          0 (0, s5) 300 (by omega) (by omega) ⟨rfl, Keep.rf⟩
        refine ⟨ftW (Vif n p R t a j) (CH1 n p R t j) 4, w.2, stm v.2 51 (8 * a + j) 4, ?_, ?_, ?_⟩
        · unfold fX8_fitting
          rw [cc_has h ha hj, bnd_eq, if_neg (by decide), b_at h ha hj, if_pos (show nI (R a j) = (4 : Int32) by rw [h4]; rfl), show fX8_loadSets (nI j) σ = some (0, s1) from a1, bnd_eq, k1 0 14 rfl, h14, b1, bnd_eq, show LX8_fitting_50 _ 300 (nI a) (nI j) (nI (chg1 n t (fun x => LSt n p R x j))) 0 0 s2 = _ from e8, i1]
        · unfold fX9_fitting
          rw [mm_isCopy m3 ha, bnd_eq, if_neg (by decide), mm_isPlace m3 hj, bnd_eq, if_neg (by decide), eat]
          dsimp only [letv]
          rw [gd_n (by omega) (by decide), cl_n (by omega), (m3.2.2.2.2 a ha j hj).1, if_pos (show nI (R a j) = (4 : Int32) by rw [h4]; rfl), g48, c48, k3 51 48 rfl, h48, d1, bnd_eq, f1, bnd_eq, show LX9_fitting_62 _ 300 (nI j) (nI (8 * a + j)) (nI (CH1 n p R t j)) 0 0 s5 = _ from e9, j1]
        · intro c k hck
          by_cases hc : c = 51
          · subst hc
            by_cases hk : k = 8 * a + j
            · subst hk
              rw [stm_v, (m.2.2.2.2 a ha j hj).1, h4]
              rfl
            · rw [stm_k hk, j2 51 k (KK_ne hk)]
              exact k5 51 k hck
          · rw [stm_ne hc]
            have hkk : KK (8 * a + j) c k = true := by
              unfold KK
              rw [rM_C c k (RI_rM c k hck), beq_false_of_ne hc]
              rfl
            rw [j2 c k hkk]
            exact k5 c k hck
      · refine Sm.same (r := -9) ?_ ?_
        · unfold fX8_fitting
          rw [cc_has h ha hj, bnd_eq, if_neg (by decide), b_at h ha hj, if_neg (show ¬ nI (R a j) = (4 : Int32) from ne_n (b := 4) h4 (by omega) (by decide))]
        · unfold fX9_fitting
          rw [mm_isCopy m ha, bnd_eq, if_neg (by decide), mm_isPlace m hj, bnd_eq, if_neg (by decide), eat]
          dsimp only [letv]
          rw [gd_n (by omega) (by decide), cl_n (by omega), (m.2.2.2.2 a ha j hj).1, if_neg (show ¬ nI (R a j) = (4 : Int32) from ne_n (b := 4) h4 (by omega) (by decide))]
