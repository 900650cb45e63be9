/-! changes, directed, root -/
theorem RI_rM : ∀ c k, RI c k = true → rM c k = true := by
  intro c k h
  cases hr : rM c k with
  | true => rfl
  | false =>
    unfold rM at hr
    simp only [Bool.not_eq_false', Bool.or_eq_true, Bool.and_eq_true, beq_iff_eq] at hr
    rcases hr with (((rfl | rfl) | rfl) | rfl) | ⟨rfl, rfl | rfl⟩
    · exact absurd h (by show ¬ false = true; decide)
    · exact absurd h (by show ¬ false = true; decide)
    · exact absurd h (by show ¬ false = true; decide)
    · exact absurd h (by show ¬ false = true; decide)
    · exact absurd h (by show ¬ false = true; decide)
    · exact absurd h (by show ¬ false = true; decide)
/-- the class's scratch for trees -/
def cT : List Nat := [25, 27, 29, 30, 32, 34, 36, 38, 40, 42]
theorem RI_cT : ∀ c k, RI c k = true → nC cT c k = true := RI_nC (fun c hc k => by
  unfold cT at hc
  simp only [List.mem_cons, List.not_mem_nil, or_false] at hc
  rcases hc with rfl | rfl | rfl | rfl | rfl | rfl | rfl | rfl | rfl | rfl <;> rfl)
theorem CC.ri {σ σ' : Mem} {n p : Nat} {R : Nat → Nat → Nat} (h : CC σ n p R) (hK : Keep RI σ σ') : CC σ' n p R := h.keep hK rfl rfl (fun _ => rfl)
theorem MM.ri {σ σ' : Mem} {n p : Nat} {R : Nat → Nat → Nat} (h : MM σ n p R) (hK : Keep RI σ σ') : MM σ' n p R := h.keep hK rfl rfl (fun _ => rfl)
theorem changes_sm (hT : TreeOK) (hTE : TreeE) {σ : Mem} {n p : Nat} {R : Nat → Nat → Nat} (h : CC σ n p R) (m : MM σ n p R) (hp0 : n = 0 → p = 0) (x y : Int32) : Sm σ (fX8_changes x y) (fX9_changes x y) := by
  have hp := h.2.2.2.1
  have hn := h.2.2.1
  have hTN := TN_le (n := n)
  rcases rng x (show TN n < 2 ^ 31 by omega) with hx | ⟨t, ht, rfl⟩
  · exact Sm.same (r := -1) (by unfold fX8_changes; rw [isTree_no hn h.1 hx, bnd_eq, if_pos rfl]) (by unfold fX9_changes; rw [isTree9_no hn m.1 hx, bnd_eq, if_pos rfl])
  · by_cases hy1 : y = -1
    · subst hy1
      obtain ⟨s1, a1, a2, a3⟩ := loadSets_eq h (P := none) (fun j hj => by cases hj)
      have k1 : Keep (nC cT) σ s1 := a3.mono (nC_mono (by decide))
      obtain ⟨s2, b1, -, -, b4⟩ := changesOf_eq hT (σ := s1) hn ht (by rw [a3 4 1 rfl]; exact h.1)
      have k2 : Keep (nC cT) σ s2 := k1.tr (b4.mono (nC_mono (by decide)))
      have k3 : Keep RI σ s2 := k2.mono RI_cT
      obtain ⟨s3, c1, c2⟩ := changesOf9_eq hT hTE (m.ri k3) hp0 ht
      rw [sum_all hT hn hp ht a2] at b1
      refine ⟨nI (CHG n p R t), s2, s3, ?_, ?_, k3.tr (c2.mono RI_rM)⟩
      · unfold fX8_changes; rw [isTree_ok hn h.1 ht, bnd_eq, if_neg (by decide)]
        dsimp only [jn]
        rw [if_pos rfl, show fX8_loadSets (-1) σ = some (0, s1) from a1, bnd_eq, b1, bnd_eq]
      · unfold fX9_changes; rw [isTree9_ok hn (m.ri k3).1 ht, bnd_eq, if_neg (by decide)]
        dsimp only [jn]
        rw [if_pos rfl, if_pos rfl, c1, bnd_eq]
    · rcases rng y (show p < 2 ^ 31 by omega) with hy | ⟨j, hj, rfl⟩
      · refine Sm.same (r := -1) ?_ ?_
        · unfold fX8_changes; rw [isTree_ok hn h.1 ht, bnd_eq, if_neg (by decide)]
          dsimp only [jn]
          rw [if_neg hy1, cc_hasPlace_no h hy, bnd_eq, if_pos rfl]
        · unfold fX9_changes; rw [isTree9_ok hn m.1 ht, bnd_eq, if_neg (by decide)]
          dsimp only [jn]
          rw [if_neg hy1, mm_isPlace_no m hy, bnd_eq, if_pos rfl]
      · obtain ⟨s1, a1, a2, a3⟩ := loadSets_eq h (P := some j) (fun i hi => by cases hi; omega)
        have k1 : Keep (nC cT) σ s1 := a3.mono (nC_mono (by decide))
        obtain ⟨s2, b1, -, -, b4⟩ := changesOf_eq hT (σ := s1) hn ht (by rw [a3 4 1 rfl]; exact h.1)
        have k2 : Keep (nC cT) σ s2 := k1.tr (b4.mono (nC_mono (by decide)))
        have k3 : Keep RI σ s2 := k2.mono RI_cT
        obtain ⟨s3, c1, c2, c3, c4⟩ := layTree_eq hn ht (m.ri k3).1
        have k4 : Keep rM s2 s3 := c4.mono rM_T
        obtain ⟨s4, d1, d2⟩ := changesAt_eq hT hTE ((m.ri k3).keep c4 rfl rfl (fun _ => rfl)) (Or.inr hj) (by omega) ht c2 c3
        rw [sum_one hT (S := LSt n p R) hn ht (show j < 8 by omega) a2] at b1
        refine ⟨nI (CH1 n p R t j), s2, s4, ?_, ?_, k3.tr ((k4.tr (d2.mono rM_C)).mono RI_rM)⟩
        · unfold fX8_changes; rw [isTree_ok hn h.1 ht, bnd_eq, if_neg (by decide)]
          dsimp only [jn]
          rw [if_neg hy1, cc_hasPlace h hj, bnd_eq, if_neg (by decide), show fX8_loadSets (nI j) σ = some (0, s1) from a1, bnd_eq, b1, bnd_eq]
          rfl
        · unfold fX9_changes; rw [isTree9_ok hn (m.ri k3).1 ht, bnd_eq, if_neg (by decide)]
          dsimp only [jn]
          rw [if_neg hy1, mm_isPlace (m.ri k3) hj, bnd_eq, if_neg (by decide), if_neg hy1, c1, bnd_eq, d1, bnd_eq]
theorem mn4_le (c : Nat) (f : Nat → Nat) : mn4 c f ≤ c := by
  unfold mn4
  omega
theorem sumR_lek {f : Nat → Nat} {k : Nat} (h : ∀ i, f i ≤ k) : ∀ n, sumR f n ≤ n * k := by
  intro n
  induction n with
  | zero => exact Nat.zero_le _
  | succ n ih =>
    show sumR f n + f n ≤ (n + 1) * k
    have := h n
    rw [Nat.succ_mul]
    omega
theorem dcs_le {n p t e : Nat} {R : Nat → Nat → Nat} (hp : p ≤ 8) : dcs n p t e R ≤ 8000 := by
  unfold dcs
  have := sumR_lek (f := fun j => mn4 1000 (vA (fol0 (edg 6 n t) e).1 (fol0 (edg 6 n t) e).2 (fun x => LSt n p R x j) true 0)) (k := 1000) (fun j => mn4_le _ _) p
  omega
/-- sets loaded and the tree grown -/
theorem grown_eq {σ : Mem} {n p t : Nat} {R : Nat → Nat → Nat} (h : CC σ n p R) (ht : t < TN n) : ∃ s1 s2, fX8_loadSets (-1) σ = some (0, s1) ∧ fX7_grow (nI t) (s1 4 1) s1 = some (0, s2) ∧ EdG 27 29 25 2 s2 (edg 6 n t) ∧ (∀ x, x < 6 → ∀ i, i < 8 → nb (s2 42 x) i = LSt n p R x i) ∧ Keep (nC cT) σ s2 := by
  obtain ⟨s1, a1, a2, a3⟩ := loadSets_eq h (P := none) (fun j hj => by cases hj)
  obtain ⟨s2, b1, b2, b3⟩ := grow_eq (σ := s1) h.2.2.1 ht
  refine ⟨s1, s2, a1, by rw [a3 4 1 rfl, h.1]; exact b1, b2, fun x hx i hi => by rw [b3 42 x rfl]; exact a2 x hx i hi, (a3.mono (nC_mono (by decide))).tr (b3.mono (nC_mono (by decide)))⟩
theorem eN_2 {n e : Nat} (h : e < eN n) : 2 ≤ n := by
  unfold eN at h
  split at h <;> omega
theorem directed_sm (hT : TreeOK) (hTE : TreeE) {σ : Mem} {n p : Nat} {R : Nat → Nat → Nat} (h : CC σ n p R) (m : MM σ n p R) (x y : Int32) : Sm σ (fX8_directed x y) (fX9_directed x y) := by
  have hp := h.2.2.2.1
  have hn := h.2.2.1
  have hTN := TN_le (n := n)
  have h9 := eN_le hn
  rcases rng x (show TN n < 2 ^ 31 by omega) with hx | ⟨t, ht, rfl⟩
  · exact Sm.same (r := -1) (by unfold fX8_directed; rw [isTree_no hn h.1 hx, bnd_eq, if_pos rfl]) (by unfold fX9_directed; rw [isTree9_no hn m.1 hx, bnd_eq, if_pos rfl])
  · rcases rng y (show eN n < 2 ^ 31 by omega) with hy | ⟨e, he, rfl⟩
    · refine Sm.same (r := -1) ?_ (by unfold fX9_directed; rw [isTree9_ok hn m.1 ht, bnd_eq, if_neg (by decide), edges9_eq hn m.1, bnd_eq, mm_in (by omega) hy, bnd_eq, if_pos rfl])
      unfold fX8_directed; rw [isTree_ok hn h.1 ht, bnd_eq, if_neg (by decide)]
      by_cases h0 : y < 0
      · rw [if_pos h0]
      · have h1 := hy.resolve_left h0
        rw [if_neg h0, h.1, edgesOf_eq hn, bnd_eq, if_neg]
        rw [Int32.le_iff_toInt_le] at h1
        rw [Int32.lt_iff_toInt_lt]
        omega
    · obtain ⟨s1, s2, a1, a2, a3, a4, a5⟩ := grown_eq h ht
      have k2 : Keep RI σ s2 := a5.mono RI_cT
      obtain ⟨s3, b1, b2⟩ := costFrom_eq hT (h.ri k2) ht (eN_2 he) he a3 a4
      have k3 : Keep RI σ s3 := k2.tr ((b2.mono (nC_mono (a := [30, 32, 34, 36, 40]) (b := cT) (by decide))).mono RI_cT)
      obtain ⟨s4, c1, c2⟩ := directedOf_eq hT hTE (m.ri k3) ht (eN_2 he) he
      refine ⟨nI (dcs n p t e R), s3, s4, ?_, ?_, k3.tr (c2.mono RI_rM)⟩
      · unfold fX8_directed; rw [isTree_ok hn h.1 ht, bnd_eq, if_neg (by decide), if_neg (nI_pos (by omega)), h.1, edgesOf_eq hn, bnd_eq, if_pos (lt_n he (by omega)), a1, bnd_eq, a2, bnd_eq, b1, bnd_eq]
      · unfold fX9_directed; rw [isTree9_ok hn (m.ri k3).1 ht, bnd_eq, if_neg (by decide), edges9_eq hn (m.ri k3).1, bnd_eq, mm_in_ok (by omega) he, bnd_eq, if_neg (by decide), c1, bnd_eq]
/-- the first of the least -/
def rr (D : Nat → Nat) : Nat → Nat × Nat
  | 0 => (9999, 0)
  | k + 1 => if (rr D k).1 ≤ D k then rr D k else (D k, k)
theorem rr_s (D : Nat → Nat) (k : Nat) : rr D (k + 1) = if (rr D k).1 ≤ D k then rr D k else (D k, k) := rfl
theorem rr_0 (D : Nat → Nat) : rr D 0 = (9999, 0) := rfl
theorem rr_le {D : Nat → Nat} : ∀ k, (rr D k).1 ≤ 9999 ∧ (rr D k).2 ≤ k := by
  intro k
  induction k with
  | zero => rw [rr_0]; exact ⟨Nat.le_refl _, Nat.le_refl _⟩
  | succ k ih =>
    rw [rr_s]
    split
    · omega
    · dsimp only; omega
def rrI (z : Int32) (D : Nat → Nat) (k : Nat) : Int32 × Int32 := if k = 0 then (z, -9) else (nI (rr D k).1, nI (rr D k).2)
theorem rrI_0 (z : Int32) (D : Nat → Nat) : rrI z D 0 = (z, -9) := rfl
theorem rrI_p (z : Int32) (D : Nat → Nat) {k : Nat} (h : k ≠ 0) : rrI z D k = (nI (rr D k).1, nI (rr D k).2) := by
  unfold rrI
  rw [if_neg h]
theorem rr_1 {D : Nat → Nat} (h : ∀ k, D k ≤ 8000) : rr D 1 = (D 0, 0) := by
  rw [rr_s, rr_0, if_neg (by have := h 0; dsimp only; omega)]
theorem root8_eq (hT : TreeOK) {σ : Mem} {n p t : Nat} {R : Nat → Nat → Nat} (h : CC σ n p R) (ht : t < TN n) (hE : EdG 27 29 25 2 σ (edg 6 n t)) (hS : ∀ x, x < 6 → ∀ i, i < 8 → nb (σ 42 x) i = LSt n p R x i) : ∃ σ', LX8_root_38 (fun x3 σ10 => some (x3, σ10)) 300 0 (-9) 0 σ = some ((rrI 0 (fun e => dcs n p t e R) (eN n)).2, σ') ∧ Keep (nC [30, 32, 34, 36, 40]) σ σ' := by
  have hp := h.2.2.2.1
  have hn := h.2.2.1
  have h9 := eN_le hn
  have hD : ∀ e, (fun e => dcs n p t e R) e ≤ 8000 := fun e => dcs_le hp
  obtain ⟨a, ⟨i1, i2, i3⟩, e⟩ := up_k (fun f k (a : Int32 × Int32 × Mem) => LX8_root_38 (fun x3 σ10 => some (x3, σ10)) f a.1 a.2.1 (nI k) a.2.2) (eN n) (fun k a => a.1 = (rrI 0 (fun e => dcs n p t e R) k).1 ∧ a.2.1 = (rrI 0 (fun e => dcs n p t e R) k).2 ∧ Keep (nC [30, 32, 34, 36, 40]) σ a.2.2) (fun a => some (a.2.1, a.2.2))
    (fun f k a hk hI => by
      obtain ⟨x, y, s⟩ := a
      obtain ⟨i1, i2, i3⟩ := hI
      dsimp only at i1 i2 i3 ⊢
      obtain ⟨s2, b1, b2⟩ := costFrom_eq hT (h.keep i3 rfl rfl (fun _ => rfl)) ht (eN_2 hk) hk (hE.keep i3 (fun _ => rfl) (fun _ => rfl) rfl) (fun x hx i hi => by rw [i3 42 x rfl]; exact hS x hx i hi)
      have hstep : ∀ (X : O), (LX8_root_38 (fun x3 σ10 => some (x3, σ10)) (f + 1) x y (nI k) s = X) = (BX8_root_38 (fun x3 σ10 => some (x3, σ10)) (LX8_root_38 (fun x3 σ10 => some (x3, σ10)) f) x y (nI k) s = X) := fun _ => rfl
      unfold BX8_root_38 at hstep
      have h25 : s 25 2 = nI (eN n) := by rw [i3 25 2 rfl, hE.1, edg_len]
      rw [h25, if_neg (nle_n hk (by omega)), b1, bnd_eq, one_n] at hstep
      dsimp only [jn] at hstep
      refine ⟨((rrI 0 (fun e => dcs n p t e R) (k + 1)).1, (rrI 0 (fun e => dcs n p t e R) (k + 1)).2, s2), ⟨rfl, rfl, i3.tr b2⟩, ?_⟩
      rw [hstep, i1, i2]
      have hd := hD k
      dsimp only at hd ⊢
      by_cases h0 : k = 0
      · subst h0
        rw [rrI_0, rrI_p _ _ (Nat.succ_ne_zero 0), rr_1 hD]
        dsimp only
        rw [if_pos rfl, one_n]
      · have hle := rr_le (D := fun e => dcs n p t e R) k
        rw [rrI_p _ _ h0, rrI_p _ _ (Nat.succ_ne_zero k), rr_s]
        dsimp only
        rw [if_neg (ne_neg (by decide) (by omega)), one_n]
        by_cases hc : (rr (fun e => dcs n p t e R) k).1 ≤ dcs n p t k R
        · rw [if_pos hc, if_pos (le_n hc (by omega))]
        · rw [if_neg hc, if_neg (nle_n (by omega) (by omega))])
    (fun f a hI => by
      show BX8_root_38 _ _ a.1 a.2.1 (nI (eN n)) a.2.2 = _
      unfold BX8_root_38
      rw [hI.2.2 25 2 rfl, hE.1, edg_len, if_pos (le_n (Nat.le_refl _) (by omega))])
    0 (0, -9, σ) 300 (by omega) (by omega) ⟨rfl, rfl, Keep.rf⟩
  exact ⟨a.2.2, by rw [← i2]; exact e, i3⟩
theorem root9_eq (hT : TreeOK) (hTE : TreeE) {σ : Mem} {n p t : Nat} {R : Nat → Nat → Nat} (h : MM σ n p R) (ht : t < TN n) : ∃ σ', LX9_root_20 (fun x2 σ8 => some (x2, σ8)) 300 (nI t) (-9) 9999 0 σ = some ((rrI 9999 (fun e => dcs n p t e R) (eN n)).2, σ') ∧ Keep rM σ σ' := by
  have hp := h.2.2.2.1
  have hn := h.2.2.1
  have h9 := eN_le hn
  have hD : ∀ e, (fun e => dcs n p t e R) e ≤ 8000 := fun e => dcs_le hp
  obtain ⟨a, ⟨i1, i2, i3⟩, e⟩ := up_k (fun f k (a : Int32 × Int32 × Mem) => LX9_root_20 (fun x2 σ8 => some (x2, σ8)) f (nI t) a.2.1 a.1 (nI k) a.2.2) (eN n) (fun k a => a.1 = (rrI 9999 (fun e => dcs n p t e R) k).1 ∧ a.2.1 = (rrI 9999 (fun e => dcs n p t e R) k).2 ∧ Keep rM σ a.2.2) (fun a => some (a.2.1, a.2.2))
    (fun f k a hk hI => by
      obtain ⟨x, y, s⟩ := a
      obtain ⟨i1, i2, i3⟩ := hI
      dsimp only at i1 i2 i3 ⊢
      have hM : MM s n p R := h.keep i3 rfl rfl (fun _ => rfl)
      obtain ⟨s2, b1, b2⟩ := directedOf_eq hT hTE hM ht (eN_2 hk) hk
      have hstep : ∀ (X : O), (LX9_root_20 (fun x2 σ8 => some (x2, σ8)) (f + 1) (nI t) y x (nI k) s = X) = (BX9_root_20 (fun x2 σ8 => some (x2, σ8)) (LX9_root_20 (fun x2 σ8 => some (x2, σ8)) f) (nI t) y x (nI k) s = X) := fun _ => rfl
      unfold BX9_root_20 at hstep
      rw [edges9_eq hn hM.1, bnd_eq, if_neg (nle_n hk (by omega)), b1, bnd_eq] at hstep
      dsimp only [jn] at hstep
      refine ⟨((rrI 9999 (fun e => dcs n p t e R) (k + 1)).1, (rrI 9999 (fun e => dcs n p t e R) (k + 1)).2, s2), ⟨rfl, rfl, i3.tr b2⟩, ?_⟩
      rw [hstep, i1, i2]
      have hd := hD k
      dsimp only at hd ⊢
      by_cases h0 : k = 0
      · subst h0
        rw [rrI_0, rrI_p _ _ (Nat.succ_ne_zero 0), rr_1 hD]
        dsimp only
        rw [one_n, if_neg (show ¬ (9999 : Int32) ≤ nI (dcs n p t 0 R) from nle_n (a := 9999) (by omega) (by decide)), if_neg (show ¬ (9999 : Int32) ≤ nI (dcs n p t 0 R) from nle_n (a := 9999) (by omega) (by decide))]
      · have hle := rr_le (D := fun e => dcs n p t e R) k
        rw [rrI_p _ _ h0, rrI_p _ _ (Nat.succ_ne_zero k), rr_s]
        dsimp only
        rw [one_n]
        by_cases hc : (rr (fun e => dcs n p t e R) k).1 ≤ dcs n p t k R
        · rw [if_pos hc, if_pos (le_n hc (by omega)), if_pos (le_n hc (by omega))]
        · rw [if_neg hc, if_neg (nle_n (by omega) (by omega)), if_neg (nle_n (by omega) (by omega))])
    (fun f a hI => by
      show BX9_root_20 _ _ (nI t) a.2.1 a.1 (nI (eN n)) a.2.2 = _
      unfold BX9_root_20
      rw [edges9_eq hn (by rw [hI.2.2 50 0 rfl]; exact h.1), bnd_eq, if_pos (le_n (Nat.le_refl _) (by omega))])
    0 (9999, -9, σ) 300 (by omega) (by omega) ⟨rfl, rfl, Keep.rf⟩
  exact ⟨a.2.2, by rw [← i2]; exact e, i3⟩
theorem root_sm (hT : TreeOK) (hTE : TreeE) {σ : Mem} {n p : Nat} {R : Nat → Nat → Nat} (h : CC σ n p R) (m : MM σ n p R) (x : Int32) : Sm σ (fX8_root x) (fX9_root x) := by
  have hn := h.2.2.1
  have hTN := TN_le (n := n)
  rcases rng x (show TN n < 2 ^ 31 by omega) with hx | ⟨t, ht, rfl⟩
  · exact Sm.same (r := -1) (by unfold fX8_root; rw [isTree_no hn h.1 hx, bnd_eq, if_pos rfl]) (by unfold fX9_root; rw [isTree9_no hn m.1 hx, bnd_eq, if_pos rfl])
  · obtain ⟨s1, s2, a1, a2, a3, a4, a5⟩ := grown_eq h ht
    have k2 : Keep RI σ s2 := a5.mono RI_cT
    obtain ⟨s3, b1, b2⟩ := root8_eq hT (h.ri k2) ht a3 a4
    have k3 : Keep RI σ s3 := k2.tr ((b2.mono (nC_mono (a := [30, 32, 34, 36, 40]) (b := cT) (by decide))).mono RI_cT)
    obtain ⟨s4, c1, c2⟩ := root9_eq hT hTE (m.ri k3) ht
    refine ⟨(rrI 0 (fun e => dcs n p t e R) (eN n)).2, s3, s4, ?_, ?_, k3.tr (c2.mono RI_rM)⟩
    · unfold fX8_root; rw [isTree_ok hn h.1 ht, bnd_eq, if_neg (by decide), a1, bnd_eq, a2, bnd_eq, b1]
    · unfold fX9_root; rw [isTree9_ok hn (m.ri k3).1 ht, bnd_eq, if_neg (by decide), c1]
      unfold rrI
      by_cases h0 : eN n = 0
      · rw [if_pos h0, if_pos h0]
      · rw [if_neg h0, if_neg h0]
