/-! mixed copies -/
def ub (R : Nat → Nat → Nat) (a b j : Nat) : Bool := !(R a j == 4) && !(R b j == 4) && !(R a j == R b j)
def ul (R : Nat → Nat → Nat) (a b j : Nat) : Nat := (ub R a b j).toNat
theorem ul_le (R : Nat → Nat → Nat) (a b j : Nat) : ul R a b j ≤ 1 := Bool.toNat_le _
theorem sumR_le {f : Nat → Nat} (h : ∀ i, f i ≤ 1) : ∀ n, sumR f n ≤ n := by
  intro n
  induction n with
  | zero => exact Nat.le_refl _
  | succ n ih =>
    show sumR f n + f n ≤ n + 1
    have := h n
    omega
def uF (R : Nat → Nat → Nat) (a b fr j : Nat) : Nat := if fr ≤ j then ul R a b j else 0
theorem unlikes_eq {σ : Mem} {n p : Nat} {R : Nat → Nat → Nat} (h : MM σ n p R) {a b fr to : Nat} (ha : a < n) (hb : b < n) (hf : fr ≤ to) (ht : to ≤ p) : fX9_unlikes (nI a) (nI b) (nI fr) (nI to) σ = some (nI (sumR (uF R a b fr) to), σ) := by
  have hp := h.2.2.2.1
  have h0 : sumR (uF R a b fr) fr = 0 := by
    rw [sumR_congr (g := fun _ => 0) (fun j hj => by unfold uF; rw [if_neg (by omega)]), sumR_0]
  have key := up_g (fun f j (c : Nat) => LX9_unlikes_6 (fun x5 σ9 => some (x5, σ9)) f (nI a) (nI b) (nI to) (nI c) (nI j) σ) to fr (sumR (uF R a b fr)) (fun c => some (nI c, σ))
    (fun f j h1 h2 => by
      show BX9_unlikes_6 _ _ (nI a) (nI b) (nI to) (nI (sumR (uF R a b fr) j)) (nI j) σ = LX9_unlikes_6 _ f (nI a) (nI b) (nI to) (nI (sumR (uF R a b fr) j + uF R a b fr j)) (nI (j + 1)) σ
      have r1 := (h.2.2.2.2 a ha j (by omega)).2
      have r2 := (h.2.2.2.2 b hb j (by omega)).2
      unfold BX9_unlikes_6
      rw [if_neg (nle_n h2 (by omega)), m_at h ha (by omega), m_at h hb (by omega), one_n, one_n, show (0 : Int32) = nI 0 from rfl, add_n]
      dsimp only [letv]
      have e : uF R a b fr j = (ub R a b j).toNat := by unfold uF; rw [if_pos h1]; rfl
      rw [e]
      unfold ub
      by_cases e1 : R a j = 4
      · rw [if_pos (show nI (R a j) = (4 : Int32) by rw [e1]; rfl), e1]
        rfl
      · rw [if_neg (show ¬ nI (R a j) = (4 : Int32) from ne_n (b := 4) e1 (by omega) (by decide)), beq_false_of_ne e1]
        by_cases e2 : R b j = 4
        · rw [if_pos (show nI (R b j) = (4 : Int32) by rw [e2]; rfl), e2]
          rfl
        · rw [if_neg (show ¬ nI (R b j) = (4 : Int32) from ne_n (b := 4) e2 (by omega) (by decide)), beq_false_of_ne e2]
          by_cases e3 : R a j = R b j
          · rw [if_pos (by rw [e3]), beq_iff_eq.mpr e3]
            rfl
          · rw [if_neg (ne_n e3 (by omega) (by omega)), beq_false_of_ne e3]
            rfl)
    (fun f => by
      show BX9_unlikes_6 _ _ (nI a) (nI b) (nI to) (nI (sumR (uF R a b fr) to)) (nI to) σ = _
      unfold BX9_unlikes_6
      rw [if_pos (le_n (Nat.le_refl to) (by omega))])
    300 hf (by omega)
  rw [h0] at key
  exact key
/-- the class's words of unlike places -/
def UWd (σ : Mem) (n p : Nat) (R : Nat → Nat → Nat) (a : Nat) : Prop := ∀ o, o < n → ∀ m, m < 32 → bt (σ 49 o) m = (decide (m < p) && ub R a o m)
theorem compare_eq {σ : Mem} {n p : Nat} {R : Nat → Nat → Nat} (h : CC σ n p R) {a : Nat} (ha : a < n) : ∃ σ', fX3_compare (nI a) σ = some (0, σ') ∧ UWd σ' n p R a ∧ Keep (nC [49]) σ σ' := by
  have hp := h.2.2.2.1
  have hn := h.2.2.1
  obtain ⟨σ', ⟨h1, h2⟩, e⟩ := up_k (fun f o (s : Mem) => LX3_compare_2 (fun σ9 => some (0, σ9)) f (nI a) (nI o) s) n (fun k s => (∀ o, o < k → ∀ m, m < 32 → bt (s 49 o) m = (decide (m < p) && ub R a o m)) ∧ Keep (nC [49]) σ s) (fun s => some (0, s))
    (fun f k s hk hI => by
      have hC : CC s n p R := h.keep hI.2 rfl rfl (fun _ => rfl)
      obtain ⟨w, w1, w2⟩ := up_k (fun g j (w : Int32) => LX3_compare_16 (fun x2 x3 x4 σ6 => bnd (fX5_put 48 6 x3 x4 σ6) (fun r7 σ8 => LX3_compare_2 (fun σ9 => some (0, σ9)) f x2 (x3 + 1) σ8)) g (nI a) (nI k) w (nI j) s) p (fun j w => ∀ m, m < 32 → bt w m = (decide (m < j) && ub R a k m)) (fun w => LX3_compare_2 (fun σ9 => some (0, σ9)) f (nI a) (nI (k + 1)) (stm s 49 k w))
        (fun g j w hj hw => by
          have r1 := (hC.2.2.2.2 a ha j hj).2
          have r2 := (hC.2.2.2.2 k hk j hj).2
          have hstep : ∀ X : O, (LX3_compare_16 (fun x2 x3 x4 σ6 => bnd (fX5_put 48 6 x3 x4 σ6) (fun r7 σ8 => LX3_compare_2 (fun σ9 => some (0, σ9)) f x2 (x3 + 1) σ8)) (g + 1) (nI a) (nI k) w (nI j) s = X) = (BX3_compare_16 (fun x2 x3 x4 σ6 => bnd (fX5_put 48 6 x3 x4 σ6) (fun r7 σ8 => LX3_compare_2 (fun σ9 => some (0, σ9)) f x2 (x3 + 1) σ8)) (LX3_compare_16 (fun x2 x3 x4 σ6 => bnd (fX5_put 48 6 x3 x4 σ6) (fun r7 σ8 => LX3_compare_2 (fun σ9 => some (0, σ9)) f x2 (x3 + 1) σ8)) g) (nI a) (nI k) w (nI j) s = X) := fun _ => rfl
          unfold BX3_compare_16 at hstep
          rw [hC.2.1, if_neg (nle_n hj (by omega)), b_at hC ha hj, b_at hC hk hj, one_n] at hstep
          dsimp only [letv] at hstep
          have hsame : ub R a k j = false → ∀ m, m < 32 → bt w m = (decide (m < j + 1) && ub R a k m) := by
            intro hu m hm
            rw [hw m hm]
            by_cases hmj : m = j
            · subst hmj
              rw [hu, Bool.and_false, Bool.and_false]
            · rw [decide_eq_decide.mpr (show m < j ↔ m < j + 1 by omega)]
          by_cases e1 : R a j = 4
          · rw [if_pos (show nI (R a j) = (4 : Int32) by rw [e1]; rfl)] at hstep
            exact ⟨w, hsame (by unfold ub; rw [e1]; rfl), by rw [hstep]⟩
          · rw [if_neg (show ¬ nI (R a j) = (4 : Int32) from ne_n (b := 4) e1 (by omega) (by decide))] at hstep
            by_cases e2 : R k j = 4
            · rw [if_pos (show nI (R k j) = (4 : Int32) by rw [e2]; rfl)] at hstep
              exact ⟨w, hsame (by unfold ub; rw [e2, beq_false_of_ne e1]; rfl), by rw [hstep]⟩
            · rw [if_neg (show ¬ nI (R k j) = (4 : Int32) from ne_n (b := 4) e2 (by omega) (by decide))] at hstep
              by_cases e3 : R a j = R k j
              · rw [if_pos (by rw [e3])] at hstep
                exact ⟨w, hsame (by unfold ub; rw [beq_iff_eq.mpr e3, Bool.not_true, Bool.and_false]), by rw [hstep]⟩
              · rw [if_neg (ne_n e3 (by omega) (by omega))] at hstep
                refine ⟨_, fun m hm => ?_, by rw [hstep]⟩
                rw [b_or, one_bt (by omega) hm, hw m hm]
                by_cases hmj : m = j
                · subst hmj
                  rw [beq_self_eq_true, Bool.or_true, decide_eq_true (by omega)]
                  unfold ub
                  rw [beq_false_of_ne e1, beq_false_of_ne e2, beq_false_of_ne e3]
                  rfl
                · rw [beq_false_of_ne hmj, Bool.or_false, decide_eq_decide.mpr (show m < j ↔ m < j + 1 by omega)])
        (fun g w hw => by
          show BX3_compare_16 _ _ (nI a) (nI k) w (nI p) s = _
          unfold BX3_compare_16
          rw [hC.2.1, if_pos (le_n (Nat.le_refl p) (by omega))]
          dsimp only
          rw [put_in (by omega) (by decide), bnd_eq, one_n])
        0 0 300 (by omega) (by omega) (fun m hm => by rw [b_0, decide_eq_false (by omega)]; rfl)
      refine ⟨stm s 49 k w, ⟨fun o ho m hm => ?_, hI.2.st rfl⟩, ?_⟩
      · by_cases hok : o = k
        · subst hok
          rw [stm_v]
          exact w1 m hm
        · rw [stm_k hok]
          exact hI.1 o (by omega) m hm
      · show BX3_compare_2 _ _ (nI a) (nI k) s = _
        unfold BX3_compare_2
        rw [hC.1, if_neg (nle_n hk (by omega))]
        exact w2)
    (fun f s hI => by
      show BX3_compare_2 _ _ (nI a) (nI n) s = _
      unfold BX3_compare_2
      rw [hI.2 4 1 rfl, h.1, if_pos (le_n (Nat.le_refl n) (by omega))])
    0 σ 300 (by omega) (by omega) ⟨fun o ho => absurd ho (Nat.not_lt_zero o), Keep.rf⟩
  exact ⟨σ', e, h1, h2⟩
theorem bc8 {w : Int32} (h : ∀ m, 8 ≤ m → m < 32 → bt w m = false) : bitC w = nI (sumR (fun j => (bt w j).toNat) 8) := by
  obtain ⟨y, y1, y2⟩ := y_ex (bt w)
  have e : w = nI y := by
    apply b_ext
    intro i hi
    rw [b_nI hi]
    by_cases h8 : i < 8
    · rw [y2 i h8]
    · rw [h i (by omega) hi, Nat.testBit_lt_two_pow (Nat.lt_of_lt_of_le y1 (show 2 ^ 8 ≤ 2 ^ i from Nat.pow_le_pow_right (by omega) (by omega)))]
  have hs := pop8_sum
  simp only [List.all_eq_true, List.mem_range, beq_iff_eq] at hs
  have e2 : sumR (fun j => (bt w j).toNat) 8 = pop8 y := by
    rw [hs y y1]
    apply sumR_congr
    intro j hj
    rw [y2 j hj]
    cases bt w j <;> rfl
  rw [e2, e, (spr_tab y1).2.1]
def pm (R : Nat → Nat → Nat) (p a c0 : Nat) : Nat → Nat
  | 0 => c0
  | k + 1 => if k = a then pm R p a c0 k else min (pm R p a c0 k) (sumR (ul R a k) p)
theorem pm_le (R : Nat → Nat → Nat) (p a c0 : Nat) : ∀ k, pm R p a c0 k ≤ c0 := by
  intro k
  induction k with
  | zero => exact Nat.le_refl _
  | succ k ih =>
    show (if k = a then _ else _) ≤ c0
    split <;> omega
theorem pm_two {R : Nat → Nat → Nat} {p a : Nat} (hp : p ≤ 8) : ∀ k, ((∀ i, i < k → i = a) ∧ pm R p a 9999 k = 9999) ∨ (pm R p a 9999 k = pm R p a 8 k) := by
  intro k
  induction k with
  | zero => exact Or.inl ⟨fun i hi => absurd hi (Nat.not_lt_zero i), rfl⟩
  | succ k ih =>
    by_cases hk : k = a
    · have e : ∀ c, pm R p a c (k + 1) = pm R p a c k := fun c => by
        show (if k = a then _ else _) = _
        rw [if_pos hk]
      rw [e, e]
      rcases ih with ⟨h1, h2⟩ | h
      · refine Or.inl ⟨fun i hi => ?_, h2⟩
        by_cases hik : i = k
        · omega
        · exact h1 i (by omega)
      · exact Or.inr h
    · have e : ∀ c, pm R p a c (k + 1) = min (pm R p a c k) (sumR (ul R a k) p) := fun c => by
        show (if k = a then _ else _) = _
        rw [if_neg hk]
      have h8 := sumR_le (ul_le R a k) p
      rw [e, e]
      rcases ih with ⟨h1, h2⟩ | h
      · have h3 : pm R p a 8 k = 8 := by
          have : ∀ k, (∀ i, i < k → i = a) → pm R p a 8 k = 8 := by
            intro k
            induction k with
            | zero => intro _; rfl
            | succ k ih =>
              intro hq
              show (if k = a then _ else _) = 8
              rw [if_pos (hq k (by omega))]
              exact ih (fun i hi => hq i (by omega))
          exact this k h1
        rw [h2, h3]
        exact Or.inr (by omega)
      · rw [h]
        exact Or.inr rfl
theorem word_sum {w : Int32} {p : Nat} {f : Nat → Bool} (hp : p ≤ 8) (h : ∀ m, m < 32 → bt w m = (decide (m < p) && f m)) : bitC w = nI (sumR (fun j => (f j).toNat) p) := by
  rw [bc8 (fun m h1 h2 => by rw [h m h2, decide_eq_false (by omega)]; rfl)]
  have := sumR_ext (f := fun j => (bt w j).toNat) (m := p) (8 - p) (fun i h1 h2 => by rw [h i (by omega), decide_eq_false (by omega)]; rfl)
  rw [show p + (8 - p) = 8 by omega] at this
  rw [this]
  congr 1
  apply sumR_congr
  intro j hj
  rw [h j (by omega), decide_eq_true hj]
  rfl
theorem plain_eq {σ : Mem} {n p : Nat} {R : Nat → Nat → Nat} (h : CC σ n p R) {a : Nat} (ha : a < n) (hU : UWd σ n p R a) : fX3_plain (nI a) σ = some (nI (pm R p a 8 n), σ) := by
  have hp := h.2.2.2.1
  have hn := h.2.2.1
  refine up_f (fun f i (c : Nat) => LX3_plain_6 (fun x3 σ6 => some (x3, σ6)) f (nI a) (nI c) (nI i) σ) n (pm R p a 8) (fun c => some (nI c, σ)) (fun f k hk => ?_) (fun f => ?_) 0 300 (by omega) (by omega)
  · show BX3_plain_6 _ _ (nI a) (nI (pm R p a 8 k)) (nI k) σ = LX3_plain_6 _ f (nI a) (nI (if k = a then pm R p a 8 k else min (pm R p a 8 k) (sumR (ul R a k) p))) (nI (k + 1)) σ
    unfold BX3_plain_6
    rw [h.1, if_neg (nle_n hk (by omega)), one_n]
    by_cases hka : k = a
    · rw [if_pos (by rw [hka]), if_pos hka]
    · have := pm_le R p a 8 k
      have := sumR_le (ul_le R a k) p
      rw [if_neg (ne_n hka (by omega) (by omega)), if_neg hka, at_in (by omega) (by decide), bnd_eq, bitC_eq, bnd_eq, show σ (48 + 1) k = σ 49 k from rfl, word_sum hp (hU k hk)]
      dsimp only [letv]
      rw [mn_n (by omega) (by show sumR (ul R a k) p < 2 ^ 31; omega)]
      rfl
  · show BX3_plain_6 _ _ (nI a) (nI (pm R p a 8 n)) (nI n) σ = _
    unfold BX3_plain_6
    rw [h.1, if_pos (le_n (Nat.le_refl n) (by omega))]
