/-! one reading set otherwise -/
theorem bitnb_all : (List.range 8).all (fun j => (List.range 4).all (fun r => (List.range 8).all (fun i => nb ((1 : Int32) <<< ((((4 : Int32) * nI j) + nI r) &&& 31)) i == if i = j then 2 ^ r else 0))) = true := by decide +kernel
theorem bitnb {j r i : Nat} (hj : j < 8) (hr : r < 4) (hi : i < 8) : nb ((1 : Int32) <<< ((((4 : Int32) * nI j) + nI r) &&& 31)) i = if i = j then 2 ^ r else 0 := by
  have h := bitnb_all
  simp only [List.all_eq_true, List.mem_range, beq_iff_eq] at h
  exact h j hj r hr i hi
theorem changesIf_eq (hT : TreeOK) {σ : Mem} {n t a j r : Nat} {S : Nat → Nat} (hn : n ≤ 6) (ht : t < TN n) (hD : 2 ≤ n → DeC σ (fol0 (edg 6 n t) 0).1 (fol0 (edg 6 n t) 0).2) (h0 : n < 2 → σ 30 5 = 0) (hS : ∀ x, x < 6 → ∀ i, i < 8 → nb (σ 42 x) i = if i = j then S x else 15) (ha : a < 6) (hj : j < 8) (hr : r < 4) : ∃ σ', fX8_changesIf (nI a) (nI j) (nI r) σ = some (nI (chg1 n t (fun x => if x = a then 2 ^ r else S x)), σ') ∧ Keep (nC [38]) σ σ' := by
  obtain ⟨w, hw⟩ : ∃ w : Int32, w = (σ 42 a &&& (((15 : Int32) <<< (((4 : Int32) * nI j) &&& 31)) ^^^ (-1))) ||| ((1 : Int32) <<< ((((4 : Int32) * nI j) + nI r) &&& 31)) := ⟨_, rfl⟩
  obtain ⟨s1, hs1⟩ : ∃ s1 : Mem, s1 = stm σ 42 a w := ⟨_, rfl⟩
  have k1 : Keep (nC [42]) σ s1 := by rw [hs1]; exact Keep.rf.st rfl
  have hS1 : ∀ x, x < 6 → ∀ i, i < 8 → nb (s1 42 x) i = if i = j then (fun x _ => if x = a then 2 ^ r else S x) x i else 15 := by
    intro x hx i hi
    rw [hs1]
    by_cases hxa : x = a
    · subst hxa
      rw [stm_v, hw, nb_or, nb_and, (mask_nb hj hi).1, bitnb hj hr hi]
      by_cases hij : i = j
      · rw [if_pos hij, if_pos hij, if_pos hij]
        dsimp only
        rw [if_pos rfl, Nat.and_zero, Nat.zero_or]
      · rw [if_neg hij, if_neg hij, if_neg hij, Nat.or_zero, and15 (nb_lt _ _), hS x hx i hi, if_neg hij]
    · rw [stm_k hxa, hS x hx i hi]
      by_cases hij : i = j
      · rw [if_pos hij, if_pos hij]
        dsimp only
        rw [if_neg hxa]
      · rw [if_neg hij, if_neg hij]
  obtain ⟨s2, b1, b2⟩ := over_eq hT (σ := s1) hn ht (fun h2 => ⟨(hD h2).1.keep k1 (fun _ => rfl) (fun _ => rfl) rfl, fun q hq h6 => by rw [k1 36 q rfl]; exact (hD h2).2 q hq h6⟩) (fun h2 => by rw [k1 30 5 rfl]; exact h0 h2)
  rw [sum_one hT (S := fun x _ => if x = a then 2 ^ r else S x) hn ht hj hS1] at b1
  refine ⟨stm s2 42 a (σ 42 a), ?_, ?_⟩
  · unfold fX8_changesIf fX8_bitsOf fX8_bitOf
    rw [at_in ha (by decide), bnd_eq, bnd_eq, bnd_eq, put_in ha (by decide), bnd_eq, show stm σ (41 + 1) a ((σ (41 + 1) a &&& (((15 : Int32) <<< (((4 : Int32) * nI j) &&& 31)) ^^^ (-1))) ||| ((1 : Int32) <<< ((((4 : Int32) * nI j) + nI r) &&& 31))) = s1 by rw [hs1, hw], b1, bnd_eq, put_in ha (by decide), bnd_eq]
  · intro c k hck
    by_cases hc : c = 42
    · subst hc
      by_cases hk : k = a
      · subst hk; rw [stm_v]
      · rw [stm_k hk, b2 42 k rfl, hs1, stm_k hk]
    · rw [stm_ne hc, b2 c k hck, hs1, stm_ne hc]
/-- more freedom costs no more -/
def CVle (c c' : CV) : Prop := ∀ w r, r < 4 → c w r ≤ c' w r
theorem dnC_mono {cap : Nat} {d : Bool} {f g : Nat → Nat} (h : ∀ r, r < 4 → f r ≤ g r) (r : Nat) : dnC cap d f r ≤ dnC cap d g r := by
  have h0 := h 0 (by omega)
  have h1 := h 1 (by omega)
  have h2 := h 2 (by omega)
  have h3 := h 3 (by omega)
  unfold dnC
  omega
theorem mn4_mono {cap : Nat} {f g : Nat → Nat} (h : ∀ r, r < 4 → f r ≤ g r) : mn4 cap f ≤ mn4 cap g := by
  have h0 := h 0 (by omega)
  have h1 := h 1 (by omega)
  have h2 := h 2 (by omega)
  have h3 := h 3 (by omega)
  unfold mn4
  omega
theorem exP_mono {cap : Nat} {d : Bool} : ∀ (P : PL) (c c' : CV), CVle c c' → CVle (exP (dnC cap d) P c) (exP (dnC cap d) P c') := by
  intro P
  induction P with
  | nil => intro c c' h; exact h
  | cons a P ih =>
    intro c c' h
    show CVle (exP (dnC cap d) P (tk (dnC cap d) a c)) (exP (dnC cap d) P (tk (dnC cap d) a c'))
    refine ih _ _ (fun w r hr => ?_)
    unfold tk
    have h1 := h w r hr
    have h2 := dnC_mono (cap := cap) (d := d) (f := c a.1) (g := c' a.1) (fun q hq => h a.1 q hq) r
    by_cases hw : w = a.2
    · rw [if_pos hw, if_pos hw]; omega
    · rw [if_neg hw, if_neg hw]; exact h1
theorem lfc_15 : ∀ r, r < 4 → lfc 9999 15 r = 0 := by decide
theorem chg1_mono (hT : TreeOK) {n t a : Nat} {S S' : Nat → Nat} (hn : n ≤ 6) (ht : t < TN n) (hS : NS n S) (hS' : NS n S') (h : ∀ x, x < n → x ≠ a → S x = S' x) (ha : S a = 15) : chg1 n t S ≤ chg1 n t S' := by
  by_cases h2 : 2 ≤ n
  · obtain ⟨P, -, -, p3⟩ := und_plan hT h2 hn ht
    rw [← p3 S hS, ← p3 S' hS']
    apply mn4_mono
    intro r hr
    refine exP_mono P _ _ (fun w q hq => ?_) 0 r hr
    unfold c0M
    by_cases hw : w < n
    · rw [if_pos hw, if_pos hw]
      by_cases hwa : w = a
      · subst hwa
        rw [ha, lfc_15 q hq]
        exact Nat.zero_le _
      · rw [h w hw hwa]
        exact Nat.le_refl _
    · rw [if_neg hw, if_neg hw]
      exact Nat.le_refl _
  · unfold chg1
    rw [if_pos (by omega), if_pos (by omega)]
    exact Nat.le_refl _
def updR (R : Nat → Nat → Nat) (a j v : Nat) : Nat → Nat → Nat := fun x i => if x = a ∧ i = j then v else R x i
theorem updR_at (R : Nat → Nat → Nat) (a j v : Nat) : updR R a j v a j = v := by
  unfold updR
  rw [if_pos ⟨rfl, rfl⟩]
theorem updR_ne {R : Nat → Nat → Nat} {a j v x i : Nat} (h : ¬ (x = a ∧ i = j)) : updR R a j v x i = R x i := by
  unfold updR
  rw [if_neg h]
theorem MM.upd {σ : Mem} {n p a j v : Nat} {R : Nat → Nat → Nat} (h : MM σ n p R) (hj : j < p) (hv : v ≤ 4) : MM (stm σ 51 (8 * a + j) (nI v)) n p (updR R a j v) := by
  have hp := h.2.2.2.1
  refine ⟨by rw [stm_ne (by decide)]; exact h.1, by rw [stm_ne (by decide)]; exact h.2.1, h.2.2.1, hp, fun x hx i hi => ?_⟩
  unfold updR
  by_cases e : x = a ∧ i = j
  · rw [if_pos e, e.1, e.2, stm_v]
    exact ⟨rfl, hv⟩
  · rw [if_neg e, stm_k (by omega)]
    exact h.2.2.2.2 x hx i hi
theorem CC.upd {σ : Mem} {n p a j v : Nat} {R : Nat → Nat → Nat} (h : CC σ n p R) (hj : j < p) (hv : v ≤ 4) : CC (stm σ 6 (8 * a + j) (nI v)) n p (updR R a j v) := by
  have hp := h.2.2.2.1
  refine ⟨by rw [stm_ne (by decide)]; exact h.1, by rw [stm_ne (by decide)]; exact h.2.1, h.2.2.1, hp, fun x hx i hi => ?_⟩
  unfold updR
  by_cases e : x = a ∧ i = j
  · rw [if_pos e, e.1, e.2, stm_v]
    exact ⟨rfl, hv⟩
  · rw [if_neg e, stm_k (by omega)]
    exact h.2.2.2.2 x hx i hi
/-- changes at a place if a copy had a reading there -/
def Vif (n p : Nat) (R : Nat → Nat → Nat) (t a j r : Nat) : Nat := chg1 n t (fun x => if x = a then 2 ^ r else LSt n p R x j)
theorem CH1_upd {n p t a j r : Nat} {R : Nat → Nat → Nat} (ha : a < n) (hj : j < p) (hr : r < 4) : CH1 n p (updR R a j r) t j = Vif n p R t a j r := by
  unfold CH1 Vif
  apply chg1_congr
  intro x hx
  by_cases hxa : x = a
  · subst hxa
    rw [if_pos rfl]
    unfold LSt
    rw [if_pos ⟨ha, hj⟩, updR_at]
    unfold lfS
    rw [if_neg (by omega)]
  · rw [if_neg hxa]
    unfold LSt
    rw [updR_ne (by omega)]
theorem Vif_ge (hT : TreeOK) {n p t a j r : Nat} {R : Nat → Nat → Nat} (hn : n ≤ 6) (ht : t < TN n) (hR : ∀ i, i < n → ∀ j, j < p → R i j ≤ 4) (ha : a < n) (hj : j < p) (hr : r < 4) (h4 : R a j = 4) : CH1 n p R t j ≤ Vif n p R t a j r := by
  unfold CH1 Vif
  refine chg1_mono hT (a := a) hn ht (LSt_ns hR) (fun x hx => ?_) (fun x hx hxa => by rw [if_neg hxa]) ?_
  · by_cases hxa : x = a
    · rw [if_pos hxa]
      have h1 : 2 ^ r ≤ 2 ^ 3 := Nat.pow_le_pow_right (by omega) (by omega)
      have h2 : 0 < 2 ^ r := Nat.pow_pos (by omega)
      omega
    · rw [if_neg hxa]
      exact LSt_ns (j := j) hR x hx
  · unfold LSt
    rw [if_pos ⟨ha, hj⟩, h4]
    rfl
theorem Vif_le (hK : TreeK) {n p t a j r : Nat} {R : Nat → Nat → Nat} (hn : n ≤ 6) (ht : t < TN n) : Vif n p R t a j r ≤ 5 := chg1_le hK hn ht _
