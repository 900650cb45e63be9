/-! mixed copies: the search for two -/
abbrev S4 : Type := Nat × Nat × Nat × Nat
def stp (s : S4) (p q c v : Nat) : S4 := if s.1 ≤ v then s else (v, p, q, c)
def Vm (R : Nat → Nat → Nat) (P a p q c : Nat) : Nat := sumR (fun j => if j < c then ul R a p j else 0) P + sumR (uF R a q c) P
def m3 (R : Nat → Nat → Nat) (P a p q : Nat) : Nat → S4 → S4
  | 0, s => s
  | c + 1, s => if c = 0 then s else stp (m3 R P a p q c s) p q c (Vm R P a p q c)
def m2 (R : Nat → Nat → Nat) (P a p : Nat) : Nat → S4 → S4
  | 0, s => s
  | q + 1, s => if p = a ∨ q = a ∨ p = q then m2 R P a p q s else m3 R P a p q P (m2 R P a p q s)
def m1 (R : Nat → Nat → Nat) (P a n : Nat) : Nat → S4
  | 0 => (9, 0, 0, 0)
  | p + 1 => m2 R P a p n (m1 R P a n p)
theorem Vm_le {R : Nat → Nat → Nat} {P a p q c : Nat} (hP : P ≤ 8) : Vm R P a p q c ≤ 8 := by
  unfold Vm
  rw [← sumR_add]
  have := sumR_le (f := fun i => (if i < c then ul R a p i else 0) + uF R a q c i) (fun i => by
    have h1 := ul_le R a p i
    have h2 := ul_le R a q i
    unfold uF
    by_cases h : i < c
    · rw [if_pos h, if_neg (by omega)]; omega
    · rw [if_neg h, if_pos (by omega)]; omega) P
  omega
theorem stp_le {s : S4} {p q c v : Nat} : (stp s p q c v).1 ≤ s.1 ∧ (stp s p q c v).1 ≤ v := by
  unfold stp
  split
  · exact ⟨Nat.le_refl _, by assumption⟩
  · dsimp only; omega
theorem m3_le (R : Nat → Nat → Nat) (P a p q : Nat) (s : S4) : ∀ c, (m3 R P a p q c s).1 ≤ s.1 := by
  intro c
  induction c with
  | zero => exact Nat.le_refl _
  | succ c ih =>
    show (if c = 0 then s else _ : S4).1 ≤ _
    split
    · exact Nat.le_refl _
    · exact Nat.le_trans stp_le.1 ih
theorem m3_8 {R : Nat → Nat → Nat} {P a p q : Nat} (hP : P ≤ 8) (s : S4) {c : Nat} (hc : 2 ≤ c) : (m3 R P a p q c s).1 ≤ 8 := by
  obtain ⟨d, rfl⟩ : ∃ d, c = d + 1 := ⟨c - 1, by omega⟩
  show (if d = 0 then s else _ : S4).1 ≤ _
  rw [if_neg (by omega)]
  exact Nat.le_trans stp_le.2 (Vm_le hP)
theorem m2_le (R : Nat → Nat → Nat) (P a p : Nat) (s : S4) : ∀ q, (m2 R P a p q s).1 ≤ s.1 := by
  intro q
  induction q with
  | zero => exact Nat.le_refl _
  | succ q ih =>
    show (if p = a ∨ q = a ∨ p = q then _ else _ : S4).1 ≤ _
    split
    · exact ih
    · exact Nat.le_trans (m3_le _ _ _ _ _ _ _) ih
theorem m2_8 {R : Nat → Nat → Nat} {P a p : Nat} (hP : P ≤ 8) (h2 : 2 ≤ P) (s : S4) {q : Nat} (hq : ¬ (p = a ∨ q = a ∨ p = q)) : ∀ k, q < k → (m2 R P a p k s).1 ≤ 8 := by
  intro k
  induction k with
  | zero => intro h; omega
  | succ k ih =>
    intro hk
    show (if p = a ∨ k = a ∨ p = k then _ else _ : S4).1 ≤ _
    by_cases hkq : q = k
    · subst hkq
      rw [if_neg hq]
      exact m3_8 hP _ h2
    · split
      · exact ih (by omega)
      · exact Nat.le_trans (m3_le _ _ _ _ _ _ _) (ih (by omega))
theorem m1_8 {R : Nat → Nat → Nat} {P a n p q : Nat} (hP : P ≤ 8) (h2 : 2 ≤ P) (hq : ¬ (p = a ∨ q = a ∨ p = q)) (hqn : q < n) : ∀ k, p < k → (m1 R P a n k).1 ≤ 8 := by
  intro k
  induction k with
  | zero => intro h; omega
  | succ k ih =>
    intro hk
    show (m2 R P a k n (m1 R P a n k)).1 ≤ _
    by_cases hkp : p = k
    · subst hkp
      exact m2_8 hP h2 _ hq n hqn
    · exact Nat.le_trans (m2_le _ _ _ _ _ _) (ih (by omega))
theorem m1_no {R : Nat → Nat → Nat} {P a n : Nat} (ha : a < n) (h : n < 3 ∨ P < 2) : ∀ k, k ≤ n → m1 R P a n k = (9, 0, 0, 0) := by
  intro k
  induction k with
  | zero => intro _; rfl
  | succ k ih =>
    intro hk
    show m2 R P a k n (m1 R P a n k) = _
    rw [ih (by omega)]
    have : ∀ q, q ≤ n → m2 R P a k q (9, 0, 0, 0) = (9, 0, 0, 0) := by
      intro q
      induction q with
      | zero => intro _; rfl
      | succ q ihq =>
        intro hq
        show (if k = a ∨ q = a ∨ k = q then _ else _ : S4) = _
        by_cases hc : k = a ∨ q = a ∨ k = q
        · rw [if_pos hc]; exact ihq (by omega)
        · rw [if_neg hc, ihq (by omega)]
          rcases (by omega : P = 0 ∨ P = 1) with rfl | rfl
          · rfl
          · rfl
    exact this n (Nat.le_refl n)
def E8 (s : S4) (σ : Mem) : Prop := s.1 ≤ 9 ∧ σ 47 1 = nI s.1 ∧ (s.1 < 9 → σ 47 2 = nI s.2.1 ∧ σ 47 3 = nI s.2.2.1 ∧ σ 47 4 = nI s.2.2.2)
theorem ahead_all : (List.range 8).all (fun c => (List.range 32).all (fun m => bt (((1 : Int32) <<< (nI c &&& 31)) - 1) m == decide (m < c))) = true := by decide +kernel
theorem ahead_bt {c m : Nat} (hc : c < 8) (hm : m < 32) : bt (((1 : Int32) <<< (nI c &&& 31)) - 1) m = decide (m < c) := by
  have h := ahead_all
  simp only [List.all_eq_true, List.mem_range, beq_iff_eq] at h
  exact h c hc m hm
theorem tryTwo_eq {σ : Mem} {n p : Nat} {R : Nat → Nat → Nat} (h : CC σ n p R) {a x y : Nat} (hx : x < n) (hy : y < n) (hU : UWd σ n p R a) {s : S4} (hE : E8 s σ) : ∃ σ', fX3_tryTwo (nI x) (nI y) (nI p) σ = some (0, σ') ∧ E8 (m3 R p a x y p s) σ' ∧ Keep (nC [47]) σ σ' := by
  have hp := h.2.2.2.1
  have hn := h.2.2.1
  by_cases hp1 : p < 1
  · have h0 : p = 0 := by omega
    subst h0
    refine ⟨σ, ?_, hE, Keep.rf⟩
    show BX3_tryTwo_3 (fun σ15 => some (0, σ15)) (LX3_tryTwo_3 (fun σ15 => some (0, σ15)) 299) (nI x) (nI y) (nI 0) (nI 1) σ = _
    unfold BX3_tryTwo_3
    rw [if_pos (by decide)]
  · obtain ⟨σ', ⟨h1, h2, h3⟩, e⟩ := up_k (fun f c (s' : Mem) => LX3_tryTwo_3 (fun σ15 => some (0, σ15)) f (nI x) (nI y) (nI p) (nI c) s') p (fun c s' => 1 ≤ c ∧ E8 (m3 R p a x y c s) s' ∧ Keep (nC [47]) σ s') (fun s' => some (0, s'))
      (fun f c s' hc hI => by
        obtain ⟨i1, i2, i3⟩ := hI
        have hw : ∀ o, o < n → s' (48 + 1) o = σ 49 o := fun o _ => i3 49 o rfl
        have b1 : bitC (σ 49 x &&& (((1 : Int32) <<< (nI c &&& 31)) - 1)) = nI (sumR (fun j => (ub R a x j && decide (j < c)).toNat) p) := word_sum hp (fun m hm => by
          rw [b_and, hU x hx m hm, ahead_bt (by omega) hm, Bool.and_assoc])
        have b2 : bitC (σ 49 y &&& ((((1 : Int32) <<< (nI c &&& 31)) - 1) ^^^ (-1))) = nI (sumR (fun j => (ub R a y j && !(decide (j < c))).toNat) p) := word_sum hp (fun m hm => by
          rw [b_and, b_xor, hU y hy m hm, ahead_bt (by omega) hm, b_m1 m hm, Bool.and_assoc, Bool.xor_true])
        have e1 : sumR (fun j => (ub R a x j && decide (j < c)).toNat) p = sumR (fun j => if j < c then ul R a x j else 0) p := by
          apply sumR_congr
          intro j hj
          by_cases hjc : j < c
          · rw [decide_eq_true hjc, Bool.and_true, if_pos hjc]; rfl
          · rw [decide_eq_false hjc, Bool.and_false, if_neg hjc]; rfl
        have e2 : sumR (fun j => (ub R a y j && !(decide (j < c))).toNat) p = sumR (uF R a y c) p := by
          apply sumR_congr
          intro j hj
          unfold uF
          by_cases hjc : j < c
          · rw [decide_eq_true hjc, Bool.not_true, Bool.and_false, if_neg (by omega)]; rfl
          · rw [decide_eq_false hjc, Bool.not_false, Bool.and_true, if_pos (by omega)]; rfl
        have hV := Vm_le (R := R) (P := p) (a := a) (p := x) (q := y) (c := c) hp
        have hstep : ∀ X : O, (LX3_tryTwo_3 (fun σ15 => some (0, σ15)) (f + 1) (nI x) (nI y) (nI p) (nI c) s' = X) = (BX3_tryTwo_3 (fun σ15 => some (0, σ15)) (LX3_tryTwo_3 (fun σ15 => some (0, σ15)) f) (nI x) (nI y) (nI p) (nI c) s' = X) := fun _ => rfl
        unfold BX3_tryTwo_3 at hstep
        rw [if_neg (nle_n hc (by omega))] at hstep
        dsimp only [letv] at hstep
        rw [at_in (show x < 6 by omega) (by decide), bnd_eq, bitC_eq, bnd_eq, at_in (show y < 6 by omega) (by decide), bnd_eq, bitC_eq, bnd_eq, hw x hx, hw y hy, b1, b2, e1, e2, add_n, show sumR (fun j => if j < c then ul R a x j else 0) p + sumR (uF R a y c) p = Vm R p a x y c from rfl, i2.2.1, one_n] at hstep
        have em : m3 R p a x y (c + 1) s = stp (m3 R p a x y c s) x y c (Vm R p a x y c) := by
          show (if c = 0 then s else _ : S4) = _
          rw [if_neg (by omega)]
        have i9 := i2.1
        by_cases hle : (m3 R p a x y c s).1 ≤ Vm R p a x y c
        · rw [if_pos (le_n hle (by omega))] at hstep
          refine ⟨s', ⟨by omega, ?_, i3⟩, by rw [hstep]⟩
          rw [em]
          unfold stp
          rw [if_pos hle]
          exact i2
        · rw [if_neg (nle_n (by omega) (by omega))] at hstep
          dsimp only [letm] at hstep
          refine ⟨_, ⟨by omega, ?_, ?_⟩, by rw [hstep]⟩
          · rw [em]
            unfold stp
            rw [if_neg hle]
            refine ⟨by dsimp only; omega, ?_, fun _ => ⟨?_, ?_, ?_⟩⟩
            · rw [stm_k (by decide), stm_k (by decide), stm_k (by decide), stm_v]
            · rw [stm_k (by decide), stm_k (by decide), stm_v]
            · rw [stm_k (by decide), stm_v]
            · rw [stm_v]
          · exact (((i3.st rfl).st rfl).st rfl).st rfl)
      (fun f s' hI => by
        show BX3_tryTwo_3 _ _ (nI x) (nI y) (nI p) (nI p) s' = _
        unfold BX3_tryTwo_3
        rw [if_pos (le_n (Nat.le_refl p) (by omega))])
      1 σ 300 (by omega) (by omega) ⟨Nat.le_refl 1, hE, Keep.rf⟩
    exact ⟨σ', e, h2, h3⟩
theorem find_eq {σ : Mem} {n p : Nat} {R : Nat → Nat → Nat} (h : CC σ n p R) {a : Nat} (ha : a < n) (hU : UWd σ n p R a) : ∃ σ', fX3_find (nI a) σ = some (0, σ') ∧ E8 (m1 R p a n n) σ' ∧ Keep (nC [47]) σ σ' := by
  have hp := h.2.2.2.1
  have hn := h.2.2.1
  have hUk : ∀ s' : Mem, Keep (nC [47]) σ s' → UWd s' n p R a := fun s' hK o ho m hm => by rw [hK 49 o rfl]; exact hU o ho m hm
  obtain ⟨σ', ⟨h1, h2⟩, e⟩ := up_k (fun f x (s' : Mem) => LX3_find_8 (fun σ5 => some (0, σ5)) f (nI a) (nI x) s') n (fun x s' => E8 (m1 R p a n x) s' ∧ Keep (nC [47]) σ s') (fun s' => some (0, s'))
    (fun f x s' hx hI => by
      obtain ⟨s2, ⟨j1, j2⟩, e2⟩ := up_k (fun g y (s2 : Mem) => LX3_find_19 (fun x2 x3 σ4 => LX3_find_8 (fun σ5 => some (0, σ5)) f x2 (x3 + 1) σ4) g (nI a) (nI x) (nI y) s2) n (fun y s2 => E8 (m2 R p a x y (m1 R p a n x)) s2 ∧ Keep (nC [47]) σ s2) (fun s2 => LX3_find_8 (fun σ5 => some (0, σ5)) f (nI a) (nI (x + 1)) s2)
        (fun g y s2 hy hJ => by
          have hC : CC s2 n p R := h.keep hJ.2 rfl rfl (fun _ => rfl)
          have hstep : ∀ X : O, (LX3_find_19 (fun x2 x3 σ4 => LX3_find_8 (fun σ5 => some (0, σ5)) f x2 (x3 + 1) σ4) (g + 1) (nI a) (nI x) (nI y) s2 = X) = (BX3_find_19 (fun x2 x3 σ4 => LX3_find_8 (fun σ5 => some (0, σ5)) f x2 (x3 + 1) σ4) (LX3_find_19 (fun x2 x3 σ4 => LX3_find_8 (fun σ5 => some (0, σ5)) f x2 (x3 + 1) σ4) g) (nI a) (nI x) (nI y) s2 = X) := fun _ => rfl
          unfold BX3_find_19 at hstep
          rw [hC.1, if_neg (nle_n hy (by omega)), one_n] at hstep
          have em : m2 R p a x (y + 1) (m1 R p a n x) = if x = a ∨ y = a ∨ x = y then m2 R p a x y (m1 R p a n x) else m3 R p a x y p (m2 R p a x y (m1 R p a n x)) := rfl
          by_cases c1 : x = a
          · rw [if_pos (by rw [c1])] at hstep
            rw [if_pos (Or.inl c1)] at em
            exact ⟨s2, ⟨by rw [em]; exact hJ.1, hJ.2⟩, by rw [hstep]⟩
          · rw [if_neg (ne_n c1 (by omega) (by omega))] at hstep
            by_cases c2 : y = a
            · rw [if_pos (by rw [c2])] at hstep
              rw [if_pos (Or.inr (Or.inl c2))] at em
              exact ⟨s2, ⟨by rw [em]; exact hJ.1, hJ.2⟩, by rw [hstep]⟩
            · rw [if_neg (ne_n c2 (by omega) (by omega))] at hstep
              by_cases c3 : x = y
              · rw [if_pos (by rw [c3])] at hstep
                rw [if_pos (Or.inr (Or.inr c3))] at em
                exact ⟨s2, ⟨by rw [em]; exact hJ.1, hJ.2⟩, by rw [hstep]⟩
              · rw [if_neg (ne_n c3 (by omega) (by omega)), hC.2.1] at hstep
                rw [if_neg (by omega)] at em
                obtain ⟨s3, t1, t2, t3⟩ := tryTwo_eq hC hx hy (hUk s2 hJ.2) hJ.1
                rw [t1, bnd_eq] at hstep
                exact ⟨s3, ⟨by rw [em]; exact t2, hJ.2.tr t3⟩, by rw [hstep]⟩)
        (fun g s2 hJ => by
          show BX3_find_19 _ _ (nI a) (nI x) (nI n) s2 = _
          unfold BX3_find_19
          rw [hJ.2 4 1 rfl, h.1, if_pos (le_n (Nat.le_refl n) (by omega)), ← one_n])
        0 s' 300 (by omega) (by omega) hI
      refine ⟨s2, ⟨j1, j2⟩, ?_⟩
      show BX3_find_8 _ _ (nI a) (nI x) s' = _
      unfold BX3_find_8
      rw [hI.2 4 1 rfl, h.1, if_neg (nle_n hx (by omega))]
      exact e2)
    (fun f s' hI => by
      show BX3_find_8 _ _ (nI a) (nI n) s' = _
      unfold BX3_find_8
      rw [hI.2 4 1 rfl, h.1, if_pos (le_n (Nat.le_refl n) (by omega))])
    0 (stm σ 47 1 9) 300 (by omega) (by omega) ⟨⟨Nat.le_refl 9, stm_v _ _ _ _, fun z => absurd z (Nat.lt_irrefl 9)⟩, Keep.rf.st rfl⟩
  exact ⟨σ', e, h1, h2⟩
