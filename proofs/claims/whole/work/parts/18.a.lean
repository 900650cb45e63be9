/-! what holds between class and reference; small calls -/
def TX (σ : Mem) : Prop := ∃ L, L ≤ 90 ∧ σ 1 1 = nI L ∧ σ 50 10 = nI L ∧ ∀ k, k < L → σ 3 k = σ 56 k
def SN (σ : Mem) : Prop := ∃ s, s ≤ 6 ∧ σ 0 13 = nI s ∧ σ 50 6 = nI s ∧ ∀ k, k < s → σ 24 k = σ 53 k
def IM (σ : Mem) (n p ci i : Nat) : Prop := (σ ci 2 = 0 ∧ σ 54 i = 0) ∨ (σ ci 2 = 1 ∧ σ 54 i = 1 ∧ σ (ci + 1) 1 = nI n ∧ σ (ci + 1) 2 = nI p ∧ ∃ (R' : Nat → Nat → Nat) (t' : Nat), t' < TN n ∧ σ ci 1 = nI t' ∧ σ 55 (49 * i + 48) = nI t' ∧ ∀ a, a < n → ∀ b, b < p → σ (ci + 3) (8 * a + b) = nI (R' a b) ∧ σ 55 (49 * i + (8 * a + b)) = nI (R' a b) ∧ R' a b ≤ 4)
def StU (n p : Nat) (cell before : Int32) (R : Nat → Nat → Nat) (t : Nat) (R' : Nat → Nat → Nat) (t' : Nat) : Prop := (cell = -1 ∧ before = nI t' ∧ ∀ i, i < n → ∀ k, k < p → R' i k = R i k) ∨ ∃ i k, i < n ∧ k < p ∧ cell = nI (8 * i + k) ∧ t' = t ∧ before = nI (R' i k) ∧ ∀ i', i' < n → ∀ k', k' < p → ¬ (i' = i ∧ k' = k) → R' i' k' = R i' k'
def SnP (σ : Mem) (n p q : Nat) (R : Nat → Nat → Nat) (t : Nat) : Prop := t < TN n ∧ σ 52 (49 * q + 48) = nI t ∧ ∀ i, i < n → ∀ k, k < p → σ 52 (49 * q + (8 * i + k)) = nI (R i k) ∧ R i k ≤ 4
def UN (σ : Mem) (n p : Nat) (R : Nat → Nat → Nat) (t : Nat) : Prop := ∃ (d a : Nat) (RS : Nat → Nat → Nat → Nat) (TS : Nat → Nat), d ≤ 10 ∧ a < 10 ∧ σ 10 2 = nI d ∧ σ 50 3 = nI d ∧ σ 50 4 = nI a ∧ RS 0 = R ∧ TS 0 = t ∧ ∀ j, j < d → SnP σ n p ((a + 9 - j) % 10) (RS (j + 1)) (TS (j + 1)) ∧ StU n p (σ 12 (d - 1 - j)) (σ 14 (d - 1 - j)) (RS j) (TS j) (RS (j + 1)) (TS (j + 1))
def Inv0 (σ : Mem) (n p : Nat) (R : Nat → Nat → Nat) (t : Nat) : Prop := CC σ n p R ∧ MM σ n p R ∧ (n = 0 → p = 0) ∧ (p = 0 → n = 0) ∧ t < TN n ∧ σ 0 14 = nI t ∧ σ 51 48 = nI t ∧ TX σ ∧ SN σ ∧ IM σ n p 15 0 ∧ IM σ n p 19 1 ∧ UN σ n p R t ∧ WW σ n p R
def Inv (σ : Mem) : Prop := ∃ n p R t, Inv0 σ n p R t
def Nx (σ : Mem) (f8 f9 : Mem → O) : Prop := ∃ r σ1 σ2, f8 σ = some (r, σ1) ∧ f9 σ1 = some (r, σ2) ∧ Inv σ2
theorem TX.keep {σ σ' : Mem} {Rl : Nat → Nat → Bool} (h : TX σ) (hK : Keep Rl σ σ') (h1 : Rl 1 1 = true) (h2 : Rl 50 10 = true) (h3 : ∀ k, Rl 3 k = true) (h4 : ∀ k, Rl 56 k = true) : TX σ' := by
  obtain ⟨L, a, b, c, d⟩ := h
  exact ⟨L, a, by rw [hK _ _ h1]; exact b, by rw [hK _ _ h2]; exact c, fun k hk => by rw [hK _ _ (h3 k), hK _ _ (h4 k)]; exact d k hk⟩
theorem SN.keep {σ σ' : Mem} {Rl : Nat → Nat → Bool} (h : SN σ) (hK : Keep Rl σ σ') (h1 : Rl 0 13 = true) (h2 : Rl 50 6 = true) (h3 : ∀ k, Rl 24 k = true) (h4 : ∀ k, Rl 53 k = true) : SN σ' := by
  obtain ⟨L, a, b, c, d⟩ := h
  exact ⟨L, a, by rw [hK _ _ h1]; exact b, by rw [hK _ _ h2]; exact c, fun k hk => by rw [hK _ _ (h3 k), hK _ _ (h4 k)]; exact d k hk⟩
theorem IM.keep {σ σ' : Mem} {n p ci i : Nat} {Rl : Nat → Nat → Bool} (h : IM σ n p ci i) (hK : Keep Rl σ σ') (h1 : Rl ci 1 = true) (h2 : Rl ci 2 = true) (h3 : Rl (ci + 1) 1 = true) (h4 : Rl (ci + 1) 2 = true) (h5 : ∀ k, Rl (ci + 3) k = true) (h6 : ∀ k, Rl 54 k = true) (h7 : ∀ k, Rl 55 k = true) : IM σ' n p ci i := by
  rcases h with ⟨a, b⟩ | ⟨a, b, c, d, R', t', e, f, g, k⟩
  · exact Or.inl ⟨by rw [hK _ _ h2]; exact a, by rw [hK _ _ (h6 i)]; exact b⟩
  · exact Or.inr ⟨by rw [hK _ _ h2]; exact a, by rw [hK _ _ (h6 i)]; exact b, by rw [hK _ _ h3]; exact c, by rw [hK _ _ h4]; exact d, R', t', e, by rw [hK _ _ h1]; exact f, by rw [hK _ _ (h7 _)]; exact g, fun x hx y hy => by rw [hK _ _ (h5 _), hK _ _ (h7 _)]; exact k x hx y hy⟩
theorem SnP.keep {σ σ' : Mem} {n p q t : Nat} {R : Nat → Nat → Nat} {Rl : Nat → Nat → Bool} (h : SnP σ n p q R t) (hK : Keep Rl σ σ') (h1 : ∀ k, Rl 52 k = true) : SnP σ' n p q R t :=
  ⟨h.1, by rw [hK _ _ (h1 _)]; exact h.2.1, fun i hi k hk => by rw [hK _ _ (h1 _)]; exact h.2.2 i hi k hk⟩
theorem UN.keep {σ σ' : Mem} {n p t : Nat} {R : Nat → Nat → Nat} {Rl : Nat → Nat → Bool} (h : UN σ n p R t) (hK : Keep Rl σ σ') (h1 : Rl 10 2 = true) (h2 : Rl 50 3 = true) (h3 : Rl 50 4 = true) (h4 : ∀ k, Rl 12 k = true) (h5 : ∀ k, Rl 14 k = true) (h6 : ∀ k, Rl 52 k = true) : UN σ' n p R t := by
  obtain ⟨d, a, RS, TS, e1, e2, e3, e4, e5, e6, e7, e8⟩ := h
  exact ⟨d, a, RS, TS, e1, e2, by rw [hK _ _ h1]; exact e3, by rw [hK _ _ h2]; exact e4, by rw [hK _ _ h3]; exact e5, e6, e7, fun j hj => ⟨(e8 j hj).1.keep hK h6, by rw [hK _ _ (h4 _), hK _ _ (h5 _)]; exact (e8 j hj).2⟩⟩
theorem WW.keep {σ σ' : Mem} {n p : Nat} {R : Nat → Nat → Nat} {Rl : Nat → Nat → Bool} (h : WW σ n p R) (hK : Keep Rl σ σ') (h1 : Rl 0 15 = true) (h2 : ∀ k, Rl 44 k = true) (h3 : ∀ k, Rl 46 k = true) : WW σ' n p R := by
  rcases h with h | ⟨g1, g2⟩
  · exact Or.inl (by rw [hK _ _ h1]; exact h)
  · exact Or.inr ⟨by rw [hK _ _ h1]; exact g1, fun t ht => by rw [hK _ _ (h2 t)]; exact g2.1 t ht, fun c hc => by rw [hK _ _ (h3 c)]; exact g2.2 c hc⟩
theorem Inv0.rw {σ σ' : Mem} {n p t : Nat} {R : Nat → Nat → Nat} (h : Inv0 σ n p R t) (hK : Keep RW σ σ') (hw : WW σ' n p R) : Inv0 σ' n p R t := by
  obtain ⟨a1, a2, a3, a4, a5, a6, a7, a8, a9, a10, a11, a12, a13⟩ := h
  exact ⟨a1.rw hK, a2.rw hK, a3, a4, a5, by rw [hK 0 14 rfl]; exact a6, by rw [hK 51 48 rfl]; exact a7, a8.keep hK rfl rfl (fun _ => rfl) (fun _ => rfl), a9.keep hK rfl rfl (fun _ => rfl) (fun _ => rfl), a10.keep hK rfl rfl rfl rfl (fun _ => rfl) (fun _ => rfl) (fun _ => rfl), a11.keep hK rfl rfl rfl rfl (fun _ => rfl) (fun _ => rfl) (fun _ => rfl), a12.keep hK rfl rfl rfl (fun _ => rfl) (fun _ => rfl) (fun _ => rfl), hw⟩
theorem Nx.sw {σ : Mem} {n p t : Nat} {R : Nat → Nat → Nat} {f8 f9 : Mem → O} (h : Inv0 σ n p R t) (hs : Sw σ n p R f8 f9) : Nx σ f8 f9 := by
  obtain ⟨r, s1, s2, h1, h2, h3, h4⟩ := hs
  exact ⟨r, s1, s2, h1, h2, n, p, R, t, h.rw h3 h4⟩
theorem Nx.sm {σ : Mem} {n p t : Nat} {R : Nat → Nat → Nat} {f8 f9 : Mem → O} (h : Inv0 σ n p R t) (hs : Sm σ f8 f9) : Nx σ f8 f9 := Nx.sw h (hs.sw h.2.2.2.2.2.2.2.2.2.2.2.2)
theorem reading_sm {σ : Mem} {n p : Nat} {R : Nat → Nat → Nat} (h : CC σ n p R) (m : MM σ n p R) (x y : Int32) : Sm σ (fX8_reading x y) (fX9_reading x y) := by
  have hp := h.2.2.2.1
  have hn := h.2.2.1
  rcases rng x (show n < 2 ^ 31 by omega) with hx | ⟨a, ha, rfl⟩
  · exact Sm.same (r := -1) (by unfold fX8_reading; rw [has_no h hx, bnd_eq, if_pos rfl]) (by unfold fX9_reading; rw [mm_isCopy_no m hx, bnd_eq, if_pos rfl])
  · rcases rng y (show p < 2 ^ 31 by omega) with hy | ⟨j, hj, rfl⟩
    · exact Sm.same (r := -1) (by unfold fX8_reading; rw [has_no2 h ha hy, bnd_eq, if_pos rfl]) (by unfold fX9_reading; rw [mm_isCopy m ha, bnd_eq, if_neg (by decide), mm_isPlace_no m hy, bnd_eq, if_pos rfl])
    · have r0 := (h.2.2.2.2 a ha j hj).2
      by_cases h4 : R a j = 4
      · exact Sm.same (r := -9) (by unfold fX8_reading; rw [cc_has h ha hj, bnd_eq, if_neg (by decide), b_at h ha hj, if_pos (show nI (R a j) = (4 : Int32) by rw [h4]; rfl)]) (by unfold fX9_reading; rw [mm_isCopy m ha, bnd_eq, if_neg (by decide), mm_isPlace m hj, bnd_eq, if_neg (by decide), m_at m ha hj, if_pos (show nI (R a j) = (4 : Int32) by rw [h4]; rfl)])
      · exact Sm.same (r := nI (R a j)) (by unfold fX8_reading; rw [cc_has h ha hj, bnd_eq, if_neg (by decide), b_at h ha hj, if_neg (show ¬ nI (R a j) = (4 : Int32) from ne_n (b := 4) h4 (by omega) (by decide))]) (by unfold fX9_reading; rw [mm_isCopy m ha, bnd_eq, if_neg (by decide), mm_isPlace m hj, bnd_eq, if_neg (by decide), m_at m ha hj, if_neg (show ¬ nI (R a j) = (4 : Int32) from ne_n (b := 4) h4 (by omega) (by decide)), m_at m ha hj])
/-- all but the text -/
def rX : Nat → Nat → Bool := fun c k => !(c == 1 || c == 3 || c == 56 || (c == 50 && k == 10))
theorem Inv0.tx {σ σ' : Mem} {n p t : Nat} {R : Nat → Nat → Nat} (h : Inv0 σ n p R t) (hK : Keep rX σ σ') (hx : TX σ') : Inv0 σ' n p R t := by
  obtain ⟨a1, a2, a3, a4, a5, a6, a7, a8, a9, a10, a11, a12, a13⟩ := h
  exact ⟨a1.keep hK rfl rfl (fun _ => rfl), a2.keep hK rfl rfl (fun _ => rfl), a3, a4, a5, by rw [hK 0 14 rfl]; exact a6, by rw [hK 51 48 rfl]; exact a7, hx, a9.keep hK rfl rfl (fun _ => rfl) (fun _ => rfl), a10.keep hK rfl rfl rfl rfl (fun _ => rfl) (fun _ => rfl) (fun _ => rfl), a11.keep hK rfl rfl rfl rfl (fun _ => rfl) (fun _ => rfl) (fun _ => rfl), a12.keep hK rfl rfl rfl (fun _ => rfl) (fun _ => rfl) (fun _ => rfl), a13.keep hK rfl (fun _ => rfl) (fun _ => rfl)⟩
/-- all but what was seen -/
def rS : Nat → Nat → Bool := fun c k => !(c == 24 || c == 53 || (c == 0 && k == 13) || (c == 50 && k == 6))
theorem Inv0.sn {σ σ' : Mem} {n p t : Nat} {R : Nat → Nat → Nat} (h : Inv0 σ n p R t) (hK : Keep rS σ σ') (hx : SN σ') : Inv0 σ' n p R t := by
  obtain ⟨a1, a2, a3, a4, a5, a6, a7, a8, a9, a10, a11, a12, a13⟩ := h
  exact ⟨a1.keep hK rfl rfl (fun _ => rfl), a2.keep hK rfl rfl (fun _ => rfl), a3, a4, a5, by rw [hK 0 14 rfl]; exact a6, by rw [hK 51 48 rfl]; exact a7, a8.keep hK rfl rfl (fun _ => rfl) (fun _ => rfl), hx, a10.keep hK rfl rfl rfl rfl (fun _ => rfl) (fun _ => rfl) (fun _ => rfl), a11.keep hK rfl rfl rfl rfl (fun _ => rfl) (fun _ => rfl) (fun _ => rfl), a12.keep hK rfl rfl rfl (fun _ => rfl) (fun _ => rfl) (fun _ => rfl), a13.keep hK rfl (fun _ => rfl) (fun _ => rfl)⟩
theorem Nx.same {σ : Mem} {n p t : Nat} {R : Nat → Nat → Nat} {f8 f9 : Mem → O} {r : Int32} (h : Inv0 σ n p R t) (h1 : f8 σ = some (r, σ)) (h2 : f9 σ = some (r, σ)) : Nx σ f8 f9 := ⟨r, σ, σ, h1, h2, n, p, R, t, h⟩
theorem type_nx {σ : Mem} {n p t : Nat} {R : Nat → Nat → Nat} (h : Inv0 σ n p R t) (x : Int32) : Nx σ (fX8_type x) (fX9_type x) := by
  obtain ⟨L, l1, l2, l3, l4⟩ := h.2.2.2.2.2.2.2.1
  by_cases hx : x < 0 ∨ nI 255 < x
  · refine Nx.same (r := -1) h ?_ ?_
    · unfold fX8_type
      by_cases h0 : x < 0
      · rw [if_pos h0]
      · rw [if_neg h0, if_neg (show ¬ x ≤ 255 from not_le_of (hx.resolve_left h0))]
    · unfold fX9_type
      rw [show fX9_in x 0 255 σ = some (0, σ) from mm_in_c (n := 255) (by decide) hx, bnd_eq, if_pos rfl]
  · have hx0 : ¬ x < 0 := fun z => hx (Or.inl z)
    have hx1 : ¬ (255 : Int32) < x := fun z => hx (Or.inr z)
    have hx2 : x ≤ 255 := by
      rw [Int32.lt_iff_toInt_lt] at hx1
      rw [Int32.le_iff_toInt_le]
      omega
    have hin : ∀ s : Mem, fX9_in x 0 255 s = some (1, s) := by
      intro s
      unfold fX9_in
      rw [if_neg hx0, if_neg hx1]
    by_cases h90 : L = 90
    · subst h90
      refine Nx.same (r := -3) h ?_ ?_
      · unfold fX8_type
        rw [if_neg hx0, if_pos hx2, l2, if_neg (by decide)]
      · unfold fX9_type
        rw [hin, bnd_eq, if_neg (by decide), l3, if_pos (by decide)]
    · have e8 : fX8_type x σ = some (nI (L + 1), stm (stm σ 3 L x) 1 1 (nI (L + 1))) := by
        unfold fX8_type fX6_append
        rw [if_neg hx0, if_pos hx2, l2, if_pos (show nI L < (90 : Int32) from lt_n (b := 90) (by omega) (by decide)), put_in (by omega) (by decide), bnd_eq]
        show some (stm (stm σ 3 L x) 1 1 (stm σ 3 L x 1 1 + 1) 1 1, stm (stm σ 3 L x) 1 1 (stm σ 3 L x 1 1 + 1)) = _
        rw [stm_ne (show (1 : Nat) ≠ 3 by decide), l2, one_n, stm_v]
      refine ⟨nI (L + 1), _, stm (stm (stm (stm σ 3 L x) 1 1 (nI (L + 1))) 56 L x) 50 10 (nI (L + 1)), e8, ?_, n, p, R, t, h.tx ((((Keep.rf.st rfl).st rfl).st rfl).st rfl) ⟨L + 1, by omega, ?_, ?_, fun k hk => ?_⟩⟩
      · unfold fX9_type
        have l3' : stm (stm σ 3 L x) 1 1 (nI (L + 1)) 50 10 = nI L := by rw [stm_ne (by decide), stm_ne (by decide), l3]
        rw [hin, bnd_eq, if_neg (by decide), l3', if_neg (show ¬ nI L = (90 : Int32) from ne_n (b := 90) h90 (by omega) (by decide)), gd_n (by omega) (by decide), cl_n (by omega)]
        dsimp only [letm]
        rw [stm_ne (show (50 : Nat) ≠ 56 by decide), l3', one_n, stm_v]
      · rw [stm_ne (by decide), stm_ne (by decide), stm_v]
      · rw [stm_v]
      · rw [stm_ne (by decide), stm_ne (by decide), stm_ne (by decide), stm_ne (show (56 : Nat) ≠ 50 by decide)]
        by_cases hkL : k = L
        · subst hkL; rw [stm_v, stm_v]
        · rw [stm_k hkL, stm_k hkL, stm_ne (by decide), stm_ne (by decide)]
          exact l4 k (by omega)
theorem clear_nx {σ : Mem} {n p t : Nat} {R : Nat → Nat → Nat} (h : Inv0 σ n p R t) : Nx σ fX8_clear fX9_clear := by
  obtain ⟨L, l1, l2, l3, l4⟩ := h.2.2.2.2.2.2.2.1
  refine ⟨nI L, stm σ 1 1 0, stm (stm σ 1 1 0) 50 10 0, ?_, ?_, n, p, R, t, h.tx ((Keep.rf.st rfl).st rfl) ⟨0, by omega, ?_, ?_, fun k hk => absurd hk (Nat.not_lt_zero k)⟩⟩
  · unfold fX8_clear
    dsimp only [letv, letm]
    rw [l2]
  · unfold fX9_clear
    dsimp only [letv, letm]
    rw [stm_ne (show (50 : Nat) ≠ 1 by decide), l3]
  · rw [stm_ne (by decide), stm_v]; rfl
  · rw [stm_v]; rfl
theorem sees_nx {σ : Mem} {n p t : Nat} {R : Nat → Nat → Nat} (h : Inv0 σ n p R t) (x : Int32) : Nx σ (fX8_sees x) (fX9_sees x) := by
  obtain ⟨L, l1, l2, l3, l4⟩ := h.2.2.2.2.2.2.2.2.1
  by_cases hx : x < 0 ∨ nI 6 < x
  · refine Nx.same (r := -1) h ?_ ?_
    · unfold fX8_sees
      by_cases h0 : x < 0
      · rw [if_pos h0]
      · rw [if_neg h0, if_neg (show ¬ x ≤ 6 from not_le_of (hx.resolve_left h0))]
    · unfold fX9_sees
      rw [show fX9_in x 0 6 σ = some (0, σ) from mm_in_c (n := 6) (by decide) hx, bnd_eq, if_pos rfl]
  · have hx0 : ¬ x < 0 := fun z => hx (Or.inl z)
    have hx1 : ¬ (6 : Int32) < x := fun z => hx (Or.inr z)
    have hx2 : x ≤ 6 := by
      rw [Int32.lt_iff_toInt_lt] at hx1
      rw [Int32.le_iff_toInt_le]
      omega
    have hin : ∀ s : Mem, fX9_in x 0 6 s = some (1, s) := by
      intro s
      unfold fX9_in
      rw [if_neg hx0, if_neg hx1]
    by_cases h90 : L = 6
    · subst h90
      refine Nx.same (r := -3) h ?_ ?_
      · unfold fX8_sees
        rw [if_neg hx0, if_pos hx2, l2, if_neg (by decide)]
      · unfold fX9_sees
        rw [hin, bnd_eq, if_neg (by decide), l3, if_pos (by decide)]
    · have e8 : fX8_sees x σ = some (nI (L + 1), stm (stm σ 24 L x) 0 13 (nI (L + 1))) := by
        unfold fX8_sees
        rw [if_neg hx0, if_pos hx2, l2, if_pos (show nI L < (6 : Int32) from lt_n (b := 6) (by omega) (by decide)), put_in (by omega) (by decide), bnd_eq]
        show some (stm (stm σ 24 L x) 0 13 (stm σ 24 L x 0 13 + 1) 0 13, stm (stm σ 24 L x) 0 13 (stm σ 24 L x 0 13 + 1)) = _
        rw [stm_ne (show (0 : Nat) ≠ 24 by decide), l2, one_n, stm_v]
      refine ⟨nI (L + 1), _, stm (stm (stm (stm σ 24 L x) 0 13 (nI (L + 1))) 53 L x) 50 6 (nI (L + 1)), e8, ?_, n, p, R, t, h.sn ((((Keep.rf.st rfl).st rfl).st rfl).st rfl) ⟨L + 1, by omega, ?_, ?_, fun k hk => ?_⟩⟩
      · unfold fX9_sees
        have l3' : stm (stm σ 24 L x) 0 13 (nI (L + 1)) 50 6 = nI L := by rw [stm_ne (by decide), stm_ne (by decide), l3]
        rw [hin, bnd_eq, if_neg (by decide), l3', if_neg (show ¬ nI L = (6 : Int32) from ne_n (b := 6) h90 (by omega) (by decide)), gd_n (by omega) (by decide), cl_n (by omega)]
        dsimp only [letm]
        rw [stm_ne (show (50 : Nat) ≠ 53 by decide), l3', one_n, stm_v]
      · rw [stm_ne (by decide), stm_ne (by decide), stm_v]
      · rw [stm_v]
      · rw [stm_ne (by decide), stm_ne (by decide), stm_ne (by decide), stm_ne (show (53 : Nat) ≠ 50 by decide)]
        by_cases hkL : k = L
        · subst hkL; rw [stm_v, stm_v]
        · rw [stm_k hkL, stm_k hkL, stm_ne (by decide), stm_ne (by decide)]
          exact l4 k (by omega)
theorem forget_nx {σ : Mem} {n p t : Nat} {R : Nat → Nat → Nat} (h : Inv0 σ n p R t) : Nx σ fX8_forget fX9_forget := by
  obtain ⟨L, l1, l2, l3, l4⟩ := h.2.2.2.2.2.2.2.2.1
  refine ⟨nI L, stm σ 0 13 0, stm (stm σ 0 13 0) 50 6 0, ?_, ?_, n, p, R, t, h.sn ((Keep.rf.st rfl).st rfl) ⟨0, by omega, ?_, ?_, fun k hk => absurd hk (Nat.not_lt_zero k)⟩⟩
  · unfold fX8_forget
    dsimp only [letv, letm]
    rw [l2]
  · unfold fX9_forget
    dsimp only [letv, letm]
    rw [stm_ne (show (50 : Nat) ≠ 0 by decide), l3]
  · rw [stm_ne (by decide), stm_v]; rfl
  · rw [stm_v]; rfl
