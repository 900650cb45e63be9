/-! weighing all trees; rank and best -/
def TreeK : Prop := ∀ n t, 2 ≤ n → n ≤ 6 → t < TN n → ((List.range (fol0 (edg 6 n t) 0).1.length).filter (fun i => decide (6 ≤ ((fol0 (edg 6 n t) 0).1.getD i (0, 0)).1))).length ≤ 5
theorem sum_len {l : List Nat} {f : Nat → Nat} (h : ∀ i, f i ≤ 1) : (l.map f).sum ≤ l.length := by
  induction l with
  | nil => exact Nat.le_refl _
  | cons a l ih =>
    rw [List.map_cons, List.sum_cons, List.length_cons]
    have := h a
    omega
theorem chg1_le (hK : TreeK) {n t : Nat} (hn : n ≤ 6) (ht : t < TN n) (S : Nat → Nat) : chg1 n t S ≤ 5 := by
  unfold chg1
  by_cases h2 : n < 2
  · rw [if_pos h2]; omega
  · rw [if_neg h2]
    unfold chK
    exact Nat.le_trans (sum_len (fun i => fitK_le _ _)) (hK n t (by omega) hn ht)
theorem CHG_le (hK : TreeK) {n p t : Nat} {R : Nat → Nat → Nat} (hn : n ≤ 6) (hp : p ≤ 8) (ht : t < TN n) : CHG n p R t ≤ 40 := by
  unfold CHG
  have := sumR_lek (f := CH1 n p R t) (k := 5) (fun j => chg1_le hK hn ht _) p
  omega
/-- how many have a number, how many a lower one -/
def ce (D : Nat → Nat) (c N : Nat) : Nat := sumR (fun o => if D o = c then 1 else 0) N
def cl (D : Nat → Nat) (N c : Nat) : Nat := sumR (fun o => if D o < c then 1 else 0) N
theorem cl_s (D : Nat → Nat) (N c : Nat) : cl D N (c + 1) = cl D N c + ce D c N := by
  unfold cl ce
  rw [← sumR_add]
  apply sumR_congr
  intro o _
  by_cases h1 : D o < c
  · rw [if_pos (by omega), if_pos h1, if_neg (by omega)]
  · by_cases h2 : D o = c
    · rw [if_pos (by omega), if_neg h1, if_pos h2]
    · rw [if_neg (by omega), if_neg h1, if_neg h2]
theorem cl_0 (D : Nat → Nat) (N : Nat) : cl D N 0 = 0 := by
  unfold cl
  rw [sumR_congr (g := fun _ => 0) (fun o _ => by rw [if_neg (by omega)]), sumR_0]
theorem sumR_1 : ∀ N, sumR (fun _ => 1) N = N := by
  intro N
  induction N with
  | zero => rfl
  | succ N ih => show sumR _ N + 1 = _; rw [ih]
theorem cl_all {D : Nat → Nat} {N c : Nat} (h : ∀ o, o < N → D o < c) : cl D N c = N := by
  unfold cl
  rw [sumR_congr (g := fun _ => 1) (fun o ho => by rw [if_pos (h o ho)]), sumR_1]
def WT (σ : Mem) (n p : Nat) (R : Nat → Nat → Nat) : Prop := (∀ t, t < TN n → σ 44 t = nI (CHG n p R t)) ∧ ∀ c, c ≤ 48 → σ 46 c = nI (ce (CHG n p R) c (TN n))
def WW (σ : Mem) (n p : Nat) (R : Nat → Nat → Nat) : Prop := σ 0 15 = 0 ∨ (σ 0 15 = 1 ∧ WT σ n p R)
def RW : Nat → Nat → Bool := fun c k => RI c k && !(c == 44 || c == 46 || (c == 0 && k == 15))
theorem RW_RI : ∀ c k, RW c k = true → RI c k = true := by
  intro c k h
  unfold RW at h
  rw [Bool.and_eq_true] at h
  exact h.1
theorem RW_T : ∀ c k, RW c k = true → nC [44, 46] c k = true := by
  intro c k h
  unfold RW at h
  unfold nC
  simp only [Bool.and_eq_true, Bool.not_eq_true', Bool.or_eq_false_iff, beq_eq_false_iff_ne, ne_eq, List.contains_eq_mem, decide_eq_false_iff_not, List.mem_cons, List.not_mem_nil, or_false] at *
  omega
theorem weigh_eq (hT : TreeOK) (hK : TreeK) {σ : Mem} {n p : Nat} {R : Nat → Nat → Nat} (h : CC σ n p R) (hw : WW σ n p R) : ∃ σ', fX8_weighTrees σ = some (0, σ') ∧ σ' 0 15 = 1 ∧ WT σ' n p R ∧ Keep RW σ σ' := by
  have hp := h.2.2.2.1
  have hn := h.2.2.1
  have hTN := TN_le (n := n)
  unfold fX8_weighTrees
  rcases hw with hw | ⟨hw, hw2⟩
  · rw [if_pos hw]
    obtain ⟨s1, ⟨i1, i2⟩, e1⟩ := up_k (fun f k (s : Mem) => LX8_weighTrees_10 (fun σ3 => bnd (fX8_loadSets (-1) σ3) (fun r4 σ5 => bnd (fX8_treesOf (σ5 4 1) σ5) (fun r6 σ7 => LX8_weighTrees_49 (fun σ16 => letm (stm σ16 0 15 1) (fun σ17 => some (0, σ17))) 300 r6 0 σ7))) f (nI k) s) 49 (fun k s => (∀ c, c < k → s 46 c = 0) ∧ Keep (nC [46]) σ s) (fun σ3 => bnd (fX8_loadSets (-1) σ3) (fun r4 σ5 => bnd (fX8_treesOf (σ5 4 1) σ5) (fun r6 σ7 => LX8_weighTrees_49 (fun σ16 => letm (stm σ16 0 15 1) (fun σ17 => some (0, σ17))) 300 r6 0 σ7)))
      (fun f k s hk hI => by
        refine ⟨stm s 46 k 0, ⟨fun c hc => ?_, hI.2.st rfl⟩, ?_⟩
        · by_cases hck : c = k
          · subst hck; rw [stm_v]
          · rw [stm_k hck]; exact hI.1 c (by omega)
        · show BX8_weighTrees_10 _ _ (nI k) s = _
          unfold BX8_weighTrees_10
          rw [if_neg (show ¬ (48 : Int32) < nI k from nlt_n (a := 48) (by omega) (by decide)), put_in hk (by decide), bnd_eq, one_n])
      (fun f s hI => by
        show BX8_weighTrees_10 _ _ (nI 49) s = _
        unfold BX8_weighTrees_10
        rw [if_pos (show (48 : Int32) < nI 49 by decide)])
      0 σ 300 (by omega) (by omega) ⟨fun c hc => absurd hc (Nat.not_lt_zero c), Keep.rf⟩
    have hC1 : CC s1 n p R := h.keep i2 rfl rfl (fun _ => rfl)
    obtain ⟨s2, a1, a2, a3⟩ := loadSets_eq hC1 (P := none) (fun j hj => by cases hj)
    have k2 : Keep (nC (46 :: cT)) σ s2 := (i2.mono (nC_mono (by decide))).tr (a3.mono (nC_mono (by decide)))
    obtain ⟨s3, ⟨j1, j2, j3, j4⟩, e3⟩ := up_k (fun f k (s : Mem) => LX8_weighTrees_49 (fun σ16 => letm (stm σ16 0 15 1) (fun σ17 => some (0, σ17))) f (nI (TN n)) (nI k) s) (TN n) (fun k s => (∀ t, t < k → s 44 t = nI (CHG n p R t)) ∧ (∀ c, c ≤ 48 → s 46 c = nI (ce (CHG n p R) c k)) ∧ (∀ x, x < 6 → ∀ i, i < 8 → nb (s 42 x) i = LSt n p R x i) ∧ Keep (nC (44 :: 46 :: cT)) σ s) (fun s => some (0, stm s 0 15 1))
      (fun f k s hk hI => by
        obtain ⟨q1, q2, q3, q4⟩ := hI
        obtain ⟨s4, b1, -, -, b4⟩ := changesOf_eq hT (σ := s) hn hk (by rw [q4 4 1 rfl]; exact h.1)
        rw [sum_all hT hn hp hk q3] at b1
        have hle := CHG_le hK (R := R) hn hp hk
        have v46 : s4 46 (CHG n p R k) = nI (ce (CHG n p R) (CHG n p R k) k) := by rw [b4 46 _ rfl]; exact q2 _ (by omega)
        refine ⟨stm (stm s4 44 k (nI (CHG n p R k))) 46 (CHG n p R k) (nI (ce (CHG n p R) (CHG n p R k) k + 1)), ⟨fun t ht => ?_, fun c hc => ?_, fun x hx i hi => ?_, ?_⟩, ?_⟩
        · rw [stm_ne (by decide)]
          by_cases htk : t = k
          · subst htk; rw [stm_v]
          · rw [stm_k htk, b4 44 t rfl]; exact q1 t (by omega)
        · show _ = nI (ce (CHG n p R) c k + (if CHG n p R k = c then 1 else 0))
          by_cases hck : c = CHG n p R k
          · subst hck; rw [stm_v, if_pos rfl]
          · rw [stm_k hck, stm_ne (by decide), b4 46 c rfl, if_neg (fun z => hck z.symm)]; exact q2 c hc
        · rw [stm_ne (by decide), stm_ne (by decide), b4 42 x rfl]; exact q3 x hx i hi
        · exact ((q4.tr (b4.mono (nC_mono (by decide)))).st rfl).st rfl
        · show BX8_weighTrees_49 _ _ (nI (TN n)) (nI k) s = _
          unfold BX8_weighTrees_49
          rw [if_neg (nle_n hk (by omega)), b1, bnd_eq, put_in (by omega) (by decide), bnd_eq, at_in (by omega) (by decide), bnd_eq, put_in (by omega) (by decide), bnd_eq, stm_ne (show (45 + 1 : Nat) ≠ 43 + 1 by decide), show s4 (45 + 1) (CHG n p R k) = _ from v46, one_n, one_n])
      (fun f s hI => by
        show BX8_weighTrees_49 _ _ (nI (TN n)) (nI (TN n)) s = _
        unfold BX8_weighTrees_49
        rw [if_pos (le_n (Nat.le_refl _) (by omega))]
        rfl)
      0 s2 300 (by omega) (by omega) ⟨fun t ht => absurd ht (Nat.not_lt_zero t), fun c hc => by rw [a3 46 c rfl, i1 c (by omega)]; rfl, a2, k2.mono (nC_mono (by decide))⟩
    refine ⟨stm s3 0 15 1, ?_, stm_v _ _ _ _, ⟨fun t ht => by rw [stm_ne (by decide)]; exact j1 t ht, fun c hc => by rw [stm_ne (by decide)]; exact j2 c hc⟩, ?_⟩
    · rw [show LX8_weighTrees_10 _ 300 0 σ = _ from e1, show fX8_loadSets (-1) s1 = some (0, s2) from a1, bnd_eq, k2 4 1 rfl, h.1, treesOf_eq hn, bnd_eq]
      exact e3
    · refine Keep.st (Keep.mono j4 ?_) rfl
      intro c k hck
      have q1 := RW_T c k hck
      have q2 := RI_cT c k (RW_RI c k hck)
      unfold nC at *
      simp only [Bool.not_eq_true', List.contains_eq_mem, decide_eq_false_iff_not, List.mem_cons] at *
      intro z
      rcases z with z | z | z
      · exact q1 (Or.inl z)
      · exact q1 (Or.inr (Or.inl z))
      · exact q2 z
  · rw [if_neg (by rw [hw]; decide)]
    exact ⟨σ, rfl, hw, hw2, Keep.rf⟩
