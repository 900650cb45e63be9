/-! class and reference: changes and directed costs by one number -/
def esT (n t : Nat) : Bool := esOK (if n < 2 then n else 2 * n - 2) (edg n n t) && (List.range (eN n)).all (fun e => esOK (2 * n - 1) (dirE (edg n n t) e (2 * n - 2)))
def TreeE : Prop := ∀ n t, n ≤ 6 → t < TN n → esT n t = true
theorem pick_len {x : Nat × Nat} : ∀ (p p' : PL), pick x p = some p' → p.length = p'.length + 1 := by
  intro p
  induction p with
  | nil => intro p' h; cases h
  | cons y ys ih =>
    intro p' h
    unfold pick at h
    split at h
    · cases h; rfl
    · split at h
      · cases hq : pick x ys with
        | none => rw [hq] at h; cases h
        | some q =>
          rw [hq] at h
          have h2 : y :: q = p' := Option.some.inj h
          subst h2
          rw [List.length_cons, List.length_cons, ih q hq]
      · cases h
theorem perm_len : ∀ (q p : PL), permOK p q = true → p.length = q.length := by
  intro q
  induction q with
  | nil =>
    intro p h
    cases p with
    | nil => rfl
    | cons a l => simp [permOK] at h
  | cons x q ih =>
    intro p h
    unfold permOK at h
    cases hp : pick x p with
    | none => rw [hp] at h; cases h
    | some p' =>
      rw [hp] at h
      rw [pick_len p p' hp, ih p' h]
      rfl
theorem planQ_len (q : PL) (bl : List Nat) : ∀ m, (planQ q bl m).length ≤ 2 * m := by
  intro m
  induction m with
  | zero => exact Nat.le_refl _
  | succ m ih =>
    show ((if 6 ≤ (q.getD m (0, 0)).1 then _ else _) ++ planQ q bl m).length ≤ _
    rw [List.length_append]
    split
    · simp only [List.length_cons, List.length_nil]; omega
    · simp only [List.length_nil]; omega
theorem planQ1_len (q : PL) (bl : List Nat) : ∀ m, (planQ1 q bl m).length ≤ 2 * m := by
  intro m
  match m with
  | 0 => exact Nat.le_refl _
  | 1 => show 0 ≤ 2; omega
  | m + 2 =>
    show ((if 6 ≤ (q.getD (m + 1) (0, 0)).1 then _ else _) ++ planQ1 q bl (m + 1)).length ≤ _
    rw [List.length_append]
    have := planQ1_len q bl (m + 1)
    split
    · simp only [List.length_cons, List.length_nil]; omega
    · simp only [List.length_nil]; omega
def CH1 (n p : Nat) (R : Nat → Nat → Nat) (t j : Nat) : Nat := chg1 n t (fun x => LSt n p R x j)
def CHG (n p : Nat) (R : Nat → Nat → Nat) (t : Nat) : Nat := sumR (CH1 n p R t) p
theorem c0M_congr {n : Nat} {S S' : Nat → Nat} (h : ∀ x, x < n → S x = S' x) : c0M n S = c0M n S' := by
  funext x r
  unfold c0M
  by_cases hx : x < n
  · rw [if_pos hx, if_pos hx, h x hx]
  · rw [if_neg hx, if_neg hx]
theorem LSt_ns {n p j : Nat} {R : Nat → Nat → Nat} (hR : ∀ i, i < n → ∀ j, j < p → R i j ≤ 4) : NS n (fun x => LSt n p R x j) := by
  intro x hx
  unfold LSt
  dsimp only
  by_cases h : x < n ∧ j < p
  · rw [if_pos h]
    have := hR x hx j h.2
    unfold lfS
    split
    · omega
    · have h1 : 2 ^ R x j ≤ 2 ^ 3 := Nat.pow_le_pow_right (by omega) (by omega)
      have h2 : 0 < 2 ^ R x j := Nat.pow_pos (by omega)
      omega
  · rw [if_neg h]; omega
theorem lf1_all : (List.range 16).all (fun A => A == 0 || (mn4 9999 (lfc 9999 A) == 0)) = true := by decide +kernel
theorem und_plan (hT : TreeOK) {n t : Nat} (h2 : 2 ≤ n) (hn : n ≤ 6) (ht : t < TN n) : ∃ P, plan0 (edg n n t) (2 * n - 2) 0 = some P ∧ P.length ≤ 30 ∧ ∀ S, NS n S → mn4 9999 (exP (dnC 9999 false) P (c0M n S) 0) = chg1 n t S := by
  have h := (hT n t h2 hn ht).1
  have hfo := und_fo hT h2 hn ht
  unfold undOK at h
  simp only [Bool.and_eq_true, beq_iff_eq, decide_eq_true_eq] at h
  obtain ⟨⟨⟨⟨h1, h3⟩, h4⟩, h5⟩, h6⟩ := h
  cases hp : plan0 (edg n n t) (2 * n - 2) 0 with
  | none => rw [hp] at h6; cases h6
  | some P =>
    rw [hp] at h6
    dsimp only at h6
    refine ⟨P, rfl, ?_, fun S hS => ?_⟩
    · rw [perm_len _ _ h6, List.length_map, List.length_append]
      have := planQ1_len (fol0 (edg 6 n t) 0).1 (fol0 (edg 6 n t) 0).2 (fol0 (edg 6 n t) 0).1.length
      have := hfo.1
      simp only [List.length_cons, List.length_nil]
      omega
    · unfold chg1
      rw [if_neg (by omega)]
      exact und_eq hn h2 hfo hS h3 h4 h5 h6
theorem dir_plan (hT : TreeOK) {n t e : Nat} (h2 : 2 ≤ n) (hn : n ≤ 6) (ht : t < TN n) (he : e < eN n) : ∃ P, plan0 (dirE (edg n n t) e (2 * n - 2)) (2 * n - 1) (2 * n - 2) = some P ∧ P.length ≤ 30 ∧ ∀ S, NS n S → mn4 9999 (exP (dnC 9999 true) P (c0M n S) (2 * n - 2)) = mn4 1000 (vA (fol0 (edg 6 n t) e).1 (fol0 (edg 6 n t) e).2 S true 0) := by
  have h := (hT n t h2 hn ht).2 e he
  have hfo := dir_fo hT h2 hn ht he
  unfold dirOK at h
  simp only [Bool.and_eq_true] at h
  obtain ⟨h1, h6⟩ := h
  cases hp : plan0 (dirE (edg n n t) e (2 * n - 2)) (2 * n - 1) (2 * n - 2) with
  | none => rw [hp] at h6; cases h6
  | some P =>
    rw [hp] at h6
    dsimp only at h6
    refine ⟨P, rfl, ?_, fun S hS => dir_eq hn h2 hfo hS h6⟩
    rw [perm_len _ _ h6, List.length_map]
    have := planQ_len (fol0 (edg 6 n t) e).1 (fol0 (edg 6 n t) e).2 (fol0 (edg 6 n t) e).1.length
    have := hfo.1
    omega
theorem changesAt_eq (hT : TreeOK) (hTE : TreeE) {σ : Mem} {n p t j : Nat} {R : Nat → Nat → Nat} (hM : MM σ n p R) (hj : n = 0 ∨ j < p) (hj8 : j < 8) (ht : t < TN n) (hE : EdG 58 59 50 19 σ (edg n n t)) (hN : σ 50 20 = nI (if n < 3 then n else 2 * n - 2)) : ∃ σ', fX9_changesAt (nI j) σ = some (nI (CH1 n p R t j), σ') ∧ Keep (nC [60, 61]) σ σ' := by
  have hn := hM.2.2.1
  have hR : ∀ i, i < n → ∀ j, j < p → R i j ≤ 4 := fun i hi j hj => (hM.2.2.2.2 i hi j hj).2
  have hok := hTE n t hn ht
  unfold esT at hok
  simp only [Bool.and_eq_true] at hok
  have hl := edg_len n n t
  have h9 := eN_le hn
  unfold fX9_changesAt
  rw [hM.1]
  by_cases h0 : n = 0
  · subst h0
    rw [if_pos (show nI 0 = (0 : Int32) from rfl)]
    exact ⟨σ, rfl, Keep.rf⟩
  · rw [if_neg (show ¬ nI n = (0 : Int32) from ne_n (b := 0) h0 (by omega) (by decide))]
    have hjp : j < p := by omega
    have hc : c0M n (fun x => lfS (R x j)) = c0M n (fun x => LSt n p R x j) := c0M_congr (fun x hx => by
      unfold LSt
      rw [if_pos ⟨hx, hjp⟩])
    have hns := LSt_ns (j := j) hR
    by_cases h2 : 2 ≤ n
    · obtain ⟨P, p1, p2, p3⟩ := und_plan hT h2 hn ht
      have hnm : (if n < 3 then n else 2 * n - 2) = 2 * n - 2 := by split <;> omega
      rw [hnm] at hN
      rw [if_neg (by omega)] at hok
      obtain ⟨σ', a1, a2⟩ := costFrom9_eq (d := false) (root := 0) hM (Or.inr hjp) hj8 (show 2 * n - 2 ≤ 11 by omega) hN hE (Bd.edg hn hn ht) (by omega) hok.1 (by omega) p2 p1
      refine ⟨σ', ?_, a2⟩
      rw [show fX9_costFrom 0 (nI j) 0 σ = _ from a1, bnd_eq, hc, p3 _ hns]
      rfl
    · have h1 : n = 1 := by omega
      subst h1
      rw [if_pos (by omega)] at hN hok
      obtain ⟨σ', a1, a2⟩ := costFrom9_eq (d := false) (root := 0) (P := []) hM (Or.inr hjp) hj8 (show 1 ≤ 11 by omega) hN hE (Bd.edg hn hn ht) (by omega) hok.1 (by omega) (by decide) rfl
      refine ⟨σ', ?_, a2⟩
      rw [show fX9_costFrom 0 (nI j) 0 σ = _ from a1, bnd_eq, hc]
      have hz := hns 0 (by omega)
      have hl1 := lf1_all
      simp only [List.all_eq_true, List.mem_range, Bool.or_eq_true, beq_iff_eq] at hl1
      have e0 : mn4 9999 (exP (dnC 9999 false) [] (c0M 1 (fun x => LSt 1 p R x j)) 0) = 0 := by
        show mn4 9999 (c0M 1 (fun x => LSt 1 p R x j) 0) = 0
        have : c0M 1 (fun x => LSt 1 p R x j) 0 = lfc 9999 (LSt 1 p R 0 j) := by
          funext r
          unfold c0M
          rw [if_pos (by omega)]
        rw [this]
        rcases hl1 (LSt 1 p R 0 j) hz.2 with q | q
        · have := hz.1; dsimp only at this; omega
        · exact q
      rw [e0]
      rfl
/-- what the reference's tree functions change -/
def rM : Nat → Nat → Bool := fun c k => !(c == 58 || c == 59 || c == 60 || c == 61 || (c == 50 && (k == 19 || k == 20)))
theorem rM_T : ∀ c k, rM c k = true → rT c k = true := by
  intro c k h
  unfold rM at h
  unfold rT
  simp only [Bool.not_eq_true', Bool.or_eq_false_iff] at *
  exact ⟨⟨h.1.1.1.1, h.1.1.1.2⟩, h.2⟩
theorem rM_C : ∀ c k, rM c k = true → nC [60, 61] c k = true := by
  intro c k h
  unfold rM at h
  unfold nC
  simp only [Bool.not_eq_true', Bool.or_eq_false_iff, beq_eq_false_iff_ne, ne_eq, List.contains_eq_mem, decide_eq_false_iff_not, List.mem_cons, List.not_mem_nil, or_false] at *
  omega
theorem MM.keep {σ σ' : Mem} {n p : Nat} {R : Nat → Nat → Nat} {Rl : Nat → Nat → Bool} (h : MM σ n p R) (hK : Keep Rl σ σ') (h0 : Rl 50 0 = true) (h1 : Rl 50 1 = true) (h2 : ∀ k, Rl 51 k = true) : MM σ' n p R :=
  ⟨by rw [hK 50 0 h0]; exact h.1, by rw [hK 50 1 h1]; exact h.2.1, h.2.2.1, h.2.2.2.1, fun i hi j hj => by rw [hK 51 _ (h2 _)]; exact h.2.2.2.2 i hi j hj⟩
theorem CC.keep {σ σ' : Mem} {n p : Nat} {R : Nat → Nat → Nat} {Rl : Nat → Nat → Bool} (h : CC σ n p R) (hK : Keep Rl σ σ') (h0 : Rl 4 1 = true) (h1 : Rl 4 2 = true) (h2 : ∀ k, Rl 6 k = true) : CC σ' n p R :=
  ⟨by rw [hK 4 1 h0]; exact h.1, by rw [hK 4 2 h1]; exact h.2.1, h.2.2.1, h.2.2.2.1, fun i hi j hj => by rw [hK 6 _ (h2 _)]; exact h.2.2.2.2 i hi j hj⟩
theorem changesOf9_eq (hT : TreeOK) (hTE : TreeE) {σ : Mem} {n p t : Nat} {R : Nat → Nat → Nat} (hM : MM σ n p R) (hp0 : n = 0 → p = 0) (ht : t < TN n) : ∃ σ', fX9_changesOf (nI t) σ = some (nI (CHG n p R t), σ') ∧ Keep rM σ σ' := by
  have hn := hM.2.2.1
  have hp := hM.2.2.2.1
  obtain ⟨σ1, a1, a2, a3, a4⟩ := layTree_eq hn ht hM.1
  have k1 : Keep rM σ σ1 := a4.mono rM_T
  obtain ⟨a', ⟨g1, g2⟩, e2⟩ := up_k (fun f i (a : Nat × Mem) => LX9_changesOf_9 (fun x2 σ6 => some (x2, σ6)) f (nI a.1) (nI i) a.2) p (fun k a => a.1 = sumR (CH1 n p R t) k ∧ Keep (nC [60, 61]) σ1 a.2) (fun a => some (nI a.1, a.2))
    (fun f k a hk hI => by
      obtain ⟨acc, s⟩ := a
      obtain ⟨i1, i2⟩ := hI
      dsimp only at i1 i2 ⊢
      have hM' : MM s n p R := (hM.keep k1 rfl rfl (fun _ => rfl)).keep i2 rfl rfl (fun _ => rfl)
      obtain ⟨s2, c1, c2⟩ := changesAt_eq hT hTE (j := k) hM' (Or.inr hk) (by omega) ht (a2.keep i2 (fun _ => rfl) (fun _ => rfl) rfl) (by rw [i2 50 20 rfl]; exact a3)
      refine ⟨(acc + CH1 n p R t k, s2), ⟨by dsimp only; rw [i1]; rfl, i2.tr c2⟩, ?_⟩
      show BX9_changesOf_9 _ _ (nI acc) (nI k) s = _
      unfold BX9_changesOf_9
      rw [hM'.2.1, if_neg (nle_n hk (by omega)), c1, bnd_eq]
      dsimp only [letv]
      rw [add_n, one_n])
    (fun f a hI => by
      show BX9_changesOf_9 _ _ (nI a.1) (nI p) a.2 = _
      unfold BX9_changesOf_9
      rw [hI.2 50 1 rfl, k1 50 1 rfl, hM.2.1, if_pos (le_n (Nat.le_refl p) (by omega))])
    0 (0, σ1) 300 (by omega) (by omega) ⟨rfl, Keep.rf⟩
  refine ⟨a'.2, ?_, k1.tr (g2.mono rM_C)⟩
  unfold fX9_changesOf
  rw [a1, bnd_eq, show LX9_changesOf_9 (fun x2 σ6 => some (x2, σ6)) 300 0 0 σ1 = some (nI a'.1, a'.2) from e2, g1]
  rfl
theorem dirE_len {es : PL} {e r : Nat} : (dirE es e r).length = es.length + 1 := by
  unfold dirE
  rw [List.length_append, List.length_set]
  rfl
theorem Bd.dirE {es : PL} {e r : Nat} (h : Bd es) (he : e < es.length) (hr : r < 100) : Bd (dirE es e r) := by
  have h2 := h.at he
  intro x hx
  unfold _root_.Jvm.Pilot.CStemmaTreeLaw_law_r1628_88d2c4.dirE at hx
  rcases List.mem_append.mp hx with hx | hx
  · rcases List.mem_or_eq_of_mem_set hx with q | q
    · exact h x q
    · rw [q]; exact ⟨h2.1, hr⟩
  · rw [List.mem_singleton.mp hx]; exact ⟨hr, h2.2⟩
theorem directedOf_eq (hT : TreeOK) (hTE : TreeE) {σ : Mem} {n p t e : Nat} {R : Nat → Nat → Nat} (hM : MM σ n p R) (ht : t < TN n) (h2 : 2 ≤ n) (he : e < eN n) : ∃ σ', fX9_directedOf (nI t) (nI e) σ = some (nI (dcs n p t e R), σ') ∧ Keep rM σ σ' := by
  have hn := hM.2.2.1
  have hp := hM.2.2.2.1
  have hR : ∀ i, i < n → ∀ j, j < p → R i j ≤ 4 := fun i hi j hj => (hM.2.2.2.2 i hi j hj).2
  have hl := edg_len n n t
  have h9 := eN_le hn
  have hok := hTE n t hn ht
  unfold esT at hok
  simp only [Bool.and_eq_true, List.all_eq_true, List.mem_range] at hok
  obtain ⟨P, p1, p2, p3⟩ := dir_plan hT h2 hn ht he
  obtain ⟨σ1, a1, a2, a3, a4⟩ := layTree_eq hn ht hM.1
  rw [show (if n < 3 then n else 2 * n - 2) = 2 * n - 2 by split <;> omega] at a3
  have s1 := edG_set (b := 2 * n - 2) (e := e) a2 (by decide) (by decide) (by omega)
  obtain ⟨σ2, b1, b2, b3⟩ := addE9 (a := 2 * n - 2) (b := ((edg n n t).getD e (0, 0)).2) s1 (by rw [List.length_set]; omega)
  have k1 : Keep rM σ σ1 := a4.mono rM_T
  have hw : ∀ c k, rM c k = true → (fun c k => !(c == 58 || c == 59 || (c == 50 && k == 19))) c k = true := by
    intro c k h
    unfold rM at h
    simp only [Bool.not_eq_true', Bool.or_eq_false_iff, Bool.and_eq_false_iff] at *
    exact ⟨⟨h.1.1.1.1, h.1.1.1.2⟩, h.2.imp id (fun z => z.1)⟩
  have k2 : Keep rM σ σ2 := (k1.st (c := 59) (k := e) (v := nI (2 * n - 2)) rfl).tr (b3.mono hw)
  have c20 : σ2 50 20 = nI (2 * n - 2) := by rw [b3 50 20 rfl, stm_ne (by decide), a3]
  obtain ⟨σ3, hσ3⟩ : ∃ s : Mem, s = stm σ2 50 20 (nI (2 * n - 1)) := ⟨_, rfl⟩
  have k3 : Keep rM σ σ3 := by rw [hσ3]; exact k2.st rfl
  have hE3 : EdG 58 59 50 19 σ3 (dirE (edg n n t) e (2 * n - 2)) := by
    rw [hσ3]
    refine ⟨by rw [stm_k (by decide)]; exact b2.1, fun x hx => ?_⟩
    rw [stm_ne (by decide), stm_ne (by decide)]
    exact b2.2 x hx
  have n3 : σ3 50 20 = nI (2 * n - 1) := by rw [hσ3, stm_v]
  have hM3 : MM σ3 n p R := hM.keep k3 rfl rfl (fun _ => rfl)
  obtain ⟨a', ⟨g1, g2⟩, e2⟩ := up_k (fun f i (a : Nat × Mem) => LX9_directedOf_47 (fun x4 σ11 => some (x4, σ11)) f (nI a.1) (nI i) a.2) p (fun k a => a.1 = sumR (fun j => mn4 1000 (vA (fol0 (edg 6 n t) e).1 (fol0 (edg 6 n t) e).2 (fun x => LSt n p R x j) true 0)) k ∧ Keep (nC [60, 61]) σ3 a.2) (fun a => some (nI a.1, a.2))
    (fun f k a hk hI => by
      obtain ⟨acc, s⟩ := a
      obtain ⟨i1, i2⟩ := hI
      dsimp only at i1 i2 ⊢
      have hM' : MM s n p R := hM3.keep i2 rfl rfl (fun _ => rfl)
      obtain ⟨s2, c1, c2⟩ := costFrom9_eq (d := true) (root := 2 * n - 2) hM' (Or.inr hk) (by omega) (show 2 * n - 1 ≤ 11 by omega) (by rw [i2 50 20 rfl]; exact n3) (hE3.keep i2 (fun _ => rfl) (fun _ => rfl) rfl) ((Bd.edg hn hn ht).dirE (by omega) (by omega)) (by rw [dirE_len]; omega) (hok.2 e he) (by omega) p2 p1
      have hc : c0M n (fun x => lfS (R x k)) = c0M n (fun x => LSt n p R x k) := c0M_congr (fun x hx => by
        unfold LSt
        rw [if_pos ⟨hx, hk⟩])
      rw [hc, p3 _ (LSt_ns hR)] at c1
      refine ⟨(acc + mn4 1000 (vA (fol0 (edg 6 n t) e).1 (fol0 (edg 6 n t) e).2 (fun x => LSt n p R x k) true 0), s2), ⟨by dsimp only; rw [i1]; rfl, i2.tr c2⟩, ?_⟩
      show BX9_directedOf_47 _ _ (nI acc) (nI k) s = _
      unfold BX9_directedOf_47
      have hr : (nI (2 * n - 1) - 1 : Int32) = nI (2 * n - 2) := by
        rw [show (1 : Int32) = nI 1 from rfl, pk_sub (by omega)]
        rfl
      rw [hM'.2.1, if_neg (nle_n hk (by omega)), i2 50 20 rfl, n3, hr, show fX9_costFrom (nI (2 * n - 2)) (nI k) 1 s = _ from c1, bnd_eq]
      dsimp only [letv]
      rw [add_n, one_n])
    (fun f a hI => by
      show BX9_directedOf_47 _ _ (nI a.1) (nI p) a.2 = _
      unfold BX9_directedOf_47
      rw [hI.2 50 1 rfl, hM3.2.1, if_pos (le_n (Nat.le_refl p) (by omega))])
    0 (0, σ3) 300 (by omega) (by omega) ⟨rfl, Keep.rf⟩
  refine ⟨a'.2, ?_, k3.tr (g2.mono rM_C)⟩
  unfold fX9_directedOf
  rw [a1, bnd_eq, gd_n (by omega) (by decide), cl_n (by omega)]
  dsimp only [letv, letm]
  rw [gd_n (by omega) (by decide), stm_ne (show (50 : Nat) ≠ 59 by decide), a3, (a2.2 e (by omega)).2, b1, bnd_eq, c20, one_n, show 2 * n - 2 + 1 = 2 * n - 1 by omega, ← hσ3, show LX9_directedOf_47 (fun x4 σ11 => some (x4, σ11)) 300 0 0 σ3 = some (nI a'.1, a'.2) from e2, g1]
  rfl
/-- the class's sums are the same -/
theorem fA_15 {n : Nat} {q : PL} {bl : List Nat} (hn : n ≤ 6) (h : FO n q bl) : ∀ (d j : Nat), q.length - j ≤ d → j < q.length → fA q bl (fun _ => 15) j = 15 := by
  intro d
  induction d with
  | zero => intro j h1 h2; omega
  | succ d ih =>
    intro j h1 h2
    have e1 : fA q bl (fun _ => 15) j = if (q.getD j (0, 0)).1 < 6 then 15 else fitS (fA q bl (fun _ => 15) (bl.getD j 0)) (fA q bl (fun _ => 15) (bl.getD j 0 + 1)) := evA_eq (z := (0 : Nat)) (lf := fun _ => 15) (kn := fun _ a b => fitS a b) h2 (h.ev hn h2)
    by_cases hlf : (q.getD j (0, 0)).1 < 6
    · rw [e1, if_pos hlf]
    · obtain ⟨b1, b2, -⟩ := h.kn hn h2 hlf
      rw [e1, if_neg hlf, ih _ (by omega) (by omega), ih _ (by omega) b2]
      rfl
theorem chg1_15 (hT : TreeOK) {n t : Nat} (hn : n ≤ 6) (ht : t < TN n) : chg1 n t (fun _ => 15) = 0 := by
  unfold chg1
  by_cases h2 : n < 2
  · rw [if_pos h2]
  · rw [if_neg h2]
    have hfo := und_fo hT (by omega) hn ht
    unfold chK
    rw [filt_sum, sumR_congr (g := fun _ => 0), sumR_0]
    intro j hj
    by_cases hk : 6 ≤ ((fol0 (edg 6 n t) 0).1.getD j (0, 0)).1
    · rw [if_pos (by simpa using hk)]
      obtain ⟨b1, b2, -⟩ := hfo.kn hn hj (by omega)
      unfold incA
      rw [fA_15 hn hfo (fol0 (edg 6 n t) 0).1.length _ (by omega) (by omega), fA_15 hn hfo (fol0 (edg 6 n t) 0).1.length _ (by omega) b2]
      rfl
    · rw [if_neg (by simpa using hk)]
theorem sumR_ext {f : Nat → Nat} {m : Nat} : ∀ d, (∀ i, m ≤ i → i < m + d → f i = 0) → sumR f (m + d) = sumR f m := by
  intro d
  induction d with
  | zero => intro _; rfl
  | succ d ih =>
    intro h
    show sumR f (m + d) + f (m + d) = _
    rw [ih (fun i h1 h2 => h i h1 (by omega)), h (m + d) (by omega) (by omega)]
    rfl
theorem sum_all (hT : TreeOK) {n p t : Nat} {R : Nat → Nat → Nat} {CS : Nat → Int32} (hn : n ≤ 6) (hp : p ≤ 8) (ht : t < TN n) (hS : ∀ x, x < 6 → ∀ i, i < 8 → nb (CS x) i = LSt n p R x i) : sumR (fun i => chg1 n t (fun x => nb (CS x) i)) 8 = CHG n p R t := by
  rw [sumR_congr (g := fun i => chg1 n t (fun x => LSt n p R x i)) (fun i hi => chg1_congr (fun x hx => hS x hx i hi))]
  have := sumR_ext (f := fun i => chg1 n t (fun x => LSt n p R x i)) (m := p) (8 - p) (fun i h1 h2 => by
    have : (fun x => LSt n p R x i) = (fun _ => 15) := by
      funext x
      unfold LSt
      rw [if_neg (by omega)]
    rw [this]
    exact chg1_15 hT hn ht)
  rw [show p + (8 - p) = 8 by omega] at this
  exact this
theorem sumR_one {f : Nat → Nat} {j : Nat} : ∀ m, j < m → (∀ i, i < m → i ≠ j → f i = 0) → sumR f m = f j := by
  intro m
  induction m with
  | zero => intro h; omega
  | succ m ih =>
    intro h h2
    show sumR f m + f m = f j
    by_cases hm : j = m
    · subst hm
      rw [sumR_congr (g := fun _ => 0) (fun i hi => h2 i (by omega) (by omega)), sumR_0]
      omega
    · rw [ih (by omega) (fun i hi => h2 i (by omega)), h2 m (by omega) (Ne.symm hm)]
      rfl
theorem sum_one (hT : TreeOK) {n t j : Nat} {S : Nat → Nat → Nat} {CS : Nat → Int32} (hn : n ≤ 6) (ht : t < TN n) (hj : j < 8) (hS : ∀ x, x < 6 → ∀ i, i < 8 → nb (CS x) i = if i = j then S x i else 15) : sumR (fun i => chg1 n t (fun x => nb (CS x) i)) 8 = chg1 n t (fun x => S x j) := by
  rw [sumR_one (j := j) 8 hj (fun i hi hij => by
    rw [chg1_congr (S' := fun _ => 15) (fun x hx => by rw [hS x hx i hi, if_neg hij])]
    exact chg1_15 hT hn ht)]
  exact chg1_congr (fun x hx => by rw [hS x hx j hj, if_pos rfl])
