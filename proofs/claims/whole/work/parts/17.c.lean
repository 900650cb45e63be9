/-! rank and best -/
theorem sumR_mono {f g : Nat → Nat} : ∀ N, (∀ j, j < N → f j ≤ g j) → sumR f N ≤ sumR g N := by
  intro N
  induction N with
  | zero => intro _; exact Nat.le_refl _
  | succ N ih =>
    intro h
    show sumR f N + f N ≤ sumR g N + g N
    have := ih (fun j hj => h j (by omega))
    have := h N (by omega)
    omega
theorem sumR_lt {f g : Nat → Nat} {i : Nat} : ∀ N, i < N → (∀ j, j < N → f j ≤ g j) → f i < g i → sumR f N < sumR g N := by
  intro N
  induction N with
  | zero => intro h; omega
  | succ N ih =>
    intro hi h hs
    show sumR f N + f N < sumR g N + g N
    have h1 := h N (by omega)
    by_cases hiN : i = N
    · subst hiN
      have := sumR_mono (f := f) (g := g) i (fun j hj => h j (by omega))
      omega
    · have := ih (by omega) (fun j hj => h j (by omega)) hs
      omega
def ahd (D : Nat → Nat) (N t : Nat) : Nat := sumR (fun o => if D o < D t ∨ (D o = D t ∧ o < t) then 1 else 0) N
theorem ite_le {P Q : Prop} [Decidable P] [Decidable Q] (h : P → Q) : (if P then 1 else 0 : Nat) ≤ if Q then 1 else 0 := by
  by_cases hp : P
  · rw [if_pos hp, if_pos (h hp)]; exact Nat.le_refl _
  · rw [if_neg hp]; exact Nat.zero_le _
theorem ahd_mono {D : Nat → Nat} {N t u : Nat} (ht : t < N) (h : D t < D u ∨ (D t = D u ∧ t < u)) : ahd D N t < ahd D N u := by
  unfold ahd
  refine sumR_lt N ht (fun j _ => ite_le (fun z => by omega)) ?_
  rw [if_neg (by omega), if_pos h]
  omega
theorem ahd_inj {D : Nat → Nat} {N t u : Nat} (ht : t < N) (hu : u < N) (h : ahd D N t = ahd D N u) : t = u := by
  by_cases h1 : D t < D u ∨ (D t = D u ∧ t < u)
  · have := ahd_mono ht h1; omega
  · by_cases h2 : D u < D t ∨ (D u = D t ∧ u < t)
    · have := ahd_mono hu h2; omega
    · omega
theorem ahd_lt {D : Nat → Nat} {N t : Nat} (ht : t < N) : ahd D N t < N := by
  have h := sumR_lt (f := fun o => if D o < D t ∨ (D o = D t ∧ o < t) then 1 else 0) (g := fun _ => 1) N ht (fun j _ => by split <;> omega) (by rw [if_neg (by omega)]; omega)
  rw [sumR_1] at h
  exact h
theorem ahd_at {D : Nat → Nat} {N t : Nat} (ht : t < N) : ahd D N t = cl D N (D t) + ce D (D t) t := by
  have e : ahd D N t = sumR (fun o => (if D o < D t then 1 else 0) + (if o < t then (if D o = D t then 1 else 0) else 0)) N := by
    unfold ahd
    apply sumR_congr
    intro o _
    by_cases h1 : D o < D t
    · rw [if_pos (Or.inl h1), if_pos h1]
      by_cases h2 : o < t
      · rw [if_pos h2, if_neg (by omega)]
      · rw [if_neg h2]
    · rw [if_neg h1]
      by_cases h2 : o < t
      · rw [if_pos h2]
        by_cases h3 : D o = D t
        · rw [if_pos (Or.inr ⟨h3, h2⟩), if_pos h3]
        · rw [if_neg (by omega), if_neg h3]
      · rw [if_neg (by omega), if_neg h2]
  rw [e, sumR_add]
  have h2 := sumR_ext (f := fun o => if o < t then (if D o = D t then 1 else 0) else 0) (m := t) (N - t) (fun i h1 h2 => by rw [if_neg (by omega)])
  rw [show t + (N - t) = N by omega] at h2
  rw [h2]
  unfold cl ce
  congr 1
  apply sumR_congr
  intro o ho
  rw [if_pos ho]
theorem treeWith_eq {σ : Mem} {n : Nat} {D : Nat → Nat} (hn : n ≤ 6) (hc : σ 4 1 = nI n) (hD : ∀ t, t < TN n → σ 44 t = nI (D t) ∧ D t < 1000) {c l : Nat} (hc9 : c < 1000) (hl : l < ce D c (TN n)) (hl9 : l < 1000) : ∃ t, t < TN n ∧ D t = c ∧ ce D c t = l ∧ fX8_treeWith (nI c) (nI l) σ = some (nI t, σ) := by
  have hTN := TN_le (n := n)
  have key := up_loop (fun f t (a : Nat) => LX8_treeWith_17 (fun σ5 => some ((-9), σ5)) f (nI c) (nI a) (nI (TN n)) (nI t) σ) (TN n) (fun t a => a + ce D c t = l) (fun o => ∃ t, t < TN n ∧ D t = c ∧ ce D c t = l ∧ o = some (nI t, σ))
    (fun f t a ht hI => by
      obtain ⟨d1, d2⟩ := hD t ht
      have es : ce D c (t + 1) = ce D c t + (if D t = c then 1 else 0) := rfl
      have hstep : ∀ X : O, (LX8_treeWith_17 (fun σ5 => some ((-9), σ5)) (f + 1) (nI c) (nI a) (nI (TN n)) (nI t) σ = X) = (BX8_treeWith_17 (fun σ5 => some ((-9), σ5)) (LX8_treeWith_17 (fun σ5 => some ((-9), σ5)) f) (nI c) (nI a) (nI (TN n)) (nI t) σ = X) := fun _ => rfl
      unfold BX8_treeWith_17 at hstep
      rw [if_neg (nle_n ht (by omega)), at_in (by omega) (by decide), bnd_eq, show σ (43 + 1) t = nI (D t) from d1, one_n] at hstep
      by_cases hDc : D t = c
      · rw [if_pos (by rw [hDc])] at hstep
        by_cases ha : a = 0
        · refine Or.inl ⟨t, ht, hDc, by omega, ?_⟩
          rw [hstep, if_pos (by rw [ha]; rfl)]
        · rw [if_neg (show ¬ nI a = (0 : Int32) from ne_n (b := 0) ha (by omega) (by decide))] at hstep
          rw [if_pos hDc] at es
          refine Or.inr ⟨a - 1, by omega, ?_⟩
          rw [hstep]
          obtain ⟨b, rfl⟩ : ∃ b, a = b + 1 := ⟨a - 1, by omega⟩
          rw [pk_m1]
          rfl
      · rw [if_neg (ne_n hDc (by omega) (by omega))] at hstep
        rw [if_neg hDc] at es
        exact Or.inr ⟨a, by omega, by rw [hstep]⟩)
    (fun f a hI => by omega)
    (TN n) 0 l 300 (by omega) (by omega) (by show l + 0 = l; omega)
  obtain ⟨t, t1, t2, t3, t4⟩ := key
  refine ⟨t, t1, t2, t3, ?_⟩
  unfold fX8_treeWith
  rw [hc, treesOf_eq hn, bnd_eq]
  exact t4
theorem rank8_eq (hK : TreeK) {σ : Mem} {n p : Nat} {R : Nat → Nat → Nat} (h : CC σ n p R) (hW : WT σ n p R) {k : Nat} (hk : k < TN n) : ∃ t, t < TN n ∧ ahd (CHG n p R) (TN n) t = k ∧ LX8_rank_31 (fun σ10 => some ((-9), σ10)) 300 (nI k) 0 σ = some (nI t, σ) := by
  have hp := h.2.2.2.1
  have hn := h.2.2.1
  have hTN := TN_le (n := n)
  exact up_loop (fun f c (a : Nat) => LX8_rank_31 (fun σ10 => some ((-9), σ10)) f (nI a) (nI c) σ) 49 (fun c a => a + cl (CHG n p R) (TN n) c = k) (fun o => ∃ t, t < TN n ∧ ahd (CHG n p R) (TN n) t = k ∧ o = some (nI t, σ))
    (fun f c a hc hI => by
      have es := cl_s (CHG n p R) (TN n) c
      have hstep : ∀ X : O, (LX8_rank_31 (fun σ10 => some ((-9), σ10)) (f + 1) (nI a) (nI c) σ = X) = (BX8_rank_31 (fun σ10 => some ((-9), σ10)) (LX8_rank_31 (fun σ10 => some ((-9), σ10)) f) (nI a) (nI c) σ = X) := fun _ => rfl
      have hce : ce (CHG n p R) c (TN n) ≤ TN n := sumR_le (fun i => by split <;> omega) _
      unfold BX8_rank_31 at hstep
      rw [if_neg (show ¬ (48 : Int32) < nI c from nlt_n (a := 48) (by omega) (by decide)), at_in hc (by decide), bnd_eq, show σ (45 + 1) c = nI (ce (CHG n p R) c (TN n)) from hW.2 c (by omega), one_n] at hstep
      by_cases hle : ce (CHG n p R) c (TN n) ≤ a
      · rw [if_pos (le_n hle (by omega)), pk_sub hle] at hstep
        refine Or.inr ⟨a - ce (CHG n p R) c (TN n), by omega, ?_⟩
        rw [hstep]
        rfl
      · rw [if_neg (nle_n (by omega) (by omega))] at hstep
        obtain ⟨t, t1, t2, t3, t4⟩ := treeWith_eq (D := CHG n p R) (c := c) (l := a) hn h.1 (fun t ht => ⟨hW.1 t ht, by have := CHG_le hK (R := R) hn hp ht; omega⟩) (by omega) (by omega) (by omega)
        refine Or.inl ⟨t, t1, ?_, ?_⟩
        · rw [ahd_at t1, t2, t3]; omega
        · rw [hstep, t4, bnd_eq])
    (fun f a hI => by
      have := cl_all (D := CHG n p R) (N := TN n) (c := 49) (fun o ho => by have := CHG_le hK (R := R) hn hp ho; omega)
      omega)
    49 0 k 300 (by omega) (by omega) (by rw [cl_0]; rfl)
def lw (D : Nat → Nat) : Nat → Nat
  | 0 => 9999
  | k + 1 => if lw D k ≤ D k then lw D k else D k
theorem lw_s (D : Nat → Nat) (k : Nat) : lw D (k + 1) = if lw D k ≤ D k then lw D k else D k := rfl
theorem lw_9 (D : Nat → Nat) : ∀ k, lw D k ≤ 9999 := by
  intro k
  induction k with
  | zero => exact Nat.le_refl _
  | succ k ih =>
    rw [lw_s]
    split <;> omega
theorem lw_le (D : Nat → Nat) : ∀ N t, t < N → lw D N ≤ D t := by
  intro N
  induction N with
  | zero => intro t h; omega
  | succ N ih =>
    intro t ht
    rw [lw_s]
    by_cases htN : t = N
    · subst htN; split <;> omega
    · have := ih t (by omega)
      split <;> omega
theorem lw_ex {D : Nat → Nat} : ∀ N, (∀ t, t < N → D t ≤ 40) → 0 < N → ∃ t, t < N ∧ D t = lw D N := by
  intro N
  induction N with
  | zero => intro _ h; omega
  | succ N ih =>
    intro hD _
    rw [lw_s]
    by_cases h0 : N = 0
    · subst h0
      have := hD 0 (by omega)
      rw [if_neg (show ¬ lw D 0 ≤ D 0 from fun z => by have e : lw D 0 = 9999 := rfl; omega)]
      exact ⟨0, by omega, rfl⟩
    · obtain ⟨t, t1, t2⟩ := ih (fun t ht => hD t (by omega)) (by omega)
      split
      · exact ⟨t, by omega, t2⟩
      · exact ⟨N, by omega, rfl⟩
theorem ce_0 {D : Nat → Nat} {c N : Nat} (h : ∀ t, t < N → D t ≠ c) : ce D c N = 0 := by
  unfold ce
  rw [sumR_congr (g := fun _ => 0) (fun o ho => by rw [if_neg (h o ho)]), sumR_0]
theorem ce_p {D : Nat → Nat} {c N t : Nat} (ht : t < N) (h : D t = c) : 0 < ce D c N := by
  have := sumR_lt (f := fun _ => 0) (g := fun o => if D o = c then 1 else 0) N ht (fun j _ => Nat.zero_le _) (by rw [if_pos h]; omega)
  rw [sumR_0] at this
  exact this
theorem TN_pos (n : Nat) : 0 < TN n := by
  unfold TN
  split
  · omega
  · split
    · omega
    · split <;> omega
theorem fewest8_eq (hK : TreeK) {σ : Mem} {n p : Nat} {R : Nat → Nat → Nat} (h : CC σ n p R) (hW : WT σ n p R) : fX8_fewestChanges σ = some (nI (lw (CHG n p R) (TN n)), σ) := by
  have hp := h.2.2.2.1
  have hn := h.2.2.1
  have hTN := TN_le (n := n)
  have hD : ∀ t, t < TN n → CHG n p R t ≤ 40 := fun t ht => CHG_le hK hn hp ht
  obtain ⟨t, t1, t2⟩ := lw_ex (TN n) hD (TN_pos n)
  have h40 := hD t t1
  exact up_loop (fun f c (a : Unit) => LX8_fewestChanges_2 (fun σ3 => some (0, σ3)) f (nI c) σ) 49 (fun c _ => c ≤ lw (CHG n p R) (TN n)) (fun o => o = some (nI (lw (CHG n p R) (TN n)), σ))
    (fun f c a hc hI => by
      have hstep : ∀ X : O, (LX8_fewestChanges_2 (fun σ3 => some (0, σ3)) (f + 1) (nI c) σ = X) = (BX8_fewestChanges_2 (fun σ3 => some (0, σ3)) (LX8_fewestChanges_2 (fun σ3 => some (0, σ3)) f) (nI c) σ = X) := fun _ => rfl
      have hce : ce (CHG n p R) c (TN n) ≤ TN n := sumR_le (fun i => by split <;> omega) _
      unfold BX8_fewestChanges_2 at hstep
      rw [if_neg (show ¬ (48 : Int32) < nI c from nlt_n (a := 48) (by omega) (by decide)), at_in hc (by decide), bnd_eq, show σ (45 + 1) c = nI (ce (CHG n p R) c (TN n)) from hW.2 c (by omega), one_n] at hstep
      by_cases hcl : c = lw (CHG n p R) (TN n)
      · have hpos := ce_p (D := CHG n p R) (c := c) t1 (by omega)
        refine Or.inl ?_
        rw [hstep, if_neg (show ¬ nI (ce (CHG n p R) c (TN n)) ≤ (0 : Int32) from nle_n (b := 0) hpos (by omega)), hcl]
      · have hz : ce (CHG n p R) c (TN n) = 0 := ce_0 (fun u hu z => by have := lw_le (CHG n p R) (TN n) u hu; omega)
        refine Or.inr ⟨(), by omega, ?_⟩
        rw [hstep, hz, if_pos (by decide)])
    (fun f a hI => by omega)
    49 0 () 300 (by omega) (by omega) (Nat.zero_le _)
def rF : Nat → Nat → Bool := fun c k => rM c k && !(c == 62)
theorem RI_rF : ∀ c k, RI c k = true → rF c k = true := by
  intro c k h
  unfold rF
  rw [RI_rM c k h, Bool.true_and]
  by_cases hc : c = 62
  · subst hc
    exact absurd h (by show ¬ false = true; decide)
  · rw [beq_false_of_ne hc]; rfl
theorem rF_rM : ∀ c k, rF c k = true → rM c k = true := by
  intro c k h
  unfold rF at h
  rw [Bool.and_eq_true] at h
  exact h.1
theorem fewest9_eq (hT : TreeOK) (hTE : TreeE) (hK : TreeK) {σ : Mem} {n p : Nat} {R : Nat → Nat → Nat} (h : MM σ n p R) (hp0 : n = 0 → p = 0) : ∃ σ', fX9_fewest σ = some (nI (lw (CHG n p R) (TN n)), σ') ∧ (∀ t, t < TN n → σ' 62 t = nI (CHG n p R t)) ∧ Keep rF σ σ' := by
  have hp := h.2.2.2.1
  have hn := h.2.2.1
  have hTN := TN_le (n := n)
  obtain ⟨a, ⟨i1, i2, i3⟩, e⟩ := up_k (fun f t (a : Nat × Mem) => LX9_fewest_6 (fun x1 σ7 => some (x1, σ7)) f (nI a.1) (nI t) a.2) (TN n) (fun t a => a.1 = lw (CHG n p R) t ∧ (∀ u, u < t → a.2 62 u = nI (CHG n p R u)) ∧ Keep rF σ a.2) (fun a => some (nI a.1, a.2))
    (fun f t a ht hI => by
      obtain ⟨x, s⟩ := a
      obtain ⟨i1, i2, i3⟩ := hI
      dsimp only at i1 i2 i3 ⊢
      have hM : MM s n p R := h.keep i3 rfl rfl (fun _ => rfl)
      obtain ⟨s2, b1, b2⟩ := changesOf9_eq hT hTE hM hp0 ht
      have h40 := CHG_le hK (R := R) hn hp ht
      have hx := lw_9 (CHG n p R) t
      have hstep : ∀ X : O, (LX9_fewest_6 (fun x1 σ7 => some (x1, σ7)) (f + 1) (nI x) (nI t) s = X) = (BX9_fewest_6 (fun x1 σ7 => some (x1, σ7)) (LX9_fewest_6 (fun x1 σ7 => some (x1, σ7)) f) (nI x) (nI t) s = X) := fun _ => rfl
      unfold BX9_fewest_6 at hstep
      rw [trees9_eq hn hM.1, bnd_eq, if_neg (nle_n ht (by omega)), b1, bnd_eq, gd_n (by omega) (by decide), cl_n (by omega), one_n] at hstep
      dsimp only [letm, letv] at hstep
      rw [gd_n (by omega) (by decide), gd_n (by omega) (by decide), stm_v] at hstep
      have k2 : Keep rF σ (stm s2 62 t (nI (CHG n p R t))) := (i3.tr (b2.mono rF_rM)).st rfl
      have hv : ∀ u, u < t + 1 → stm s2 62 t (nI (CHG n p R t)) 62 u = nI (CHG n p R u) := by
        intro u hu
        by_cases hut : u = t
        · subst hut; rw [stm_v]
        · rw [stm_k hut, b2 62 u rfl]; exact i2 u (by omega)
      by_cases hle : x ≤ CHG n p R t
      · rw [if_pos (le_n hle (by omega))] at hstep
        refine ⟨(x, stm s2 62 t (nI (CHG n p R t))), ⟨?_, hv, k2⟩, by rw [hstep]⟩
        dsimp only
        rw [lw_s, if_pos (by omega), i1]
      · rw [if_neg (nle_n (by omega) (by omega))] at hstep
        refine ⟨(CHG n p R t, stm s2 62 t (nI (CHG n p R t))), ⟨?_, hv, k2⟩, by rw [hstep]⟩
        dsimp only
        rw [lw_s, if_neg (by omega)])
    (fun f a hI => by
      show BX9_fewest_6 _ _ (nI a.1) (nI (TN n)) a.2 = _
      unfold BX9_fewest_6
      rw [trees9_eq hn (by rw [hI.2.2 50 0 rfl]; exact h.1), bnd_eq, if_pos (le_n (Nat.le_refl _) (by omega))])
    0 (9999, σ) 300 (by omega) (by omega) ⟨rfl, fun u hu => absurd hu (Nat.not_lt_zero u), Keep.rf⟩
  refine ⟨a.2, ?_, i2, i3⟩
  rw [← i1]
  exact e
theorem rank9_eq (hK : TreeK) {σ : Mem} {n p : Nat} {R : Nat → Nat → Nat} (h : MM σ n p R) (hA : ∀ t, t < TN n → σ 62 t = nI (CHG n p R t)) (x : Int32) : (∃ t, t < TN n ∧ nI (ahd (CHG n p R) (TN n) t) = x ∧ LX9_rank_13 (fun σ12 => some ((-9), σ12)) 300 x 0 σ = some (nI t, σ)) ∨ ((∀ t, t < TN n → ¬ nI (ahd (CHG n p R) (TN n) t) = x) ∧ LX9_rank_13 (fun σ12 => some ((-9), σ12)) 300 x 0 σ = some (-9, σ)) := by
  have hp := h.2.2.2.1
  have hn := h.2.2.1
  have hTN := TN_le (n := n)
  have hD : ∀ t, t < TN n → CHG n p R t ≤ 40 := fun t ht => CHG_le hK hn hp ht
  have hin : ∀ (K : Int32 → Int32 → Int32 → Mem → O) t, t < TN n → LX9_rank_26 K 300 x (nI t) 0 0 σ = K x (nI t) (nI (ahd (CHG n p R) (TN n) t)) σ := by
    intro K t ht
    refine up_f (fun f o (a : Nat) => LX9_rank_26 K f x (nI t) (nI a) (nI o) σ) (TN n) (sumR (fun o => if CHG n p R o < CHG n p R t ∨ (CHG n p R o = CHG n p R t ∧ o < t) then 1 else 0)) (fun a => K x (nI t) (nI a) σ) (fun f o ho => ?_) (fun f => ?_) 0 300 (by omega) (by omega)
    · have d1 := hD t ht
      have d2 := hD o ho
      show BX9_rank_26 K _ x (nI t) _ (nI o) σ = LX9_rank_26 K f x (nI t) (nI (sumR (fun o => if CHG n p R o < CHG n p R t ∨ (CHG n p R o = CHG n p R t ∧ o < t) then 1 else 0) o + (if CHG n p R o < CHG n p R t ∨ (CHG n p R o = CHG n p R t ∧ o < t) then 1 else 0))) (nI (o + 1)) σ
      generalize sumR (fun o => if CHG n p R o < CHG n p R t ∨ (CHG n p R o = CHG n p R t ∧ o < t) then 1 else 0) o = acc
      unfold BX9_rank_26
      rw [trees9_eq hn h.1, bnd_eq, if_neg (nle_n ho (by omega)), gd_n (by omega) (by decide), gd_n (by omega) (by decide)]
      dsimp only [jn, letv]
      rw [gd_n (by omega) (by decide), gd_n (by omega) (by decide), cl_n (by omega), cl_n (by omega), hA o ho, hA t ht]
      by_cases c1 : CHG n p R o < CHG n p R t
      · rw [if_pos (lt_n c1 (by omega)), if_pos (Or.inl c1), one_n, one_n]
      · rw [if_neg (nlt_n (by omega) (by omega))]
        by_cases c2 : CHG n p R o = CHG n p R t
        · rw [if_pos (by rw [c2])]
          by_cases c3 : o < t
          · rw [if_neg (nle_n c3 (by omega)), if_pos (Or.inr ⟨c2, c3⟩), one_n, one_n]
          · rw [if_pos (le_n (by omega) (by omega)), if_neg (by omega), one_n, show (0 : Int32) = nI 0 from rfl, add_n]
        · rw [if_neg (ne_n c2 (by omega) (by omega)), if_neg (by omega), one_n, show (0 : Int32) = nI 0 from rfl, add_n]
    · show BX9_rank_26 K _ x (nI t) _ (nI (TN n)) σ = _
      unfold BX9_rank_26
      rw [trees9_eq hn h.1, bnd_eq, if_pos (le_n (Nat.le_refl _) (by omega))]
  exact up_loop (fun f t (a : Unit) => LX9_rank_13 (fun σ12 => some ((-9), σ12)) f x (nI t) σ) (TN n) (fun t _ => ∀ u, u < t → ¬ nI (ahd (CHG n p R) (TN n) u) = x) (fun o => (∃ t, t < TN n ∧ nI (ahd (CHG n p R) (TN n) t) = x ∧ o = some (nI t, σ)) ∨ ((∀ t, t < TN n → ¬ nI (ahd (CHG n p R) (TN n) t) = x) ∧ o = some (-9, σ)))
    (fun f t a ht hI => by
      have hstep : ∀ X : O, (LX9_rank_13 (fun σ12 => some ((-9), σ12)) (f + 1) x (nI t) σ = X) = (BX9_rank_13 (fun σ12 => some ((-9), σ12)) (LX9_rank_13 (fun σ12 => some ((-9), σ12)) f) x (nI t) σ = X) := fun _ => rfl
      unfold BX9_rank_13 at hstep
      rw [trees9_eq hn h.1, bnd_eq, if_neg (nle_n ht (by omega)), hin _ t ht, one_n] at hstep
      by_cases hx : nI (ahd (CHG n p R) (TN n) t) = x
      · rw [if_pos hx] at hstep
        exact Or.inl (Or.inl ⟨t, ht, hx, by rw [hstep]⟩)
      · rw [if_neg hx] at hstep
        refine Or.inr ⟨(), fun u hu => ?_, by rw [hstep]⟩
        by_cases hut : u = t
        · subst hut; exact hx
        · exact hI u (by omega))
    (fun f a hI => by
      refine Or.inr ⟨hI, ?_⟩
      show BX9_rank_13 _ _ x (nI (TN n)) σ = _
      unfold BX9_rank_13
      rw [trees9_eq hn h.1, bnd_eq, if_pos (le_n (Nat.le_refl _) (by omega))])
    (TN n) 0 () 300 (by omega) (by omega) (fun u hu => absurd hu (Nat.not_lt_zero u))
