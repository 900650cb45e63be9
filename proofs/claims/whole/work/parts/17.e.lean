/-! a better tree by one copy hung elsewhere -/
def wgt (k : Nat) : Nat := if k = 3 then 1 else if k = 4 then 3 else 15
def num (c k e : Nat) : Nat := c - dig c k * wgt k + e * wgt k
def nearN (a b : Nat) : Nat → Nat
  | 0 => 0
  | k + 1 => nearN a b k + (if dig a (k + 3) = dig b (k + 3) then 0 else 1)
def near (a b : Nat) : Prop := nearN a b 3 < 2
/-- the best of those seen: b, of the trees c itself and S -/
def BT (D : Nat → Nat) (c : Nat) (S : Nat → Prop) (b : Nat) : Prop := (b = c ∧ ∀ x, S x → D c ≤ D x) ∨ (b ≠ c ∧ S b ∧ D b < D c ∧ ∀ x, S x → D b < D x ∨ (D x = D b ∧ b ≤ x))
theorem BT_step {D : Nat → Nat} {c b x : Nat} {S : Nat → Prop} (h : BT D c S b) : BT D c (fun y => S y ∨ y = x) (if D x < D b ∨ (b ≠ c ∧ D x = D b ∧ x < b) then x else b) := by
  by_cases hx : D x < D b ∨ (b ≠ c ∧ D x = D b ∧ x < b)
  · rw [if_pos hx]
    rcases h with ⟨h1, h2⟩ | ⟨h1, h2, h3, h4⟩
    · subst h1
      have hl : D x < D b := by omega
      refine Or.inr ⟨fun z => by subst z; omega, Or.inr rfl, hl, fun y hy => ?_⟩
      rcases hy with hy | rfl
      · have := h2 y hy; omega
      · omega
    · refine Or.inr ⟨fun z => by subst z; omega, Or.inr rfl, by omega, fun y hy => ?_⟩
      rcases hy with hy | rfl
      · have := h4 y hy; omega
      · omega
  · rw [if_neg hx]
    rcases h with ⟨h1, h2⟩ | ⟨h1, h2, h3, h4⟩
    · subst h1
      refine Or.inl ⟨rfl, fun y hy => ?_⟩
      rcases hy with hy | rfl
      · exact h2 y hy
      · omega
    · refine Or.inr ⟨h1, Or.inl h2, h3, fun y hy => ?_⟩
      rcases hy with hy | rfl
      · exact h4 y hy
      · omega
theorem BT_congr {D : Nat → Nat} {c b : Nat} {S S' : Nat → Prop} (hS : ∀ x, S x ↔ S' x) (h : BT D c S b) : BT D c S' b := by
  rcases h with ⟨h1, h2⟩ | ⟨h1, h2, h3, h4⟩
  · exact Or.inl ⟨h1, fun x hx => h2 x ((hS x).mpr hx)⟩
  · exact Or.inr ⟨h1, (hS b).mp h2, h3, fun x hx => h4 x ((hS x).mpr hx)⟩
theorem BT_uniq {D : Nat → Nat} {c b b' : Nat} {S : Nat → Prop} (h : BT D c S b) (h' : BT D c S b') : b = b' := by
  rcases h with ⟨h1, h2⟩ | ⟨h1, h2, h3, h4⟩
  · rcases h' with ⟨g1, g2⟩ | ⟨g1, g2, g3, g4⟩
    · omega
    · have := h2 b' g2; omega
  · rcases h' with ⟨g1, g2⟩ | ⟨g1, g2, g3, g4⟩
    · have := g2 b h2; omega
    · have := h4 b' g2
      have := g4 b h2
      omega
/-- those that the class looks at before copy k, edge e -/
def Sk (c k e : Nat) (x : Nat) : Prop := (∃ k' e', 3 ≤ k' ∧ k' < k ∧ e' < 2 * k' - 3 ∧ x = num c k' e') ∨ (∃ e', e' < e ∧ x = num c k e')
theorem Sk_s (c k e x : Nat) : (Sk c k e x ∨ x = num c k e) ↔ Sk c k (e + 1) x := by
  constructor
  · rintro ((h | ⟨e', h1, h2⟩) | h)
    · exact Or.inl h
    · exact Or.inr ⟨e', by omega, h2⟩
    · exact Or.inr ⟨e, by omega, h⟩
  · rintro (h | ⟨e', h1, h2⟩)
    · exact Or.inl (Or.inl h)
    · by_cases hee : e' = e
      · subst hee; exact Or.inr h2
      · exact Or.inl (Or.inr ⟨e', by omega, h2⟩)
theorem Sk_k {c k : Nat} (h3 : 3 ≤ k) (x : Nat) : Sk c k (2 * k - 3) x ↔ Sk c (k + 1) 0 x := by
  constructor
  · rintro (⟨k', e', h1, h2, h4⟩ | ⟨e', h1, h2⟩)
    · exact Or.inl ⟨k', e', h1, by omega, h4⟩
    · exact Or.inl ⟨k, e', h3, by omega, h1, h2⟩
  · rintro (⟨k', e', h1, h2, h4, h5⟩ | ⟨e', h1, h2⟩)
    · by_cases hkk : k' = k
      · subst hkk; exact Or.inr ⟨e', h4, h5⟩
      · exact Or.inl ⟨k', e', h1, by omega, h4, h5⟩
    · exact absurd h1 (Nat.not_lt_zero e')
theorem num_all : ([4, 5, 6] : List Nat).all (fun n => (List.range (TN n)).all (fun c => (List.range (n - 3)).all (fun k => decide (dig c (k + 3) * wgt (k + 3) ≤ c) && (List.range (2 * (k + 3) - 3)).all (fun e => decide (num c (k + 3) e < TN n) && decide (nearN (num c (k + 3) e) c 3 < 2))))) = true := by decide +kernel
theorem num_ex : ([4, 5, 6] : List Nat).all (fun n => (List.range (TN n)).all (fun c => (List.range (TN n)).all (fun x => decide (2 ≤ nearN x c 3) || (List.range (n - 3)).any (fun k => (List.range (2 * (k + 3) - 3)).any (fun e => x == num c (k + 3) e))))) = true := by decide +kernel
theorem num_ok {n c k e : Nat} (hn : n ≤ 6) (hc : c < TN n) (h3 : 3 ≤ k) (hk : k < n) (he : e < 2 * k - 3) : dig c k * wgt k ≤ c ∧ num c k e < TN n ∧ near (num c k e) c := by
  have h := num_all
  simp only [List.all_eq_true, List.mem_range, Bool.and_eq_true, decide_eq_true_eq] at h
  have hm : n ∈ ([4, 5, 6] : List Nat) := by
    simp only [List.mem_cons, List.not_mem_nil, or_false]
    omega
  obtain ⟨h1, h2⟩ := h n hm c hc (k - 3) (by omega)
  rw [show k - 3 + 3 = k by omega] at h1 h2
  exact ⟨h1, h2 e he⟩
theorem Sk_near {n c : Nat} (hn : n ≤ 6) (hc : c < TN n) (h4 : 4 ≤ n) (x : Nat) : Sk c n 0 x ↔ (x < TN n ∧ near x c) := by
  constructor
  · rintro (⟨k', e', h1, h2, h4, h5⟩ | ⟨e', h1, -⟩)
    · subst h5
      exact (num_ok hn hc h1 h2 h4).2
    · exact absurd h1 (Nat.not_lt_zero e')
  · rintro ⟨h1, h2⟩
    have h := num_ex
    simp only [List.all_eq_true, List.any_eq_true, List.mem_range, Bool.or_eq_true, decide_eq_true_eq, beq_iff_eq] at h
    have hm : n ∈ ([4, 5, 6] : List Nat) := by
      simp only [List.mem_cons, List.not_mem_nil, or_false]
      omega
    rcases h n hm c hc x h1 with h3 | ⟨k, k1, e, e1, e2⟩
    · unfold near at h2
      omega
    · exact Or.inl ⟨k + 3, e, by omega, by omega, e1, e2⟩
theorem weightOf_eq {σ : Mem} {k : Nat} (hk : k < 2 ^ 31) : fX7_weightOf (nI k) σ = some (nI (wgt k), σ) := by
  unfold fX7_weightOf wgt
  by_cases h3 : k = 3
  · subst h3; rfl
  · rw [if_neg (show ¬ nI k = (3 : Int32) from ne_n h3 hk (by decide)), if_neg h3]
    by_cases h4 : k = 4
    · subst h4; rfl
    · rw [if_neg (show ¬ nI k = (4 : Int32) from ne_n h4 hk (by decide)), if_neg h4]
      rfl
theorem better8_eq (hK : TreeK) {σ : Mem} {n p c : Nat} {R : Nat → Nat → Nat} (h : CC σ n p R) (hW : WT σ n p R) (hc : c < TN n) (h14 : σ 0 14 = nI c) : ∃ b, fX8_betterTree σ = some (nI b, σ) ∧ b < TN n ∧ (4 ≤ n → BT (CHG n p R) c (fun x => x < TN n ∧ near x c) b) ∧ (n < 4 → b = c) := by
  have hp := h.2.2.2.1
  have hn := h.2.2.1
  have hTN := TN_le (n := n)
  have hD : ∀ t, t < TN n → CHG n p R t ≤ 40 := fun t ht => CHG_le hK hn hp ht
  have e0 : fX8_betterTree σ = LX8_betterTree_19 (fun x1 σ18 => some (x1, σ18)) 300 (nI c) (nI (CHG n p R c)) 3 σ := by
    unfold fX8_betterTree
    dsimp only [letv]
    rw [h14, at_in (by omega) (by decide), bnd_eq, show σ (43 + 1) c = nI (CHG n p R c) from hW.1 c hc]
  by_cases h4 : 4 ≤ n
  · have hin : ∀ (g k b : Nat), 3 ≤ k → k < n → b < TN n → BT (CHG n p R) c (Sk c k 0) b → ∃ b', b' < TN n ∧ BT (CHG n p R) c (Sk c (k + 1) 0) b' ∧ LX8_betterTree_53 (fun x1 x2 x3 σ17 => LX8_betterTree_19 (fun x1 σ18 => some (x1, σ18)) g x1 x2 (x3 + 1) σ17) 300 (nI b) (nI (CHG n p R b)) (nI k) (nI (c - dig c k * wgt k)) 0 σ = LX8_betterTree_19 (fun x1 σ18 => some (x1, σ18)) g (nI b') (nI (CHG n p R b')) (nI (k + 1)) σ := by
      intro g k b h3 hk hb hB
      obtain ⟨b', ⟨i1, i2⟩, e⟩ := up_k (fun f e (b : Nat) => LX8_betterTree_53 (fun x1 x2 x3 σ17 => LX8_betterTree_19 (fun x1 σ18 => some (x1, σ18)) g x1 x2 (x3 + 1) σ17) f (nI b) (nI (CHG n p R b)) (nI k) (nI (c - dig c k * wgt k)) (nI e) σ) (2 * k - 3) (fun e b => b < TN n ∧ BT (CHG n p R) c (Sk c k e) b) (fun b => LX8_betterTree_19 (fun x1 σ18 => some (x1, σ18)) g (nI b) (nI (CHG n p R b)) (nI (k + 1)) σ)
        (fun f e b he hI => by
          obtain ⟨n1, n2, n3⟩ := num_ok hn hc h3 hk he
          have d1 := hD b hI.1
          have d2 := hD _ n2
          have hb1 := hI.1
          have hstep : ∀ X : O, (LX8_betterTree_53 (fun x1 x2 x3 σ17 => LX8_betterTree_19 (fun x1 σ18 => some (x1, σ18)) g x1 x2 (x3 + 1) σ17) (f + 1) (nI b) (nI (CHG n p R b)) (nI k) (nI (c - dig c k * wgt k)) (nI e) σ = X) = (BX8_betterTree_53 (fun x1 x2 x3 σ17 => LX8_betterTree_19 (fun x1 σ18 => some (x1, σ18)) g x1 x2 (x3 + 1) σ17) (LX8_betterTree_53 (fun x1 x2 x3 σ17 => LX8_betterTree_19 (fun x1 σ18 => some (x1, σ18)) g x1 x2 (x3 + 1) σ17) f) (nI b) (nI (CHG n p R b)) (nI k) (nI (c - dig c k * wgt k)) (nI e) σ = X) := fun _ => rfl
          unfold BX8_betterTree_53 at hstep
          rw [show ((2 : Int32) * nI k - 3 : Int32) = nI (2 * k - 3) by rw [show (2 : Int32) = nI 2 from rfl, show (3 : Int32) = nI 3 from rfl, mul_n, pk_sub (by omega)], if_neg (nle_n he (by omega)), weightOf_eq (by omega), bnd_eq, mul_n, add_n] at hstep
          dsimp only [letv, jn] at hstep
          rw [show c - dig c k * wgt k + e * wgt k = num c k e from rfl, at_in (by omega) (by decide), bnd_eq, show σ (43 + 1) (num c k e) = nI (CHG n p R (num c k e)) from hW.1 _ n2, h14, one_n] at hstep
          refine ⟨if CHG n p R (num c k e) < CHG n p R b ∨ (b ≠ c ∧ CHG n p R (num c k e) = CHG n p R b ∧ num c k e < b) then num c k e else b, ⟨?_, BT_congr (Sk_s c k e) (BT_step hI.2)⟩, ?_⟩
          · split <;> omega
          · rw [hstep]
            by_cases c1 : b = c
            · rw [if_pos (by rw [c1])]
              by_cases c2 : CHG n p R (num c k e) < CHG n p R b
              · rw [if_pos (lt_n c2 (by omega)), if_pos (Or.inl c2)]
              · rw [if_neg (nlt_n (by omega) (by omega)), if_pos rfl, if_neg (by omega)]
            · rw [if_neg (ne_n c1 (by omega) (by omega))]
              by_cases c2 : CHG n p R (num c k e) = CHG n p R b
              · rw [if_pos (by rw [c2])]
                by_cases c3 : num c k e < b
                · rw [if_neg (nle_n c3 (by omega)), if_neg (nlt_n (by omega) (by omega)), if_neg (by decide), if_pos (Or.inr ⟨c1, c2, c3⟩)]
                · rw [if_pos (le_n (by omega) (by omega)), if_neg (nlt_n (by omega) (by omega)), if_pos rfl, if_neg (by omega)]
              · rw [if_neg (ne_n c2 (by omega) (by omega))]
                by_cases c3 : CHG n p R (num c k e) < CHG n p R b
                · rw [if_pos (lt_n c3 (by omega)), if_pos (Or.inl c3)]
                · rw [if_neg (nlt_n (by omega) (by omega)), if_pos rfl, if_neg (by omega)])
        (fun f b hI => by
          show BX8_betterTree_53 _ _ (nI b) (nI (CHG n p R b)) (nI k) (nI (c - dig c k * wgt k)) (nI (2 * k - 3)) σ = _
          unfold BX8_betterTree_53
          rw [show ((2 : Int32) * nI k - 3 : Int32) = nI (2 * k - 3) by rw [show (2 : Int32) = nI 2 from rfl, show (3 : Int32) = nI 3 from rfl, mul_n, pk_sub (by omega)], if_pos (le_n (Nat.le_refl _) (by omega)), ← one_n])
        0 b 300 (by omega) (by omega) ⟨hb, hB⟩
      exact ⟨b', i1, BT_congr (Sk_k h3) i2, e⟩
    obtain ⟨b, ⟨i1, i2, i3⟩, e⟩ := up_k (fun f k (b : Nat) => LX8_betterTree_19 (fun x1 σ18 => some (x1, σ18)) f (nI b) (nI (CHG n p R b)) (nI k) σ) n (fun k b => 3 ≤ k ∧ b < TN n ∧ BT (CHG n p R) c (Sk c k 0) b) (fun b => some (nI b, σ))
      (fun f k b hk hI => by
        obtain ⟨i1, i2, i3⟩ := hI
        obtain ⟨b', j1, j2, j3⟩ := hin f k b i1 hk i2 i3
        refine ⟨b', ⟨by omega, j1, j2⟩, ?_⟩
        show BX8_betterTree_19 _ _ (nI b) (nI (CHG n p R b)) (nI k) σ = _
        unfold BX8_betterTree_19
        have n1 := (num_ok hn hc i1 hk (show 0 < 2 * k - 3 by omega)).1
        rw [h.1, if_neg (nle_n hk (by omega)), h14, edgeOf_eq (by omega) (by omega), bnd_eq, weightOf_eq (by omega), bnd_eq, mul_n, pk_sub n1]
        exact j3)
      (fun f b hI => by
        show BX8_betterTree_19 _ _ (nI b) (nI (CHG n p R b)) (nI n) σ = _
        unfold BX8_betterTree_19
        rw [h.1, if_pos (le_n (Nat.le_refl n) (by omega))])
      3 c 300 (by omega) (by omega) ⟨Nat.le_refl 3, hc, Or.inl ⟨rfl, fun x hx => by
        rcases hx with ⟨k', e', h1, h2, -⟩ | ⟨e', h1, -⟩
        · omega
        · exact absurd h1 (Nat.not_lt_zero e')⟩⟩
    exact ⟨b, by rw [e0]; exact e, i2, fun _ => BT_congr (Sk_near hn hc h4) i3, fun z => by omega⟩
  · refine ⟨c, ?_, hc, fun z => absurd z h4, fun _ => rfl⟩
    rw [e0]
    show BX8_betterTree_19 (fun x1 σ18 => some (x1, σ18)) (LX8_betterTree_19 (fun x1 σ18 => some (x1, σ18)) 299) (nI c) (nI (CHG n p R c)) (nI 3) σ = _
    unfold BX8_betterTree_19
    rw [h.1, if_pos (le_n (by omega) (by omega))]
