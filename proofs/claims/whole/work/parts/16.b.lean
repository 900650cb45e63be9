/-! small questions: ranges, trees, edges, shared, bound, lost ones, quarrels -/
theorem rng (x : Int32) {n : Nat} (hn : n < 2 ^ 31) : (x < 0 ∨ nI n ≤ x) ∨ ∃ i, i < n ∧ x = nI i := by
  by_cases h0 : x < 0
  · exact Or.inl (Or.inl h0)
  · by_cases h1 : nI n ≤ x
    · exact Or.inl (Or.inr h1)
    · refine Or.inr ⟨x.toInt.toNat, ?_, ?_⟩
      · rw [Int32.le_iff_toInt_le, nI_toInt hn] at h1
        rw [Int32.lt_iff_toInt_lt] at h0
        have : (0 : Int32).toInt = 0 := rfl
        omega
      · apply Int32.toInt_inj.mp
        rw [Int32.le_iff_toInt_le, nI_toInt hn] at h1
        rw [Int32.lt_iff_toInt_lt] at h0
        have : (0 : Int32).toInt = 0 := rfl
        rw [nI_toInt (by omega)]
        omega
theorem has_no {σ : Mem} {n p : Nat} {R : Nat → Nat → Nat} (h : CC σ n p R) {x y : Int32} (hx : x < 0 ∨ nI n ≤ x) : fX4_has 4 x y σ = some (0, σ) := by
  unfold fX4_has
  rw [cc_hasCopy_no h hx, bnd_eq, if_pos rfl]
theorem has_no2 {σ : Mem} {n p : Nat} {R : Nat → Nat → Nat} (h : CC σ n p R) {i : Nat} {y : Int32} (hi : i < n) (hy : y < 0 ∨ nI p ≤ y) : fX4_has 4 (nI i) y σ = some (0, σ) := by
  unfold fX4_has
  rw [cc_hasCopy h hi, bnd_eq, if_neg (by decide), cc_hasPlace_no h hy, bnd_eq, if_pos rfl]
theorem treesOf_eq {σ : Mem} {n : Nat} (hn : n ≤ 6) : fX8_treesOf (nI n) σ = some (nI (TN n), σ) := by
  rcases (by omega : n = 0 ∨ n = 1 ∨ n = 2 ∨ n = 3 ∨ n = 4 ∨ n = 5 ∨ n = 6) with rfl | rfl | rfl | rfl | rfl | rfl | rfl <;> rfl
theorem trees9_eq {σ : Mem} {n : Nat} (hn : n ≤ 6) (hm : σ 50 0 = nI n) : fX9_trees σ = some (nI (TN n), σ) := by
  unfold fX9_trees
  rw [hm]
  rcases (by omega : n = 0 ∨ n = 1 ∨ n = 2 ∨ n = 3 ∨ n = 4 ∨ n = 5 ∨ n = 6) with rfl | rfl | rfl | rfl | rfl | rfl | rfl <;> rfl
theorem edgesOf_eq {σ : Mem} {n : Nat} (hn : n ≤ 6) : fX8_edgesOf (nI n) σ = some (nI (eN n), σ) := by
  rcases (by omega : n = 0 ∨ n = 1 ∨ n = 2 ∨ n = 3 ∨ n = 4 ∨ n = 5 ∨ n = 6) with rfl | rfl | rfl | rfl | rfl | rfl | rfl <;> rfl
theorem edges9_eq {σ : Mem} {n : Nat} (hn : n ≤ 6) (hm : σ 50 0 = nI n) : fX9_edges σ = some (nI (eN n), σ) := by
  unfold fX9_edges
  rw [hm]
  rcases (by omega : n = 0 ∨ n = 1 ∨ n = 2 ∨ n = 3 ∨ n = 4 ∨ n = 5 ∨ n = 6) with rfl | rfl | rfl | rfl | rfl | rfl | rfl <;> rfl
theorem isTree_no {σ : Mem} {n : Nat} {x : Int32} (hn : n ≤ 6) (hc : σ 4 1 = nI n) (hx : x < 0 ∨ nI (TN n) ≤ x) : fX8_isTree x σ = some (0, σ) := by
  unfold fX8_isTree
  by_cases q : x < 0
  · rw [if_pos q]
  · rw [if_neg q, hc, treesOf_eq hn, bnd_eq, if_pos (hx.resolve_left q)]
theorem isTree_ok {σ : Mem} {n t : Nat} (hn : n ≤ 6) (hc : σ 4 1 = nI n) (ht : t < TN n) : fX8_isTree (nI t) σ = some (1, σ) := by
  have := TN_le (n := n)
  unfold fX8_isTree
  rw [if_neg (nI_pos (by omega)), hc, treesOf_eq hn, bnd_eq, if_neg (nle_n ht (by omega))]
theorem isTree9_no {σ : Mem} {n : Nat} {x : Int32} (hn : n ≤ 6) (hc : σ 50 0 = nI n) (hx : x < 0 ∨ nI (TN n) ≤ x) : fX9_isTree x σ = some (0, σ) := by
  have := TN_le (n := n)
  unfold fX9_isTree
  rw [trees9_eq hn hc, bnd_eq, mm_in (by omega) hx]
  rfl
theorem isTree9_ok {σ : Mem} {n t : Nat} (hn : n ≤ 6) (hc : σ 50 0 = nI n) (ht : t < TN n) : fX9_isTree (nI t) σ = some (1, σ) := by
  have := TN_le (n := n)
  unfold fX9_isTree
  rw [trees9_eq hn hc, bnd_eq, mm_in_ok (by omega) ht]
  rfl
/-- both answer alike, and what matters stays -/
def RI : Nat → Nat → Bool := fun c k => !(c == 7 || c == 9 || (Nat.ble 25 c && Nat.ble c 42) || c == 47 || c == 49 || (c == 50 && Nat.ble 12 k) || Nat.ble 57 c)
def Sm (σ : Mem) (f8 f9 : Mem → O) : Prop := ∃ r σ1 σ2, f8 σ = some (r, σ1) ∧ f9 σ1 = some (r, σ2) ∧ Keep RI σ σ2
theorem Sm.same {σ : Mem} {f8 f9 : Mem → O} {r : Int32} (h1 : f8 σ = some (r, σ)) (h2 : f9 σ = some (r, σ)) : Sm σ f8 f9 := ⟨r, σ, σ, h1, h2, Keep.rf⟩
theorem quarrel_sm {σ : Mem} {n p : Nat} {R : Nat → Nat → Nat} (h : CC σ n p R) (m : MM σ n p R) (x y : Int32) : Sm σ (fX8_quarrel x y) (fX9_quarrel x y) := by
  have hp := h.2.2.2.1
  unfold fX8_quarrel fX9_quarrel
  rcases rng x (show p < 2 ^ 31 by omega) with hx | ⟨i, hi, rfl⟩
  · exact Sm.same (r := -1) (by rw [cc_hasPlace_no h hx, bnd_eq, if_pos rfl]) (by rw [mm_isPlace_no m hx, bnd_eq, if_pos rfl])
  · rcases rng y (show p < 2 ^ 31 by omega) with hy | ⟨j, hj, rfl⟩
    · exact Sm.same (r := -1) (by rw [cc_hasPlace h hi, bnd_eq, if_neg (by decide), cc_hasPlace_no h hy, bnd_eq, if_pos rfl]) (by rw [mm_isPlace m hi, bnd_eq, if_neg (by decide), mm_isPlace_no m hy, bnd_eq, if_pos rfl])
    · by_cases hij : i = j
      · subst hij
        exact Sm.same (r := -1) (by rw [cc_hasPlace h hi, bnd_eq, if_neg (by decide), cc_hasPlace h hj, bnd_eq, if_neg (by decide), if_pos rfl]) (by rw [mm_isPlace m hi, bnd_eq, if_neg (by decide), mm_isPlace m hj, bnd_eq, if_neg (by decide), if_pos rfl])
      · obtain ⟨b, b1, b2⟩ := inQuarrel_eq h hi hj
        obtain ⟨c, c1, c2⟩ := quarrels9_eq m hi hj
        have hbc : b = c := by
          cases b <;> cases c
          · rfl
          · exact absurd (b2.mpr (c2.mp rfl)) (by decide)
          · exact absurd (c2.mpr (b2.mp rfl)) (by decide)
          · rfl
        subst hbc
        refine Sm.same (r := bI b) ?_ ?_
        · rw [cc_hasPlace h hi, bnd_eq, if_neg (by decide), cc_hasPlace h hj, bnd_eq, if_neg (by decide), if_neg (ne_n hij (by omega) (by omega)), b1, bnd_eq]
          cases b <;> rfl
        · rw [mm_isPlace m hi, bnd_eq, if_neg (by decide), mm_isPlace m hj, bnd_eq, if_neg (by decide), if_neg (ne_n hij (by omega) (by omega)), c1, bnd_eq]
          cases b <;> rfl
def shW (R : Nat → Nat → Nat) (pl v : Nat) : Nat → Int32
  | 0 => 0
  | k + 1 => if R k pl = v then shW R pl v k ||| ((1 : Int32) <<< (nI k &&& 31)) else shW R pl v k
theorem or_0 (x : Int32) : x ||| 0 = x := b_ext (fun i _ => by rw [b_or, b_0, Bool.or_false])
theorem shared_sm {σ : Mem} {n p : Nat} {R : Nat → Nat → Nat} (h : CC σ n p R) (m : MM σ n p R) (x y : Int32) : Sm σ (fX8_shared x y) (fX9_shared x y) := by
  have hp := h.2.2.2.1
  have hn := h.2.2.1
  unfold fX8_shared fX9_shared
  rcases rng x (show p < 2 ^ 31 by omega) with hx | ⟨j, hj, rfl⟩
  · refine Sm.same (r := -1) ?_ (by rw [mm_isPlace_no m hx, bnd_eq, if_pos rfl])
    rcases rng y (show n < 2 ^ 31 by omega) with hy | ⟨i, hi, rfl⟩
    · rw [has_no h hy, bnd_eq, if_pos rfl]
    · rw [has_no2 h hi hx, bnd_eq, if_pos rfl]
  · rcases rng y (show n < 2 ^ 31 by omega) with hy | ⟨i, hi, rfl⟩
    · exact Sm.same (r := -1) (by rw [has_no h hy, bnd_eq, if_pos rfl]) (by rw [mm_isPlace m hj, bnd_eq, if_neg (by decide), mm_isCopy_no m hy, bnd_eq, if_pos rfl])
    · have r0 := (h.2.2.2.2 i hi j hj).2
      have hr9 : LX9_shared_23 (fun x1 x2 x3 σ11 => bnd (fX9_readingOf x2 x1 σ11) (fun r12 σ13 => if (r12 : Int32) = 4 then some (0, σ13) else some (x3, σ13))) 300 (nI j) (nI i) 0 0 σ = if R i j = 4 then some (0, σ) else some (shW R j (R i j) n, σ) := by
        refine up_f (fun f k (w : Int32) => LX9_shared_23 (fun x1 x2 x3 σ11 => bnd (fX9_readingOf x2 x1 σ11) (fun r12 σ13 => if (r12 : Int32) = 4 then some (0, σ13) else some (x3, σ13))) f (nI j) (nI i) w (nI k) σ) n (shW R j (R i j)) (fun w => if R i j = 4 then some (0, σ) else some (w, σ)) (fun f k hk => ?_) (fun f => ?_) 0 300 (by omega) (by omega)
        · show BX9_shared_23 _ _ (nI j) (nI i) _ (nI k) σ = LX9_shared_23 _ f (nI j) (nI i) (if R k j = R i j then shW R j (R i j) k ||| ((1 : Int32) <<< (nI k &&& 31)) else shW R j (R i j) k) (nI (k + 1)) σ
          unfold BX9_shared_23
          have r1 := (h.2.2.2.2 k hk j hj).2
          rw [m.1, if_neg (nle_n hk (by omega)), m_at m hk hj, m_at m hi hj, one_n]
          dsimp only [letv]
          by_cases e : R k j = R i j
          · rw [if_pos (by rw [e]), if_pos e]
          · rw [if_neg (ne_n e (by omega) (by omega)), if_neg e, or_0]
        · show BX9_shared_23 _ _ (nI j) (nI i) _ (nI n) σ = _
          unfold BX9_shared_23
          rw [m.1, if_pos (le_n (Nat.le_refl n) (by omega))]
          dsimp only
          rw [m_at m hi hj]
          by_cases e : R i j = 4
          · rw [if_pos (show nI (R i j) = (4 : Int32) by rw [e]; rfl), if_pos e]
          · rw [if_neg (show ¬ nI (R i j) = (4 : Int32) from ne_n (b := 4) e (by omega) (by decide)), if_neg e]
      by_cases e : R i j = 4
      · rw [if_pos e] at hr9
        refine Sm.same (r := 0) ?_ ?_
        · rw [cc_has h hi hj, bnd_eq, if_neg (by decide), b_at h hi hj, if_pos (show nI (R i j) = (4 : Int32) by rw [e]; rfl)]
        · rw [mm_isPlace m hj, bnd_eq, if_neg (by decide), mm_isCopy m hi, bnd_eq, if_neg (by decide), hr9]
      · rw [if_neg e] at hr9
        have hr8 : LX8_shared_37 (fun x4 σ8 => some (x4, σ8)) 300 (nI j) (nI (R i j)) 0 0 σ = some (shW R j (R i j) n, σ) := by
          refine up_f (fun f k (w : Int32) => LX8_shared_37 (fun x4 σ8 => some (x4, σ8)) f (nI j) (nI (R i j)) w (nI k) σ) n (shW R j (R i j)) (fun w => some (w, σ)) (fun f k hk => ?_) (fun f => ?_) 0 300 (by omega) (by omega)
          · show BX8_shared_37 _ _ (nI j) (nI (R i j)) _ (nI k) σ = LX8_shared_37 _ f (nI j) (nI (R i j)) (if R k j = R i j then shW R j (R i j) k ||| ((1 : Int32) <<< (nI k &&& 31)) else shW R j (R i j) k) (nI (k + 1)) σ
            unfold BX8_shared_37
            have r1 := (h.2.2.2.2 k hk j hj).2
            rw [h.1, if_neg (nle_n hk (by omega)), b_at h hk hj, one_n]
            dsimp only [letv]
            by_cases e : R k j = R i j
            · rw [if_pos (by rw [e]), if_pos e]
            · rw [if_neg (ne_n e (by omega) (by omega)), if_neg e]
          · show BX8_shared_37 _ _ (nI j) (nI (R i j)) _ (nI n) σ = _
            unfold BX8_shared_37
            rw [h.1, if_pos (le_n (Nat.le_refl n) (by omega))]
        refine Sm.same (r := shW R j (R i j) n) ?_ ?_
        · rw [cc_has h hi hj, bnd_eq, if_neg (by decide), b_at h hi hj, if_neg (show ¬ nI (R i j) = (4 : Int32) from ne_n (b := 4) e (by omega) (by decide)), hr8]
        · rw [mm_isPlace m hj, bnd_eq, if_neg (by decide), mm_isCopy m hi, bnd_eq, if_neg (by decide), hr9]
