/-! numbers, loops, rows -/
abbrev O : Type := Option (Int32 × Mem)
theorem upd_at (f : Nat → Int32) (k : Nat) (v : Int32) : upd f k v k = v := by simp [upd]
theorem upd_ne {f : Nat → Int32} {k j : Nat} {v : Int32} (h : j ≠ k) : upd f k v j = f j := by simp [upd, h]
theorem stm_v (σ : Mem) (c k : Nat) (v : Int32) : stm σ c k v c k = v := by rw [stm_at, upd_at]
theorem stm_k {σ : Mem} {c k j : Nat} {v : Int32} (h : j ≠ k) : stm σ c k v c j = σ c j := by rw [stm_at, upd_ne h]
theorem litN (n : Nat) : (OfNat.ofNat n : Int32) = nI n := rfl
theorem le_n {a b : Nat} (h : a ≤ b) (hb : b < 2 ^ 31) : nI a ≤ nI b := nI_le h hb
theorem nle_n {a b : Nat} (h : b < a) (ha : a < 2 ^ 31) : ¬ nI a ≤ nI b := nI_ge h ha
theorem lt_n {a b : Nat} (h : a < b) (hb : b < 2 ^ 31) : nI a < nI b := nI_lt h hb
theorem nlt_n {a b : Nat} (h : b ≤ a) (ha : a < 2 ^ 31) : ¬ nI a < nI b := nI_nlt h ha
theorem ne_n {a b : Nat} (h : a ≠ b) (ha : a < 2 ^ 31) (hb : b < 2 ^ 31) : ¬ nI a = nI b := fun q => h ((nI_eq ha hb).mp q)
theorem ne_neg {a : Nat} {k : Int32} (hk : k < 0) (ha : a < 2 ^ 31) : ¬ nI a = k := fun q => nI_pos ha (by rw [q]; exact hk)
theorem gd_n {α : Type} {n i : Nat} {o : Option α} (h : i < n) (hn : n < 2 ^ 31) : gd n (nI i) o = o := gd_ok (vp_in_nI h hn)
theorem cl_n {n : Nat} (h : n < 2 ^ 31) : (nI n).toNatClampNeg = n := nI_clamp h
theorem add_n (a b : Nat) : nI a + nI b = nI (a + b) := nI_add a b
theorem mul_n (a b : Nat) : nI a * nI b = nI (a * b) := pk_mul a b
theorem one_n (a : Nat) : nI a + 1 = nI (a + 1) := nI_1 a
/-- a loop that counts up, with ends of any kind -/
theorem up_loop {α : Type} (L : Nat → Nat → α → O) (N : Nat) (I : Nat → α → Prop) (P : O → Prop)
    (hs : ∀ (f i : Nat) (a : α), i < N → I i a → P (L (f + 1) i a) ∨ ∃ a', I (i + 1) a' ∧ L (f + 1) i a = L f (i + 1) a')
    (he : ∀ (f : Nat) (a : α), I N a → P (L (f + 1) N a)) : ∀ (d i : Nat) (a : α) (f : Nat), i + d = N → d < f → I i a → P (L f i a) := by
  intro d
  induction d with
  | zero =>
    intro i a f hi hf h
    obtain ⟨f, rfl⟩ : ∃ g, f = g + 1 := ⟨f - 1, by omega⟩
    have : i = N := by omega
    subst this
    exact he f a h
  | succ d ih =>
    intro i a f hi hf h
    obtain ⟨f, rfl⟩ : ∃ g, f = g + 1 := ⟨f - 1, by omega⟩
    rcases hs f i a (by omega) h with q | ⟨a', h1, h2⟩
    · exact q
    · rw [h2]
      exact ih (i + 1) a' f (by omega) (by omega) h1
/-- a loop that counts up and goes on behind its end -/
theorem up_k {α : Type} (L : Nat → Nat → α → O) (N : Nat) (I : Nat → α → Prop) (k : α → O)
    (hs : ∀ (f i : Nat) (a : α), i < N → I i a → ∃ a', I (i + 1) a' ∧ L (f + 1) i a = L f (i + 1) a')
    (he : ∀ (f : Nat) (a : α), I N a → L (f + 1) N a = k a) (i : Nat) (a : α) (f : Nat) (hi : i ≤ N) (hf : N < f) (h : I i a) : ∃ a', I N a' ∧ L f i a = k a' :=
  up_loop L N I (fun o => ∃ a', I N a' ∧ o = k a') (fun f i a h1 h2 => Or.inr (hs f i a h1 h2)) (fun f a h1 => ⟨a, h1, he f a h1⟩) (N - i) i a f (by omega) (by omega) h
/-- the same, where what is carried is known -/
theorem up_f {α : Type} (L : Nat → Nat → α → O) (N : Nat) (g : Nat → α) (k : α → O)
    (hs : ∀ (f i : Nat), i < N → L (f + 1) i (g i) = L f (i + 1) (g (i + 1)))
    (he : ∀ (f : Nat), L (f + 1) N (g N) = k (g N)) (i : Nat) (f : Nat) (hi : i ≤ N) (hf : N < f) : L f i (g i) = k (g N) := by
  obtain ⟨a', h1, h2⟩ := up_k L N (fun i a => a = g i) k (fun f i a h1 h2 => ⟨g (i + 1), rfl, by rw [h2]; exact hs f i h1⟩) (fun f a h1 => by rw [h1]; exact he f) i (g i) f hi hf rfl
  rw [h2, h1]
/-- rows -/
theorem at_in {ca na i : Nat} {σ : Mem} (h : i < na) (hn : na < 2 ^ 31) : fX5_at ca na (nI i) σ = some (σ (ca + 1) i, σ) := by
  unfold fX5_at
  rw [if_neg (nI_pos (by omega)), if_neg (nI_ge h hn), gd_n h hn, cl_n (by omega)]
theorem put_in {ca na i : Nat} {v : Int32} {σ : Mem} (h : i < na) (hn : na < 2 ^ 31) : fX5_put ca na (nI i) v σ = some (0, stm σ (ca + 1) i v) := by
  unfold fX5_put
  rw [if_neg (nI_pos (by omega)), if_neg (nI_ge h hn), gd_n h hn, cl_n (by omega)]
  rfl
/-- what does not change -/
def Keep (Rl : Nat → Nat → Bool) (σ σ' : Mem) : Prop := ∀ c k, Rl c k = true → σ' c k = σ c k
theorem Keep.rf {Rl : Nat → Nat → Bool} {σ : Mem} : Keep Rl σ σ := fun _ _ _ => rfl
theorem Keep.tr {Rl : Nat → Nat → Bool} {σ σ1 σ2 : Mem} (h1 : Keep Rl σ σ1) (h2 : Keep Rl σ1 σ2) : Keep Rl σ σ2 := fun c k h => (h2 c k h).trans (h1 c k h)
theorem Keep.st {Rl : Nat → Nat → Bool} {σ σ1 : Mem} (h1 : Keep Rl σ σ1) {c k : Nat} {v : Int32} (h : Rl c k = false) : Keep Rl σ (stm σ1 c k v) := by
  intro c' k' h'
  rw [← h1 c' k' h']
  by_cases hc : c' = c
  · subst hc
    by_cases hk : k' = k
    · subst hk
      rw [h] at h'
      cases h'
    · exact stm_k hk
  · rw [stm_ne hc]
/-- the class's readings -/
def CC (σ : Mem) (n p : Nat) (R : Nat → Nat → Nat) : Prop := σ 4 1 = nI n ∧ σ 4 2 = nI p ∧ n ≤ 6 ∧ p ≤ 8 ∧ ∀ i, i < n → ∀ j, j < p → σ 6 (8 * i + j) = nI (R i j) ∧ R i j ≤ 4
/-- the reference's readings -/
def MM (σ : Mem) (n p : Nat) (R : Nat → Nat → Nat) : Prop := σ 50 0 = nI n ∧ σ 50 1 = nI p ∧ n ≤ 6 ∧ p ≤ 8 ∧ ∀ i, i < n → ∀ j, j < p → σ 51 (8 * i + j) = nI (R i j) ∧ R i j ≤ 4
theorem cc_hasCopy {σ : Mem} {n p : Nat} {R : Nat → Nat → Nat} (h : CC σ n p R) {i : Nat} (hi : i < n) : fX4_hasCopy 4 (nI i) σ = some (1, σ) := by
  have := h.2.2.1
  unfold fX4_hasCopy
  rw [if_neg (nI_pos (by omega)), h.1, if_neg (nI_ge hi (by omega))]
theorem cc_hasPlace {σ : Mem} {n p : Nat} {R : Nat → Nat → Nat} (h : CC σ n p R) {j : Nat} (hj : j < p) : fX4_hasPlace 4 (nI j) σ = some (1, σ) := by
  have := h.2.2.2.1
  unfold fX4_hasPlace
  rw [if_neg (nI_pos (by omega)), h.2.1, if_neg (nI_ge hj (by omega))]
theorem cc_hasCopy_no {σ : Mem} {n p : Nat} {R : Nat → Nat → Nat} (h : CC σ n p R) {x : Int32} (hx : x < 0 ∨ nI n ≤ x) : fX4_hasCopy 4 x σ = some (0, σ) := by
  unfold fX4_hasCopy
  rcases hx with hx | hx
  · rw [if_pos hx]
  · by_cases q : x < 0
    · rw [if_pos q]
    · rw [if_neg q, h.1, if_pos hx]
theorem cc_hasPlace_no {σ : Mem} {n p : Nat} {R : Nat → Nat → Nat} (h : CC σ n p R) {x : Int32} (hx : x < 0 ∨ nI p ≤ x) : fX4_hasPlace 4 x σ = some (0, σ) := by
  unfold fX4_hasPlace
  rcases hx with hx | hx
  · rw [if_pos hx]
  · by_cases q : x < 0
    · rw [if_pos q]
    · rw [if_neg q, h.2.1, if_pos hx]
theorem cc_has {σ : Mem} {n p : Nat} {R : Nat → Nat → Nat} (h : CC σ n p R) {i j : Nat} (hi : i < n) (hj : j < p) : fX4_has 4 (nI i) (nI j) σ = some (1, σ) := by
  unfold fX4_has
  rw [cc_hasCopy h hi, bnd_eq, if_neg (by decide), cc_hasPlace h hj, bnd_eq, if_neg (by decide)]
theorem cc_at {σ : Mem} {n p : Nat} {R : Nat → Nat → Nat} (h : CC σ n p R) {i j : Nat} (hi : i < n) (hj : j < p) : fX4_at 4 (nI i) (nI j) σ = some (nI (R i j), σ) := by
  have h1 := h.2.2.1
  have h2 := h.2.2.2.1
  unfold fX4_at
  rw [cc_has h hi hj, bnd_eq, if_neg (by decide)]
  unfold fX4_cellOf
  rw [bnd_eq, show (nI i * 8 + nI j : Int32) = nI (8 * i + j) by rw [show (8 : Int32) = nI 8 from rfl, mul_n, add_n, Nat.mul_comm], at_in (by omega) (by decide), bnd_eq]
  show some (σ 6 (8 * i + j), σ) = _
  rw [(h.2.2.2.2 i hi j hj).1]
theorem b_at {σ : Mem} {n p : Nat} {R : Nat → Nat → Nat} (h : CC σ n p R) {i j : Nat} (hi : i < n) (hj : j < p) {k : Int32 → Mem → O} : bnd (fX4_at 4 (nI i) (nI j) σ) k = k (nI (R i j)) σ := by rw [cc_at h hi hj, bnd_eq]
theorem mm_in {σ : Mem} {x : Int32} {n : Nat} (hn : n < 2 ^ 30) (hx : x < 0 ∨ nI n ≤ x) : fX9_in x 0 (nI n - 1) σ = some (0, σ) := by
  unfold fX9_in
  rcases hx with hx | hx
  · rw [if_pos hx]
  · by_cases q : x < 0
    · rw [if_pos q]
    · rw [if_neg q, if_pos]
      rw [Int32.lt_iff_toInt_lt, show (1 : Int32) = nI 1 from rfl, pk_sub_toInt hn (by decide)]
      rw [Int32.le_iff_toInt_le, nI_toInt (by omega)] at hx
      omega
theorem mm_in_ok {σ : Mem} {n i : Nat} (hn : n < 2 ^ 30) (hi : i < n) : fX9_in (nI i) 0 (nI n - 1) σ = some (1, σ) := by
  unfold fX9_in
  rw [if_neg (nI_pos (by omega)), if_neg]
  rw [Int32.lt_iff_toInt_lt, show (1 : Int32) = nI 1 from rfl, pk_sub_toInt hn (by decide), nI_toInt (by omega)]
  omega
theorem mm_in_c {σ : Mem} {x : Int32} {n : Nat} (hn : n < 2 ^ 31) (hx : x < 0 ∨ nI n < x) : fX9_in x 0 (nI n) σ = some (0, σ) := by
  unfold fX9_in
  rcases hx with hx | hx
  · rw [if_pos hx]
  · by_cases q : x < 0
    · rw [if_pos q]
    · rw [if_neg q, if_pos hx]
theorem mm_in_cok {σ : Mem} {n i : Nat} (hn : n < 2 ^ 31) (hi : i ≤ n) : fX9_in (nI i) 0 (nI n) σ = some (1, σ) := by
  unfold fX9_in
  rw [if_neg (nI_pos (by omega)), if_neg (nI_nlt hi hn)]
theorem mm_isCopy {σ : Mem} {n p : Nat} {R : Nat → Nat → Nat} (h : MM σ n p R) {i : Nat} (hi : i < n) : fX9_isCopy (nI i) σ = some (1, σ) := by
  have h1 := h.2.2.1
  unfold fX9_isCopy
  rw [h.1, mm_in_ok (by omega) hi]
  rfl
theorem mm_isCopy_no {σ : Mem} {n p : Nat} {R : Nat → Nat → Nat} (h : MM σ n p R) {x : Int32} (hx : x < 0 ∨ nI n ≤ x) : fX9_isCopy x σ = some (0, σ) := by
  have h1 := h.2.2.1
  unfold fX9_isCopy
  rw [h.1, mm_in (by omega) hx]
  rfl
theorem mm_isPlace {σ : Mem} {n p : Nat} {R : Nat → Nat → Nat} (h : MM σ n p R) {i : Nat} (hi : i < p) : fX9_isPlace (nI i) σ = some (1, σ) := by
  have h1 := h.2.2.2.1
  unfold fX9_isPlace
  rw [h.2.1, mm_in_ok (by omega) hi]
  rfl
theorem mm_isPlace_no {σ : Mem} {n p : Nat} {R : Nat → Nat → Nat} (h : MM σ n p R) {x : Int32} (hx : x < 0 ∨ nI p ≤ x) : fX9_isPlace x σ = some (0, σ) := by
  have h1 := h.2.2.2.1
  unfold fX9_isPlace
  rw [h.2.1, mm_in (by omega) hx]
  rfl
theorem mm_at {σ : Mem} {n p : Nat} {R : Nat → Nat → Nat} (h : MM σ n p R) {i j : Nat} (hi : i < n) (hj : j < p) : fX9_readingOf (nI i) (nI j) σ = some (nI (R i j), σ) := by
  have h1 := h.2.2.1
  have h2 := h.2.2.2.1
  unfold fX9_readingOf
  rw [show ((8 : Int32) * nI i + nI j : Int32) = nI (8 * i + j) by rw [show (8 : Int32) = nI 8 from rfl, mul_n, add_n], gd_n (by omega) (by decide), cl_n (by omega), (h.2.2.2.2 i hi j hj).1]
theorem m_at {σ : Mem} {n p : Nat} {R : Nat → Nat → Nat} (h : MM σ n p R) {i j : Nat} (hi : i < n) (hj : j < p) {k : Int32 → Mem → O} : bnd (fX9_readingOf (nI i) (nI j) σ) k = k (nI (R i j)) σ := by rw [mm_at h hi hj, bnd_eq]
