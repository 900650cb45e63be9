/-! the text told, as the document has it; the class's reading of it -/
def rdg (v : Int32) : Option Nat := if v = 63 then some 4 else if v = 97 then some 0 else if v = 98 then some 1 else if v = 99 then some 2 else if v = 100 then some 3 else none
theorem rdg_le {v : Int32} {r : Nat} (h : rdg v = some r) : r ≤ 4 := by
  unfold rdg at h
  repeat' split at h
  all_goals first | (injection h; omega) | cases h
def mst (m q : Nat) : Nat := if m = 0 then 8 else q
def prs (u : Nat → Int32) : Nat → Nat → Nat → Nat → Nat → Nat → (Nat → Nat → Nat) → Sum Nat (Nat × Nat × (Nat → Nat → Nat))
  | 0, s, _, x, m, q, W => if s = 0 then Sum.inr (m, q, W) else Sum.inl x
  | d + 1, s, c, x, m, q, W =>
    if u x = 32 then prs u d s c (x + 1) m q W
    else if s = 0 then (if u x = 109 ∧ m < 6 then prs u d 1 0 (x + 1) m q W else Sum.inl x)
    else if u x = 59 then (if c < 1 ∨ (0 < m ∧ c < q) then Sum.inl x else prs u d 0 0 (x + 1) (m + 1) c W)
    else match rdg (u x) with
      | none => Sum.inl x
      | some r => if c < mst m q then prs u d 1 (c + 1) (x + 1) m q (updR W m c r) else Sum.inl x
def TO (A : Nat → Prop) (B : Nat → Nat → (Nat → Nat → Nat) → Prop) : Sum Nat (Nat × Nat × (Nat → Nat → Nat)) → Prop
  | Sum.inl z => A z
  | Sum.inr (m, q, W) => B m q W
def DR (σ : Mem) (g m q c : Nat) (W : Nat → Nat → Nat) : Prop := (∀ i, i < m → ∀ j, j < q → σ g (8 * i + j) = nI (W i j) ∧ W i j ≤ 4) ∧ ∀ j, j < c → σ g (8 * m + j) = nI (W m j) ∧ W m j ≤ 4
def BD (s m q c : Nat) : Prop := ((s = 0 ∧ c = 0 ∧ m ≤ 6) ∨ (s = 1 ∧ m < 6)) ∧ q ≤ 8 ∧ c ≤ mst m q ∧ (m = 0 → q = 0) ∧ (q = 0 → m = 0)
theorem mst_le {m q : Nat} (h : q ≤ 8) : mst m q ≤ 8 := by
  unfold mst
  split <;> omega
theorem DR.put {σ : Mem} {g m q c r : Nat} {W : Nat → Nat → Nat} (h : DR σ g m q c W) (hq : q ≤ 8) (hc : c < 8) (hr : r ≤ 4) : DR (stm σ g (8 * m + c) (nI r)) g m q (c + 1) (updR W m c r) := by
  refine ⟨fun i hi j hj => ?_, fun j hj => ?_⟩
  · rw [stm_k (by omega), updR_ne (by omega)]
    exact h.1 i hi j hj
  · by_cases hjc : j = c
    · subst hjc
      rw [stm_v, updR_at]
      exact ⟨rfl, hr⟩
    · rw [stm_k (by omega), updR_ne (by omega)]
      exact h.2 j (by omega)
theorem DR.keep {σ σ' : Mem} {g m q c : Nat} {W : Nat → Nat → Nat} (h : DR σ g m q c W) (hK : σ' g = σ g) : DR σ' g m q c W := by
  unfold DR
  rw [hK]
  exact h
theorem DR.next {σ : Mem} {g m q c : Nat} {W : Nat → Nat → Nat} (h : DR σ g m q c W) (hc : m = 0 ∨ q = c) : DR σ g (m + 1) c 0 W := by
  refine ⟨fun i hi j hj => ?_, fun j hj => absurd hj (Nat.not_lt_zero j)⟩
  by_cases him : i = m
  · subst him
    exact h.2 j hj
  · rcases hc with hm | rfl
    · omega
    · exact h.1 i (by omega) j hj
theorem DR.zero {σ : Mem} {g m q c : Nat} {W : Nat → Nat → Nat} (h : DR σ g m q c W) : DR σ g m q 0 W := ⟨h.1, fun j hj => absurd hj (Nat.not_lt_zero j)⟩
theorem readingFor_eq (v : Int32) (σ : Mem) : fX6_readingFor v σ = some ((match rdg v with | none => -1 | some r => nI r), σ) := by
  unfold fX6_readingFor
  by_cases h63 : v = 63
  · subst h63
    rfl
  rw [if_neg h63]
  by_cases h1 : v < 97
  · rw [if_pos h1]
    have : rdg v = none := by
      unfold rdg
      rw [if_neg h63, if_neg (fun q => by subst q; exact absurd h1 (by decide)), if_neg (fun q => by subst q; exact absurd h1 (by decide)), if_neg (fun q => by subst q; exact absurd h1 (by decide)), if_neg (fun q => by subst q; exact absurd h1 (by decide))]
    rw [this]
  rw [if_neg h1]
  by_cases h2 : (100 : Int32) < v
  · rw [if_pos h2]
    have : rdg v = none := by
      unfold rdg
      rw [if_neg h63, if_neg (fun q => by subst q; exact absurd h2 (by decide)), if_neg (fun q => by subst q; exact absurd h2 (by decide)), if_neg (fun q => by subst q; exact absurd h2 (by decide)), if_neg (fun q => by subst q; exact absurd h2 (by decide))]
    rw [this]
  rw [if_neg h2]
  rcases rng v (show 101 < 2 ^ 31 by decide) with hv | ⟨w, hw, rfl⟩
  · exfalso
    rw [Int32.lt_iff_toInt_lt] at h1 h2
    have e1 : (97 : Int32).toInt = 97 := by decide
    have e2 : (100 : Int32).toInt = 100 := by decide
    rcases hv with q | q
    · rw [Int32.lt_iff_toInt_lt] at q
      have e3 : (0 : Int32).toInt = 0 := by decide
      omega
    · rw [Int32.le_iff_toInt_le, nI_toInt (by decide)] at q
      omega
  · have hw2 : ¬ w < 97 := fun q => h1 (lt_n (b := 97) q (by decide))
    have : w = 97 ∨ w = 98 ∨ w = 99 ∨ w = 100 := by omega
    rcases this with rfl | rfl | rfl | rfl <;> rfl
/-- all but the draft -/
def rD : Nat → Nat → Bool := fun c _ => !(c == 7 || c == 9)
def tA (σ : Mem) (L : Nat) (o : O) (z : Nat) : Prop := ∃ σ', o = some (nI z, σ') ∧ z ≤ L ∧ Keep rD σ σ'
def tB (σ : Mem) (o : O) (m q : Nat) (W : Nat → Nat → Nat) : Prop := ∃ σ', o = some (-1, σ') ∧ Keep rD σ σ' ∧ σ' 7 1 = nI m ∧ σ' 7 2 = nI q ∧ m ≤ 6 ∧ q ≤ 8 ∧ (m = 0 → q = 0) ∧ (q = 0 → m = 0) ∧ DR σ' 9 m q 0 W
theorem tell_loop (σ0 : Mem) (u : Nat → Int32) (L : Nat) (hL : L ≤ 90) (h11 : σ0 1 1 = nI L) (hu : ∀ k, k < L → σ0 3 k = u k) (K : Int32 → Mem → O) (hK0 : ∀ σ, K 0 σ = some (-1, σ)) (hK1 : ∀ σ, K 1 σ = some (σ 1 1, σ)) :
    ∀ (d x s c m q : Nat) (W : Nat → Nat → Nat) (x3 : Int32) (f : Nat) (σ : Mem), x + d = L → d < f → BD s m q c → (s = 1 → x3 = nI c) → Keep rD σ0 σ → σ 7 1 = nI m → σ 7 2 = nI q → DR σ 9 m q c W →
      TO (tA σ0 L (LX6_tell_17 K f (nI s) x3 (nI x) σ)) (tB σ0 (LX6_tell_17 K f (nI s) x3 (nI x) σ)) (prs u d s c x m q W) := by
  intro d
  induction d with
  | zero =>
    intro x s c m q W x3 f σ hx hf hB hs hK h1 h2 hD
    obtain ⟨f, rfl⟩ : ∃ g, f = g + 1 := ⟨f - 1, by omega⟩
    have hxL : x = L := by omega
    subst hxL
    have hstep : ∀ X : O, (LX6_tell_17 K (f + 1) (nI s) x3 (nI x) σ = X) = (BX6_tell_17 K (LX6_tell_17 K f) (nI s) x3 (nI x) σ = X) := fun _ => rfl
    unfold BX6_tell_17 at hstep
    rw [hK 1 1 rfl, h11, if_pos (le_n (Nat.le_refl _) (by omega))] at hstep
    obtain ⟨hB1, hB2, hB3, hB4, hB5⟩ := hB
    rcases hB1 with ⟨rfl, rfl, hm⟩ | ⟨rfl, hm⟩
    · show tB σ0 _ m q W
      exact ⟨σ, (hstep _).mpr (hK0 σ), hK, h1, h2, hm, hB2, hB4, hB5, hD⟩
    · show tA σ0 x _ x
      exact ⟨σ, (hstep _).mpr ((hK1 σ).trans (by rw [hK 1 1 rfl, h11])), Nat.le_refl _, hK⟩
  | succ d ih =>
    intro x s c m q W x3 f σ hx hf hB hs hK h1 h2 hD
    obtain ⟨f, rfl⟩ : ∃ g, f = g + 1 := ⟨f - 1, by omega⟩
    have hstep : ∀ X : O, (LX6_tell_17 K (f + 1) (nI s) x3 (nI x) σ = X) = (BX6_tell_17 K (LX6_tell_17 K f) (nI s) x3 (nI x) σ = X) := fun _ => rfl
    unfold BX6_tell_17 at hstep
    rw [hK 1 1 rfl, h11, if_neg (nle_n (by omega) (by omega)), at_in (show x < 90 by omega) (by decide), bnd_eq, hK 3 x rfl, hu x (by omega)] at hstep
    obtain ⟨hB1, hB2, hB3, hB4, hB5⟩ := id hB
    have hmst := mst_le (m := m) hB2
    unfold prs
    by_cases h32 : u x = 32
    · rw [if_pos h32, one_n] at hstep
      rw [if_pos h32, (hstep _).mpr rfl]
      exact ih (x + 1) s c m q W x3 f σ (by omega) (by omega) hB hs hK h1 h2 hD
    rw [if_neg h32] at hstep
    rw [if_neg h32]
    rcases hB1 with ⟨rfl, rfl, hm⟩ | ⟨rfl, hm⟩
    · rw [if_pos rfl]
      rw [if_pos (show nI 0 = (0 : Int32) from rfl)] at hstep
      by_cases h109 : u x = 109
      · rw [if_pos h109, h1] at hstep
        by_cases hm6 : m < 6
        · rw [if_pos (show nI m < (6 : Int32) from lt_n (b := 6) hm6 (by decide)), one_n] at hstep
          rw [if_pos ⟨h109, hm6⟩, (hstep _).mpr rfl]
          exact ih (x + 1) 1 0 m q W 0 f σ (by omega) (by omega) ⟨Or.inr ⟨rfl, hm6⟩, hB2, Nat.zero_le _, hB4, hB5⟩ (fun _ => rfl) hK h1 h2 hD.zero
        · rw [if_neg (show ¬ nI m < (6 : Int32) from nlt_n (b := 6) (by omega) (by omega))] at hstep
          rw [if_neg (fun q => hm6 q.2)]
          exact ⟨σ, (hstep _).mpr rfl, by omega, hK⟩
      · rw [if_neg h109] at hstep
        rw [if_neg (fun q => h109 q.1)]
        exact ⟨σ, (hstep _).mpr rfl, by omega, hK⟩
    · have hx3 := hs rfl
      subst hx3
      rw [if_neg (show ¬ (1 : Nat) = 0 by decide)]
      rw [if_neg (show ¬ nI 1 = (0 : Int32) by decide)] at hstep
      by_cases h59 : u x = 59
      · rw [if_pos h59] at hstep
        rw [if_pos h59]
        unfold fX6_endItem at hstep
        by_cases hc : c < 1
        · rw [if_pos (show nI c < (1 : Int32) from lt_n (b := 1) hc (by decide)), bnd_eq, if_pos rfl] at hstep
          rw [if_pos (Or.inl hc)]
          exact ⟨σ, (hstep _).mpr rfl, by omega, hK⟩
        rw [if_neg (show ¬ nI c < (1 : Int32) from nlt_n (b := 1) (by omega) (by omega))] at hstep
        dsimp only [jn, letm] at hstep
        have hD' : ∀ W', (m = 0 ∨ q = c) → DR σ 9 m q c W' → DR (stm (stm σ 7 2 (nI c)) 7 1 (nI (m + 1))) 9 (m + 1) c 0 W' := fun W' hq hd => (hd.next hq).keep (by rw [stm_ne (by decide), stm_ne (by decide)])
        by_cases hm0 : m = 0
        · rw [h1, if_pos (show nI m ≤ (0 : Int32) from le_n (b := 0) (by omega) (by decide)), bnd_eq, if_neg (show ¬ (1 : Int32) = 0 by decide), stm_k (by decide), h1, one_n, one_n] at hstep
          rw [if_neg (by omega), (hstep _).mpr rfl]
          exact ih (x + 1) 0 0 (m + 1) c W (nI c) f _ (by omega) (by omega) ⟨Or.inl ⟨rfl, rfl, by omega⟩, by omega, Nat.zero_le _, by omega, by omega⟩ (fun q => absurd q (by decide)) ((hK.st rfl).st rfl) (stm_v _ _ _ _) (by rw [stm_k (by decide), stm_v]) (hD' W (Or.inl hm0) hD)
        · rw [h1, if_neg (show ¬ nI m ≤ (0 : Int32) from nle_n (b := 0) (by omega) (by omega)), h2] at hstep
          by_cases hqc : q ≤ c
          · have hq : q = c := by
              unfold mst at hB3
              rw [if_neg hm0] at hB3
              omega
            rw [if_pos (le_n hqc (by omega)), bnd_eq, if_neg (show ¬ (1 : Int32) = 0 by decide), stm_k (by decide), h1, one_n, one_n] at hstep
            rw [if_neg (by omega), (hstep _).mpr rfl]
            exact ih (x + 1) 0 0 (m + 1) c W (nI c) f _ (by omega) (by omega) ⟨Or.inl ⟨rfl, rfl, by omega⟩, by omega, Nat.zero_le _, by omega, by omega⟩ (fun q => absurd q (by decide)) ((hK.st rfl).st rfl) (stm_v _ _ _ _) (by rw [stm_k (by decide), stm_v]) (hD' W (Or.inr hq) hD)
          · rw [if_neg (nle_n (by omega) (by omega)), bnd_eq, if_pos rfl] at hstep
            rw [if_pos (by omega)]
            exact ⟨σ, (hstep _).mpr rfl, by omega, hK⟩
      · rw [if_neg h59, readingFor_eq, bnd_eq] at hstep
        rw [if_neg h59]
        cases hr : rdg (u x) with
        | none =>
          rw [hr] at hstep
          dsimp only at hstep ⊢
          rw [if_pos (by decide)] at hstep
          exact ⟨σ, (hstep _).mpr rfl, by omega, hK⟩
        | some r =>
          have hr4 := rdg_le hr
          rw [hr] at hstep
          dsimp only at hstep ⊢
          have hmost : fX6_mostReadings σ = some (nI (mst m q), σ) := by
            unfold fX6_mostReadings mst
            by_cases hm0 : m = 0
            · rw [h1, if_pos (by rw [hm0]; rfl), if_pos hm0]
              rfl
            · rw [h1, if_neg (show ¬ nI m = (0 : Int32) from ne_n (b := 0) hm0 (by omega) (by decide)), if_neg hm0, h2]
          rw [if_neg (nI_pos (by omega)), hmost, bnd_eq] at hstep
          by_cases hcm : c < mst m q
          · have hput : fX4_put 7 (σ 7 1) (nI c) (nI r) σ = some (0, stm σ 9 (8 * m + c) (nI r)) := by
              unfold fX4_put fX4_cellOf
              rw [h1, show nI m * (8 : Int32) + nI c = nI (8 * m + c) from by rw [show (8 : Int32) = nI 8 from rfl, mul_n, add_n, Nat.mul_comm], bnd_eq, put_in (by omega) (by decide), bnd_eq]
            rw [if_pos (lt_n hcm (by omega)), hput, bnd_eq, one_n, one_n] at hstep
            rw [if_pos hcm, (hstep _).mpr rfl]
            exact ih (x + 1) 1 (c + 1) m q (updR W m c r) (nI (c + 1)) f _ (by omega) (by omega) ⟨Or.inr ⟨rfl, hm⟩, hB2, by omega, hB4, hB5⟩ (fun _ => rfl) (hK.st rfl) (by rw [stm_ne (by decide)]; exact h1) (by rw [stm_ne (by decide)]; exact h2) (hD.put hB2 (by omega) hr4)
          · rw [if_neg (nlt_n (by omega) (by omega))] at hstep
            rw [if_neg hcm]
            exact ⟨σ, (hstep _).mpr rfl, by omega, hK⟩
theorem tell_eq {σ : Mem} {L : Nat} {u : Nat → Int32} (hL : L ≤ 90) (h11 : σ 1 1 = nI L) (hu : ∀ k, k < L → σ 3 k = u k) : TO (tA σ L (fX6_tell σ)) (tB σ (fX6_tell σ)) (prs u L 0 0 0 0 0 (fun _ _ => 0)) :=
  tell_loop σ u L hL h11 hu (fun x2 σ13 => if (x2 : Int32) = 0 then some ((-1), σ13) else some (σ13 1 1, σ13)) (fun _ => rfl) (fun _ => rfl) L 0 0 0 0 0 (fun _ _ => 0) 0 300 (stm (stm σ 7 1 0) 7 2 0) (by omega) (by omega) ⟨Or.inl ⟨rfl, rfl, by omega⟩, by omega, Nat.zero_le _, fun _ => rfl, fun _ => rfl⟩ (fun q => absurd q (by decide)) ((Keep.rf.st rfl).st rfl) (by rw [stm_k (by decide), stm_v]; rfl) (by rw [stm_v]; rfl) ⟨fun i hi => absurd hi (Nat.not_lt_zero i), fun j hj => absurd hj (Nat.not_lt_zero j)⟩
