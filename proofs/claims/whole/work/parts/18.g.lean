/-! the reference's reading of the text -/
theorem stm_stm (σ : Mem) (c k : Nat) (v w : Int32) : stm (stm σ c k v) c k w = stm σ c k w := by
  funext c' k'
  by_cases hc : c' = c
  · subst hc
    by_cases hk : k' = k
    · subst hk
      rw [stm_v, stm_v]
    · rw [stm_k hk, stm_k hk, stm_k hk]
  · rw [stm_ne hc, stm_ne hc, stm_ne hc]
/-- the same word from x as from x' -/
def SX (u : Nat → Int32) (L x x' : Nat) : Prop := x ≤ x' ∧ x' ≤ L ∧ (x' = L ∨ u x' ≠ 32) ∧ (x < L → u x ≠ 32 → x' = x) ∧ ∀ s c m q W, prs u (L - x) s c x m q W = prs u (L - x') s c x' m q W
theorem blanks_loop (u : Nat → Int32) (L : Nat) (hL : L ≤ 90) (K : Mem → O) : ∀ (f x : Nat) (σ : Mem), x ≤ L → L - x < f → σ 50 10 = nI L → (∀ k, k < L → σ 56 k = u k) → σ 50 12 = nI x → ∃ x', SX u L x x' ∧ LX9_blanks_0 K f σ = K (stm σ 50 12 (nI x')) := by
  intro f
  induction f with
  | zero => intro x σ _ h; exact absurd h (Nat.not_lt_zero _)
  | succ f ih =>
    intro x σ hx hf h10 hu h12
    have hstep : ∀ X : O, (LX9_blanks_0 K (f + 1) σ = X) = (BX9_blanks_0 K (LX9_blanks_0 K f) σ = X) := fun _ => rfl
    unfold BX9_blanks_0 at hstep
    rw [h10, h12] at hstep
    by_cases hxL : x = L
    · subst hxL
      rw [if_pos (le_n (Nat.le_refl _) (by omega))] at hstep
      exact ⟨x, ⟨Nat.le_refl _, Nat.le_refl _, Or.inl rfl, fun _ _ => rfl, fun _ _ _ _ _ => rfl⟩, (hstep _).mpr (by rw [stm_self h12])⟩
    · rw [if_neg (nle_n (by omega) (by omega)), gd_n (by omega) (by decide), cl_n (by omega), hu x (by omega)] at hstep
      by_cases h32 : u x = 32
      · rw [if_pos h32, one_n] at hstep
        obtain ⟨x', ⟨s1, s2, s3, s4, s5⟩, e⟩ := ih (x + 1) (stm σ 50 12 (nI (x + 1))) (by omega) (by omega) (by rw [stm_k (by decide)]; exact h10) (fun k hk => by rw [stm_ne (by decide)]; exact hu k hk) (stm_v _ _ _ _)
        rw [stm_stm] at e
        refine ⟨x', ⟨by omega, s2, s3, fun _ q => absurd h32 q, fun s c m q W => ?_⟩, (hstep _).mpr e⟩
        rw [← s5, show L - x = (L - (x + 1)) + 1 by omega]
        show prs u ((L - (x + 1)) + 1) s c x m q W = _
        rw [prs, if_pos h32]
      · rw [if_neg h32] at hstep
        exact ⟨x, ⟨Nat.le_refl _, hx, Or.inr h32, fun _ _ => rfl, fun _ _ _ _ _ => rfl⟩, (hstep _).mpr (by rw [stm_self h12])⟩
theorem blanks_eq {u : Nat → Int32} {L x : Nat} {σ : Mem} (hL : L ≤ 90) (hx : x ≤ L) (h10 : σ 50 10 = nI L) (hu : ∀ k, k < L → σ 56 k = u k) (h12 : σ 50 12 = nI x) : ∃ x', SX u L x x' ∧ fX9_blanks σ = some (0, stm σ 50 12 (nI x')) :=
  blanks_loop u L hL (fun σ2 => some (0, σ2)) 300 x σ hx (by omega) h10 hu h12
def tok (u : Nat → Int32) (L x : Nat) : Int32 := if x = L then -1 else u x
def rY : Nat → Nat → Bool := fun c k => !(c == 50 && (k == 12 || k == 13 || k == 14))
theorem next_eq {u : Nat → Int32} {L x : Nat} {σ : Mem} (hL : L ≤ 90) (hx : x ≤ L) (h10 : σ 50 10 = nI L) (hu : ∀ k, k < L → σ 56 k = u k) (h12 : σ 50 12 = nI x) : ∃ x' σ', SX u L x x' ∧ fX9_next σ = some (0, σ') ∧ Keep rY σ σ' ∧ σ' 50 12 = nI (min (x' + 1) L) ∧ σ' 50 13 = nI x' ∧ σ' 50 14 = tok u L x' := by
  obtain ⟨x', hs, hb⟩ := blanks_eq hL hx h10 hu h12
  have hx' := hs.2.1
  unfold fX9_next
  rw [hb, bnd_eq]
  dsimp only [letm, jn]
  rw [stm_v (σ := σ) (c := 50) (k := 12)]
  generalize h3 : stm (stm σ 50 12 (nI x')) 50 13 (nI x') = s3
  have a12 : s3 50 12 = nI x' := by rw [← h3, stm_k (by decide), stm_v]
  have a10 : s3 50 10 = nI L := by rw [← h3, stm_k (by decide), stm_k (by decide), h10]
  have a13 : s3 50 13 = nI x' := by rw [← h3, stm_v]
  have k3 : Keep rY σ s3 := by rw [← h3]; exact (Keep.rf.st rfl).st rfl
  have a56 : ∀ k, k < L → s3 56 k = u k := fun k hk => by rw [k3 56 k rfl]; exact hu k hk
  have b12 : ∀ v : Int32, stm s3 50 14 v 50 12 = nI x' := fun v => by rw [stm_k (by decide), a12]
  have b10 : ∀ v : Int32, stm s3 50 14 v 50 10 = nI L := fun v => by rw [stm_k (by decide), a10]
  rw [a12, a10, b12, b10]
  by_cases hxL : x' = L
  · rw [if_pos (by rw [hxL]), if_pos (by rw [hxL])]
    refine ⟨x', _, hs, rfl, (k3.st rfl).st rfl, ?_, ?_, ?_⟩
    · rw [stm_v, show nI x' + 0 = nI (x' + 0) from add_n x' 0, show min (x' + 1) L = x' + 0 by omega]
    · rw [stm_k (by decide), stm_k (by decide), a13]
    · rw [stm_k (by decide), stm_v]
      unfold tok
      rw [if_pos hxL]
  · rw [if_neg (ne_n hxL (by omega) (by omega)), gd_n (by omega) (by decide), cl_n (by omega), b12, b10, if_neg (ne_n hxL (by omega) (by omega))]
    refine ⟨x', _, hs, rfl, (k3.st rfl).st rfl, ?_, ?_, ?_⟩
    · rw [stm_v, one_n, show min (x' + 1) L = x' + 1 by omega]
    · rw [stm_k (by decide), stm_k (by decide), a13]
    · rw [stm_k (by decide), stm_v, a56 x' (by omega)]
      unfold tok
      rw [if_neg hxL]
def rcQ (rec : Int32 → Mem → O) (x1 t0 : Int32) (σ5 : Mem) : O := bnd (fX9_in (σ5 50 14) 97 100 σ5) (fun r6 σ7 => jn (fun x1 x2 σ8 => if (x1 : Int32) = x2 then some (0, σ8) else jn (fun x1 t0 t1 σ9 => gd 48 t0 (letm (stm σ9 57 t0.toNatClampNeg t1) (fun σ10 => bnd (fX9_next σ10) (fun _ σ12 => rec (x1 + 1) σ12)))) (fun k119 => if (σ8 50 14 : Int32) = 63 then k119 x1 (((8 : Int32) * (σ8 50 16)) + x1) 4 σ8 else k119 x1 (((8 : Int32) * (σ8 50 16)) + x1) ((σ8 50 14) - 97) σ8)) (fun k79 => if (r6 : Int32) = 0 then if (σ7 50 14 : Int32) = 63 then k79 x1 t0 σ7 else some (0, σ7) else k79 x1 t0 σ7))
theorem rcB (K rec : Int32 → Mem → O) (x1 : Int32) (σ : Mem) : BX9_readsCopy_30 K rec x1 σ = if σ 50 14 = 59 then K x1 σ else if σ 50 16 = 0 then rcQ rec x1 8 σ else rcQ rec x1 (σ 50 17) σ := rfl
theorem in_rdg (v : Int32) (σ : Mem) : (rdg v = none ∧ v ≠ 63 ∧ fX9_in v 97 100 σ = some (0, σ)) ∨ (rdg v = some 4 ∧ v = 63 ∧ fX9_in v 97 100 σ = some (0, σ)) ∨ ∃ r, rdg v = some r ∧ v ≠ 63 ∧ v - 97 = nI r ∧ fX9_in v 97 100 σ = some (1, σ) := by
  have hq := readingFor_eq v σ
  unfold fX6_readingFor at hq
  unfold fX9_in
  by_cases h63 : v = 63
  · subst h63
    exact Or.inr (Or.inl ⟨rfl, rfl, rfl⟩)
  rw [if_neg h63] at hq
  have hneg : ∀ r, ¬ nI r = (-1 : Int32) ∨ 4 < r := by
    intro r
    by_cases h : 4 < r
    · exact Or.inr h
    · exact Or.inl (ne_neg (by decide) (by omega))
  by_cases h1 : v < 97
  · rw [if_pos h1] at hq ⊢
    refine Or.inl ⟨?_, h63, rfl⟩
    cases hr : rdg v with
    | none => rfl
    | some r =>
      rw [hr] at hq
      injection hq with hq
      injection hq with hq _
      rcases hneg r with q | q
      · exact absurd hq.symm q
      · have := rdg_le hr
        omega
  rw [if_neg h1] at hq ⊢
  by_cases h2 : (100 : Int32) < v
  · rw [if_pos h2] at hq ⊢
    refine Or.inl ⟨?_, h63, rfl⟩
    cases hr : rdg v with
    | none => rfl
    | some r =>
      rw [hr] at hq
      injection hq with hq
      injection hq with hq _
      rcases hneg r with q | q
      · exact absurd hq.symm q
      · have := rdg_le hr
        omega
  rw [if_neg h2] at hq ⊢
  refine Or.inr (Or.inr ?_)
  cases hr : rdg v with
  | none =>
    exfalso
    rw [hr] at hq
    injection hq with hq
    injection hq with hq _
    have : v = 96 := by
      have := congrArg (· + (97 : Int32)) hq
      dsimp only at this
      rw [Int32.sub_add_cancel] at this
      exact this
    subst this
    exact h1 (by decide)
  | some r =>
    rw [hr] at hq
    injection hq with hq
    injection hq with hq _
    exact ⟨r, rfl, h63, hq, rfl⟩
theorem rcQ_none {rec : Int32 → Mem → O} {x1 t0 : Int32} {σ : Mem} (h : rdg (σ 50 14) = none) : rcQ rec x1 t0 σ = some (0, σ) := by
  unfold rcQ
  rcases in_rdg (σ 50 14) σ with ⟨_, e2, e3⟩ | ⟨e1, _, _⟩ | ⟨r, e1, _, _, _⟩
  · rw [e3, bnd_eq]
    dsimp only [jn]
    rw [if_pos rfl, if_neg e2]
  · rw [e1] at h
    cases h
  · rw [e1] at h
    cases h
theorem rcQ_some {rec : Int32 → Mem → O} {x1 t0 : Int32} {σ : Mem} {r : Nat} (h : rdg (σ 50 14) = some r) : rcQ rec x1 t0 σ = if x1 = t0 then some (0, σ) else gd 48 (8 * σ 50 16 + x1) (bnd (fX9_next (stm σ 57 (8 * σ 50 16 + x1).toNatClampNeg (nI r))) (fun _ σ12 => rec (x1 + 1) σ12)) := by
  unfold rcQ
  rcases in_rdg (σ 50 14) σ with ⟨e1, _, _⟩ | ⟨e1, e2, e3⟩ | ⟨r', e1, e2, e4, e3⟩
  · rw [e1] at h
    cases h
  · rw [e1] at h
    injection h with h
    subst h
    rw [e3, bnd_eq]
    dsimp only [jn, letm]
    rw [if_pos rfl, if_pos e2, if_pos e2]
    rfl
  · rw [e1] at h
    injection h with h
    subst h
    rw [e3, bnd_eq]
    dsimp only [jn, letm]
    rw [if_neg (show ¬ (1 : Int32) = 0 by decide), if_neg e2, e4]
