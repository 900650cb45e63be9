/-! one copy told, all copies told -/
def rTx : Nat → Nat → Bool := fun c k => !(c == 57 || (c == 50 && (k == 12 || k == 13 || k == 14 || k == 15 || k == 16 || k == 17)))
theorem rTx_rY : ∀ c k, rTx c k = true → rY c k = true := by
  intro c k h
  unfold rTx at h
  unfold rY
  cases hc : (c == 50)
  · rfl
  · simp only [hc, Bool.true_and, Bool.not_eq_true', Bool.or_eq_false_iff] at h ⊢
    exact ⟨⟨h.2.1.1.1.1.1, h.2.1.1.1.1.2⟩, h.2.1.1.1.2⟩
def fAx (σ0 : Mem) (r : Sum Nat (Nat × Nat × (Nat → Nat → Nat))) (o : O) : Prop := ∃ z σ', r = Sum.inl z ∧ o = some (0, σ') ∧ σ' 50 13 = nI z ∧ Keep rTx σ0 σ'
theorem inner_loop (σ0 : Mem) (u : Nat → Int32) (L m q : Nat) (hL : L ≤ 90) (h10 : σ0 50 10 = nI L) (hu : ∀ k, k < L → σ0 56 k = u k) (hm : m < 6) (hq : q ≤ 8) (K : Int32 → Mem → O) :
    ∀ (f x c : Nat) (W : Nat → Nat → Nat) (σ : Mem), x ≤ L → (x = L ∨ u x ≠ 32) → L - x < f → c ≤ mst m q → Keep rTx σ0 σ → σ 50 12 = nI (min (x + 1) L) → σ 50 13 = nI x → σ 50 14 = tok u L x → σ 50 16 = nI m → σ 50 17 = nI q → DR σ 57 m q c W →
      fAx σ0 (prs u (L - x) 1 c x m q W) (LX9_readsCopy_30 K f (nI c) σ) ∨ ∃ x' c' W' σ', x ≤ x' ∧ x' < L ∧ u x' = 59 ∧ prs u (L - x) 1 c x m q W = prs u (L - x') 1 c' x' m q W' ∧ c' ≤ mst m q ∧ LX9_readsCopy_30 K f (nI c) σ = K (nI c') σ' ∧ Keep rTx σ0 σ' ∧ σ' 50 12 = nI (x' + 1) ∧ σ' 50 13 = nI x' ∧ σ' 50 16 = nI m ∧ σ' 50 17 = nI q ∧ DR σ' 57 m q c' W' := by
  have hmst := mst_le (m := m) hq
  intro f
  induction f with
  | zero => intro x c W σ _ _ h; exact absurd h (Nat.not_lt_zero _)
  | succ f ih =>
    intro x c W σ hx hx32 hf hc hK a12 a13 a14 a16 a17 hD
    have hstep : ∀ X : O, (LX9_readsCopy_30 K (f + 1) (nI c) σ = X) = (BX9_readsCopy_30 K (LX9_readsCopy_30 K f) (nI c) σ = X) := fun _ => rfl
    rw [rcB] at hstep
    by_cases h59 : x < L ∧ u x = 59
    · rw [a14] at hstep
      unfold tok at hstep
      rw [if_neg (show ¬ x = L by omega), if_pos h59.2] at hstep
      exact Or.inr ⟨x, c, W, σ, Nat.le_refl _, h59.1, h59.2, rfl, hc, (hstep _).mpr rfl, hK, by rw [a12, show min (x + 1) L = x + 1 by omega], a13, a16, a17, hD⟩
    have n59 : ¬ σ 50 14 = 59 := by
      rw [a14]
      unfold tok
      by_cases hxL : x = L
      · rw [if_pos hxL]
        decide
      · rw [if_neg hxL]
        exact fun e => h59 ⟨by omega, e⟩
    rw [if_neg n59] at hstep
    have hq2 : ∀ X : O, (LX9_readsCopy_30 K (f + 1) (nI c) σ = X) = (rcQ (LX9_readsCopy_30 K f) (nI c) (nI (mst m q)) σ = X) := by
      intro X
      rw [hstep]
      unfold mst
      by_cases hm0 : m = 0
      · rw [a16, if_pos (by rw [hm0]; rfl), if_pos hm0]
        rfl
      · rw [a16, if_neg (show ¬ nI m = (0 : Int32) from ne_n (b := 0) hm0 (by omega) (by decide)), if_neg hm0, a17]
    clear hstep
    cases hr : rdg (σ 50 14) with
    | none =>
      rw [rcQ_none hr] at hq2
      refine Or.inl ⟨x, σ, ?_, (hq2 _).mpr rfl, a13, hK⟩
      by_cases hxL : x = L
      · rw [hxL, Nat.sub_self]
        rfl
      · rw [show L - x = (L - (x + 1)) + 1 by omega, prs, if_neg (hx32.resolve_left hxL), if_neg (by decide), if_neg (fun e => h59 ⟨by omega, e⟩)]
        rw [a14] at hr
        unfold tok at hr
        rw [if_neg hxL] at hr
        rw [hr]
    | some r =>
      have hr4 := rdg_le hr
      have hxL : x ≠ L := by
        intro e
        rw [a14, tok, if_pos e] at hr
        rw [show rdg (-1) = none from rfl] at hr
        cases hr
      have hru : rdg (u x) = some r := by
        rw [a14, tok, if_neg hxL] at hr
        exact hr
      have hp : prs u (L - x) 1 c x m q W = if c < mst m q then prs u (L - (x + 1)) 1 (c + 1) (x + 1) m q (updR W m c r) else Sum.inl x := by
        rw [show L - x = (L - (x + 1)) + 1 by omega, prs, if_neg (hx32.resolve_left hxL), if_neg (by decide), if_neg (fun e => h59 ⟨by omega, e⟩), hru]
      rw [rcQ_some hr] at hq2
      by_cases hcm : c < mst m q
      · rw [if_neg (ne_n (by omega) (by omega) (by omega)), a16, show (8 : Int32) * nI m + nI c = nI (8 * m + c) from by rw [show (8 : Int32) = nI 8 from rfl, mul_n, add_n], gd_n (by omega) (by decide), cl_n (by omega)] at hq2
        rw [if_pos hcm] at hp
        obtain ⟨x', s', e1, e2, e3, e4, e5, e6⟩ := next_eq (u := u) (L := L) (x := x + 1) (σ := stm σ 57 (8 * m + c) (nI r)) hL (by omega) (by rw [stm_ne (by decide), hK 50 10 rfl]; exact h10) (fun k hk => by rw [stm_ne (by decide), hK 56 k rfl]; exact hu k hk) (by rw [stm_ne (by decide), a12, show min (x + 1) L = x + 1 by omega])
        rw [e2, bnd_eq, one_n] at hq2
        have := e1.1
        have := e1.2.1
        have hrec := ih x' (c + 1) (updR W m c r) s' e1.2.1 e1.2.2.1 (by omega) (by omega) ((hK.st rfl).tr (e3.mono rTx_rY)) e4 e5 e6 (by rw [e3 50 16 rfl, stm_ne (by decide)]; exact a16) (by rw [e3 50 17 rfl, stm_ne (by decide)]; exact a17) ((hD.put hq (by omega) hr4).keep (by funext k; exact e3 57 k rfl))
        rw [hp, e1.2.2.2.2, (hq2 _).mpr rfl]
        rcases hrec with h | ⟨x2, c2, W2, s2, g1, g2⟩
        · exact Or.inl h
        · exact Or.inr ⟨x2, c2, W2, s2, by omega, g2⟩
      · rw [if_pos (by rw [show c = mst m q by omega])] at hq2
        rw [if_neg hcm] at hp
        exact Or.inl ⟨x, σ, hp, (hq2 _).mpr rfl, a13, hK⟩
theorem readsCopy_eq (σ0 : Mem) (u : Nat → Int32) (L m q x : Nat) (W : Nat → Nat → Nat) (σ : Mem) (hL : L ≤ 90) (h10 : σ0 50 10 = nI L) (hu : ∀ k, k < L → σ0 56 k = u k) (hB : BD 0 m q 0) (hx : x < L) (hx32 : u x ≠ 32) (hK : Keep rTx σ0 σ) (a12 : σ 50 12 = nI x) (a16 : σ 50 16 = nI m) (a17 : σ 50 17 = nI q) (hD : DR σ 57 m q 0 W) :
    fAx σ0 (prs u (L - x) 0 0 x m q W) (fX9_readsCopy σ) ∨ ∃ x' c' W' σ', x < x' ∧ x' ≤ L ∧ prs u (L - x) 0 0 x m q W = prs u (L - x') 0 0 x' (m + 1) c' W' ∧ BD 0 (m + 1) c' 0 ∧ fX9_readsCopy σ = some (1, σ') ∧ Keep rTx σ0 σ' ∧ σ' 50 12 = nI x' ∧ σ' 50 16 = nI (m + 1) ∧ σ' 50 17 = nI c' ∧ DR σ' 57 (m + 1) c' 0 W' := by
  obtain ⟨hB1, hB2, hB3, hB4, hB5⟩ := hB
  have hm6 : m ≤ 6 := by omega
  have hmst := mst_le (m := m) hB2
  obtain ⟨x1, s1, e1, e2, e3, e4, e5, e6⟩ := next_eq (u := u) (L := L) (x := x) (σ := σ) hL (by omega) (by rw [hK 50 10 rfl]; exact h10) (fun k hk => by rw [hK 56 k rfl]; exact hu k hk) a12
  have hx1 := e1.2.2.2.1 hx hx32
  subst hx1
  have hK1 : Keep rTx σ0 s1 := hK.tr (e3.mono rTx_rY)
  have tx : tok u L x1 = u x1 := by rw [tok, if_neg (by omega)]
  have hp : prs u (L - x1) 0 0 x1 m q W = if u x1 = 109 ∧ m < 6 then prs u (L - (x1 + 1)) 1 0 (x1 + 1) m q W else Sum.inl x1 := by
    rw [show L - x1 = (L - (x1 + 1)) + 1 by omega, prs, if_neg hx32, if_pos rfl]
  unfold fX9_readsCopy
  rw [e2, bnd_eq, e6, tx]
  by_cases h109 : u x1 = 109
  · rw [if_pos h109, e3 50 16 rfl, a16]
    by_cases hm : m = 6
    · rw [if_pos (by rw [hm]; rfl)]
      rw [if_neg (by omega)] at hp
      exact Or.inl ⟨x1, s1, hp, rfl, e5, hK1⟩
    · rw [if_neg (show ¬ nI m = (6 : Int32) from ne_n (b := 6) hm (by omega) (by decide))]
      rw [if_pos ⟨h109, by omega⟩] at hp
      obtain ⟨x2, s2, g1, g2, g3, g4, g5, g6⟩ := next_eq (u := u) (L := L) (x := x1 + 1) (σ := s1) hL (by omega) (by rw [hK1 50 10 rfl]; exact h10) (fun k hk => by rw [hK1 56 k rfl]; exact hu k hk) (by rw [e4, show min (x1 + 1) L = x1 + 1 by omega])
      have := g1.1
      have := g1.2.1
      rw [g1.2.2.2.2] at hp
      rw [g2, bnd_eq, hp]
      generalize hKd : (fun (x1 : Int32) (σ13 : Mem) => if (x1 : Int32) = 0 then some (0, σ13) else jn (fun x1 σ14 => letm (stm σ14 50 17 x1) (fun σ15 => letm (stm σ15 50 16 ((σ15 50 16) + 1)) (fun σ16 => some ((1 : Int32), σ16)))) (fun k151 => if (σ13 50 16 : Int32) ≤ 0 then k151 x1 σ13 else if (σ13 50 17 : Int32) ≤ x1 then k151 x1 σ13 else some (0, σ13))) = K
      have hin := inner_loop σ0 u L m q hL h10 hu (by omega) hB2 K 300 x2 0 W s2 g1.2.1 g1.2.2.1 (by omega) (Nat.zero_le _) (hK1.tr (g3.mono rTx_rY)) g4 g5 g6 (by rw [g3 50 16 rfl, e3 50 16 rfl]; exact a16) (by rw [g3 50 17 rfl, e3 50 17 rfl]; exact a17) (hD.keep (by funext k; rw [g3 57 k rfl, e3 57 k rfl]))
      rcases hin with h | ⟨x3, c, W3, s3, i1, i2, i3, i4, i5, i6, i7, i8, i9, i10, i11, i12⟩
      · exact Or.inl h
      · have hp3 : prs u (L - x3) 1 c x3 m q W3 = if c < 1 ∨ (0 < m ∧ c < q) then Sum.inl x3 else prs u (L - (x3 + 1)) 0 0 (x3 + 1) (m + 1) c W3 := by
          rw [show L - x3 = (L - (x3 + 1)) + 1 by omega, prs, if_neg (by rw [i3]; decide), if_neg (by decide), if_pos i3]
        have hi6 : LX9_readsCopy_30 K 300 0 s2 = K (nI c) s3 := i6
        rw [i4, hp3, hi6, ← hKd]
        dsimp only [jn, letm]
        by_cases hc : c < 1
        · rw [if_pos (show nI c = (0 : Int32) by rw [show c = 0 by omega]; rfl), if_pos (Or.inl hc)]
          exact Or.inl ⟨x3, s3, rfl, rfl, i9, i7⟩
        · rw [if_neg (show ¬ nI c = (0 : Int32) from ne_n (b := 0) (by omega) (by omega) (by decide)), stm_k (show (16 : Nat) ≠ 17 by decide), i10, i11, one_n]
          have hgo : (m = 0 ∨ q = c) → ∃ x' c' W' σ', x1 < x' ∧ x' ≤ L ∧ prs u (L - (x3 + 1)) 0 0 (x3 + 1) (m + 1) c W3 = prs u (L - x') 0 0 x' (m + 1) c' W' ∧ BD 0 (m + 1) c' 0 ∧ some ((1 : Int32), stm (stm s3 50 17 (nI c)) 50 16 (nI (m + 1))) = some (1, σ') ∧ Keep rTx σ0 σ' ∧ σ' 50 12 = nI x' ∧ σ' 50 16 = nI (m + 1) ∧ σ' 50 17 = nI c' ∧ DR σ' 57 (m + 1) c' 0 W' := by
            intro hmq
            refine ⟨x3 + 1, c, W3, _, by omega, by omega, rfl, ⟨Or.inl ⟨rfl, rfl, by omega⟩, by omega, Nat.zero_le _, by omega, by omega⟩, rfl, (i7.st rfl).st rfl, ?_, stm_v _ _ _ _, ?_, ?_⟩
            · rw [stm_k (by decide), stm_k (by decide)]
              exact i8
            · rw [stm_k (by decide), stm_v]
            · exact (i12.next hmq).keep (by rw [stm_ne (by decide), stm_ne (by decide)])
          by_cases hm0 : m = 0
          · rw [if_pos (show nI m ≤ (0 : Int32) from le_n (b := 0) (by omega) (by decide)), if_neg (by omega)]
            exact Or.inr (hgo (Or.inl hm0))
          · rw [if_neg (show ¬ nI m ≤ (0 : Int32) from nle_n (b := 0) (by omega) (by omega))]
            by_cases hqc : q ≤ c
            · have hq : q = c := by
                unfold mst at i5
                rw [if_neg hm0] at i5
                omega
              rw [if_pos (le_n hqc (by omega)), if_neg (by omega)]
              exact Or.inr (hgo (Or.inr hq))
            · rw [if_neg (nle_n (by omega) (by omega)), if_pos (by omega)]
              exact Or.inl ⟨x3, s3, rfl, rfl, i9, i7⟩
  · rw [if_neg h109]
    rw [if_neg (fun e => h109 e.1)] at hp
    exact Or.inl ⟨x1, s1, hp, rfl, e5, hK1⟩
def oAx (σ0 : Mem) (o : O) (z : Nat) : Prop := ∃ σ', o = some ((-10 : Int32) - nI z, σ') ∧ Keep rTx σ0 σ'
def oBx (σ0 : Mem) (K : Mem → O) (o : O) (m q : Nat) (W : Nat → Nat → Nat) : Prop := ∃ σ', o = K σ' ∧ Keep rTx σ0 σ' ∧ σ' 50 16 = nI m ∧ σ' 50 17 = nI q ∧ DR σ' 57 m q 0 W
theorem outer_loop (σ0 : Mem) (u : Nat → Int32) (L : Nat) (hL : L ≤ 90) (h10 : σ0 50 10 = nI L) (hu : ∀ k, k < L → σ0 56 k = u k) (K : Mem → O) :
    ∀ (f x m q : Nat) (W : Nat → Nat → Nat) (σ : Mem), x ≤ L → (x = L ∨ u x ≠ 32) → L - x < f → BD 0 m q 0 → Keep rTx σ0 σ → σ 50 12 = nI x → σ 50 16 = nI m → σ 50 17 = nI q → DR σ 57 m q 0 W →
      TO (oAx σ0 (LX9_copies_19 K f σ)) (oBx σ0 K (LX9_copies_19 K f σ)) (prs u (L - x) 0 0 x m q W) := by
  intro f
  induction f with
  | zero => intro x m q W σ _ _ h; exact absurd h (Nat.not_lt_zero _)
  | succ f ih =>
    intro x m q W σ hx hx32 hf hB hK a12 a16 a17 hD
    have hstep : ∀ X : O, (LX9_copies_19 K (f + 1) σ = X) = (BX9_copies_19 K (LX9_copies_19 K f) σ = X) := fun _ => rfl
    unfold BX9_copies_19 at hstep
    rw [hK 50 10 rfl, h10, a12] at hstep
    by_cases hxL : x = L
    · subst hxL
      rw [if_pos (le_n (Nat.le_refl _) (by omega))] at hstep
      rw [Nat.sub_self]
      exact ⟨σ, (hstep _).mpr rfl, hK, a16, a17, hD⟩
    · rw [if_neg (nle_n (by omega) (by omega))] at hstep
      rcases readsCopy_eq σ0 u L m q x W σ hL h10 hu hB (by omega) (hx32.resolve_left hxL) hK a12 a16 a17 hD with ⟨z, s, e1, e2, e3, e4⟩ | ⟨x', c', W', s, e1, e2, e3, e4, e5, e6, e7, e8, e9, e10⟩
      · rw [e2, bnd_eq, if_pos rfl, e3] at hstep
        dsimp only [letm] at hstep
        rw [stm_v] at hstep
        rw [e1]
        exact ⟨_, (hstep _).mpr rfl, e4.st rfl⟩
      · obtain ⟨x2, g1, g2⟩ := blanks_eq (u := u) (σ := s) hL e2 (by rw [e6 50 10 rfl]; exact h10) (fun k hk => by rw [e6 56 k rfl]; exact hu k hk) e7
        have := g1.1
        rw [e5, bnd_eq, if_neg (show ¬ (1 : Int32) = 0 by decide), g2, bnd_eq] at hstep
        rw [e3, g1.2.2.2.2, (hstep _).mpr rfl]
        exact ih x2 (m + 1) c' W' _ g1.2.1 g1.2.2.1 (by omega) e4 (e6.st rfl) (stm_v _ _ _ _) (by rw [stm_k (by decide)]; exact e8) (by rw [stm_k (by decide)]; exact e9) (e10.keep (by rw [stm_ne (by decide)]))
