/-! the reference's search for a better tree -/
theorem isNear_eq {σ : Mem} {a b : Nat} (ha : a < 2 ^ 31) (hb : b < 2 ^ 31) : ∃ r, fX9_isNear (nI a) (nI b) σ = some (bI r, σ) ∧ (r = true ↔ near a b) := by
  have key := up_f (fun f k (x : Nat) => LX9_isNear_4 (fun x2 σ7 => if (2 : Int32) ≤ x2 then some (0, σ7) else some (1, σ7)) f (nI a) (nI b) (nI x) (nI (k + 3)) σ) 3 (nearN a b) (fun x => if (2 : Int32) ≤ nI x then some (0, σ) else some (1, σ))
    (fun f k hk => by
      show BX9_isNear_4 _ _ (nI a) (nI b) (nI (nearN a b k)) (nI (k + 3)) σ = LX9_isNear_4 _ f (nI a) (nI b) (nI (nearN a b k + (if dig a (k + 3) = dig b (k + 3) then 0 else 1))) (nI (k + 1 + 3)) σ
      unfold BX9_isNear_4
      have da : dig a (k + 3) < 2 ^ 31 := by unfold dig; split <;> (try split) <;> omega
      have db : dig b (k + 3) < 2 ^ 31 := by unfold dig; split <;> (try split) <;> omega
      rw [if_neg (show ¬ (6 : Int32) ≤ nI (k + 3) from nle_n (a := 6) (by omega) (by decide)), edgeOf_eq9 ha (by omega), bnd_eq, edgeOf_eq9 hb (by omega), bnd_eq]
      dsimp only [letv]
      rw [one_n, one_n, show (0 : Int32) = nI 0 from rfl, add_n, show k + 3 + 1 = k + 1 + 3 by omega]
      by_cases e : dig a (k + 3) = dig b (k + 3)
      · rw [if_pos (by rw [e]), if_pos e]
      · rw [if_neg (ne_n e da db), if_neg e])
    (fun f => by
      show BX9_isNear_4 _ _ (nI a) (nI b) (nI (nearN a b 3)) (nI 6) σ = _
      unfold BX9_isNear_4
      rw [if_pos (show (6 : Int32) ≤ nI 6 by decide)])
    0 300 (by omega) (by omega)
  have hle : nearN a b 3 ≤ 3 := by
    have e : nearN a b 3 = 0 + (if dig a 3 = dig b 3 then 0 else 1) + (if dig a 4 = dig b 4 then 0 else 1) + (if dig a 5 = dig b 5 then 0 else 1) := rfl
    rw [e]
    split <;> split <;> split <;> omega
  by_cases h2 : 2 ≤ nearN a b 3
  · refine ⟨false, ?_, fun z => Bool.noConfusion z, fun z => by unfold near at z; omega⟩
    rw [if_pos (show (2 : Int32) ≤ nI (nearN a b 3) from le_n (a := 2) h2 (by omega))] at key
    exact key
  · refine ⟨true, ?_, fun _ => by unfold near; omega, fun _ => rfl⟩
    rw [if_neg (show ¬ (2 : Int32) ≤ nI (nearN a b 3) from nle_n (a := 2) (by omega) (by decide))] at key
    exact key
theorem better9_eq (hT : TreeOK) (hTE : TreeE) (hK : TreeK) {σ : Mem} {n p c : Nat} {R : Nat → Nat → Nat} (h : MM σ n p R) (hp0 : n = 0 → p = 0) (hc : c < TN n) (h48 : σ 51 48 = nI c) (K : Int32 → Mem → O) : ∃ b σ', LX9_betters_16 K 300 (nI c) (nI (CHG n p R c)) 0 σ = K (nI b) σ' ∧ b < TN n ∧ BT (CHG n p R) c (fun x => x < TN n ∧ near x c) b ∧ Keep rM σ σ' := by
  have hp := h.2.2.2.1
  have hn := h.2.2.1
  have hTN := TN_le (n := n)
  have hD : ∀ t, t < TN n → CHG n p R t ≤ 40 := fun t ht => CHG_le hK hn hp ht
  obtain ⟨a, ⟨i1, i2, i3⟩, e⟩ := up_k (fun f t (a : Nat × Mem) => LX9_betters_16 K f (nI a.1) (nI (CHG n p R a.1)) (nI t) a.2) (TN n) (fun t a => a.1 < TN n ∧ BT (CHG n p R) c (fun x => x < t ∧ near x c) a.1 ∧ Keep rM σ a.2) (fun a => K (nI a.1) a.2)
    (fun f t a ht hI => by
      obtain ⟨b, s⟩ := a
      obtain ⟨i1, i2, i3⟩ := hI
      dsimp only at i1 i2 i3 ⊢
      have hM : MM s n p R := h.keep i3 rfl rfl (fun _ => rfl)
      have d1 := hD b i1
      have d2 := hD t ht
      have g48 : ∀ o : O, gd 49 48 o = o := fun o => gd_n (n := 49) (i := 48) (by decide) (by decide)
      have c48 : (48 : Int32).toNatClampNeg = 48 := rfl
      have hstep : ∀ X : O, (LX9_betters_16 K (f + 1) (nI b) (nI (CHG n p R b)) (nI t) s = X) = (BX9_betters_16 K (LX9_betters_16 K f) (nI b) (nI (CHG n p R b)) (nI t) s = X) := fun _ => rfl
      obtain ⟨r, r1, r2⟩ := isNear_eq (σ := s) (a := t) (b := c) (by omega) (by omega)
      unfold BX9_betters_16 at hstep
      rw [trees9_eq hn hM.1, bnd_eq, if_neg (nle_n ht (by omega)), g48, c48, i3 51 48 rfl, h48, r1, bnd_eq] at hstep
      dsimp only [jn] at hstep
      have hbt : b ≠ c → b < t := by
        intro hbc
        rcases i2 with ⟨z, -⟩ | ⟨-, z, -⟩
        · exact absurd z hbc
        · exact z.1
      cases r with
      | false =>
        have hno : ¬ near t c := fun z => Bool.noConfusion (r2.mpr z)
        rw [if_pos (show bI false = 0 by decide), if_pos (show nI (CHG n p R b) ≤ (9999 : Int32) from le_n (b := 9999) (by omega) (by decide)), if_pos (show nI (CHG n p R b) ≤ (9999 : Int32) from le_n (b := 9999) (by omega) (by decide)), one_n] at hstep
        refine ⟨(b, s), ⟨i1, BT_congr (fun x => ?_) i2, i3⟩, by rw [hstep]⟩
        constructor
        · rintro ⟨x1, x2⟩; exact ⟨by omega, x2⟩
        · rintro ⟨x1, x2⟩
          by_cases hxt : x = t
          · subst hxt; exact absurd x2 hno
          · exact ⟨by omega, x2⟩
      | true =>
        have hyes : near t c := r2.mp rfl
        obtain ⟨s2, b1, b2⟩ := changesOf9_eq hT hTE hM hp0 ht
        rw [if_neg (show ¬ bI true = 0 by decide), b1, bnd_eq, one_n] at hstep
        have hS : BT (CHG n p R) c (fun x => x < t + 1 ∧ near x c) (if CHG n p R t < CHG n p R b ∨ (b ≠ c ∧ CHG n p R t = CHG n p R b ∧ t < b) then t else b) := BT_congr (fun x => by
          constructor
          · rintro (⟨x1, x2⟩ | rfl)
            · exact ⟨by omega, x2⟩
            · exact ⟨by omega, hyes⟩
          · rintro ⟨x1, x2⟩
            by_cases hxt : x = t
            · exact Or.inr hxt
            · exact Or.inl ⟨by omega, x2⟩) (BT_step i2)
        by_cases c1 : CHG n p R t < CHG n p R b
        · rw [if_pos (Or.inl c1)] at hS
          rw [if_neg (nle_n c1 (by omega)), if_neg (nle_n c1 (by omega))] at hstep
          exact ⟨(t, s2), ⟨ht, hS, i3.tr b2⟩, by rw [hstep]⟩
        · rw [if_neg (by
            rintro (z | ⟨z1, z2, z3⟩)
            · omega
            · have := hbt z1; omega)] at hS
          rw [if_pos (le_n (by omega) (by omega)), if_pos (le_n (by omega) (by omega))] at hstep
          exact ⟨(b, s2), ⟨i1, hS, i3.tr b2⟩, by rw [hstep]⟩)
    (fun f a hI => by
      show BX9_betters_16 K _ (nI a.1) (nI (CHG n p R a.1)) (nI (TN n)) a.2 = _
      unfold BX9_betters_16
      rw [trees9_eq hn (by rw [hI.2.2 50 0 rfl]; exact h.1), bnd_eq, if_pos (le_n (Nat.le_refl _) (by omega))])
    0 (c, σ) 300 (by omega) (by omega) ⟨hc, Or.inl ⟨rfl, fun x hx => absurd hx.1 (Nat.not_lt_zero x)⟩, Keep.rf⟩
  exact ⟨a.1, a.2, e, i1, i2, i3⟩
theorem BT_small {D : Nat → Nat} {n c b : Nat} (hn : n < 4) (hc : c < TN n) (h : BT D c (fun x => x < TN n ∧ near x c) b) : b = c := by
  have e : TN n = 1 := by
    unfold TN
    rw [if_neg (by omega), if_neg (by omega), if_neg (by omega)]
  rcases h with ⟨h1, -⟩ | ⟨h1, ⟨h2, -⟩, -⟩
  · exact h1
  · omega
