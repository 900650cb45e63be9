/-! what is remembered -/
def cpy (σ : Mem) (c lo m : Nat) (f : Nat → Int32) : Mem := fun c' k' => if c' = c ∧ lo ≤ k' ∧ k' < lo + m then f (k' - lo) else σ c' k'
theorem cpy_0 (σ : Mem) (c lo : Nat) (f : Nat → Int32) : cpy σ c lo 0 f = σ := by
  funext c' k'
  unfold cpy
  rw [if_neg (by omega)]
theorem cpy_at {σ : Mem} {c lo m k : Nat} {f : Nat → Int32} (h : k < m) : cpy σ c lo m f c (lo + k) = f k := by
  unfold cpy
  rw [if_pos ⟨rfl, by omega, by omega⟩, show lo + k - lo = k by omega]
theorem cpy_ne {σ : Mem} {c lo m c' : Nat} {f : Nat → Int32} (h : c' ≠ c) : cpy σ c lo m f c' = σ c' := by
  funext k'
  unfold cpy
  rw [if_neg (fun q => h q.1)]
theorem cpy_out {σ : Mem} {c lo m k : Nat} {f : Nat → Int32} (h : k < lo ∨ lo + m ≤ k) : cpy σ c lo m f c k = σ c k := by
  unfold cpy
  rw [if_neg (by omega)]
theorem cpy_s (σ : Mem) (c lo m : Nat) (f : Nat → Int32) : stm (cpy σ c lo m f) c (lo + m) (f m) = cpy σ c lo (m + 1) f := by
  funext c' k'
  by_cases hc : c' = c
  · subst hc
    by_cases hk : k' = lo + m
    · subst hk
      rw [stm_v, cpy_at (by omega)]
    · rw [stm_k hk]
      by_cases h1 : lo ≤ k' ∧ k' < lo + m
      · obtain ⟨j, rfl⟩ : ∃ j, k' = lo + j := ⟨k' - lo, by omega⟩
        rw [cpy_at (by omega), cpy_at (by omega)]
      · rw [cpy_out (by omega), cpy_out (by omega)]
  · rw [stm_ne hc, cpy_ne hc, cpy_ne hc]
theorem Keep.cpy {Rl : Nat → Nat → Bool} {σ σ1 : Mem} {c lo m : Nat} {f : Nat → Int32} (h : Keep Rl σ σ1) (h1 : ∀ k, Rl c k = false) : Keep Rl σ (cpy σ1 c lo m f) := by
  intro c' k' h'
  rw [← h c' k' h', cpy_ne]
  intro q
  subst q
  rw [h1 k'] at h'
  cases h'
/-- all but what the class notes -/
def rN : Nat → Nat → Bool := fun c k => !(c == 12 || c == 14 || (c == 10 && k == 2))
/-- all but what the reference remembers -/
def rR : Nat → Nat → Bool := fun c k => !(c == 52 || (c == 50 && (k == 3 || k == 4)))
def NT (σ σ' : Mem) (x y : Int32) : Prop := ∀ d, d ≤ 10 → σ 10 2 = nI d → σ' 10 2 = nI (min (d + 1) 10) ∧ σ' 12 (min (d + 1) 10 - 1) = x ∧ σ' 14 (min (d + 1) 10 - 1) = y ∧ ∀ j, j + 1 < min (d + 1) 10 → σ' 12 (min (d + 1) 10 - 1 - (j + 1)) = σ 12 (d - 1 - j) ∧ σ' 14 (min (d + 1) 10 - 1 - (j + 1)) = σ 14 (d - 1 - j)
def RB (σ σ' : Mem) : Prop := ∀ d a, d ≤ 10 → a < 10 → σ 50 3 = nI d → σ 50 4 = nI a → σ' 50 3 = nI (min (d + 1) 10) ∧ σ' 50 4 = nI ((a + 1) % 10) ∧ (∀ k, k < 49 → σ' 52 (49 * a + k) = σ 51 k) ∧ ∀ q k, q ≠ a → k < 49 → σ' 52 (49 * q + k) = σ 52 (49 * q + k)
theorem lose_eq (σ : Mem) : ∃ σ', fX1_loseOldest σ = some (0, σ') ∧ Keep rN σ σ' ∧ σ' 10 2 = nI 9 ∧ ∀ k, k < 9 → σ' 12 k = σ 12 (k + 1) ∧ σ' 14 k = σ 14 (k + 1) := by
  obtain ⟨σ', h1, h2⟩ := up_k (α := Mem) (fun f i s => LX1_loseOldest_2 (fun σ9 => letm (stm σ9 10 2 9) (fun σ10 => some (0, σ10))) f (nI (i + 1)) s) 9
    (fun i s => Keep rN σ s ∧ (∀ k, k < i → s 12 k = σ 12 (k + 1) ∧ s 14 k = σ 14 (k + 1)) ∧ ∀ k, i ≤ k → s 12 k = σ 12 k ∧ s 14 k = σ 14 k)
    (fun s => some (0, stm s 10 2 9))
    (by
      intro f i s hi ⟨i1, i2, i3⟩
      have hstep : ∀ X : O, (LX1_loseOldest_2 (fun σ9 => letm (stm σ9 10 2 9) (fun σ10 => some (0, σ10))) (f + 1) (nI (i + 1)) s = X) = (BX1_loseOldest_2 (fun σ9 => letm (stm σ9 10 2 9) (fun σ10 => some (0, σ10))) (LX1_loseOldest_2 (fun σ9 => letm (stm σ9 10 2 9) (fun σ10 => some (0, σ10))) f) (nI (i + 1)) s = X) := fun _ => rfl
      unfold BX1_loseOldest_2 at hstep
      rw [if_neg (show ¬ (10 : Int32) ≤ nI (i + 1) from nle_n (a := 10) (by omega) (by decide)), at_in (by omega) (by decide), bnd_eq, show nI (i + 1) - 1 = nI i from by rw [← one_n]; exact Int32.add_sub_cancel _ _, put_in (by omega) (by decide), bnd_eq, at_in (by omega) (by decide), bnd_eq, put_in (by omega) (by decide), bnd_eq, one_n] at hstep
      refine ⟨_, ⟨(i1.st rfl).st rfl, fun k hk => ?_, fun k hk => ?_⟩, (hstep _).mpr rfl⟩
      · dsimp only [Nat.reduceAdd]
        rw [stm_ne (show (12 : Nat) ≠ 14 by decide)]
        by_cases hki : k = i
        · subst hki
          rw [stm_v, stm_v, stm_ne (show (14 : Nat) ≠ 12 by decide)]
          exact i3 (k + 1) (by omega)
        · rw [stm_k hki, stm_k hki, stm_ne (show (14 : Nat) ≠ 12 by decide)]
          exact i2 k (by omega)
      · dsimp only [Nat.reduceAdd]
        rw [stm_ne (show (12 : Nat) ≠ 14 by decide), stm_k (by omega), stm_k (by omega), stm_ne (show (14 : Nat) ≠ 12 by decide)]
        exact i3 k (by omega))
    (by
      intro f s _
      have hstep : ∀ X : O, (LX1_loseOldest_2 (fun σ9 => letm (stm σ9 10 2 9) (fun σ10 => some (0, σ10))) (f + 1) (nI (9 + 1)) s = X) = (BX1_loseOldest_2 (fun σ9 => letm (stm σ9 10 2 9) (fun σ10 => some (0, σ10))) (LX1_loseOldest_2 (fun σ9 => letm (stm σ9 10 2 9) (fun σ10 => some (0, σ10))) f) (nI (9 + 1)) s = X) := fun _ => rfl
      unfold BX1_loseOldest_2 at hstep
      rw [if_pos (by decide)] at hstep
      exact (hstep _).mpr rfl)
    0 σ 300 (by decide) (by decide) ⟨Keep.rf, fun k hk => absurd hk (Nat.not_lt_zero k), fun _ _ => ⟨rfl, rfl⟩⟩
  refine ⟨stm σ' 10 2 9, h2, h1.1.st rfl, by rw [stm_v]; rfl, fun k hk => ?_⟩
  rw [stm_ne (by decide), stm_ne (by decide)]
  exact h1.2.1 k hk
theorem note_eq {σ : Mem} {d : Nat} (hd : d ≤ 10) (h10 : σ 10 2 = nI d) (x y : Int32) : ∃ σ', fX1_note x y σ = some (0, σ') ∧ Keep rN σ σ' ∧ NT σ σ' x y := by
  have hput : ∀ (s : Mem) (e : Nat), e < 10 → s 10 2 = nI e → (bnd (fX5_put 11 10 (s 10 2) x s) (fun _ σ3 => bnd (fX5_put 13 10 (σ3 10 2) y σ3) (fun _ σ5 => letm (stm σ5 10 2 ((σ5 10 2) + 1)) (fun σ6 => some ((0 : Int32), σ6))))) = some (0, stm (stm (stm s 12 e x) 14 e y) 10 2 (nI (e + 1))) := by
    intro s e he hs
    rw [hs, put_in he (by decide), bnd_eq]
    have q : stm s (11 + 1) e x 10 2 = nI e := by rw [stm_ne (by decide), hs]
    rw [q, put_in he (by decide), bnd_eq]
    have q2 : stm (stm s (11 + 1) e x) (13 + 1) e y 10 2 = nI e := by rw [stm_ne (by decide), q]
    rw [q2, one_n]
    rfl
  unfold fX1_note
  dsimp only [jn]
  by_cases h : d < 10
  · rw [if_pos (show σ 10 2 < (10 : Int32) by rw [h10]; exact lt_n (b := 10) h (by decide)), hput σ d h h10]
    refine ⟨_, rfl, ((Keep.rf.st rfl).st rfl).st rfl, fun d' _ hd' => ?_⟩
    have : d' = d := nI_inj (by omega) (by omega) (hd'.symm.trans h10)
    subst this
    rw [show min (d' + 1) 10 = d' + 1 by omega]
    refine ⟨by rw [stm_v], by rw [show d' + 1 - 1 = d' by omega, stm_ne (by decide), stm_ne (by decide), stm_v], by rw [show d' + 1 - 1 = d' by omega, stm_ne (by decide), stm_v], fun j hj => ?_⟩
    rw [show d' + 1 - 1 - (j + 1) = d' - 1 - j by omega, stm_ne (by decide), stm_ne (by decide), stm_k (by omega), stm_ne (by decide), stm_k (by omega), stm_ne (by decide)]
    exact ⟨rfl, rfl⟩
  · have hd10 : d = 10 := by omega
    subst hd10
    obtain ⟨s, h1, h2, h3, h4⟩ := lose_eq σ
    rw [if_neg (show ¬ σ 10 2 < (10 : Int32) by rw [h10]; exact nlt_n (b := 10) (by decide) (by decide)), h1, bnd_eq, hput s 9 (by decide) h3]
    refine ⟨_, rfl, ((h2.st rfl).st rfl).st rfl, fun d' _ hd' => ?_⟩
    have : d' = 10 := nI_inj (by omega) (by omega) (hd'.symm.trans h10)
    subst this
    refine ⟨by rw [stm_v]; rfl, by rw [stm_ne (by decide), stm_ne (by decide)]; exact stm_v _ _ _ _, by rw [stm_ne (by decide)]; exact stm_v _ _ _ _, fun j hj => ?_⟩
    have hj' : j < 9 := by omega
    rw [show min (10 + 1) 10 - 1 - (j + 1) = 8 - j by omega, stm_ne (by decide), stm_ne (by decide), stm_k (by omega), stm_ne (by decide), stm_k (by omega), stm_ne (by decide), show 10 - 1 - j = 8 - j + 1 by omega]
    exact h4 (8 - j) (by omega)
theorem NT.keep {σ σ1 σ' : Mem} {x y : Int32} {Rl : Nat → Nat → Bool} (h : NT σ σ1 x y) (hK : Keep Rl σ1 σ') (h1 : Rl 10 2 = true) (h4 : ∀ k, Rl 12 k = true) (h5 : ∀ k, Rl 14 k = true) : NT σ σ' x y := by
  intro d hd h10
  obtain ⟨e1, e2, e3, e4⟩ := h d hd h10
  exact ⟨by rw [hK _ _ h1]; exact e1, by rw [hK _ _ (h4 _)]; exact e2, by rw [hK _ _ (h5 _)]; exact e3, fun j hj => by rw [hK _ _ (h4 _), hK _ _ (h5 _)]; exact e4 j hj⟩
theorem remi_10 : ∀ a, a < 10 → remi (nI a + 1) 10 = nI ((a + 1) % 10) := by decide
theorem remember_eq {σ : Mem} {d a : Nat} (hd : d ≤ 10) (ha : a < 10) (h3 : σ 50 3 = nI d) (h4 : σ 50 4 = nI a) : ∃ σ', fX9_remember σ = some (0, σ') ∧ Keep rR σ σ' ∧ RB σ σ' := by
  have hl := up_f (α := Mem) (fun f i s => LX9_remember_2 (fun σ2 => letm (stm σ2 50 4 (remi ((σ2 50 4) + 1) 10)) (fun σ3 => if (10 : Int32) ≤ (σ3 50 3) then letm (stm σ3 50 3 ((σ3 50 3) + 0)) (fun σ4 => some (0, σ4)) else letm (stm σ3 50 3 ((σ3 50 3) + 1)) (fun σ5 => some (0, σ5)))) f (nI i) s) 49
    (fun i => cpy σ 52 (49 * a) i (σ 51))
    (fun s => if (10 : Int32) ≤ s 50 3 then some (0, stm (stm s 50 4 (remi (s 50 4 + 1) 10)) 50 3 (s 50 3 + 0)) else some (0, stm (stm s 50 4 (remi (s 50 4 + 1) 10)) 50 3 (s 50 3 + 1)))
    (by
      intro f i hi
      generalize (fun σ2 : Mem => letm (stm σ2 50 4 (remi ((σ2 50 4) + 1) 10)) (fun σ3 => if (10 : Int32) ≤ (σ3 50 3) then letm (stm σ3 50 3 ((σ3 50 3) + 0)) (fun σ4 => some ((0 : Int32), σ4)) else letm (stm σ3 50 3 ((σ3 50 3) + 1)) (fun σ5 => some (0, σ5)))) = K
      have hstep : ∀ X : O, (LX9_remember_2 K (f + 1) (nI i) (cpy σ 52 (49 * a) i (σ 51)) = X) = (BX9_remember_2 K (LX9_remember_2 K f) (nI i) (cpy σ 52 (49 * a) i (σ 51)) = X) := fun _ => rfl
      unfold BX9_remember_2 at hstep
      rw [if_neg (show ¬ (49 : Int32) ≤ nI i from nle_n (a := 49) (by omega) (by decide)), gd_n (by omega) (by decide), cpy_ne (show (50 : Nat) ≠ 52 by decide), h4, show (49 : Int32) * nI a + nI i = nI (49 * a + i) from by rw [show (49 : Int32) = nI 49 from rfl, mul_n, add_n], gd_n (by omega) (by decide), cl_n (by omega), cl_n (by omega), cpy_ne (show (51 : Nat) ≠ 52 by decide), one_n] at hstep
      refine (hstep _).mpr ?_
      dsimp only [letm]
      rw [cpy_s])
    (by
      intro f
      generalize hsd : cpy σ 52 (49 * a) 49 (σ 51) = s
      generalize hKd : (fun σ2 : Mem => letm (stm σ2 50 4 (remi ((σ2 50 4) + 1) 10)) (fun σ3 => if (10 : Int32) ≤ (σ3 50 3) then letm (stm σ3 50 3 ((σ3 50 3) + 0)) (fun σ4 => some ((0 : Int32), σ4)) else letm (stm σ3 50 3 ((σ3 50 3) + 1)) (fun σ5 => some (0, σ5)))) = K
      have hstep : ∀ X : O, (LX9_remember_2 K (f + 1) (nI 49) s = X) = (BX9_remember_2 K (LX9_remember_2 K f) (nI 49) s = X) := fun _ => rfl
      unfold BX9_remember_2 at hstep
      rw [if_pos (by decide)] at hstep
      refine (hstep _).mpr ?_
      subst hKd
      dsimp only [letm]
      rw [show stm s 50 4 (remi (s 50 4 + 1) 10) 50 3 = s 50 3 from stm_k (by decide)])
    0 300 (by decide) (by decide)
  rw [cpy_0] at hl
  have q3 : cpy σ 52 (49 * a) 49 (σ 51) 50 3 = nI d := by rw [cpy_ne (by decide), h3]
  have q4 : cpy σ 52 (49 * a) 49 (σ 51) 50 4 = nI a := by rw [cpy_ne (by decide), h4]
  have hres : fX9_remember σ = some (0, stm (stm (cpy σ 52 (49 * a) 49 (σ 51)) 50 4 (nI ((a + 1) % 10))) 50 3 (nI (min (d + 1) 10))) := by
    refine hl.trans ?_
    rw [q3, q4, remi_10 a ha]
    by_cases h : d < 10
    · rw [if_neg (show ¬ (10 : Int32) ≤ nI d from nle_n (a := 10) h (by decide)), one_n, show min (d + 1) 10 = d + 1 by omega]
    · have : d = 10 := by omega
      subst this
      rw [if_pos (by decide)]
      rfl
  refine ⟨_, hres, ((Keep.rf.cpy (fun _ => rfl)).st rfl).st rfl, fun d' a' _ _ hd' ha' => ?_⟩
  have e1 : d' = d := nI_inj (by omega) (by omega) (hd'.symm.trans h3)
  have e2 : a' = a := nI_inj (by omega) (by omega) (ha'.symm.trans h4)
  subst e1 e2
  refine ⟨by rw [stm_v], by rw [stm_k (by decide), stm_v], fun k hk => ?_, fun q k hq hk => ?_⟩
  · rw [stm_ne (by decide), stm_ne (by decide), cpy_at hk]
  · rw [stm_ne (by decide), stm_ne (by decide), cpy_out (by omega)]
theorem RB.from {σ σ1 σ' : Mem} {Rl : Nat → Nat → Bool} (h : RB σ1 σ') (hK : Keep Rl σ σ1) (h1 : Rl 50 3 = true) (h2 : Rl 50 4 = true) (h4 : ∀ k, Rl 52 k = true) (h5 : ∀ k, Rl 51 k = true) : RB σ σ' := by
  intro d a hd ha h3 h4'
  obtain ⟨e1, e2, e3, e4⟩ := h d a hd ha (by rw [hK _ _ h1]; exact h3) (by rw [hK _ _ h2]; exact h4')
  exact ⟨e1, e2, fun k hk => by rw [e3 k hk, hK _ _ (h5 _)], fun q k hq hk => by rw [e4 q k hq hk, hK _ _ (h4 _)]⟩
theorem RB.keep {σ σ1 σ' : Mem} {Rl : Nat → Nat → Bool} (h : RB σ σ1) (hK : Keep Rl σ1 σ') (h1 : Rl 50 3 = true) (h2 : Rl 50 4 = true) (h4 : ∀ k, Rl 52 k = true) : RB σ σ' := by
  intro d a hd ha h3 h4'
  obtain ⟨e1, e2, e3, e4⟩ := h d a hd ha h3 h4'
  exact ⟨by rw [hK _ _ h1]; exact e1, by rw [hK _ _ h2]; exact e2, fun k hk => by rw [hK _ _ (h4 _)]; exact e3 k hk, fun q k hq hk => by rw [hK _ _ (h4 _)]; exact e4 q k hq hk⟩
theorem UN.push {σ σ' : Mem} {n p t t' : Nat} {R R' : Nat → Nat → Nat} {x y : Int32} (h : UN σ n p R t) (hM : MM σ n p R) (ht : t < TN n) (h48 : σ 51 48 = nI t) (hN : NT σ σ' x y) (hR : RB σ σ') (hs : StU n p x y R' t' R t) : UN σ' n p R' t' := by
  obtain ⟨d, a, RS, TS, e1, e2, e3, e4, e5, e6, e7, e8⟩ := h
  obtain ⟨n1, n2, n3, n4⟩ := hN d e1 e3
  obtain ⟨r1, r2, r3, r4⟩ := hR d a e1 e2 e4 e5
  obtain ⟨m1, m2, m3, m4, m5⟩ := hM
  refine ⟨min (d + 1) 10, (a + 1) % 10, fun j => Nat.casesOn j R' RS, fun j => Nat.casesOn j t' TS, by omega, by omega, n1, r1, r2, rfl, rfl, ?_⟩
  intro j hj
  cases j with
  | zero =>
    show SnP σ' n p (((a + 1) % 10 + 9 - 0) % 10) (RS 0) (TS 0) ∧ StU n p (σ' 12 (min (d + 1) 10 - 1)) (σ' 14 (min (d + 1) 10 - 1)) R' t' (RS 0) (TS 0)
    rw [e6, e7, n2, n3, show ((a + 1) % 10 + 9 - 0) % 10 = a by omega]
    refine ⟨⟨ht, by rw [r3 48 (by decide)]; exact h48, fun i hi k hk => ?_⟩, hs⟩
    rw [r3 _ (by omega)]
    exact m5 i hi k hk
  | succ j =>
    show SnP σ' n p (((a + 1) % 10 + 9 - (j + 1)) % 10) (RS (j + 1)) (TS (j + 1)) ∧ StU n p (σ' 12 (min (d + 1) 10 - 1 - (j + 1))) (σ' 14 (min (d + 1) 10 - 1 - (j + 1))) (RS j) (TS j) (RS (j + 1)) (TS (j + 1))
    rw [(n4 j hj).1, (n4 j hj).2, show ((a + 1) % 10 + 9 - (j + 1)) % 10 = (a + 9 - j) % 10 by omega]
    obtain ⟨⟨s1, s2, s3⟩, s4⟩ := e8 j (by omega)
    refine ⟨⟨s1, by rw [r4 _ 48 (by omega) (by decide)]; exact s2, fun i hi k hk => ?_⟩, s4⟩
    rw [r4 _ _ (by omega) (by omega)]
    exact s3 i hi k hk
/-- all but what changes at a step -/
def rU : Nat → Nat → Bool := fun c k => RW c k && !(c == 6 || c == 12 || c == 14 || c == 51 || c == 52 || (c == 10 && k == 2) || (c == 0 && k == 14) || (c == 50 && (k == 3 || k == 4)))
theorem Inv0.step {σ σ' : Mem} {n p t t' : Nat} {R R' : Nat → Nat → Nat} (h : Inv0 σ n p R t) (hK : Keep rU σ σ') (hC : CC σ' n p R') (hM : MM σ' n p R') (ht : t' < TN n) (h14 : σ' 0 14 = nI t') (h48 : σ' 51 48 = nI t') (hU : UN σ' n p R' t') (hw : WW σ' n p R') : Inv0 σ' n p R' t' := by
  obtain ⟨a1, a2, a3, a4, a5, a6, a7, a8, a9, a10, a11, a12, a13⟩ := h
  exact ⟨hC, hM, a3, a4, ht, h14, h48, a8.keep hK rfl rfl (fun _ => rfl) (fun _ => rfl), a9.keep hK rfl rfl (fun _ => rfl) (fun _ => rfl), a10.keep hK rfl rfl rfl rfl (fun _ => rfl) (fun _ => rfl) (fun _ => rfl), a11.keep hK rfl rfl rfl rfl (fun _ => rfl) (fun _ => rfl) (fun _ => rfl), hU, hw⟩
