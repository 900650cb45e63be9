/-! images -/
theorem stm_self {σ : Mem} {c k : Nat} {v : Int32} (h : σ c k = v) : stm σ c k v = σ := by
  funext c' k'
  by_cases hc : c' = c
  · subst hc
    by_cases hk : k' = k
    · subst hk
      rw [stm_v, h]
    · rw [stm_k hk]
  · rw [stm_ne hc]
theorem fill_eq {σ : Mem} {ca cb : Nat} (hne : cb + 1 ≠ ca + 1) : fX5_fillFrom ca 48 cb 48 σ = some (0, cpy σ (ca + 1) 0 48 (σ (cb + 1))) := by
  have hl := up_f (α := Mem) (fun f i s => LX5_fillFrom_2 ca 48 cb 48 (fun σ5 => some (0, σ5)) f (nI i) s) 48 (fun i => cpy σ (ca + 1) 0 i (σ (cb + 1))) (fun s => some (0, s))
    (by
      intro f i hi
      have hstep : ∀ X : O, (LX5_fillFrom_2 ca 48 cb 48 (fun σ5 => some (0, σ5)) (f + 1) (nI i) (cpy σ (ca + 1) 0 i (σ (cb + 1))) = X) = (BX5_fillFrom_2 ca 48 cb 48 (fun σ5 => some (0, σ5)) (LX5_fillFrom_2 ca 48 cb 48 (fun σ5 => some (0, σ5)) f) (nI i) (cpy σ (ca + 1) 0 i (σ (cb + 1))) = X) := fun _ => rfl
      unfold BX5_fillFrom_2 at hstep
      rw [if_neg (nle_n (by omega) (by decide)), at_in hi (by decide), bnd_eq, put_in hi (by decide), bnd_eq, cpy_ne hne, one_n] at hstep
      refine (hstep _).mpr ?_
      rw [← cpy_s, Nat.zero_add])
    (by
      intro f
      generalize cpy σ (ca + 1) 0 48 (σ (cb + 1)) = s
      have hstep : ∀ X : O, (LX5_fillFrom_2 ca 48 cb 48 (fun σ5 => some (0, σ5)) (f + 1) (nI 48) s = X) = (BX5_fillFrom_2 ca 48 cb 48 (fun σ5 => some (0, σ5)) (LX5_fillFrom_2 ca 48 cb 48 (fun σ5 => some (0, σ5)) f) (nI 48) s = X) := fun _ => rfl
      unfold BX5_fillFrom_2 at hstep
      rw [if_pos (le_n (Nat.le_refl _) (by decide))] at hstep
      exact (hstep _).mpr rfl)
    0 300 (by decide) (by decide)
  rw [cpy_0] at hl
  exact hl
theorem take_eq {σ : Mem} {ca cb : Nat} (h1 : cb + 2 ≠ ca + 2) (h2 : cb ≠ ca + 2) : fX4_take ca cb σ = some (0, stm (stm (cpy σ (ca + 2) 0 48 (σ (cb + 2))) ca 1 (σ cb 1)) ca 2 (σ cb 2)) := by
  unfold fX4_take
  rw [fill_eq (by omega), bnd_eq]
  dsimp only [letm]
  rw [stm_ne (show cb ≠ ca by omega), cpy_ne h2]
theorem IM.keep2 {σ σ' : Mem} {n p ci i : Nat} (h : IM σ n p ci i) (hn : n ≤ 6) (hp : p ≤ 8) (h1 : σ' ci 1 = σ ci 1) (h2 : σ' ci 2 = σ ci 2) (h3 : σ' (ci + 1) 1 = σ (ci + 1) 1) (h4 : σ' (ci + 1) 2 = σ (ci + 1) 2) (h5 : ∀ k, σ' (ci + 3) k = σ (ci + 3) k) (h6 : σ' 54 i = σ 54 i) (h7 : ∀ k, k < 49 → σ' 55 (49 * i + k) = σ 55 (49 * i + k)) : IM σ' n p ci i := by
  rcases h with ⟨a, b⟩ | ⟨a, b, c, d, R', t', e, f, g, k⟩
  · exact Or.inl ⟨by rw [h2]; exact a, by rw [h6]; exact b⟩
  · exact Or.inr ⟨by rw [h2]; exact a, by rw [h6]; exact b, by rw [h3]; exact c, by rw [h4]; exact d, R', t', e, by rw [h1]; exact f, by rw [h7 48 (by decide)]; exact g, fun x hx y hy => by rw [h5, h7 _ (by omega)]; exact k x hx y hy⟩
theorem keep9_loop {σ : Mem} {i : Nat} {x : Int32} (hx : x = nI i) (hi : i < 2) (K : Mem → O) : LX9_keep_20 K 300 x 0 σ = K (cpy σ 55 (49 * i) 49 (σ 51)) := by
  subst hx
  have hl := up_f (α := Mem) (fun f k s => LX9_keep_20 K f (nI i) (nI k) s) 49 (fun k => cpy σ 55 (49 * i) k (σ 51)) K
    (by
      intro f k hk
      have hstep : ∀ X : O, (LX9_keep_20 K (f + 1) (nI i) (nI k) (cpy σ 55 (49 * i) k (σ 51)) = X) = (BX9_keep_20 K (LX9_keep_20 K f) (nI i) (nI k) (cpy σ 55 (49 * i) k (σ 51)) = X) := fun _ => rfl
      unfold BX9_keep_20 at hstep
      rw [if_neg (show ¬ (49 : Int32) ≤ nI k from nle_n (a := 49) (by omega) (by decide)), show (49 : Int32) * nI i + nI k = nI (49 * i + k) from by rw [show (49 : Int32) = nI 49 from rfl, mul_n, add_n], gd_n (by omega) (by decide), gd_n (by omega) (by decide), cl_n (by omega), cl_n (by omega), cpy_ne (show (51 : Nat) ≠ 55 by decide), one_n] at hstep
      refine (hstep _).mpr ?_
      dsimp only [letm]
      rw [cpy_s])
    (by
      intro f
      generalize cpy σ 55 (49 * i) 49 (σ 51) = s
      have hstep : ∀ X : O, (LX9_keep_20 K (f + 1) (nI i) (nI 49) s = X) = (BX9_keep_20 K (LX9_keep_20 K f) (nI i) (nI 49) s = X) := fun _ => rfl
      unfold BX9_keep_20 at hstep
      rw [if_pos (by decide)] at hstep
      exact (hstep _).mpr rfl)
    0 300 (by decide) (by decide)
  rw [cpy_0] at hl
  exact hl
theorem back9_loop {σ : Mem} {i : Nat} {x : Int32} (hx : x = nI i) (hi : i < 2) (K : Mem → O) : LX9_back_25 K 300 x 0 σ = K (cpy σ 51 0 49 (fun k => σ 55 (49 * i + k))) := by
  subst hx
  have hl := up_f (α := Mem) (fun f k s => LX9_back_25 K f (nI i) (nI k) s) 49 (fun k => cpy σ 51 0 k (fun k => σ 55 (49 * i + k))) K
    (by
      intro f k hk
      have hstep : ∀ X : O, (LX9_back_25 K (f + 1) (nI i) (nI k) (cpy σ 51 0 k (fun k => σ 55 (49 * i + k))) = X) = (BX9_back_25 K (LX9_back_25 K f) (nI i) (nI k) (cpy σ 51 0 k (fun k => σ 55 (49 * i + k))) = X) := fun _ => rfl
      unfold BX9_back_25 at hstep
      rw [if_neg (show ¬ (49 : Int32) ≤ nI k from nle_n (a := 49) (by omega) (by decide)), show (49 : Int32) * nI i + nI k = nI (49 * i + k) from by rw [show (49 : Int32) = nI 49 from rfl, mul_n, add_n], gd_n (by omega) (by decide), gd_n (by omega) (by decide), cl_n (by omega), cl_n (by omega), cpy_ne (show (55 : Nat) ≠ 51 by decide), one_n] at hstep
      refine (hstep _).mpr ?_
      dsimp only [letm]
      rw [← cpy_s, Nat.zero_add])
    (by
      intro f
      generalize cpy σ 51 0 49 (fun k => σ 55 (49 * i + k)) = s
      have hstep : ∀ X : O, (LX9_back_25 K (f + 1) (nI i) (nI 49) s = X) = (BX9_back_25 K (LX9_back_25 K f) (nI i) (nI 49) s = X) := fun _ => rfl
      unfold BX9_back_25 at hstep
      rw [if_pos (by decide)] at hstep
      exact (hstep _).mpr rfl)
    0 300 (by decide) (by decide)
  rw [cpy_0] at hl
  exact hl
theorem keep9_eq {s : Mem} {n i : Nat} (hi : i < 2) (hs : s 50 0 = nI n) : fX9_keep (nI i) s = some (nI n, cpy (stm s 54 i 1) 55 (49 * i) 49 (stm s 54 i 1 51)) := by
  unfold fX9_keep
  rw [show fX9_in (nI i) 0 1 s = some (1, s) from mm_in_cok (n := 1) (i := i) (by decide) (by omega), bnd_eq, if_neg (by decide), gd_n hi (by decide), cl_n (by omega)]
  unfold letm
  dsimp only
  rw [keep9_loop rfl hi, cpy_ne (by decide), stm_ne (show (50 : Nat) ≠ 54 by decide), hs]
theorem back9_eq {s : Mem} {n i : Nat} (hi : i < 2) (hs : s 50 0 = nI n) (h54 : s 54 i = 1) : fX9_back (nI i) s = some (nI n, stm (cpy s 51 0 49 (fun k => s 55 (49 * i + k))) 50 3 0) := by
  unfold fX9_back
  rw [show fX9_in (nI i) 0 1 s = some (1, s) from mm_in_cok (n := 1) (i := i) (by decide) (by omega), bnd_eq, if_neg (by decide), gd_n hi (by decide), cl_n (by omega), h54, if_neg (by decide), back9_loop rfl hi]
  unfold letm
  dsimp only
  rw [stm_k (show (0 : Nat) ≠ 3 by decide), cpy_ne (show (50 : Nat) ≠ 51 by decide), hs]
theorem keep0_nx {σ : Mem} {n p t : Nat} {R : Nat → Nat → Nat} (h : Inv0 σ n p R t) : Nx σ (fX8_keep 0) (fX9_keep 0) := by
  obtain ⟨hC, hM, hp0, hp1, ht, h14, h48, hX, hS, hA, hB, hU, hW⟩ := h
  have hn := hC.2.2.1
  have hp := hC.2.2.2.1
  have f8 : fX8_keep 0 σ = some (nI n, stm (stm (stm (stm (cpy σ 18 0 48 (σ 6)) 16 1 (nI n)) 16 2 (nI p)) 15 1 (nI t)) 15 2 1) := by
    unfold fX8_keep fX8_imageOf0
    rw [if_neg (by decide), if_pos (by decide), if_pos rfl, if_pos rfl, bnd_eq, take_eq (by decide) (by decide), bnd_eq]
    dsimp only [letm, Nat.reduceAdd]
    rw [stm_ne (show (0 : Nat) ≠ 16 by decide), stm_ne (show (0 : Nat) ≠ 16 by decide), cpy_ne (show (0 : Nat) ≠ 18 by decide), stm_ne (show (4 : Nat) ≠ 15 by decide), stm_ne (show (4 : Nat) ≠ 15 by decide), stm_ne (show (4 : Nat) ≠ 16 by decide), stm_ne (show (4 : Nat) ≠ 16 by decide), cpy_ne (show (4 : Nat) ≠ 18 by decide), hC.1, hC.2.1, h14]
  have f9 : ∀ s : Mem, s 50 0 = nI n → fX9_keep 0 s = some (nI n, cpy (stm s 54 0 1) 55 (49 * 0) 49 (stm s 54 0 1 51)) := by
    intro s hs
    exact keep9_eq (i := 0) (by decide) hs
  refine ⟨_, _, _, f8, f9 _ (by rw [stm_ne (by decide), stm_ne (by decide), stm_ne (by decide), stm_ne (by decide), cpy_ne (by decide)]; exact hM.1), n, p, R, t, ?_⟩
  generalize hs : stm (stm (stm (stm (cpy σ 18 0 48 (σ 6)) 16 1 (nI n)) 16 2 (nI p)) 15 1 (nI t)) 15 2 1 = s
  have k1 : Keep (fun c _ => !(c == 15 || c == 16 || c == 18)) σ s := by
    rw [← hs]
    exact ((((Keep.rf.cpy (fun _ => rfl)).st rfl).st rfl).st rfl).st rfl
  have k2 : Keep (fun c _ => !(c == 15 || c == 16 || c == 18 || c == 54 || c == 55)) σ (cpy (stm s 54 0 1) 55 (49 * 0) 49 (stm s 54 0 1 51)) := Keep.cpy (Keep.st (k1.mono (by
    intro c k hck
    simp only [Bool.not_eq_true', Bool.or_eq_false_iff] at hck ⊢
    exact hck.1.1)) rfl) (fun _ => rfl)
  have s1 : s 15 1 = nI t := by rw [← hs, stm_k (by decide), stm_v]
  have s2 : s 15 2 = 1 := by rw [← hs, stm_v]
  have s3 : s 16 1 = nI n := by rw [← hs, stm_ne (by decide), stm_ne (by decide), stm_k (by decide), stm_v]
  have s4 : s 16 2 = nI p := by rw [← hs, stm_ne (by decide), stm_ne (by decide), stm_v]
  have s5 : ∀ k, k < 48 → s 18 k = σ 6 k := by
    intro k hk
    have := cpy_at (σ := σ) (c := 18) (lo := 0) (f := σ 6) hk
    rw [Nat.zero_add] at this
    rw [← hs, stm_ne (by decide), stm_ne (by decide), stm_ne (by decide), stm_ne (by decide), this]
  have hnew : IM (cpy (stm s 54 0 1) 55 (49 * 0) 49 (stm s 54 0 1 51)) n p 15 0 := by
    refine Or.inr ⟨by rw [cpy_ne (by decide), stm_ne (by decide), s2], by rw [cpy_ne (by decide), stm_v], ?_, ?_, R, t, ht, by rw [cpy_ne (by decide), stm_ne (by decide), s1], ?_, fun a ha b hb => ?_⟩
    · show cpy (stm s 54 0 1) 55 (49 * 0) 49 (stm s 54 0 1 51) 16 1 = nI n
      rw [cpy_ne (by decide), stm_ne (by decide), s3]
    · show cpy (stm s 54 0 1) 55 (49 * 0) 49 (stm s 54 0 1 51) 16 2 = nI p
      rw [cpy_ne (by decide), stm_ne (by decide), s4]
    · rw [cpy_at (by decide), stm_ne (by decide), k1 51 48 rfl, h48]
    · have q1 : cpy (stm s 54 0 1) 55 (49 * 0) 49 (stm s 54 0 1 51) (15 + 3) (8 * a + b) = σ 6 (8 * a + b) := by
        show cpy (stm s 54 0 1) 55 (49 * 0) 49 (stm s 54 0 1 51) 18 (8 * a + b) = σ 6 (8 * a + b)
        rw [cpy_ne (by decide), stm_ne (by decide), s5 _ (by omega)]
      rw [q1, cpy_at (by omega), stm_ne (by decide), k1 51 _ rfl]
      exact ⟨(hC.2.2.2.2 a ha b hb).1, hM.2.2.2.2 a ha b hb⟩
  have hold : IM (cpy (stm s 54 0 1) 55 (49 * 0) 49 (stm s 54 0 1 51)) n p 19 1 := by
    refine IM.keep2 hB hn hp (k2 _ _ rfl) (k2 _ _ rfl) (k2 _ _ rfl) (k2 _ _ rfl) (fun _ => k2 _ _ rfl) ?_ ?_
    · rw [cpy_ne (by decide), stm_k (by decide), k1 54 _ rfl]
    · intro k hk
      rw [cpy_out (by omega), stm_ne (by decide), k1 55 _ rfl]
  exact ⟨hC.keep k2 rfl rfl (fun _ => rfl), hM.keep k2 rfl rfl (fun _ => rfl), hp0, hp1, ht, by rw [k2 0 14 rfl]; exact h14, by rw [k2 51 48 rfl]; exact h48, hX.keep k2 rfl rfl (fun _ => rfl) (fun _ => rfl), hS.keep k2 rfl rfl (fun _ => rfl) (fun _ => rfl), hnew, hold, hU.keep k2 rfl rfl rfl (fun _ => rfl) (fun _ => rfl) (fun _ => rfl), hW.keep k2 rfl (fun _ => rfl) (fun _ => rfl)⟩
theorem back0_nx {σ : Mem} {n p t : Nat} {R : Nat → Nat → Nat} (h : Inv0 σ n p R t) : Nx σ (fX8_back 0) (fX9_back 0) := by
  have hI := h
  obtain ⟨hC, hM, hp0, hp1, ht, h14, h48, hX, hS, hA, hB, hU, hW⟩ := h
  have hn := hC.2.2.1
  have hp := hC.2.2.2.1
  have hgd : gd 2 (0 : Int32) = fun o : O => o := funext fun o => gd_n (i := 0) (by decide) (by decide)
  rcases hA with ⟨a, b⟩ | ⟨a, b, c, d, R', t', e, f, g, w⟩
  · refine Nx.same (r := -2) hI ?_ ?_
    · unfold fX8_back fX8_imageOf0
      rw [if_neg (by decide), if_pos (by decide), if_pos rfl, if_pos rfl, bnd_eq, a, if_pos rfl]
    · unfold fX9_back
      rw [show fX9_in 0 0 1 σ = some (1, σ) from mm_in_cok (n := 1) (i := 0) (by decide) (by decide), bnd_eq, if_neg (by decide), hgd, show (0 : Int32).toNatClampNeg = 0 from rfl, b]
      exact if_pos rfl
  · have f8 : fX8_back 0 σ = some (nI n, stm (stm (stm (cpy σ 6 0 48 (σ 18)) 0 14 (nI t')) 10 2 0) 0 15 0) := by
      unfold fX8_back fX8_imageOf0
      rw [if_neg (by decide), if_pos (by decide), if_pos rfl, if_pos rfl, bnd_eq, a, if_neg (by decide), take_eq (by decide) (by decide), bnd_eq]
      have q1 : stm (stm (cpy σ (4 + 2) 0 48 (σ (16 + 2))) 4 1 (σ 16 1)) 4 2 (σ 16 2) = cpy σ 6 0 48 (σ 18) := by
        rw [show σ 16 1 = nI n from c, show σ 16 2 = nI p from d, stm_self (c := 4) (k := 1), stm_self]
        · rw [cpy_ne (by decide)]
          exact hC.2.1
        · rw [cpy_ne (by decide)]
          exact hC.1
      rw [q1]
      dsimp only [letm]
      rw [cpy_ne (show (15 : Nat) ≠ 6 by decide), f, stm_ne (show (4 : Nat) ≠ 0 by decide), stm_ne (show (4 : Nat) ≠ 10 by decide), stm_ne (show (4 : Nat) ≠ 0 by decide), cpy_ne (show (4 : Nat) ≠ 6 by decide), hC.1]
    have f9 : ∀ s : Mem, s 50 0 = nI n → s 54 0 = 1 → fX9_back 0 s = some (nI n, stm (cpy s 51 0 49 (fun k => s 55 (49 * 0 + k))) 50 3 0) := by
      intro s hs h54
      exact back9_eq (i := 0) (by decide) hs h54
    generalize hs : stm (stm (stm (cpy σ 6 0 48 (σ 18)) 0 14 (nI t')) 10 2 0) 0 15 0 = s at f8
    have k1 : Keep (fun c k => !(c == 6 || (c == 0 && (k == 14 || k == 15)) || (c == 10 && k == 2))) σ s := by
      rw [← hs]
      exact (((Keep.rf.cpy (fun _ => rfl)).st rfl).st rfl).st rfl
    have s14 : s 0 14 = nI t' := by rw [← hs, stm_k (by decide), stm_ne (by decide), stm_v]
    have s15 : s 0 15 = 0 := by rw [← hs, stm_v]
    have s10 : s 10 2 = 0 := by rw [← hs, stm_ne (by decide), stm_v]
    have s6 : ∀ k, k < 48 → s 6 k = σ 18 k := by
      intro k hk
      have := cpy_at (σ := σ) (c := 6) (lo := 0) (f := σ 18) hk
      rw [Nat.zero_add] at this
      rw [← hs, stm_ne (by decide), stm_ne (by decide), stm_ne (by decide), this]
    refine ⟨_, _, _, f8, f9 s (by rw [k1 50 0 rfl]; exact hM.1) (by rw [k1 54 0 rfl]; exact b), n, p, R', t', hI.step ?_ ?_ ?_ e ?_ ?_ ?_ ?_⟩
    · refine Keep.st (Keep.cpy (k1.mono ?_) (fun _ => by unfold rU; simp)) rfl
      intro c k hck
      unfold rU RW at hck
      simp only [Bool.and_eq_true, Bool.not_eq_true', Bool.or_eq_false_iff] at hck
      simp only [Bool.not_eq_true', Bool.or_eq_false_iff]
      refine ⟨⟨hck.2.1.1.1.1.1.1.1, ?_⟩, hck.2.1.1.2⟩
      have h1 := hck.1.2.2
      have h2 := hck.2.1.2
      cases hc : (c == 0) <;> simp [hc] at h1 h2 ⊢
      exact ⟨h2, h1⟩
    · refine ⟨?_, ?_, hn, hp, fun i hi j hj => ?_⟩
      · rw [stm_ne (by decide), cpy_ne (by decide), k1 4 1 rfl]
        exact hC.1
      · rw [stm_ne (by decide), cpy_ne (by decide), k1 4 2 rfl]
        exact hC.2.1
      · rw [stm_ne (by decide), cpy_ne (by decide), s6 _ (by omega)]
        exact ⟨(w i hi j hj).1, (w i hi j hj).2.2⟩
    · refine ⟨?_, ?_, hn, hp, fun i hi j hj => ?_⟩
      · rw [stm_k (by decide), cpy_ne (by decide), k1 50 0 rfl]
        exact hM.1
      · rw [stm_k (by decide), cpy_ne (by decide), k1 50 1 rfl]
        exact hM.2.1
      · rw [stm_ne (by decide), show 8 * i + j = 0 + (8 * i + j) by omega, cpy_at (by omega), k1 55 _ rfl]
        exact (w i hi j hj).2
    · rw [stm_ne (by decide), cpy_ne (by decide), s14]
    · rw [stm_ne (by decide), show (48 : Nat) = 0 + 48 from rfl, cpy_at (by decide), k1 55 _ rfl]
      exact g
    · obtain ⟨d0, a0, RS, TS, e1, e2, e3, e4, e5, e6, e7, e8⟩ := hU
      exact ⟨0, a0, fun _ => R', fun _ => t', by omega, e2, by rw [stm_ne (by decide), cpy_ne (by decide), s10]; rfl, by rw [stm_v]; rfl, by rw [stm_k (by decide), cpy_ne (by decide), k1 50 4 rfl]; exact e5, rfl, rfl, fun j hj => absurd hj (Nat.not_lt_zero j)⟩
    · exact Or.inl (by rw [stm_ne (by decide), cpy_ne (by decide), s15])
theorem keep1_nx {σ : Mem} {n p t : Nat} {R : Nat → Nat → Nat} (h : Inv0 σ n p R t) : Nx σ (fX8_keep 1) (fX9_keep 1) := by
  obtain ⟨hC, hM, hp0, hp1, ht, h14, h48, hX, hS, hA, hB, hU, hW⟩ := h
  have hn := hC.2.2.1
  have hp := hC.2.2.2.1
  have f8 : fX8_keep 1 σ = some (nI n, stm (stm (stm (stm (cpy σ 22 0 48 (σ 6)) 20 1 (nI n)) 20 2 (nI p)) 19 1 (nI t)) 19 2 1) := by
    unfold fX8_keep fX8_imageOf1
    rw [if_neg (by decide), if_pos (by decide), if_neg (show ¬ (1 : Int32) = 0 by decide), if_neg (show ¬ (1 : Int32) = 0 by decide), bnd_eq, take_eq (by decide) (by decide), bnd_eq]
    dsimp only [letm, Nat.reduceAdd]
    rw [stm_ne (show (0 : Nat) ≠ 20 by decide), stm_ne (show (0 : Nat) ≠ 20 by decide), cpy_ne (show (0 : Nat) ≠ 22 by decide), stm_ne (show (4 : Nat) ≠ 19 by decide), stm_ne (show (4 : Nat) ≠ 19 by decide), stm_ne (show (4 : Nat) ≠ 20 by decide), stm_ne (show (4 : Nat) ≠ 20 by decide), cpy_ne (show (4 : Nat) ≠ 22 by decide), hC.1, hC.2.1, h14]
  have f9 : ∀ s : Mem, s 50 0 = nI n → fX9_keep 1 s = some (nI n, cpy (stm s 54 1 1) 55 (49 * 1) 49 (stm s 54 1 1 51)) := by
    intro s hs
    exact keep9_eq (i := 1) (by decide) hs
  refine ⟨_, _, _, f8, f9 _ (by rw [stm_ne (by decide), stm_ne (by decide), stm_ne (by decide), stm_ne (by decide), cpy_ne (by decide)]; exact hM.1), n, p, R, t, ?_⟩
  generalize hs : stm (stm (stm (stm (cpy σ 22 0 48 (σ 6)) 20 1 (nI n)) 20 2 (nI p)) 19 1 (nI t)) 19 2 1 = s
  have k1 : Keep (fun c _ => !(c == 19 || c == 20 || c == 22)) σ s := by
    rw [← hs]
    exact ((((Keep.rf.cpy (fun _ => rfl)).st rfl).st rfl).st rfl).st rfl
  have k2 : Keep (fun c _ => !(c == 19 || c == 20 || c == 22 || c == 54 || c == 55)) σ (cpy (stm s 54 1 1) 55 (49 * 1) 49 (stm s 54 1 1 51)) := Keep.cpy (Keep.st (k1.mono (by
    intro c k hck
    simp only [Bool.not_eq_true', Bool.or_eq_false_iff] at hck ⊢
    exact hck.1.1)) rfl) (fun _ => rfl)
  have s1 : s 19 1 = nI t := by rw [← hs, stm_k (by decide), stm_v]
  have s2 : s 19 2 = 1 := by rw [← hs, stm_v]
  have s3 : s 20 1 = nI n := by rw [← hs, stm_ne (by decide), stm_ne (by decide), stm_k (by decide), stm_v]
  have s4 : s 20 2 = nI p := by rw [← hs, stm_ne (by decide), stm_ne (by decide), stm_v]
  have s5 : ∀ k, k < 48 → s 22 k = σ 6 k := by
    intro k hk
    have := cpy_at (σ := σ) (c := 22) (lo := 0) (f := σ 6) hk
    rw [Nat.zero_add] at this
    rw [← hs, stm_ne (by decide), stm_ne (by decide), stm_ne (by decide), stm_ne (by decide), this]
  have hnew : IM (cpy (stm s 54 1 1) 55 (49 * 1) 49 (stm s 54 1 1 51)) n p 19 1 := by
    refine Or.inr ⟨by rw [cpy_ne (by decide), stm_ne (by decide), s2], by rw [cpy_ne (by decide), stm_v], ?_, ?_, R, t, ht, by rw [cpy_ne (by decide), stm_ne (by decide), s1], ?_, fun a ha b hb => ?_⟩
    · show cpy (stm s 54 1 1) 55 (49 * 1) 49 (stm s 54 1 1 51) 20 1 = nI n
      rw [cpy_ne (by decide), stm_ne (by decide), s3]
    · show cpy (stm s 54 1 1) 55 (49 * 1) 49 (stm s 54 1 1 51) 20 2 = nI p
      rw [cpy_ne (by decide), stm_ne (by decide), s4]
    · rw [cpy_at (by decide), stm_ne (by decide), k1 51 48 rfl, h48]
    · have q1 : cpy (stm s 54 1 1) 55 (49 * 1) 49 (stm s 54 1 1 51) (19 + 3) (8 * a + b) = σ 6 (8 * a + b) := by
        show cpy (stm s 54 1 1) 55 (49 * 1) 49 (stm s 54 1 1 51) 22 (8 * a + b) = σ 6 (8 * a + b)
        rw [cpy_ne (by decide), stm_ne (by decide), s5 _ (by omega)]
      rw [q1, cpy_at (by omega), stm_ne (by decide), k1 51 _ rfl]
      exact ⟨(hC.2.2.2.2 a ha b hb).1, hM.2.2.2.2 a ha b hb⟩
  have hold : IM (cpy (stm s 54 1 1) 55 (49 * 1) 49 (stm s 54 1 1 51)) n p 15 0 := by
    refine IM.keep2 hA hn hp (k2 _ _ rfl) (k2 _ _ rfl) (k2 _ _ rfl) (k2 _ _ rfl) (fun _ => k2 _ _ rfl) ?_ ?_
    · rw [cpy_ne (by decide), stm_k (by decide), k1 54 _ rfl]
    · intro k hk
      rw [cpy_out (by omega), stm_ne (by decide), k1 55 _ rfl]
  exact ⟨hC.keep k2 rfl rfl (fun _ => rfl), hM.keep k2 rfl rfl (fun _ => rfl), hp0, hp1, ht, by rw [k2 0 14 rfl]; exact h14, by rw [k2 51 48 rfl]; exact h48, hX.keep k2 rfl rfl (fun _ => rfl) (fun _ => rfl), hS.keep k2 rfl rfl (fun _ => rfl) (fun _ => rfl), hold, hnew, hU.keep k2 rfl rfl rfl (fun _ => rfl) (fun _ => rfl) (fun _ => rfl), hW.keep k2 rfl (fun _ => rfl) (fun _ => rfl)⟩
theorem back1_nx {σ : Mem} {n p t : Nat} {R : Nat → Nat → Nat} (h : Inv0 σ n p R t) : Nx σ (fX8_back 1) (fX9_back 1) := by
  have hI := h
  obtain ⟨hC, hM, hp0, hp1, ht, h14, h48, hX, hS, hA, hB, hU, hW⟩ := h
  have hn := hC.2.2.1
  have hp := hC.2.2.2.1
  have hgd : gd 2 (1 : Int32) = fun o : O => o := funext fun o => gd_n (i := 1) (by decide) (by decide)
  rcases hB with ⟨a, b⟩ | ⟨a, b, c, d, R', t', e, f, g, w⟩
  · refine Nx.same (r := -2) hI ?_ ?_
    · unfold fX8_back fX8_imageOf1
      rw [if_neg (by decide), if_pos (by decide), if_neg (show ¬ (1 : Int32) = 0 by decide), if_neg (show ¬ (1 : Int32) = 0 by decide), bnd_eq, a, if_pos rfl]
    · unfold fX9_back
      rw [show fX9_in 1 0 1 σ = some (1, σ) from mm_in_cok (n := 1) (i := 1) (by decide) (by decide), bnd_eq, if_neg (by decide), hgd, show (1 : Int32).toNatClampNeg = 1 from rfl, b]
      exact if_pos rfl
  · have f8 : fX8_back 1 σ = some (nI n, stm (stm (stm (cpy σ 6 0 48 (σ 22)) 0 14 (nI t')) 10 2 0) 0 15 0) := by
      unfold fX8_back fX8_imageOf1
      rw [if_neg (by decide), if_pos (by decide), if_neg (show ¬ (1 : Int32) = 0 by decide), if_neg (show ¬ (1 : Int32) = 0 by decide), bnd_eq, a, if_neg (by decide), take_eq (by decide) (by decide), bnd_eq]
      have q1 : stm (stm (cpy σ (4 + 2) 0 48 (σ (20 + 2))) 4 1 (σ 20 1)) 4 2 (σ 20 2) = cpy σ 6 0 48 (σ 22) := by
        rw [show σ 20 1 = nI n from c, show σ 20 2 = nI p from d, stm_self (c := 4) (k := 1), stm_self]
        · rw [cpy_ne (by decide)]
          exact hC.2.1
        · rw [cpy_ne (by decide)]
          exact hC.1
      rw [q1]
      dsimp only [letm]
      rw [cpy_ne (show (19 : Nat) ≠ 6 by decide), f, stm_ne (show (4 : Nat) ≠ 0 by decide), stm_ne (show (4 : Nat) ≠ 10 by decide), stm_ne (show (4 : Nat) ≠ 0 by decide), cpy_ne (show (4 : Nat) ≠ 6 by decide), hC.1]
    have f9 : ∀ s : Mem, s 50 0 = nI n → s 54 1 = 1 → fX9_back 1 s = some (nI n, stm (cpy s 51 0 49 (fun k => s 55 (49 * 1 + k))) 50 3 0) := by
      intro s hs h54
      exact back9_eq (i := 1) (by decide) hs h54
    generalize hs : stm (stm (stm (cpy σ 6 0 48 (σ 22)) 0 14 (nI t')) 10 2 0) 0 15 0 = s at f8
    have k1 : Keep (fun c k => !(c == 6 || (c == 0 && (k == 14 || k == 15)) || (c == 10 && k == 2))) σ s := by
      rw [← hs]
      exact (((Keep.rf.cpy (fun _ => rfl)).st rfl).st rfl).st rfl
    have s14 : s 0 14 = nI t' := by rw [← hs, stm_k (by decide), stm_ne (by decide), stm_v]
    have s15 : s 0 15 = 0 := by rw [← hs, stm_v]
    have s10 : s 10 2 = 0 := by rw [← hs, stm_ne (by decide), stm_v]
    have s6 : ∀ k, k < 48 → s 6 k = σ 22 k := by
      intro k hk
      have := cpy_at (σ := σ) (c := 6) (lo := 0) (f := σ 22) hk
      rw [Nat.zero_add] at this
      rw [← hs, stm_ne (by decide), stm_ne (by decide), stm_ne (by decide), this]
    refine ⟨_, _, _, f8, f9 s (by rw [k1 50 0 rfl]; exact hM.1) (by rw [k1 54 1 rfl]; exact b), n, p, R', t', hI.step ?_ ?_ ?_ e ?_ ?_ ?_ ?_⟩
    · refine Keep.st (Keep.cpy (k1.mono ?_) (fun _ => by unfold rU; simp)) rfl
      intro c k hck
      unfold rU RW at hck
      simp only [Bool.and_eq_true, Bool.not_eq_true', Bool.or_eq_false_iff] at hck
      simp only [Bool.not_eq_true', Bool.or_eq_false_iff]
      refine ⟨⟨hck.2.1.1.1.1.1.1.1, ?_⟩, hck.2.1.1.2⟩
      have h1 := hck.1.2.2
      have h2 := hck.2.1.2
      cases hc : (c == 0) <;> simp [hc] at h1 h2 ⊢
      exact ⟨h2, h1⟩
    · refine ⟨?_, ?_, hn, hp, fun i hi j hj => ?_⟩
      · rw [stm_ne (by decide), cpy_ne (by decide), k1 4 1 rfl]
        exact hC.1
      · rw [stm_ne (by decide), cpy_ne (by decide), k1 4 2 rfl]
        exact hC.2.1
      · rw [stm_ne (by decide), cpy_ne (by decide), s6 _ (by omega)]
        exact ⟨(w i hi j hj).1, (w i hi j hj).2.2⟩
    · refine ⟨?_, ?_, hn, hp, fun i hi j hj => ?_⟩
      · rw [stm_k (by decide), cpy_ne (by decide), k1 50 0 rfl]
        exact hM.1
      · rw [stm_k (by decide), cpy_ne (by decide), k1 50 1 rfl]
        exact hM.2.1
      · rw [stm_ne (by decide), show 8 * i + j = 0 + (8 * i + j) by omega, cpy_at (by omega), k1 55 _ rfl]
        exact (w i hi j hj).2
    · rw [stm_ne (by decide), cpy_ne (by decide), s14]
    · rw [stm_ne (by decide), show (48 : Nat) = 0 + 48 from rfl, cpy_at (by decide), k1 55 _ rfl]
      exact g
    · obtain ⟨d0, a0, RS, TS, e1, e2, e3, e4, e5, e6, e7, e8⟩ := hU
      exact ⟨0, a0, fun _ => R', fun _ => t', by omega, e2, by rw [stm_ne (by decide), cpy_ne (by decide), s10]; rfl, by rw [stm_v]; rfl, by rw [stm_k (by decide), cpy_ne (by decide), k1 50 4 rfl]; exact e5, rfl, rfl, fun j hj => absurd hj (Nat.not_lt_zero j)⟩
    · exact Or.inl (by rw [stm_ne (by decide), cpy_ne (by decide), s15])
theorem img (x : Int32) : (x < 0 ∨ nI 1 < x) ∨ x = 0 ∨ x = 1 := by
  rcases rng x (show 2 < 2 ^ 31 by decide) with h | ⟨i, hi, rfl⟩
  · refine Or.inl ?_
    rcases h with q | q
    · exact Or.inl q
    · refine Or.inr ?_
      rw [Int32.le_iff_toInt_le, nI_toInt (by decide)] at q
      rw [Int32.lt_iff_toInt_lt, nI_toInt (by decide)]
      omega
  · have : i = 0 ∨ i = 1 := by omega
    rcases this with rfl | rfl
    · exact Or.inr (Or.inl rfl)
    · exact Or.inr (Or.inr rfl)
theorem keep_nx {σ : Mem} {n p t : Nat} {R : Nat → Nat → Nat} (h : Inv0 σ n p R t) (x : Int32) : Nx σ (fX8_keep x) (fX9_keep x) := by
  rcases img x with hx | rfl | rfl
  · refine Nx.same (r := -1) h ?_ ?_
    · unfold fX8_keep
      by_cases h0 : x < 0
      · rw [if_pos h0]
      · rw [if_neg h0, if_neg (show ¬ x ≤ 1 from not_le_of (hx.resolve_left h0))]
    · unfold fX9_keep
      rw [show fX9_in x 0 1 σ = some (0, σ) from mm_in_c (n := 1) (by decide) hx, bnd_eq, if_pos rfl]
  · exact keep0_nx h
  · exact keep1_nx h
theorem back_nx {σ : Mem} {n p t : Nat} {R : Nat → Nat → Nat} (h : Inv0 σ n p R t) (x : Int32) : Nx σ (fX8_back x) (fX9_back x) := by
  rcases img x with hx | rfl | rfl
  · refine Nx.same (r := -1) h ?_ ?_
    · unfold fX8_back
      by_cases h0 : x < 0
      · rw [if_pos h0]
      · rw [if_neg h0, if_neg (show ¬ x ≤ 1 from not_le_of (hx.resolve_left h0))]
    · unfold fX9_back
      rw [show fX9_in x 0 1 σ = some (0, σ) from mm_in_c (n := 1) (by decide) hx, bnd_eq, if_pos rfl]
  · exact back0_nx h
  · exact back1_nx h
