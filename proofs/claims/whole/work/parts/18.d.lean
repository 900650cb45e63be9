/-! undone -/
theorem StU.congr {n p t t' : Nat} {c b : Int32} {R R1 R' : Nat → Nat → Nat} (h : StU n p c b R t R' t') (hR : ∀ i, i < n → ∀ k, k < p → R1 i k = R i k) : StU n p c b R1 t R' t' := by
  rcases h with ⟨h1, h2, h3⟩ | ⟨i, k, h1, h2, h3, h4, h5, h6⟩
  · exact Or.inl ⟨h1, h2, fun i hi k hk => by rw [h3 i hi k hk, hR i hi k hk]⟩
  · exact Or.inr ⟨i, k, h1, h2, h3, h4, h5, fun i' hi' k' hk' hne => by rw [h6 i' hi' k' hk' hne, hR i' hi' k' hk']⟩
theorem UN.pop {σ σ' : Mem} {n p d a : Nat} {RS : Nat → Nat → Nat → Nat} {TS : Nat → Nat} {R0 : Nat → Nat → Nat} (hd : d + 1 ≤ 10) (ha : a < 10) (e8 : ∀ j, j < d + 1 → SnP σ n p ((a + 9 - j) % 10) (RS (j + 1)) (TS (j + 1)) ∧ StU n p (σ 12 (d + 1 - 1 - j)) (σ 14 (d + 1 - 1 - j)) (RS j) (TS j) (RS (j + 1)) (TS (j + 1))) (h1 : σ' 10 2 = nI d) (h2 : σ' 50 3 = nI d) (h3 : σ' 50 4 = nI ((a + 9) % 10)) (hR : ∀ i, i < n → ∀ k, k < p → R0 i k = RS 1 i k) (hK : Keep (fun c _ => c == 12 || c == 14 || c == 52) σ σ') : UN σ' n p R0 (TS 1) := by
  refine ⟨d, (a + 9) % 10, fun j => Nat.casesOn j R0 (fun j => RS (j + 2)), fun j => TS (j + 1), by omega, by omega, h1, h2, h3, rfl, rfl, ?_⟩
  intro j hj
  obtain ⟨g1, g2⟩ := e8 (j + 1) (by omega)
  have g1' := g1.keep hK (fun _ => rfl)
  rw [show (a + 9 - (j + 1)) % 10 = ((a + 9) % 10 + 9 - j) % 10 by omega] at g1'
  refine ⟨g1', ?_⟩
  rw [show d - 1 - j = d + 1 - 1 - (j + 1) by omega, hK 12 _ rfl, hK 14 _ rfl]
  cases j with
  | zero => exact g2.congr hR
  | succ j => exact g2
theorem remi_9 : ∀ a, a < 10 → remi (nI a + 10 - 1) 10 = nI ((a + 9) % 10) := by decide
theorem undo9_loop {σ : Mem} {a : Nat} (ha : a < 10) (h4 : σ 50 4 = nI a) (K : Mem → O) : LX9_undo_38 K 300 0 σ = K (cpy σ 51 0 49 (fun k => σ 52 (49 * a + k))) := by
  have hl := up_f (α := Mem) (fun f i s => LX9_undo_38 K f (nI i) s) 49 (fun i => cpy σ 51 0 i (fun k => σ 52 (49 * a + k))) K
    (by
      intro f i hi
      have hstep : ∀ X : O, (LX9_undo_38 K (f + 1) (nI i) (cpy σ 51 0 i (fun k => σ 52 (49 * a + k))) = X) = (BX9_undo_38 K (LX9_undo_38 K f) (nI i) (cpy σ 51 0 i (fun k => σ 52 (49 * a + k))) = X) := fun _ => rfl
      unfold BX9_undo_38 at hstep
      rw [if_neg (show ¬ (49 : Int32) ≤ nI i from nle_n (a := 49) (by omega) (by decide)), cpy_ne (show (50 : Nat) ≠ 51 by decide), h4, show (49 : Int32) * nI a + nI i = nI (49 * a + i) from by rw [show (49 : Int32) = nI 49 from rfl, mul_n, add_n], gd_n (by omega) (by decide), gd_n (by omega) (by decide), cl_n (by omega), cl_n (by omega), cpy_ne (show (52 : Nat) ≠ 51 by decide), one_n] at hstep
      refine (hstep _).mpr ?_
      dsimp only [letm]
      rw [← cpy_s, Nat.zero_add])
    (by
      intro f
      generalize cpy σ 51 0 49 (fun k => σ 52 (49 * a + k)) = s
      have hstep : ∀ X : O, (LX9_undo_38 K (f + 1) (nI 49) s = X) = (BX9_undo_38 K (LX9_undo_38 K f) (nI 49) s = X) := fun _ => rfl
      unfold BX9_undo_38 at hstep
      rw [if_pos (by decide)] at hstep
      exact (hstep _).mpr rfl)
    0 300 (by decide) (by decide)
  rw [cpy_0] at hl
  exact hl
theorem undo_nx {σ : Mem} {n p t : Nat} {R : Nat → Nat → Nat} (h : Inv0 σ n p R t) : Nx σ fX8_undo fX9_undo := by
  have hI := h
  obtain ⟨hC, hM, hp0, hp1, ht, h14, h48, _, _, _, _, hU, hW⟩ := h
  have hn := hC.2.2.1
  have hp := hC.2.2.2.1
  obtain ⟨d, a, RS, TS, e1, e2, e3, e4, e5, e6, e7, e8⟩ := hU
  cases d with
  | zero =>
    refine Nx.same (r := -2) hI ?_ ?_
    · unfold fX8_undo
      rw [e3, if_neg (by decide)]
    · unfold fX9_undo
      rw [e4, if_pos (by decide)]
  | succ d =>
    obtain ⟨⟨g1, g2, g3⟩, g4⟩ := e8 0 (by omega)
    rw [show (a + 9 - 0) % 10 = (a + 9) % 10 by omega] at g2 g3
    rw [show d + 1 - 1 - 0 = d by omega, e6, e7] at g4
    have sub1 : nI (d + 1) - 1 = nI d := by rw [← one_n]; exact Int32.add_sub_cancel _ _
    -- the reference, from any memory of the class's
    have hR : ∀ s1 : Mem, Keep (fun c _ => Nat.ble 50 c) σ s1 → fX9_undo s1 = some (nI d, cpy (stm (stm s1 50 4 (nI ((a + 9) % 10))) 50 3 (nI d)) 51 0 49 (fun k => s1 52 (49 * ((a + 9) % 10) + k))) := by
      intro s1 k1
      unfold fX9_undo
      rw [k1 50 3 rfl, e4, if_neg (show ¬ nI (d + 1) = (0 : Int32) from ne_n (b := 0) (by omega) (by omega) (by decide)), k1 50 4 rfl, e5, remi_9 a e2]
      dsimp only [letm]
      rw [show stm s1 50 4 (nI ((a + 9) % 10)) 50 3 = nI (d + 1) from by rw [stm_k (by decide), k1 50 3 rfl, e4], sub1, undo9_loop (a := (a + 9) % 10) (by omega) (by rw [stm_k (by decide), stm_v]), cpy_ne (by decide), stm_v, stm_ne (show (52 : Nat) ≠ 50 by decide), stm_ne (show (52 : Nat) ≠ 50 by decide)]
    have hM' : ∀ s1 : Mem, ∀ R0 : Nat → Nat → Nat, Keep (fun c _ => Nat.ble 50 c) σ s1 → (∀ i, i < n → ∀ k, k < p → R0 i k = RS 1 i k) → MM (cpy (stm (stm s1 50 4 (nI ((a + 9) % 10))) 50 3 (nI d)) 51 0 49 (fun k => s1 52 (49 * ((a + 9) % 10) + k))) n p R0 := by
      intro s1 R0 k1 hR0
      refine ⟨by rw [cpy_ne (by decide), stm_k (by decide), stm_k (by decide), k1 50 0 rfl]; exact hM.1, by rw [cpy_ne (by decide), stm_k (by decide), stm_k (by decide), k1 50 1 rfl]; exact hM.2.1, hn, hp, fun i hi k hk => ?_⟩
      rw [show 8 * i + k = 0 + (8 * i + k) by omega, cpy_at (by omega), k1 52 _ rfl, hR0 i hi k hk]
      exact g3 i hi k hk
    have h48' : ∀ s1 : Mem, Keep (fun c _ => Nat.ble 50 c) σ s1 → cpy (stm (stm s1 50 4 (nI ((a + 9) % 10))) 50 3 (nI d)) 51 0 49 (fun k => s1 52 (49 * ((a + 9) % 10) + k)) 51 48 = nI (TS 1) := by
      intro s1 k1
      rw [show (48 : Nat) = 0 + 48 from rfl, cpy_at (by decide), k1 52 _ rfl]
      exact g2
    have hUp : ∀ s1 : Mem, ∀ R0 : Nat → Nat → Nat, Keep (fun c _ => Nat.ble 50 c || c == 12 || c == 14) σ s1 → s1 10 2 = nI d → (∀ i, i < n → ∀ k, k < p → R0 i k = RS 1 i k) → UN (cpy (stm (stm s1 50 4 (nI ((a + 9) % 10))) 50 3 (nI d)) 51 0 49 (fun k => s1 52 (49 * ((a + 9) % 10) + k))) n p R0 (TS 1) := by
      intro s1 R0 k1 h10 hR0
      refine UN.pop e1 e2 e8 (by rw [cpy_ne (by decide), stm_ne (by decide), stm_ne (by decide)]; exact h10) (by rw [cpy_ne (by decide), stm_v]) (by rw [cpy_ne (by decide), stm_k (by decide), stm_v]) hR0 ?_
      refine Keep.cpy (Keep.st (Keep.st (k1.mono ?_) rfl) rfl) (fun _ => rfl)
      intro c k hck
      simp only [Bool.or_eq_true, beq_iff_eq] at hck
      rcases hck with (rfl | rfl) | rfl <;> rfl
    have at12 : ∀ s : Mem, s 10 2 = nI d → fX5_at 11 10 (s 10 2) s = some (s 12 d, s) := fun s hs => by rw [hs, at_in (by omega) (by decide)]
    have at14 : ∀ s : Mem, s 10 2 = nI d → fX5_at 13 10 (s 10 2) s = some (s 14 d, s) := fun s hs => by rw [hs, at_in (by omega) (by decide)]
    rcases g4 with ⟨u1, u2, u3⟩ | ⟨i, k, u1, u2, u3, u4, u5, u6⟩
    · have f8 : fX8_undo σ = some (nI d, stm (stm σ 10 2 (nI d)) 0 14 (nI (TS 1))) := by
        unfold fX8_undo
        rw [e3, if_pos (show (1 : Int32) ≤ nI (d + 1) from le_n (a := 1) (by omega) (by omega)), sub1]
        dsimp only [letm]
        rw [at12 _ (stm_v _ _ _ _), bnd_eq, at14 _ (stm_v _ _ _ _), bnd_eq, stm_ne (show (12 : Nat) ≠ 10 by decide), stm_ne (show (14 : Nat) ≠ 10 by decide), u1, if_pos rfl, u2, stm_ne (show (10 : Nat) ≠ 0 by decide), stm_v]
      have k1 : Keep (fun c _ => Nat.ble 50 c) σ (stm (stm σ 10 2 (nI d)) 0 14 (nI (TS 1))) := (Keep.rf.st rfl).st rfl
      have hR0 : ∀ i, i < n → ∀ k, k < p → R i k = RS 1 i k := fun i hi k hk => (u3 i hi k hk).symm
      refine ⟨_, _, _, f8, hR _ k1, n, p, R, TS 1, hI.step ?_ ?_ (hM' _ R k1 hR0) g1 ?_ (h48' _ k1) (hUp _ R ?_ ?_ hR0) ?_⟩
      · exact (((((Keep.rf.st rfl).st rfl).st rfl).st rfl).cpy (fun k => by unfold rU; simp))
      · exact hC.keep (Rl := fun c _ => c == 4 || c == 6) (((((Keep.rf.st rfl).st rfl).st rfl).st rfl).cpy (fun k => rfl)) rfl rfl (fun _ => rfl)
      · rw [cpy_ne (by decide), stm_ne (by decide), stm_ne (by decide), stm_v]
      · exact (Keep.rf.st rfl).st rfl
      · rw [stm_ne (by decide), stm_v]
      · exact hW.keep (Rl := fun c k => c == 44 || c == 46 || (c == 0 && k == 15)) (((((Keep.rf.st rfl).st rfl).st rfl).st rfl).cpy (fun k => rfl)) rfl (fun _ => rfl) (fun _ => rfl)
    · have f8 : fX8_undo σ = some (nI d, stm (stm (stm σ 10 2 (nI d)) 6 (8 * i + k) (nI (RS 1 i k))) 0 15 0) := by
        unfold fX8_undo
        rw [e3, if_pos (show (1 : Int32) ≤ nI (d + 1) from le_n (a := 1) (by omega) (by omega)), sub1]
        dsimp only [letm]
        rw [at12 _ (stm_v _ _ _ _), bnd_eq, at14 _ (stm_v _ _ _ _), bnd_eq, stm_ne (show (12 : Nat) ≠ 10 by decide), stm_ne (show (14 : Nat) ≠ 10 by decide), u3, if_neg (show ¬ nI (8 * i + k) = (-1 : Int32) from ne_neg (by decide) (by omega)), u5, put_in (by omega) (by decide), bnd_eq, stm_ne (show (10 : Nat) ≠ 0 by decide), stm_ne (show (10 : Nat) ≠ 5 + 1 by decide), stm_v]
      have k1 : Keep (fun c _ => Nat.ble 50 c) σ (stm (stm (stm σ 10 2 (nI d)) 6 (8 * i + k) (nI (RS 1 i k))) 0 15 0) := ((Keep.rf.st rfl).st rfl).st rfl
      refine ⟨_, _, _, f8, hR _ k1, n, p, RS 1, TS 1, hI.step ?_ ?_ (hM' _ (RS 1) k1 (fun _ _ _ _ => rfl)) g1 ?_ (h48' _ k1) (hUp _ (RS 1) ?_ ?_ (fun _ _ _ _ => rfl)) ?_⟩
      · exact ((((((Keep.rf.st rfl).st (by unfold rU; simp)).st rfl).st rfl).st rfl).cpy (fun k => by unfold rU; simp))
      · refine CC.keep (σ := stm σ 6 (8 * i + k) (nI (RS 1 i k))) (Rl := fun c _ => c == 4 || c == 6) ?_ ?_ rfl rfl (fun _ => rfl)
        · have hup := hC.upd (a := i) (v := RS 1 i k) u2 (g3 i u1 k u2).2
          refine ⟨hup.1, hup.2.1, hn, hp, fun i' hi' k' hk' => ?_⟩
          have hv := hup.2.2.2.2 i' hi' k' hk'
          have hv2 : updR R i k (RS 1 i k) i' k' = RS 1 i' k' := by
            by_cases hq : i' = i ∧ k' = k
            · obtain ⟨rfl, rfl⟩ := hq
              rw [updR_at]
            · rw [updR_ne hq, u6 i' hi' k' hk' hq]
          rw [hv2] at hv
          exact hv
        · refine Keep.cpy (Keep.st (Keep.st (Keep.st ?_ rfl) rfl) rfl) (fun _ => rfl)
          intro c' k' hck
          simp only [Bool.or_eq_true, beq_iff_eq] at hck
          rcases hck with rfl | rfl
          · rw [stm_ne (by decide), stm_ne (by decide), stm_ne (by decide)]
          · by_cases hk : k' = 8 * i + k
            · subst hk
              rw [stm_v, stm_v]
            · rw [stm_k hk, stm_k hk, stm_ne (by decide)]
      · rw [cpy_ne (by decide), stm_ne (by decide), stm_ne (by decide), stm_k (by decide), stm_ne (by decide), stm_ne (by decide), h14, u4]
      · exact ((Keep.rf.st rfl).st rfl).st rfl
      · rw [stm_ne (by decide), stm_ne (by decide), stm_v]
      · exact Or.inl (by rw [cpy_ne (by decide), stm_ne (by decide), stm_ne (by decide), stm_v])
