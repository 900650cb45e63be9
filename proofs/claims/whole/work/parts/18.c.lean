/-! readings set, another tree -/
theorem rU_rN : ∀ c k, rU c k = true → rN c k = true := by
  intro c k h
  unfold rU at h
  unfold rN
  simp only [Bool.and_eq_true, Bool.not_eq_true', Bool.or_eq_false_iff] at h ⊢
  exact ⟨⟨h.2.1.1.1.1.1.1.2, h.2.1.1.1.1.1.2⟩, h.2.1.1.2⟩
theorem rU_rR : ∀ c k, rU c k = true → rR c k = true := by
  intro c k h
  unfold rU at h
  unfold rR
  simp only [Bool.and_eq_true, Bool.not_eq_true', Bool.or_eq_false_iff] at h ⊢
  exact ⟨h.2.1.1.1.2, h.2.2⟩
theorem rU_RW : ∀ c k, rU c k = true → RW c k = true := by
  intro c k h
  unfold rU at h
  simp only [Bool.and_eq_true] at h
  exact h.1
theorem rU_rM : ∀ c k, rU c k = true → rM c k = true := fun c k h => RI_rM c k (RW_RI c k (rU_RW c k h))
theorem reads_nx {σ : Mem} {n p t : Nat} {R : Nat → Nat → Nat} (h : Inv0 σ n p R t) (x y z : Int32) : Nx σ (fX8_reads x y z) (fX9_reads x y z) := by
  have hI := h
  obtain ⟨hC, hM, hp0, hp1, ht, h14, h48, _, _, _, _, hU, hW⟩ := h
  have hp := hC.2.2.2.1
  have hn := hC.2.2.1
  rcases rng x (show n < 2 ^ 31 by omega) with hx | ⟨a, ha, rfl⟩
  · exact Nx.same (r := -1) hI (by unfold fX8_reads; rw [has_no hC hx, bnd_eq, if_pos rfl]) (by unfold fX9_reads; rw [mm_isCopy_no hM hx, bnd_eq, if_pos rfl])
  rcases rng y (show p < 2 ^ 31 by omega) with hy | ⟨j, hj, rfl⟩
  · exact Nx.same (r := -1) hI (by unfold fX8_reads; rw [has_no2 hC ha hy, bnd_eq, if_pos rfl]) (by unfold fX9_reads; rw [mm_isCopy hM ha, bnd_eq, if_neg (by decide), mm_isPlace_no hM hy, bnd_eq, if_pos rfl])
  rcases rng z (show 5 < 2 ^ 31 by decide) with hz | ⟨v, hv, rfl⟩
  · have hz' : z < 0 ∨ nI 4 < z := by
      rcases hz with q | q
      · exact Or.inl q
      · refine Or.inr ?_
        rw [Int32.le_iff_toInt_le, nI_toInt (by decide)] at q
        rw [Int32.lt_iff_toInt_lt, nI_toInt (by decide)]
        omega
    refine Nx.same (r := -1) hI ?_ ?_
    · unfold fX8_reads
      rw [cc_has hC ha hj, bnd_eq, if_neg (by decide)]
      by_cases h0 : z < 0
      · rw [if_pos h0]
      · rw [if_neg h0, if_neg (show ¬ z ≤ 4 from not_le_of (hz'.resolve_left h0))]
    · unfold fX9_reads
      rw [mm_isCopy hM ha, bnd_eq, if_neg (by decide), mm_isPlace hM hj, bnd_eq, if_neg (by decide), show fX9_in z 0 4 σ = some (0, σ) from mm_in_c (n := 4) (by decide) hz', bnd_eq, if_pos rfl]
  have r0 := (hC.2.2.2.2 a ha j hj).2
  have c8 : (8 : Int32) * nI a + nI j = nI (8 * a + j) := by rw [show (8 : Int32) = nI 8 from rfl, mul_n, add_n]
  have c8' : nI a * (8 : Int32) + nI j = nI (8 * a + j) := by rw [show (8 : Int32) = nI 8 from rfl, mul_n, add_n, Nat.mul_comm]
  by_cases hvr : R a j = v
  · refine Nx.same (r := -2) hI ?_ ?_
    · unfold fX8_reads
      rw [cc_has hC ha hj, bnd_eq, if_neg (by decide), if_neg (nI_pos (by omega)), if_pos (show nI v ≤ (4 : Int32) from le_n (b := 4) (by omega) (by decide)), b_at hC ha hj, if_pos (by rw [hvr])]
    · unfold fX9_reads fX9_becomes
      rw [mm_isCopy hM ha, bnd_eq, if_neg (by decide), mm_isPlace hM hj, bnd_eq, if_neg (by decide), show fX9_in (nI v) 0 4 σ = some (1, σ) from mm_in_cok (n := 4) (by decide) (by omega), bnd_eq, if_neg (by decide), c8, gd_n (by omega) (by decide), cl_n (by omega)]
      dsimp only [letv]
      rw [if_pos (by rw [(hM.2.2.2.2 a ha j hj).1, hvr]), bnd_eq]
  · obtain ⟨d, aa, RS, TS, e1, e2, e3, e4, e5, e6, e7, e8⟩ := id hU
    obtain ⟨s1, hs1, k1, nt⟩ := note_eq e1 e3 (nI (8 * a + j)) (nI (R a j))
    have hC1 : CC s1 n p R := hC.keep k1 rfl rfl (fun _ => rfl)
    have hC2 := (hC1.upd (a := a) (v := v) hj (by omega))
    let s3 := stm (stm s1 6 (8 * a + j) (nI v)) 0 15 0
    have K3 : Keep rN s1 s1 := Keep.rf
    have f8 : fX8_reads (nI a) (nI j) (nI v) σ = some (nI (R a j), s3) := by
      unfold fX8_reads
      rw [cc_has hC ha hj, bnd_eq, if_neg (by decide), if_neg (nI_pos (by omega)), if_pos (show nI v ≤ (4 : Int32) from le_n (b := 4) (by omega) (by decide)), b_at hC ha hj, if_neg (ne_n hvr (by omega) (by omega))]
      unfold fX4_cellOf fX4_put fX4_cellOf
      rw [c8', bnd_eq, hs1, bnd_eq, bnd_eq, put_in (by omega) (by decide), bnd_eq, bnd_eq]
      rfl
    let rr : Nat → Nat → Bool := fun c _ => Nat.ble 50 c
    have k3 : Keep rr σ s3 := ((Keep.mono k1 (R1 := rr) (by
      intro c k hck
      have : 50 ≤ c := Nat.le_of_ble_eq_true hck
      unfold rN
      rw [show (c == 12) = false from by simp; omega, show (c == 14) = false from by simp; omega, show (c == 10) = false from by simp; omega]
      rfl)).st rfl).st rfl
    have hM3 : MM s3 n p R := hM.keep k3 rfl rfl (fun _ => rfl)
    obtain ⟨s4, hs4, k4, rb⟩ := remember_eq (σ := s3) e1 e2 (by rw [k3 50 3 rfl]; exact e4) (by rw [k3 50 4 rfl]; exact e5)
    have hM4 : MM s4 n p R := hM3.keep k4 rfl rfl (fun _ => rfl)
    have f9 : fX9_reads (nI a) (nI j) (nI v) s3 = some (nI (R a j), stm s4 51 (8 * a + j) (nI v)) := by
      unfold fX9_reads fX9_becomes
      rw [mm_isCopy hM3 ha, bnd_eq, if_neg (by decide), mm_isPlace hM3 hj, bnd_eq, if_neg (by decide), show fX9_in (nI v) 0 4 s3 = some (1, s3) from mm_in_cok (n := 4) (by decide) (by omega), bnd_eq, if_neg (by decide), c8, gd_n (by omega) (by decide), cl_n (by omega), (hM3.2.2.2.2 a ha j hj).1]
      dsimp only [letv]
      rw [if_neg (ne_n hvr (by omega) (by omega)), hs4, bnd_eq, gd_n (by omega) (by decide)]
      rfl
    have kU : Keep rU σ (stm s4 51 (8 * a + j) (nI v)) := (((((k1.mono rU_rN).st rfl).st (k := 15) rfl).tr (k4.mono rU_rR)).st rfl)
    refine ⟨_, _, _, f8, f9, n, p, updR R a j v, t, hI.step kU ?_ (hM4.upd hj (by omega)) ht ?_ ?_ ?_ ?_⟩
    · refine CC.keep (Rl := fun c _ => c == 4 || c == 6) hC2 (σ' := stm s4 51 (8 * a + j) (nI v)) ?_ rfl rfl (fun _ => rfl)
      refine Keep.st (Keep.tr (Keep.rf.st (σ1 := stm s1 6 (8 * a + j) (nI v)) (c := 0) (k := 15) (v := 0) rfl) (k4.mono ?_)) rfl
      intro c k hck
      simp only [Bool.or_eq_true, beq_iff_eq] at hck
      rcases hck with rfl | rfl <;> rfl
    · rw [stm_ne (by decide), k4 0 14 rfl]
      show stm (stm s1 6 (8 * a + j) (nI v)) 0 15 0 0 14 = nI t
      rw [stm_k (by decide), stm_ne (by decide), k1 0 14 rfl, h14]
    · rw [stm_k (by omega), k4 51 48 rfl, k3 51 48 rfl, h48]
    · refine hU.push hM ht h48 (nt.keep (σ' := stm s4 51 (8 * a + j) (nI v)) (Rl := fun c k => c == 12 || c == 14 || (c == 10 && k == 2)) ?_ rfl (fun _ => rfl) (fun _ => rfl)) ((rb.from k3 rfl rfl (fun _ => rfl) (fun _ => rfl)).keep (Rl := fun c _ => c == 52 || c == 50) (Keep.rf.st rfl) rfl rfl (fun _ => rfl)) ?_
      · refine Keep.st (Keep.tr ((Keep.rf.st rfl).st (c := 0) (k := 15) rfl) (k4.mono ?_)) rfl
        intro c k hck
        simp only [Bool.or_eq_true, Bool.and_eq_true, beq_iff_eq] at hck
        rcases hck with (rfl | rfl) | ⟨rfl, rfl⟩ <;> rfl
      · refine Or.inr ⟨a, j, ha, hj, rfl, rfl, rfl, fun i' _ k' _ hne => (updR_ne hne).symm⟩
    · refine Or.inl ?_
      rw [stm_ne (by decide), k4 0 15 rfl]
      exact stm_v _ _ _ _
/-- the tree becomes another, on both sides -/
theorem become_nx {σ : Mem} {n p t c : Nat} {R : Nat → Nat → Nat} (h : Inv0 σ n p R t) (hc : c < TN n) : ∃ s1, fX8_becomeTree (nI c) σ = some (0, s1) ∧ s1 0 14 = nI c ∧ Keep (fun c _ => Nat.ble 50 c) σ s1 ∧ s1 4 1 = nI n ∧ ∀ s2, Keep rM s1 s2 → ∃ s4, fX9_remember s2 = some (0, s4) ∧ Inv0 (stm s4 51 48 (nI c)) n p R c := by
  have hI := h
  obtain ⟨hC, hM, hp0, hp1, ht, h14, h48, _, _, _, _, hU, hW⟩ := h
  obtain ⟨d, aa, RS, TS, e1, e2, e3, e4, e5, e6, e7, e8⟩ := id hU
  obtain ⟨s1, hs1, k1, nt⟩ := note_eq e1 e3 (-1) (nI t)
  have k3 : Keep (fun c _ => Nat.ble 50 c) σ (stm s1 0 14 (nI c)) := (Keep.mono k1 (by
    intro c k hck
    have : 50 ≤ c := Nat.le_of_ble_eq_true hck
    unfold rN
    rw [show (c == 12) = false from by simp; omega, show (c == 14) = false from by simp; omega, show (c == 10) = false from by simp; omega]
    rfl)).st rfl
  refine ⟨stm s1 0 14 (nI c), ?_, stm_v _ _ _ _, k3, ?_, fun s2 k2 => ?_⟩
  · unfold fX8_becomeTree
    rw [h14, hs1, bnd_eq]
    rfl
  · rw [stm_ne (by decide), k1 4 1 rfl]
    exact hC.1
  · obtain ⟨s4, hs4, k4, rb⟩ := remember_eq (σ := s2) e1 e2 (by rw [k2 50 3 rfl, k3 50 3 rfl]; exact e4) (by rw [k2 50 4 rfl, k3 50 4 rfl]; exact e5)
    have kU : Keep rU σ (stm s4 51 48 (nI c)) := (((((k1.mono rU_rN).st rfl).tr (k2.mono rU_rM)).tr (k4.mono rU_rR)).st rfl)
    have kA : Keep (fun c k => c == 4 || c == 6 || c == 44 || c == 46 || (c == 0 && k == 15)) σ (stm s4 51 48 (nI c)) := by
      refine Keep.st (Keep.tr (Keep.tr (Keep.st (k1.mono ?_) rfl) (k2.mono ?_)) (k4.mono ?_)) rfl
      all_goals
        intro c k hck
        simp only [Bool.or_eq_true, Bool.and_eq_true, beq_iff_eq] at hck
        rcases hck with (((rfl | rfl) | rfl) | rfl) | ⟨rfl, rfl⟩ <;> rfl
    refine ⟨s4, hs4, hI.step kU (hC.keep kA rfl rfl (fun _ => rfl)) ?_ hc ?_ (stm_v _ _ _ _) ?_ (hW.keep kA rfl (fun _ => rfl) (fun _ => rfl))⟩
    · have hM4 : MM s4 n p R := ((hM.keep k3 rfl rfl (fun _ => rfl)).keep k2 rfl rfl (fun _ => rfl)).keep k4 rfl rfl (fun _ => rfl)
      refine ⟨by rw [stm_ne (by decide)]; exact hM4.1, by rw [stm_ne (by decide)]; exact hM4.2.1, hM4.2.2.1, hM4.2.2.2.1, fun i hi j hj => ?_⟩
      have := hM4.2.2.1
      have := hM4.2.2.2.1
      rw [stm_k (by omega)]
      exact hM4.2.2.2.2 i hi j hj
    · rw [stm_ne (by decide), k4 0 14 rfl, k2 0 14 rfl]
      exact stm_v _ _ _ _
    · refine hU.push hM ht h48 (nt.keep (σ' := stm s4 51 48 (nI c)) (Rl := fun c k => c == 12 || c == 14 || (c == 10 && k == 2)) ?_ rfl (fun _ => rfl) (fun _ => rfl)) (((rb.from k2 rfl rfl (fun _ => rfl) (fun _ => rfl)).from k3 rfl rfl (fun _ => rfl) (fun _ => rfl)).keep (Rl := fun c _ => c == 52 || c == 50) (Keep.rf.st rfl) rfl rfl (fun _ => rfl)) (Or.inl ⟨rfl, rfl, fun _ _ _ _ => rfl⟩)
      refine Keep.st (Keep.tr (Keep.tr (Keep.rf.st (c := 0) (k := 14) rfl) (k2.mono ?_)) (k4.mono ?_)) rfl
      all_goals
        intro c k hck
        simp only [Bool.or_eq_true, Bool.and_eq_true, beq_iff_eq] at hck
        rcases hck with (rfl | rfl) | ⟨rfl, rfl⟩ <;> rfl
theorem TN_lt (n : Nat) : TN n ≤ 105 := by
  unfold TN
  repeat' split
  all_goals omega
theorem chooses_nx {σ : Mem} {n p t : Nat} {R : Nat → Nat → Nat} (h : Inv0 σ n p R t) (x : Int32) : Nx σ (fX8_chooses x) (fX9_chooses x) := by
  have hI := h
  obtain ⟨hC, hM, hp0, hp1, ht, h14, h48, _, _, _, _, hU, hW⟩ := h
  have hn := hC.2.2.1
  have hTn := TN_lt n
  rcases rng x (show TN n < 2 ^ 31 by omega) with hx | ⟨c, hc, rfl⟩
  · exact Nx.same (r := -1) hI (by unfold fX8_chooses; rw [isTree_no hn hC.1 hx, bnd_eq, if_pos rfl]) (by unfold fX9_chooses; rw [isTree9_no hn hM.1 hx, bnd_eq, if_pos rfl])
  by_cases hct : c = t
  · subst hct
    refine Nx.same (r := -2) hI ?_ ?_
    · unfold fX8_chooses
      rw [isTree_ok hn hC.1 hc, bnd_eq, if_neg (by decide), if_pos h14.symm]
    · unfold fX9_chooses fX9_becomes
      rw [isTree9_ok hn hM.1 hc, bnd_eq, if_neg (by decide), show gd 49 (48 : Int32) = fun o : O => o from funext fun o => gd_n (i := 48) (by decide) (by decide), show (48 : Int32).toNatClampNeg = 48 from rfl, h48]
      dsimp only [letv]
      rw [if_pos rfl, bnd_eq]
  · obtain ⟨s1, b1, b2, b3, b4, b5⟩ := become_nx hI hc
    obtain ⟨s4, b6, b7⟩ := b5 s1 Keep.rf
    refine ⟨nI t, s1, stm s4 51 48 (nI c), ?_, ?_, n, p, R, c, b7⟩
    · unfold fX8_chooses
      rw [isTree_ok hn hC.1 hc, bnd_eq, if_neg (by decide), h14, if_neg (ne_n hct (by omega) (by omega))]
      dsimp only [letv]
      rw [b1, bnd_eq]
    · unfold fX9_chooses fX9_becomes
      rw [isTree9_ok hn ((b3 50 0 rfl).trans hM.1) hc, bnd_eq, if_neg (by decide), show gd 49 (48 : Int32) = fun o : O => o from funext fun o => gd_n (i := 48) (by decide) (by decide), show (48 : Int32).toNatClampNeg = 48 from rfl, (b3 51 48 rfl).trans h48]
      dsimp only [letv]
      rw [if_neg (ne_n (fun q => hct q.symm) (by omega) (by omega)), b6, bnd_eq]
      rfl
theorem betters_nx (hT : TreeOK) (hTE : TreeE) (hK : TreeK) {σ : Mem} {n p t : Nat} {R : Nat → Nat → Nat} (h : Inv0 σ n p R t) : Nx σ fX8_betters fX9_betters := by
  have hn := h.1.2.2.1
  have hTn := TN_lt n
  obtain ⟨sw, w1, w2, w3, w4⟩ := weigh_eq hT hK h.1 h.2.2.2.2.2.2.2.2.2.2.2.2
  have hI := h.rw w4 (Or.inr ⟨w2, w3⟩)
  obtain ⟨hC, hM, hp0, hp1, ht, h14, h48, _, _, _, _, hU, hW⟩ := id hI
  obtain ⟨b, q1, q2, q3, q4⟩ := better8_eq hK hC w3 ht h14
  have hagree : ∀ b', BT (CHG n p R) t (fun x => x < TN n ∧ near x t) b' → b' = b := by
    intro b' hb'
    by_cases h4 : 4 ≤ n
    · exact BT_uniq hb' (q3 h4)
    · rw [q4 (by omega)]
      exact BT_small (by omega) ht hb'
  have hgd : gd 49 (48 : Int32) = fun o : O => o := funext fun o => gd_n (i := 48) (by decide) (by decide)
  by_cases hbt : b = t
  · obtain ⟨s1, c1, c2⟩ := changesOf9_eq hT hTE hM hp0 ht
    have hM1 : MM s1 n p R := hM.keep c2 rfl rfl (fun _ => rfl)
    obtain ⟨b', s2, d1, d2, d3, d4⟩ := better9_eq hT hTE hK hM1 hp0 ht ((c2 51 48 rfl).trans h48) (fun x1 σ12 => gd 49 48 (if (x1 : Int32) = (σ12 51 (48 : Int32).toNatClampNeg) then some ((-2), σ12) else bnd (fX9_remember σ12) (fun r13 σ14 => gd 49 48 (letm (stm σ14 51 (48 : Int32).toNatClampNeg x1) (fun σ15 => some (x1, σ15))))))
    have := hagree b' d3
    subst this
    have kR : Keep RW sw s2 := (c2.mono (fun c k q => RI_rM c k (RW_RI c k q))).tr (d4.mono (fun c k q => RI_rM c k (RW_RI c k q)))
    refine ⟨-2, sw, s2, ?_, ?_, n, p, R, t, hI.rw kR (hW.ri ?_)⟩
    · unfold fX8_betters
      rw [w1, bnd_eq, q1, bnd_eq, if_pos (by rw [h14, hbt])]
    · unfold fX9_betters
      rw [hgd]
      dsimp only [letv]
      rw [show (48 : Int32).toNatClampNeg = 48 from rfl, h48, c1, bnd_eq]
      rw [hgd] at d1
      refine d1.trans ?_
      dsimp only
      rw [if_pos]
      rw [show (48 : Int32).toNatClampNeg = 48 from rfl, d4 51 48 rfl, c2 51 48 rfl, h48, hbt]
    · exact (c2.mono (fun c k q => RI_rM c k q)).tr (d4.mono (fun c k q => RI_rM c k q))
  · obtain ⟨s1, b1, b2, b3, b4, b5⟩ := become_nx hI q2
    have hM0 : MM s1 n p R := hM.keep b3 rfl rfl (fun _ => rfl)
    obtain ⟨s2, c1, c2⟩ := changesOf9_eq hT hTE hM0 hp0 ht
    have hM1 : MM s2 n p R := hM0.keep c2 rfl rfl (fun _ => rfl)
    obtain ⟨b', s3, d1, d2, d3, d4⟩ := better9_eq hT hTE hK hM1 hp0 ht ((c2 51 48 rfl).trans ((b3 51 48 rfl).trans h48)) (fun x1 σ12 => gd 49 48 (if (x1 : Int32) = (σ12 51 (48 : Int32).toNatClampNeg) then some ((-2), σ12) else bnd (fX9_remember σ12) (fun r13 σ14 => gd 49 48 (letm (stm σ14 51 (48 : Int32).toNatClampNeg x1) (fun σ15 => some (x1, σ15))))))
    have := hagree b' d3
    subst this
    obtain ⟨s4, b6, b7⟩ := b5 s3 (c2.tr d4)
    refine ⟨nI b', s1, stm s4 51 48 (nI b'), ?_, ?_, n, p, R, b', b7⟩
    · unfold fX8_betters
      rw [w1, bnd_eq, q1, bnd_eq, h14, if_neg (ne_n hbt (by omega) (by omega)), b1, bnd_eq, b2]
    · unfold fX9_betters
      rw [hgd]
      dsimp only [letv]
      rw [show (48 : Int32).toNatClampNeg = 48 from rfl, (b3 51 48 rfl).trans h48, c1, bnd_eq]
      rw [hgd] at d1
      refine d1.trans ?_
      dsimp only
      rw [if_neg, b6, bnd_eq]
      · rfl
      · rw [show (48 : Int32).toNatClampNeg = 48 from rfl, d4 51 48 rfl, c2 51 48 rfl, (b3 51 48 rfl).trans h48]
        exact ne_n hbt (by omega) (by omega)
