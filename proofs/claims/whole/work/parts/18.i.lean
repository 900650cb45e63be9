/-! copies -/
theorem RW_rD : ∀ c k, RW c k = true → rD c k = true := by
  intro c k h
  have h := RW_RI c k h
  unfold RI at h
  unfold rD
  simp only [Bool.not_eq_true', Bool.or_eq_false_iff] at h ⊢
  exact ⟨h.1.1.1.1.1.1, h.1.1.1.1.1.2⟩
theorem RW_rTx : ∀ c k, RW c k = true → rTx c k = true := by
  intro c k h
  have h := RW_RI c k h
  unfold RI at h
  unfold rTx
  simp only [Bool.not_eq_true', Bool.or_eq_false_iff] at h ⊢
  obtain ⟨⟨_, h1⟩, h2⟩ := h
  have hc : ¬ 57 ≤ c := fun q => by rw [Nat.ble_eq_true_of_le q] at h2; cases h2
  refine ⟨by simp; omega, ?_⟩
  cases h50 : (c == 50)
  · rfl
  · rw [h50, Bool.true_and] at h1
    have hk : ¬ 12 ≤ k := fun q => by rw [Nat.ble_eq_true_of_le q] at h1; cases h1
    simp only [Bool.true_and, Bool.or_eq_false_iff, beq_eq_false_iff_ne]
    omega
theorem copies9_loop {σ : Mem} (K : Mem → O) : LX9_copies_83 K 300 0 σ = K (cpy σ 51 0 48 (σ 57)) := by
  have hl := up_f (α := Mem) (fun f k s => LX9_copies_83 K f (nI k) s) 48 (fun k => cpy σ 51 0 k (σ 57)) K
    (by
      intro f k hk
      have hstep : ∀ X : O, (LX9_copies_83 K (f + 1) (nI k) (cpy σ 51 0 k (σ 57)) = X) = (BX9_copies_83 K (LX9_copies_83 K f) (nI k) (cpy σ 51 0 k (σ 57)) = X) := fun _ => rfl
      unfold BX9_copies_83 at hstep
      rw [if_neg (show ¬ (48 : Int32) ≤ nI k from nle_n (a := 48) (by omega) (by decide)), gd_n (by omega) (by decide), gd_n (by omega) (by decide), cl_n (by omega), cpy_ne (show (57 : Nat) ≠ 51 by decide), one_n] at hstep
      refine (hstep _).mpr ?_
      unfold letm
      rw [← cpy_s, Nat.zero_add])
    (by
      intro f
      generalize cpy σ 51 0 48 (σ 57) = s
      have hstep : ∀ X : O, (LX9_copies_83 K (f + 1) (nI 48) s = X) = (BX9_copies_83 K (LX9_copies_83 K f) (nI 48) s = X) := fun _ => rfl
      unfold BX9_copies_83 at hstep
      rw [if_pos (by decide)] at hstep
      exact (hstep _).mpr rfl)
    0 300 (by decide) (by decide)
  rw [cpy_0] at hl
  exact hl
theorem letm_eq (x : Mem) (k : Mem → O) : letm x k = k x := rfl
/-- the reference's end of a text told well -/
def kC : Mem → O := fun σ11 => letm (stm σ11 50 10 0) (fun σ12 => letm (stm σ12 50 0 (σ12 50 16)) (fun σ13 => letm (stm σ13 50 1 (σ13 50 17)) (fun σ14 => LX9_copies_83 (fun σ16 => gd 49 48 (letm (stm σ16 51 (48 : Int32).toNatClampNeg 0) (fun σ17 => letm (stm σ17 50 3 0) (fun σ18 => letm (stm σ18 50 6 0) (fun σ19 => gd 2 0 (letm (stm σ19 54 (0 : Int32).toNatClampNeg 0) (fun σ20 => gd 2 1 (letm (stm σ20 54 (1 : Int32).toNatClampNeg 0) (fun σ21 => some (σ21 50 0, σ21)))))))))) 300 0 σ14)))
def eC (s : Mem) (m q : Nat) : Mem := stm (stm (stm (stm (stm (cpy (stm (stm (stm s 50 10 0) 50 0 (nI m)) 50 1 (nI q)) 51 0 48 (s 57)) 51 48 0) 50 3 0) 50 6 0) 54 0 0) 54 1 0
theorem kC_eq {s : Mem} {m q : Nat} (h16 : s 50 16 = nI m) (h17 : s 50 17 = nI q) : kC s = some (nI m, eC s m q) := by
  unfold kC
  rw [letm_eq, letm_eq, letm_eq, copies9_loop, show stm s 50 10 0 50 16 = nI m from by rw [stm_k (by decide), h16]]
  rw [show stm (stm s 50 10 0) 50 0 (nI m) 50 17 = nI q from by rw [stm_k (by decide), stm_k (by decide), h17]]
  rw [show stm (stm (stm s 50 10 0) 50 0 (nI m)) 50 1 (nI q) 57 = s 57 from by rw [stm_ne (by decide), stm_ne (by decide), stm_ne (by decide)]]
  have hv : eC s m q 50 0 = nI m := by
    unfold eC
    rw [stm_ne (by decide), stm_ne (by decide), stm_k (by decide), stm_k (by decide), stm_ne (by decide), cpy_ne (by decide), stm_k (by decide), stm_v]
  unfold eC at hv ⊢
  revert hv
  generalize cpy (stm (stm (stm s 50 10 0) 50 0 (nI m)) 50 1 (nI q)) 51 0 48 (s 57) = w
  intro hv
  rw [show gd 49 (48 : Int32) = fun o : O => o from funext fun o => gd_n (i := 48) (by decide) (by decide), show gd 2 (0 : Int32) = fun o : O => o from funext fun o => gd_n (i := 0) (by decide) (by decide), show gd 2 (1 : Int32) = fun o : O => o from funext fun o => gd_n (i := 1) (by decide) (by decide)]
  show some (stm (stm (stm (stm (stm w 51 48 0) 50 3 0) 50 6 0) 54 0 0) 54 1 0 50 0, stm (stm (stm (stm (stm w 51 48 0) 50 3 0) 50 6 0) 54 0 0) 54 1 0) = _
  rw [hv]
theorem copies9_eq {σ : Mem} {L : Nat} {u : Nat → Int32} (hL : L ≤ 90) (h10 : σ 50 10 = nI L) (hu : ∀ k, k < L → σ 56 k = u k) : TO (oAx σ (fX9_copies σ)) (oBx σ kC (fX9_copies σ)) (prs u L 0 0 0 0 0 (fun _ _ => 0)) := by
  obtain ⟨x, e1, e2⟩ := blanks_eq (u := u) (L := L) (x := 0) (σ := stm (stm (stm σ 50 12 0) 50 16 0) 50 17 0) hL (by omega) (by rw [stm_k (by decide), stm_k (by decide), stm_k (by decide)]; exact h10) (fun k hk => by rw [stm_ne (by decide), stm_ne (by decide), stm_ne (by decide)]; exact hu k hk) (by rw [stm_k (by decide), stm_k (by decide), stm_v]; rfl)
  have hf : fX9_copies σ = LX9_copies_19 kC 300 (stm (stm (stm (stm σ 50 12 0) 50 16 0) 50 17 0) 50 12 (nI x)) := by
    unfold fX9_copies
    rw [letm_eq, letm_eq, letm_eq, e2, bnd_eq]
    rfl
  have hp := e1.2.2.2.2 0 0 0 0 (fun _ _ => 0)
  rw [Nat.sub_zero] at hp
  rw [hp, hf]
  exact outer_loop σ u L hL h10 hu kC 300 x 0 0 (fun _ _ => 0) _ e1.2.1 e1.2.2.1 (by omega) ⟨Or.inl ⟨rfl, rfl, by omega⟩, by omega, Nat.zero_le _, fun _ => rfl, fun _ => rfl⟩ ((((Keep.rf.st rfl).st rfl).st rfl).st rfl) (stm_v _ _ _ _) (by rw [stm_k (by decide), stm_k (by decide), stm_v]; rfl) (by rw [stm_k (by decide), stm_v]; rfl) ⟨fun i hi => absurd hi (Nat.not_lt_zero i), fun j hj => absurd hj (Nat.not_lt_zero j)⟩
theorem copies_nx {σ : Mem} {n p t : Nat} {R : Nat → Nat → Nat} (h : Inv0 σ n p R t) : Nx σ fX8_copies fX9_copies := by
  have hI := h
  obtain ⟨hC, hM, hp0, hp1, ht, h14, h48, hX, hS, hA, hB, hU, hW⟩ := h
  obtain ⟨L, l1, l2, l3, l4⟩ := hX
  have ht8 := tell_eq (σ := σ) (u := σ 56) l1 l2 l4
  cases hr : prs (σ 56) L 0 0 0 0 0 (fun _ _ => 0) with
  | inl z =>
    rw [hr] at ht8
    obtain ⟨s1, a1, a2, a3⟩ := ht8
    have h9 := copies9_eq (σ := s1) (u := σ 56) l1 (by rw [a3 50 10 rfl]; exact l3) (fun k _ => a3 56 k rfl)
    rw [hr] at h9
    obtain ⟨s2, b1, b2⟩ := h9
    have kk : Keep RW σ s2 := (a3.mono RW_rD).tr (b2.mono RW_rTx)
    refine ⟨(-10 : Int32) - nI z, s1, s2, ?_, b1, n, p, R, t, hI.rw kk ((hW.keep a3 rfl (fun _ => rfl) (fun _ => rfl)).keep b2 rfl (fun _ => rfl) (fun _ => rfl))⟩
    unfold fX8_copies
    rw [a1, bnd_eq, if_neg (show ¬ nI z = (-1 : Int32) from ne_neg (by decide) (by omega))]
  | inr w =>
    obtain ⟨m, q, W⟩ := w
    rw [hr] at ht8
    obtain ⟨s1, a1, a2, a3, a4, a5, a6, a7, a8, a9⟩ := ht8
    have f8 : fX8_copies σ = some (nI m, stm (stm (stm (stm (stm (stm (stm (stm (stm (cpy s1 6 0 48 (s1 9)) 4 1 (nI m)) 4 2 (nI q)) 1 1 0) 0 14 0) 10 2 0) 0 13 0) 15 2 0) 19 2 0) 0 15 0) := by
      unfold fX8_copies
      rw [a1, bnd_eq, if_pos rfl, take_eq (by decide) (by decide), bnd_eq, a3, a4]
      dsimp only [letm, Nat.reduceAdd]
      rw [stm_ne (show (4 : Nat) ≠ 0 by decide), stm_ne (show (4 : Nat) ≠ 19 by decide), stm_ne (show (4 : Nat) ≠ 15 by decide), stm_ne (show (4 : Nat) ≠ 0 by decide), stm_ne (show (4 : Nat) ≠ 10 by decide), stm_ne (show (4 : Nat) ≠ 0 by decide), stm_ne (show (4 : Nat) ≠ 1 by decide), stm_k (show (1 : Nat) ≠ 2 by decide), stm_v]
    generalize hs : stm (stm (stm (stm (stm (stm (stm (stm (stm (cpy s1 6 0 48 (s1 9)) 4 1 (nI m)) 4 2 (nI q)) 1 1 0) 0 14 0) 10 2 0) 0 13 0) 15 2 0) 19 2 0) 0 15 0 = s at f8
    have k1 : Keep (fun c _ => Nat.ble 50 c) s1 s := by
      rw [← hs]
      exact ((((((((((Keep.rf.cpy (fun _ => rfl)).st rfl).st rfl).st rfl).st rfl).st rfl).st rfl).st rfl).st rfl).st rfl)
    have c41 : s 4 1 = nI m := by rw [← hs, stm_ne (show (4 : Nat) ≠ 0 by decide), stm_ne (show (4 : Nat) ≠ 19 by decide), stm_ne (show (4 : Nat) ≠ 15 by decide), stm_ne (show (4 : Nat) ≠ 0 by decide), stm_ne (show (4 : Nat) ≠ 10 by decide), stm_ne (show (4 : Nat) ≠ 0 by decide), stm_ne (show (4 : Nat) ≠ 1 by decide), stm_k (show (1 : Nat) ≠ 2 by decide), stm_v]
    have c42 : s 4 2 = nI q := by rw [← hs, stm_ne (show (4 : Nat) ≠ 0 by decide), stm_ne (show (4 : Nat) ≠ 19 by decide), stm_ne (show (4 : Nat) ≠ 15 by decide), stm_ne (show (4 : Nat) ≠ 0 by decide), stm_ne (show (4 : Nat) ≠ 10 by decide), stm_ne (show (4 : Nat) ≠ 0 by decide), stm_ne (show (4 : Nat) ≠ 1 by decide), stm_v]
    have c11 : s 1 1 = 0 := by rw [← hs, stm_ne (show (1 : Nat) ≠ 0 by decide), stm_ne (show (1 : Nat) ≠ 19 by decide), stm_ne (show (1 : Nat) ≠ 15 by decide), stm_ne (show (1 : Nat) ≠ 0 by decide), stm_ne (show (1 : Nat) ≠ 10 by decide), stm_ne (show (1 : Nat) ≠ 0 by decide), stm_v]
    have c014 : s 0 14 = 0 := by rw [← hs, stm_k (by decide), stm_ne (by decide), stm_ne (by decide), stm_k (by decide), stm_ne (by decide), stm_v]
    have c102 : s 10 2 = 0 := by rw [← hs, stm_ne (by decide), stm_ne (by decide), stm_ne (by decide), stm_ne (by decide), stm_v]
    have c013 : s 0 13 = 0 := by rw [← hs, stm_k (by decide), stm_ne (by decide), stm_ne (by decide), stm_v]
    have c152 : s 15 2 = 0 := by rw [← hs, stm_ne (by decide), stm_ne (by decide), stm_v]
    have c192 : s 19 2 = 0 := by rw [← hs, stm_ne (by decide), stm_v]
    have c015 : s 0 15 = 0 := by rw [← hs, stm_v]
    have c6 : ∀ k, k < 48 → s 6 k = s1 9 k := by
      intro k hk
      have := cpy_at (σ := s1) (c := 6) (lo := 0) (f := s1 9) hk
      rw [Nat.zero_add] at this
      rw [← hs, stm_ne (by decide), stm_ne (by decide), stm_ne (by decide), stm_ne (by decide), stm_ne (by decide), stm_ne (by decide), stm_ne (by decide), stm_ne (by decide), stm_ne (by decide), this]
    have h9 := copies9_eq (σ := s) (u := σ 56) l1 (by rw [k1 50 10 rfl, a2 50 10 rfl]; exact l3) (fun k _ => by rw [k1 56 k rfl, a2 56 k rfl])
    rw [hr] at h9
    obtain ⟨s2, b1, b2, b3, b4, b5⟩ := h9
    rw [kC_eq b3 b4] at b1
    have k2 : Keep (fun c _ => Nat.ble c 49) s2 (eC s2 m q) := by
      unfold eC
      exact (((((Keep.rf.st rfl).st rfl).st rfl).cpy (fun _ => rfl)).st rfl).st rfl |>.st rfl |>.st rfl |>.st rfl
    have k3 : Keep (fun c _ => Nat.ble c 49) s (eC s2 m q) := (b2.mono (by
      intro c k hck
      have : c ≤ 49 := Nat.le_of_ble_eq_true hck
      unfold rTx
      rw [show (c == 57) = false from by simp; omega, show (c == 50) = false from by simp; omega]
      rfl)).tr k2
    refine ⟨nI m, s, eC s2 m q, f8, b1, m, q, W, 0, ?_, ?_, a7, a8, TN_pos m, ?_, ?_, ⟨0, by omega, ?_, ?_, fun k hk => absurd hk (Nat.not_lt_zero k)⟩, ⟨0, by omega, ?_, ?_, fun k hk => absurd hk (Nat.not_lt_zero k)⟩, Or.inl ⟨?_, ?_⟩, Or.inl ⟨?_, ?_⟩, ?_, Or.inl ?_⟩
    · refine ⟨by rw [k3 4 1 rfl]; exact c41, by rw [k3 4 2 rfl]; exact c42, a5, a6, fun i hi j hj => ?_⟩
      rw [k3 6 _ rfl, c6 _ (by omega)]
      exact a9.1 i hi j hj
    · unfold eC
      refine ⟨?_, ?_, a5, a6, fun i hi j hj => ?_⟩
      · rw [stm_ne (by decide), stm_ne (by decide), stm_k (by decide), stm_k (by decide), stm_ne (by decide), cpy_ne (by decide), stm_k (by decide), stm_v]
      · rw [stm_ne (by decide), stm_ne (by decide), stm_k (by decide), stm_k (by decide), stm_ne (by decide), cpy_ne (by decide), stm_v]
      · rw [stm_ne (by decide), stm_ne (by decide), stm_ne (by decide), stm_ne (by decide), stm_k (by omega), show 8 * i + j = 0 + (8 * i + j) by omega, cpy_at (by omega)]
        exact b5.1 i hi j hj
    · rw [k3 0 14 rfl]
      exact c014
    · unfold eC
      rw [stm_ne (by decide), stm_ne (by decide), stm_ne (by decide), stm_ne (by decide), stm_v]
      rfl
    · rw [k3 1 1 rfl]
      exact c11
    · unfold eC
      rw [stm_ne (by decide), stm_ne (by decide), stm_k (by decide), stm_k (by decide), stm_ne (by decide), cpy_ne (by decide), stm_k (by decide), stm_k (by decide), stm_v]
      rfl
    · rw [k3 0 13 rfl]
      exact c013
    · unfold eC
      rw [stm_ne (by decide), stm_ne (by decide), stm_v]
      rfl
    · rw [k3 15 2 rfl]
      exact c152
    · unfold eC
      rw [stm_k (by decide), stm_v]
    · rw [k3 19 2 rfl]
      exact c192
    · unfold eC
      rw [stm_v]
    · obtain ⟨d0, a0, RS, TS, e1, e2, e3, e4, e5, e6, e7, e8⟩ := hU
      refine ⟨0, a0, fun _ => W, fun _ => 0, by omega, e2, by rw [k3 10 2 rfl]; exact c102, ?_, ?_, rfl, rfl, fun j hj => absurd hj (Nat.not_lt_zero j)⟩
      · unfold eC
        rw [stm_ne (by decide), stm_ne (by decide), stm_k (by decide), stm_v]
        rfl
      · unfold eC
        rw [stm_ne (by decide), stm_ne (by decide), stm_k (by decide), stm_k (by decide), stm_ne (by decide), cpy_ne (by decide), stm_k (by decide), stm_k (by decide), stm_k (by decide), b2 50 4 rfl, k1 50 4 rfl, a2 50 4 rfl]
        exact e5
    · rw [k3 0 15 rfl]
      exact c015
