/-! the reference's counts over all -/
theorem lost9_eq {σ : Mem} {n p : Nat} {R : Nat → Nat → Nat} (h : MM σ n p R) : fX9_ofAll 5 σ = some (nI (sumR (fun j => sumR (fun i => ls R i j) n) p), σ) := by
  have hp := h.2.2.2.1
  have hn := h.2.2.1
  refine up_f (fun f j (a : Nat) => LX9_ofAll_4 (fun x2 σ11 => some (x2, σ11)) f 5 (nI a) (nI j) σ) p (sumR (fun j => sumR (fun i => ls R i j) n)) (fun a => some (nI a, σ)) (fun f j hj => ?_) (fun f => ?_) 0 300 (by omega) (by omega)
  · show BX9_ofAll_4 _ _ 5 (nI (sumR (fun j => sumR (fun i => ls R i j) n) j)) (nI j) σ = _
    unfold BX9_ofAll_4
    rw [h.2.1, if_neg (nle_n hj (by omega))]
    refine (up_f (fun g i (a : Nat) => LX9_ofAll_15 (fun x1 x2 x3 σ5 => LX9_ofAll_57 (fun x1 x2 x3 σ10 => LX9_ofAll_4 (fun x2 σ11 => some (x2, σ11)) f x1 x2 (x3 + 1) σ10) 300 x1 x2 x3 0 σ5) g 5 (nI a) (nI j) (nI i) σ) n (fun i => sumR (fun j => sumR (fun i => ls R i j) n) j + sumR (fun i => ls R i j) i) (fun a => LX9_ofAll_4 (fun x2 σ11 => some (x2, σ11)) f 5 (nI a) (nI (j + 1)) σ) (fun g i hi => ?_) (fun g => ?_) 0 300 (by omega) (by omega))
    · show BX9_ofAll_15 _ _ 5 (nI (sumR (fun j => sumR (fun i => ls R i j) n) j + sumR (fun i => ls R i j) i)) (nI j) (nI i) σ = LX9_ofAll_15 _ g 5 (nI (sumR (fun j => sumR (fun i => ls R i j) n) j + (sumR (fun i => ls R i j) i + ls R i j))) (nI j) (nI (i + 1)) σ
      unfold BX9_ofAll_15
      have r1 := (h.2.2.2.2 i hi j hj).2
      rw [h.1, if_neg (nle_n hi (by omega)), if_pos (rfl : (5 : Int32) = 5), m_at h hi hj]
      dsimp only [letv]
      have el : ls R i j = if R i j = 4 then 1 else 0 := rfl
      rw [el]
      by_cases e : R i j = 4
      · rw [if_pos (show nI (R i j) = (4 : Int32) by rw [e]; rfl), if_pos e, one_n, one_n]
        rfl
      · rw [if_neg (show ¬ nI (R i j) = (4 : Int32) from ne_n (b := 4) e (by omega) (by decide)), if_neg e, one_n, show (0 : Int32) = nI 0 from rfl, add_n]
        rfl
    · show BX9_ofAll_15 _ _ 5 (nI (sumR (fun j => sumR (fun i => ls R i j) n) j + sumR (fun i => ls R i j) n)) (nI j) (nI n) σ = _
      unfold BX9_ofAll_15
      rw [h.1, if_pos (le_n (Nat.le_refl n) (by omega))]
      show BX9_ofAll_57 _ _ 5 _ (nI j) (nI 0) σ = _
      unfold BX9_ofAll_57
      by_cases h0 : j ≤ 0
      · rw [if_pos (le_n h0 (by omega)), ← one_n]
      · rw [if_neg (nle_n (by omega) (by omega)), if_neg (by decide), ← one_n]
  · show BX9_ofAll_4 _ _ 5 (nI (sumR (fun j => sumR (fun i => ls R i j) n) p)) (nI p) σ = _
    unfold BX9_ofAll_4
    rw [h.2.1, if_pos (le_n (Nat.le_refl p) (by omega))]
theorem up_g {α : Type} (L : Nat → Nat → α → O) (N i : Nat) (g : Nat → α) (k : α → O)
    (hs : ∀ (f j : Nat), i ≤ j → j < N → L (f + 1) j (g j) = L f (j + 1) (g (j + 1)))
    (he : ∀ (f : Nat), L (f + 1) N (g N) = k (g N)) (f : Nat) (hi : i ≤ N) (hf : N < f) : L f i (g i) = k (g N) := by
  obtain ⟨a', h1, h2⟩ := up_k L N (fun j a => i ≤ j ∧ a = g j) k (fun f j a h1 h2 => ⟨g (j + 1), ⟨by omega, rfl⟩, by rw [h2.2]; exact hs f j h2.1 h1⟩) (fun f a h1 => by rw [h1.2]; exact he f) i (g i) f hi hf ⟨Nat.le_refl i, rfl⟩
  rw [h2, h1.2]
noncomputable def qN (n : Nat) (R : Nat → Nat → Nat) (a b : Nat) : Nat := @ite Nat (QR (fun x y => Td n R a x b y)) (Classical.propDecidable _) 1 0
theorem qN_symm (n : Nat) (R : Nat → Nat → Nat) (a b : Nat) : qN n R a b = qN n R b a := by
  have hs : ∀ a b, QR (fun x y => Td n R a x b y) → QR (fun x y => Td n R b x a y) := by
    rintro a b ⟨x, y, c, d, h1, h2, h3, h4, ⟨i1, j1, k1, l1⟩, ⟨i2, j2, k2, l2⟩, ⟨i3, j3, k3, l3⟩, ⟨i4, j4, k4, l4⟩⟩
    exact ⟨c, d, x, y, h3, h4, h1, h2, ⟨i1, j1, l1, k1⟩, ⟨i3, j3, l3, k3⟩, ⟨i2, j2, l2, k2⟩, ⟨i4, j4, l4, k4⟩⟩
  unfold qN
  by_cases h : QR (fun x y => Td n R a x b y)
  · rw [if_pos h, if_pos (hs _ _ h)]
  · rw [if_neg h, if_neg (fun z => h (hs _ _ z))]
theorem qN_b {n : Nat} {R : Nat → Nat → Nat} {a b : Nat} {c : Bool} (h : c = true ↔ QR (fun x y => Td n R a x b y)) : qN n R a b = c.toNat := by
  unfold qN
  cases c with
  | true => rw [if_pos (h.mp rfl)]; rfl
  | false => rw [if_neg (fun z => Bool.noConfusion (h.mpr z))]; rfl
noncomputable def qU (n : Nat) (R : Nat → Nat → Nat) (a b : Nat) : Nat := if a < b then qN n R a b else 0
theorem quarrels_eq {σ : Mem} {n p : Nat} {R : Nat → Nat → Nat} (h : CC σ n p R) : fX8_quarrels σ = some (nI (sumR (fun a => sumR (qU n R a) p) p), σ) := by
  have hp := h.2.2.2.1
  have hn := h.2.2.1
  refine up_f (fun f i (a : Nat) => LX8_quarrels_4 (fun x1 σ5 => some (x1, σ5)) f (nI a) (nI i) σ) p (sumR (fun a => sumR (qU n R a) p)) (fun a => some (nI a, σ)) (fun f i hi => ?_) (fun f => ?_) 0 300 (by omega) (by omega)
  · show BX8_quarrels_4 _ _ (nI (sumR (fun a => sumR (qU n R a) p) i)) (nI i) σ = _
    unfold BX8_quarrels_4
    rw [h.2.1, if_neg (nle_n hi (by omega)), one_n]
    dsimp only [letv]
    have h0 : sumR (qU n R i) (i + 1) = 0 := by
      rw [sumR_congr (g := fun _ => 0) (fun j hj => by unfold qU; rw [if_neg (by omega)]), sumR_0]
    have key := up_g (fun g j (a : Nat) => LX8_quarrels_19 (fun x1 x2 σ4 => LX8_quarrels_4 (fun x1 σ5 => some (x1, σ5)) f x1 (x2 + 1) σ4) g (nI a) (nI i) (nI j) σ) p (i + 1) (fun j => sumR (fun a => sumR (qU n R a) p) i + sumR (qU n R i) j) (fun a => LX8_quarrels_4 (fun x1 σ5 => some (x1, σ5)) f (nI a) (nI (i + 1)) σ)
      (fun g j hij hj => by
        show BX8_quarrels_19 _ _ (nI (sumR (fun a => sumR (qU n R a) p) i + sumR (qU n R i) j)) (nI i) (nI j) σ = LX8_quarrels_19 _ g (nI (sumR (fun a => sumR (qU n R a) p) i + (sumR (qU n R i) j + qU n R i j))) (nI i) (nI (j + 1)) σ
        unfold BX8_quarrels_19
        obtain ⟨b, b1, b2⟩ := inQuarrel_eq h hi hj
        have e : qU n R i j = b.toNat := by
          unfold qU
          rw [if_pos (by omega), qN_b b2]
        rw [h.2.1, if_neg (nle_n hj (by omega)), b1, bnd_eq, e, one_n]
        cases b
        · rw [if_pos (show bI false = 0 by decide)]; rfl
        · rw [if_neg (show ¬ bI true = 0 by decide), one_n]; rfl)
      (fun g => by
        show BX8_quarrels_19 _ _ (nI (sumR (fun a => sumR (qU n R a) p) i + sumR (qU n R i) p)) (nI i) (nI p) σ = _
        unfold BX8_quarrels_19
        rw [h.2.1, if_pos (le_n (Nat.le_refl p) (by omega))]
        dsimp only
        rw [one_n])
      300 (by omega) (by omega)
    rw [h0] at key
    exact key
  · show BX8_quarrels_4 _ _ (nI (sumR (fun a => sumR (qU n R a) p) p)) (nI p) σ = _
    unfold BX8_quarrels_4
    rw [h.2.1, if_pos (le_n (Nat.le_refl p) (by omega))]
theorem quarrelsAll9_eq {σ : Mem} {n p : Nat} {R : Nat → Nat → Nat} (h : MM σ n p R) : fX9_ofAll 6 σ = some (nI (sumR (fun a => sumR (qN n R a) a) p), σ) := by
  have hp := h.2.2.2.1
  have hn := h.2.2.1
  refine up_f (fun f j (a : Nat) => LX9_ofAll_4 (fun x2 σ11 => some (x2, σ11)) f 6 (nI a) (nI j) σ) p (sumR (fun a => sumR (qN n R a) a)) (fun a => some (nI a, σ)) (fun f j hj => ?_) (fun f => ?_) 0 300 (by omega) (by omega)
  · show BX9_ofAll_4 _ _ 6 (nI (sumR (fun a => sumR (qN n R a) a) j)) (nI j) σ = _
    unfold BX9_ofAll_4
    rw [h.2.1, if_neg (nle_n hj (by omega))]
    have e15 : ∀ (k : Int32 → Int32 → Int32 → Mem → O) (x : Int32), LX9_ofAll_15 k 300 6 x (nI j) 0 σ = k 6 x (nI j) σ := by
      intro k x
      show BX9_ofAll_15 k _ 6 x (nI j) (nI 0) σ = _
      unfold BX9_ofAll_15
      rw [h.1]
      by_cases h0 : n ≤ 0
      · rw [if_pos (le_n h0 (by omega))]
      · rw [if_neg (nle_n (by omega) (by omega)), if_neg (by decide)]
    rw [e15]
    refine (up_f (fun g i (a : Nat) => LX9_ofAll_57 (fun x1 x2 x3 σ10 => LX9_ofAll_4 (fun x2 σ11 => some (x2, σ11)) f x1 x2 (x3 + 1) σ10) g 6 (nI a) (nI j) (nI i) σ) j (fun i => sumR (fun a => sumR (qN n R a) a) j + sumR (qN n R j) i) (fun a => LX9_ofAll_4 (fun x2 σ11 => some (x2, σ11)) f 6 (nI a) (nI (j + 1)) σ) (fun g i hi => ?_) (fun g => ?_) 0 300 (by omega) (by omega))
    · show BX9_ofAll_57 _ _ 6 (nI (sumR (fun a => sumR (qN n R a) a) j + sumR (qN n R j) i)) (nI j) (nI i) σ = LX9_ofAll_57 _ g 6 (nI (sumR (fun a => sumR (qN n R a) a) j + (sumR (qN n R j) i + qN n R j i))) (nI j) (nI (i + 1)) σ
      unfold BX9_ofAll_57
      obtain ⟨b, b1, b2⟩ := quarrels9_eq h hj (show i < p by omega)
      rw [if_neg (nle_n hi (by omega)), if_pos (rfl : (6 : Int32) = 6), b1, bnd_eq, qN_b b2]
      dsimp only [letv]
      rw [one_n]
      cases b
      · rw [if_pos (show bI false = 0 by decide), show (0 : Int32) = nI 0 from rfl, add_n]; rfl
      · rw [if_neg (show ¬ bI true = 0 by decide), one_n]; rfl
    · show BX9_ofAll_57 _ _ 6 (nI (sumR (fun a => sumR (qN n R a) a) j + sumR (qN n R j) j)) (nI j) (nI j) σ = _
      unfold BX9_ofAll_57
      rw [if_pos (le_n (Nat.le_refl j) (by omega)), ← one_n]
  · show BX9_ofAll_4 _ _ 6 (nI (sumR (fun a => sumR (qN n R a) a) p)) (nI p) σ = _
    unfold BX9_ofAll_4
    rw [h.2.1, if_pos (le_n (Nat.le_refl p) (by omega))]
theorem qU_sum (n p : Nat) (R : Nat → Nat → Nat) : sumR (fun a => sumR (qU n R a) p) p = sumR (fun a => sumR (qN n R a) a) p := by
  rw [sumR_comm (fun a b => qU n R a b) p p]
  apply sumR_congr
  intro a ha
  have := sumR_ext (f := fun i => qU n R i a) (m := a) (p - a) (fun i h1 h2 => by unfold qU; rw [if_neg (by omega)])
  rw [show a + (p - a) = p by omega] at this
  rw [this]
  apply sumR_congr
  intro b hb
  unfold qU
  rw [if_pos hb, qN_symm]
theorem count_sm {σ : Mem} {n p : Nat} {R : Nat → Nat → Nat} (h : CC σ n p R) (m : MM σ n p R) (h3 : σ 0 14 = σ 51 48) (h7 : σ 0 13 = σ 50 6) (h8 : σ 1 1 = σ 50 10) (h9 : σ 10 2 = σ 50 3) (x : Int32) : Sm σ (fX8_count x) (fX9_count x) := by
  have hn := h.2.2.1
  unfold fX8_count fX9_count
  by_cases q0 : x = 0
  · exact Sm.same (r := nI n) (by rw [if_pos q0, h.1]) (by rw [if_pos q0, m.1])
  · by_cases q1 : x = 1
    · exact Sm.same (r := nI p) (by rw [if_neg q0, if_pos q1, h.2.1]) (by rw [if_neg q0, if_pos q1, m.2.1])
    · by_cases q2 : x = 2
      · exact Sm.same (r := nI (TN n)) (by rw [if_neg q0, if_neg q1, if_pos q2, h.1, treesOf_eq hn, bnd_eq]) (by rw [if_neg q0, if_neg q1, if_pos q2, trees9_eq hn m.1, bnd_eq])
      · by_cases q3 : x = 3
        · exact Sm.same (r := σ 0 14) (by rw [if_neg q0, if_neg q1, if_neg q2, if_pos q3]) (by rw [if_neg q0, if_neg q1, if_neg q2, if_pos q3, h3]; rfl)
        · by_cases q4 : x = 4
          · exact Sm.same (r := nI (eN n)) (by rw [if_neg q0, if_neg q1, if_neg q2, if_neg q3, if_pos q4, h.1, edgesOf_eq hn, bnd_eq]) (by rw [if_neg q0, if_neg q1, if_neg q2, if_neg q3, if_pos q4, edges9_eq hn m.1, bnd_eq])
          · by_cases q5 : x = 5
            · subst q5
              exact Sm.same (r := nI (sumR (fun i => sumR (ls R i) p) n)) (by rw [if_neg q0, if_neg q1, if_neg q2, if_neg q3, if_neg q4, if_pos rfl, lost_eq h, bnd_eq]) (by rw [if_neg q0, if_neg q1, if_neg q2, if_neg q3, if_neg q4, if_pos rfl, lost9_eq m, bnd_eq, sumR_comm (fun i j => ls R i j) p n])
            · by_cases q6 : x = 6
              · subst q6
                exact Sm.same (r := nI (sumR (fun a => sumR (qU n R a) p) p)) (by rw [if_neg q0, if_neg q1, if_neg q2, if_neg q3, if_neg q4, if_neg q5, if_pos rfl, quarrels_eq h, bnd_eq]) (by rw [if_neg q0, if_neg q1, if_neg q2, if_neg q3, if_neg q4, if_neg q5, if_pos rfl, quarrelsAll9_eq m, bnd_eq, qU_sum])
              · by_cases q7 : x = 7
                · exact Sm.same (r := σ 0 13) (by rw [if_neg q0, if_neg q1, if_neg q2, if_neg q3, if_neg q4, if_neg q5, if_neg q6, if_pos q7]) (by rw [if_neg q0, if_neg q1, if_neg q2, if_neg q3, if_neg q4, if_neg q5, if_neg q6, if_pos q7, h7])
                · by_cases q8 : x = 8
                  · exact Sm.same (r := σ 1 1) (by rw [if_neg q0, if_neg q1, if_neg q2, if_neg q3, if_neg q4, if_neg q5, if_neg q6, if_neg q7, if_pos q8]) (by rw [if_neg q0, if_neg q1, if_neg q2, if_neg q3, if_neg q4, if_neg q5, if_neg q6, if_neg q7, if_pos q8, h8])
                  · by_cases q9 : x = 9
                    · exact Sm.same (r := σ 10 2) (by rw [if_neg q0, if_neg q1, if_neg q2, if_neg q3, if_neg q4, if_neg q5, if_neg q6, if_neg q7, if_neg q8, if_pos q9]) (by rw [if_neg q0, if_neg q1, if_neg q2, if_neg q3, if_neg q4, if_neg q5, if_neg q6, if_neg q7, if_neg q8, if_pos q9, h9])
                    · exact Sm.same (r := -1) (by rw [if_neg q0, if_neg q1, if_neg q2, if_neg q3, if_neg q4, if_neg q5, if_neg q6, if_neg q7, if_neg q8, if_neg q9]) (by rw [if_neg q0, if_neg q1, if_neg q2, if_neg q3, if_neg q4, if_neg q5, if_neg q6, if_neg q7, if_neg q8, if_neg q9])
