/-! bound, lost ones, quarrels of all -/
def kc (R : Nat → Nat → Nat) (pl : Nat) : Nat → Int32
  | 0 => 0
  | k + 1 => if R k pl = 4 then kc R pl k else kc R pl k ||| ((1 : Int32) <<< (nI (R k pl) &&& 31))
def kr (R : Nat → Nat → Nat) (pl : Nat) : Nat → Int32
  | 0 => 0
  | k + 1 => kr R pl k ||| ((1 : Int32) <<< (nI (R k pl) &&& 31))
theorem kc_kr {R : Nat → Nat → Nat} {pl : Nat} : ∀ n, (∀ i, i < n → R i pl ≤ 4) → (∀ m, m < 4 → bt (kc R pl n) m = bt (kr R pl n) m) ∧ ∀ m, 4 ≤ m → m < 32 → bt (kc R pl n) m = false := by
  intro n
  induction n with
  | zero => intro _; exact ⟨fun m _ => rfl, fun m _ _ => b_0 m⟩
  | succ n ih =>
    intro hR
    obtain ⟨i1, i2⟩ := ih (fun i hi => hR i (by omega))
    have hr := hR n (by omega)
    by_cases e : R n pl = 4
    · have e1 : kc R pl (n + 1) = kc R pl n := by
        show (if R n pl = 4 then _ else _) = _
        rw [if_pos e]
      rw [e1]
      refine ⟨fun m hm => ?_, i2⟩
      show _ = bt (kr R pl n ||| ((1 : Int32) <<< (nI (R n pl) &&& 31))) m
      rw [b_or, one_bt (by omega) (by omega), i1 m hm, e, beq_false_of_ne (by omega), Bool.or_false]
    · have e1 : kc R pl (n + 1) = kc R pl n ||| ((1 : Int32) <<< (nI (R n pl) &&& 31)) := by
        show (if R n pl = 4 then _ else _) = _
        rw [if_neg e]
      rw [e1]
      refine ⟨fun m hm => ?_, fun m h1 h2 => ?_⟩
      · show _ = bt (kr R pl n ||| ((1 : Int32) <<< (nI (R n pl) &&& 31))) m
        rw [b_or, b_or, i1 m hm]
      · rw [b_or, one_bt (by omega) h2, i2 m h1 h2, beq_false_of_ne (by omega)]
        rfl
def k4 (w : Int32) : Nat := (bt w 0).toNat + (bt w 1).toNat + (bt w 2).toNat + (bt w 3).toNat
def k4p (w : Int32) : Nat → Nat
  | 0 => 0
  | r + 1 => k4p w r + (bt w r).toNat
theorem k4p_4 (w : Int32) : k4p w 4 = k4 w := by
  have e : k4p w 4 = 0 + (bt w 0).toNat + (bt w 1).toNat + (bt w 2).toNat + (bt w 3).toNat := rfl
  rw [e]
  unfold k4
  omega
theorem pop_four : ∀ a b c d : Bool, pop8 (n4 a b c d) = a.toNat + b.toNat + c.toNat + d.toNat := by decide +kernel
theorem low_n4 {w : Int32} (h : ∀ m, 4 ≤ m → m < 32 → bt w m = false) : w = nI (n4 (bt w 0) (bt w 1) (bt w 2) (bt w 3)) := by
  apply b_ext
  intro i hi
  rw [b_nI hi, n4_tb _ _ _ _ i hi]
  by_cases h0 : i = 0
  · subst h0; rfl
  · by_cases h1 : i = 1
    · subst h1; rfl
    · by_cases h2 : i = 2
      · subst h2; rfl
      · by_cases h3 : i = 3
        · subst h3; rfl
        · rw [if_neg h0, if_neg h1, if_neg h2, if_neg h3, h i (by omega) hi]
theorem low_bc {w : Int32} (h : ∀ m, 4 ≤ m → m < 32 → bt w m = false) : bitC w = nI (k4 w) := by
  have e := low_n4 h
  have p1 := (pop_two (bt w 0) (bt w 1) (bt w 2) (bt w 3)).1
  rw [e, (spr_tab p1).2.1, pop_four, ← e]
  rfl
theorem k4_le (w : Int32) : k4 w ≤ 4 := by
  unfold k4
  have := Bool.toNat_le (bt w 0)
  have := Bool.toNat_le (bt w 1)
  have := Bool.toNat_le (bt w 2)
  have := Bool.toNat_le (bt w 3)
  omega
theorem b_1 : ∀ i, i < 32 → bt 1 i = (i == 0) := by decide +kernel
theorem has9_eq (w : Int32) {r : Nat} (hr : r < 4) (σ : Mem) : fX9_has w (nI r) σ = some (bI (bt w r), σ) := by
  have e : ((w >>> (nI r &&& 31)) &&& 1 : Int32) = bI (bt w r) := by
    apply b_ext
    intro i hi
    rw [b_and, b_sshr r (by omega) w hi, b_1 i hi]
    by_cases h0 : i = 0
    · subst h0
      rw [if_pos (by omega)]
      cases hb : bt w r <;> simp [hb, bI] <;> decide
    · rw [beq_false_of_ne h0, Bool.and_false]
      cases bt w r
      · exact (b_0 i).symm
      · show false = bt 1 i
        rw [b_1 i hi, beq_false_of_ne h0]
  unfold fX9_has
  rw [e]
  cases bt w r <;> rfl
def bdN (n : Nat) (R : Nat → Nat → Nat) (pl : Nat) : Nat := k4 (kr R pl n) - 1
theorem mx_1 {y : Nat} (hy : y < 100) : mx (nI y - 1) 0 = nI (y - 1) := by
  unfold mx
  cases y with
  | zero => rfl
  | succ y =>
    rw [show (1 : Int32) = nI 1 from rfl, pk_sub (by omega), show (0 : Int32) = nI 0 from rfl, if_neg (nlt_n (by omega) (by omega))]
theorem bound_eq {σ : Mem} {n p : Nat} {R : Nat → Nat → Nat} (h : CC σ n p R) : fX8_bound σ = some (nI (sumR (bdN n R) p), σ) := by
  have hp := h.2.2.2.1
  have hn := h.2.2.1
  refine up_f (fun f i (a : Nat) => LX8_bound_4 (fun x1 σ8 => some (x1, σ8)) f (nI a) (nI i) σ) p (sumR (bdN n R)) (fun a => some (nI a, σ)) (fun f j hj => ?_) (fun f => ?_) 0 300 (by omega) (by omega)
  · show BX8_bound_4 _ _ (nI (sumR (bdN n R) j)) (nI j) σ = _
    unfold BX8_bound_4
    rw [h.2.1, if_neg (nle_n hj (by omega))]
    have hR : ∀ i, i < n → R i j ≤ 4 := fun i hi => (h.2.2.2.2 i hi j hj).2
    obtain ⟨q1, q2⟩ := kc_kr n hR
    have ek : k4 (kc R j n) = k4 (kr R j n) := by
      unfold k4
      rw [q1 0 (by omega), q1 1 (by omega), q1 2 (by omega), q1 3 (by omega)]
    refine (up_f (fun g i (w : Int32) => LX8_bound_20 (fun x1 x2 x3 σ4 => bnd (fJ6_bitCount_0f7a4 x3 σ4) (fun r5 σ6 => letv (x1 + (mx (r5 - 1) 0)) (fun v7 => LX8_bound_4 (fun x1 σ8 => some (x1, σ8)) f v7 (x2 + 1) σ6))) g (nI (sumR (bdN n R) j)) (nI j) w (nI i) σ) n (kc R j) (fun w => LX8_bound_4 (fun x1 σ8 => some (x1, σ8)) f (nI (sumR (bdN n R) (j + 1))) (nI (j + 1)) σ) (fun g k hk => ?_) (fun g => ?_) 0 300 (by omega) (by omega))
    · show BX8_bound_20 _ _ (nI (sumR (bdN n R) j)) (nI j) _ (nI k) σ = LX8_bound_20 _ g (nI (sumR (bdN n R) j)) (nI j) (if R k j = 4 then kc R j k else kc R j k ||| ((1 : Int32) <<< (nI (R k j) &&& 31))) (nI (k + 1)) σ
      unfold BX8_bound_20
      have r1 := hR k hk
      rw [h.1, if_neg (nle_n hk (by omega)), b_at h hk hj, one_n]
      dsimp only [letv]
      by_cases e : R k j = 4
      · rw [if_pos (show nI (R k j) = (4 : Int32) by rw [e]; rfl), if_pos e]
      · rw [if_neg (show ¬ nI (R k j) = (4 : Int32) from ne_n (b := 4) e (by omega) (by decide)), if_neg e]
    · show BX8_bound_20 _ _ (nI (sumR (bdN n R) j)) (nI j) _ (nI n) σ = _
      unfold BX8_bound_20
      rw [h.1, if_pos (le_n (Nat.le_refl n) (by omega))]
      dsimp only [letv]
      rw [bitC_eq, bnd_eq, low_bc q2, ek, mx_1 (by have := k4_le (kr R j n); omega), add_n, one_n]
      rfl
  · show BX8_bound_4 _ _ (nI (sumR (bdN n R) p)) (nI p) σ = _
    unfold BX8_bound_4
    rw [h.2.1, if_pos (le_n (Nat.le_refl p) (by omega))]
theorem bound9_eq {σ : Mem} {n p : Nat} {R : Nat → Nat → Nat} (h : MM σ n p R) : fX9_bound σ = some (nI (sumR (bdN n R) p), σ) := by
  have hp := h.2.2.2.1
  have hn := h.2.2.1
  refine up_f (fun f i (a : Nat) => LX9_bound_4 (fun x1 σ12 => some (x1, σ12)) f (nI a) (nI i) σ) p (sumR (bdN n R)) (fun a => some (nI a, σ)) (fun f j hj => ?_) (fun f => ?_) 0 300 (by omega) (by omega)
  · show BX9_bound_4 _ _ (nI (sumR (bdN n R) j)) (nI j) σ = _
    unfold BX9_bound_4
    rw [h.2.1, if_neg (nle_n hj (by omega))]
    refine (up_f (fun g i (w : Int32) => LX9_bound_17 (fun x1 x2 x3 σ4 => LX9_bound_50 (fun x1 x2 x4 σ9 => if (x4 : Int32) ≤ 1 then letv (x1 + 0) (fun v10 => LX9_bound_4 (fun x1 σ12 => some (x1, σ12)) f v10 (x2 + 1) σ9) else letv (x1 + (x4 - 1)) (fun v11 => LX9_bound_4 (fun x1 σ12 => some (x1, σ12)) f v11 (x2 + 1) σ9)) 300 x1 x2 x3 0 0 σ4) g (nI (sumR (bdN n R) j)) (nI j) w (nI i) σ) n (kr R j) (fun w => LX9_bound_4 (fun x1 σ12 => some (x1, σ12)) f (nI (sumR (bdN n R) (j + 1))) (nI (j + 1)) σ) (fun g k hk => ?_) (fun g => ?_) 0 300 (by omega) (by omega))
    · show BX9_bound_17 _ _ (nI (sumR (bdN n R) j)) (nI j) _ (nI k) σ = LX9_bound_17 _ g (nI (sumR (bdN n R) j)) (nI j) (kr R j k ||| ((1 : Int32) <<< (nI (R k j) &&& 31))) (nI (k + 1)) σ
      unfold BX9_bound_17
      rw [h.1, if_neg (nle_n hk (by omega)), m_at h hk hj, one_n]
      rfl
    · show BX9_bound_17 _ _ (nI (sumR (bdN n R) j)) (nI j) _ (nI n) σ = _
      unfold BX9_bound_17
      rw [h.1, if_pos (le_n (Nat.le_refl n) (by omega))]
      dsimp only
      refine (up_f (fun g i (a : Nat) => LX9_bound_50 (fun x1 x2 x4 σ9 => if (x4 : Int32) ≤ 1 then letv (x1 + 0) (fun v10 => LX9_bound_4 (fun x1 σ12 => some (x1, σ12)) f v10 (x2 + 1) σ9) else letv (x1 + (x4 - 1)) (fun v11 => LX9_bound_4 (fun x1 σ12 => some (x1, σ12)) f v11 (x2 + 1) σ9)) g (nI (sumR (bdN n R) j)) (nI j) (kr R j n) (nI a) (nI i) σ) 4 (k4p (kr R j n)) (fun a => LX9_bound_4 (fun x1 σ12 => some (x1, σ12)) f (nI (sumR (bdN n R) (j + 1))) (nI (j + 1)) σ) (fun g r hr => ?_) (fun g => ?_) 0 300 (by omega) (by omega))
      · show BX9_bound_50 _ _ (nI (sumR (bdN n R) j)) (nI j) (kr R j n) (nI (k4p (kr R j n) r)) (nI r) σ = LX9_bound_50 _ g (nI (sumR (bdN n R) j)) (nI j) (kr R j n) (nI (k4p (kr R j n) r + (bt (kr R j n) r).toNat)) (nI (r + 1)) σ
        unfold BX9_bound_50
        rw [if_neg (show ¬ (4 : Int32) ≤ nI r from nle_n (a := 4) hr (by decide)), has9_eq _ hr, bnd_eq]
        dsimp only [letv]
        cases bt (kr R j n) r
        · rw [if_pos (show bI false = 0 by decide), show (0 : Int32) = nI 0 from rfl, add_n, one_n]
          rfl
        · rw [if_neg (show ¬ bI true = 0 by decide), one_n, one_n]
          rfl
      · show BX9_bound_50 _ _ (nI (sumR (bdN n R) j)) (nI j) (kr R j n) (nI (k4p (kr R j n) 4)) (nI 4) σ = _
        unfold BX9_bound_50
        rw [if_pos (show (4 : Int32) ≤ nI 4 by decide)]
        dsimp only [letv]
        have e4 : k4p (kr R j n) 4 = k4 (kr R j n) := k4p_4 _
        have := k4_le (kr R j n)
        have es : sumR (bdN n R) (j + 1) = sumR (bdN n R) j + (k4 (kr R j n) - 1) := rfl
        rw [e4, es]
        by_cases h1 : k4 (kr R j n) ≤ 1
        · rw [if_pos (show nI (k4 (kr R j n)) ≤ (1 : Int32) from le_n (b := 1) h1 (by decide)), show (0 : Int32) = nI 0 from rfl, add_n, one_n, show k4 (kr R j n) - 1 = 0 by omega]
        · rw [if_neg (show ¬ nI (k4 (kr R j n)) ≤ (1 : Int32) from nle_n (b := 1) (by omega) (by omega)), show (nI (k4 (kr R j n)) - 1 : Int32) = nI (k4 (kr R j n) - 1) from pk_sub (b := 1) (by omega), add_n, one_n]
  · show BX9_bound_4 _ _ (nI (sumR (bdN n R) p)) (nI p) σ = _
    unfold BX9_bound_4
    rw [h.2.1, if_pos (le_n (Nat.le_refl p) (by omega))]
/-- lost ones -/
def ls (R : Nat → Nat → Nat) (i j : Nat) : Nat := if R i j = 4 then 1 else 0
theorem lost_eq {σ : Mem} {n p : Nat} {R : Nat → Nat → Nat} (h : CC σ n p R) : fX8_lostOnes σ = some (nI (sumR (fun i => sumR (ls R i) p) n), σ) := by
  have hp := h.2.2.2.1
  have hn := h.2.2.1
  refine up_f (fun f i (a : Nat) => LX8_lostOnes_4 (fun x1 σ4 => some (x1, σ4)) f (nI a) (nI i) σ) n (sumR (fun i => sumR (ls R i) p)) (fun a => some (nI a, σ)) (fun f i hi => ?_) (fun f => ?_) 0 300 (by omega) (by omega)
  · show BX8_lostOnes_4 _ _ (nI (sumR (fun i => sumR (ls R i) p) i)) (nI i) σ = _
    unfold BX8_lostOnes_4
    rw [h.1, if_neg (nle_n hi (by omega))]
    refine (up_f (fun g j (a : Nat) => LX8_lostOnes_17 (fun x1 x2 σ3 => LX8_lostOnes_4 (fun x1 σ4 => some (x1, σ4)) f x1 (x2 + 1) σ3) g (nI a) (nI i) (nI j) σ) p (fun j => sumR (fun i => sumR (ls R i) p) i + sumR (ls R i) j) (fun a => LX8_lostOnes_4 (fun x1 σ4 => some (x1, σ4)) f (nI a) (nI (i + 1)) σ) (fun g j hj => ?_) (fun g => ?_) 0 300 (by omega) (by omega))
    · show BX8_lostOnes_17 _ _ (nI (sumR (fun i => sumR (ls R i) p) i + sumR (ls R i) j)) (nI i) (nI j) σ = LX8_lostOnes_17 _ g (nI (sumR (fun i => sumR (ls R i) p) i + (sumR (ls R i) j + ls R i j))) (nI i) (nI (j + 1)) σ
      unfold BX8_lostOnes_17
      have r1 := (h.2.2.2.2 i hi j hj).2
      rw [h.2.1, if_neg (nle_n hj (by omega)), b_at h hi hj]
      unfold ls
      by_cases e : R i j = 4
      · rw [if_pos (show nI (R i j) = (4 : Int32) by rw [e]; rfl), if_pos e, one_n, one_n]
        rfl
      · rw [if_neg (show ¬ nI (R i j) = (4 : Int32) from ne_n (b := 4) e (by omega) (by decide)), if_neg e, one_n]
        rfl
    · show BX8_lostOnes_17 _ _ (nI (sumR (fun i => sumR (ls R i) p) i + sumR (ls R i) p)) (nI i) (nI p) σ = _
      unfold BX8_lostOnes_17
      rw [h.2.1, if_pos (le_n (Nat.le_refl p) (by omega))]
      dsimp only
      rw [one_n]
  · show BX8_lostOnes_4 _ _ (nI (sumR (fun i => sumR (ls R i) p) n)) (nI n) σ = _
    unfold BX8_lostOnes_4
    rw [h.1, if_pos (le_n (Nat.le_refl n) (by omega))]
