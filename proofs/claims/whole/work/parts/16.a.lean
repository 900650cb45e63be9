/-! quarrels -/
theorem up_any (L : Nat → Nat → O) (N : Nat) (Q : Nat → Prop) (r e : O)
    (hs : ∀ f i, i < N → (Q i ∧ L (f + 1) i = r) ∨ (¬ Q i ∧ L (f + 1) i = L f (i + 1)))
    (he : ∀ f, L (f + 1) N = e) : ∀ (d i f : Nat), i + d = N → d < f → ((∃ k, i ≤ k ∧ k < N ∧ Q k) ∧ L f i = r) ∨ ((∀ k, i ≤ k → k < N → ¬ Q k) ∧ L f i = e) := by
  intro d
  induction d with
  | zero =>
    intro i f hi hf
    obtain ⟨f, rfl⟩ : ∃ g, f = g + 1 := ⟨f - 1, by omega⟩
    have : i = N := by omega
    subst this
    exact Or.inr ⟨fun k h1 h2 => absurd h2 (by omega), he f⟩
  | succ d ih =>
    intro i f hi hf
    obtain ⟨f, rfl⟩ : ∃ g, f = g + 1 := ⟨f - 1, by omega⟩
    rcases hs f i (by omega) with ⟨q, h⟩ | ⟨q, h⟩
    · exact Or.inl ⟨⟨i, by omega, by omega, q⟩, h⟩
    · rw [h]
      rcases ih (i + 1) f (by omega) (by omega) with ⟨⟨k, h1, h2, h3⟩, h4⟩ | ⟨h1, h4⟩
      · exact Or.inl ⟨⟨k, by omega, h2, h3⟩, h4⟩
      · refine Or.inr ⟨fun k k1 k2 => ?_, h4⟩
        by_cases hk : k = i
        · subst hk; exact q
        · exact h1 k (by omega) k2
def bI (b : Bool) : Int32 := if b then 1 else 0
theorem bI_0 (b : Bool) : (bI b = 0) ↔ b = false := by cases b <;> decide
/-- whether some copy tells two readings -/
def Td (n : Nat) (R : Nat → Nat → Nat) (pl a o c : Nat) : Prop := ∃ i, i < n ∧ R i pl = a ∧ R i o = c
def QR (T : Nat → Nat → Prop) : Prop := ∃ a b c d, a < b ∧ b < 4 ∧ c < d ∧ d < 4 ∧ T a c ∧ T a d ∧ T b c ∧ T b d
theorem isTold_eq {σ : Mem} {n p : Nat} {R : Nat → Nat → Nat} (h : MM σ n p R) {pl o a c : Nat} (hp : pl < p) (ho : o < p) (ha : a < 4) (hc : c < 4) : ∃ b, fX9_isTold (nI pl) (nI a) (nI o) (nI c) σ = some (bI b, σ) ∧ (b = true ↔ Td n R pl a o c) := by
  have hn := h.2.2.1
  obtain ⟨b, h1, h2⟩ := up_k (fun f i (b : Bool) => LX9_isTold_6 (fun x5 σ5 => gb x5 (some (x5, σ5))) f (nI pl) (nI a) (nI o) (nI c) (bI b) (nI i) σ) n (fun k b => b = true ↔ ∃ i, i < k ∧ R i pl = a ∧ R i o = c) (fun b => some (bI b, σ))
    (fun f k b hk hI => by
      have hstep : ∀ X : O, (LX9_isTold_6 (fun x5 σ5 => gb x5 (some (x5, σ5))) (f + 1) (nI pl) (nI a) (nI o) (nI c) (bI b) (nI k) σ = X) = (BX9_isTold_6 (fun x5 σ5 => gb x5 (some (x5, σ5))) (LX9_isTold_6 (fun x5 σ5 => gb x5 (some (x5, σ5))) f) (nI pl) (nI a) (nI o) (nI c) (bI b) (nI k) σ = X) := fun _ => rfl
      unfold BX9_isTold_6 at hstep
      rw [h.1, if_neg (nle_n hk (by omega)), one_n] at hstep
      have r1 := (h.2.2.2.2 k hk pl hp).2
      have r2 := (h.2.2.2.2 k hk o ho).2
      cases b with
      | true =>
        rw [if_neg (show ¬ bI true = 0 by decide)] at hstep
        exact ⟨true, ⟨fun _ => by obtain ⟨i, h1, h2⟩ := hI.mp rfl; exact ⟨i, by omega, h2⟩, fun _ => rfl⟩, by rw [hstep]; rfl⟩
      | false =>
        have hno : ¬ ∃ i, i < k ∧ R i pl = a ∧ R i o = c := fun z => Bool.noConfusion (hI.mpr z)
        have hsame : ¬ (R k pl = a ∧ R k o = c) → (false = true ↔ ∃ i, i < k + 1 ∧ R i pl = a ∧ R i o = c) := by
          intro hk2
          refine ⟨fun z => Bool.noConfusion z, fun ⟨i, i1, i2⟩ => ?_⟩
          by_cases hik : i = k
          · subst hik; exact absurd i2 hk2
          · exact absurd ⟨i, by omega, i2⟩ hno
        rw [if_pos (show bI false = 0 by decide), m_at h hk hp] at hstep
        by_cases e1 : R k pl = a
        · rw [if_pos (by rw [e1]), m_at h hk ho] at hstep
          by_cases e2 : R k o = c
          · rw [if_pos (by rw [e2])] at hstep
            exact ⟨true, ⟨fun _ => ⟨k, by omega, e1, e2⟩, fun _ => rfl⟩, by rw [hstep]; rfl⟩
          · rw [if_neg (ne_n e2 (by omega) (by omega))] at hstep
            exact ⟨false, hsame (fun z => e2 z.2), by rw [hstep]; rfl⟩
        · rw [if_neg (ne_n e1 (by omega) (by omega))] at hstep
          exact ⟨false, hsame (fun z => e1 z.1), by rw [hstep]; rfl⟩)
    (fun f b hI => by
      show BX9_isTold_6 _ _ (nI pl) (nI a) (nI o) (nI c) (bI b) (nI n) σ = _
      unfold BX9_isTold_6
      rw [h.1, if_pos (le_n (Nat.le_refl n) (by omega))]
      cases b <;> rfl)
    0 false 300 (by omega) (by omega) ⟨fun z => Bool.noConfusion z, fun ⟨i, i1, _⟩ => absurd i1 (Nat.not_lt_zero i)⟩
  exact ⟨b, h2, h1⟩
def Qc (T : Nat → Nat → Prop) (k : Nat) : Prop := k / 64 < k / 16 % 4 ∧ k / 4 % 4 < k % 4 ∧ T (k / 64) (k / 4 % 4) ∧ T (k / 64) (k % 4) ∧ T (k / 16 % 4) (k / 4 % 4) ∧ T (k / 16 % 4) (k % 4)
theorem Qc_iff (T : Nat → Nat → Prop) : (∃ k, k < 256 ∧ Qc T k) ↔ QR T := by
  constructor
  · rintro ⟨k, hk, h1, h2, h3, h4, h5, h6⟩
    exact ⟨k / 64, k / 16 % 4, k / 4 % 4, k % 4, h1, by omega, h2, by omega, h3, h4, h5, h6⟩
  · rintro ⟨a, b, c, d, h1, h2, h3, h4, h5, h6, h7, h8⟩
    have e1 : (64 * a + 16 * b + 4 * c + d) / 64 = a := by omega
    have e2 : (64 * a + 16 * b + 4 * c + d) / 16 % 4 = b := by omega
    have e3 : (64 * a + 16 * b + 4 * c + d) / 4 % 4 = c := by omega
    have e4 : (64 * a + 16 * b + 4 * c + d) % 4 = d := by omega
    refine ⟨64 * a + 16 * b + 4 * c + d, by omega, ?_⟩
    unfold Qc
    rw [e1, e2, e3, e4]
    exact ⟨h1, h3, h5, h6, h7, h8⟩
theorem quarrels9_eq {σ : Mem} {n p : Nat} {R : Nat → Nat → Nat} (h : MM σ n p R) {pl o : Nat} (hp : pl < p) (ho : o < p) : ∃ b, fX9_quarrels (nI pl) (nI o) σ = some (bI b, σ) ∧ (b = true ↔ QR (fun a c => Td n R pl a o c)) := by
  obtain ⟨b, h1, h2⟩ := up_k (fun f i (b : Bool) => LX9_quarrels_5 (fun x3 σ13 => gb x3 (some (x3, σ13))) f (nI pl) (nI o) (bI b) (nI i) σ) 256 (fun k b => b = true ↔ ∃ i, i < k ∧ Qc (fun a c => Td n R pl a o c) i) (fun b => some (bI b, σ))
    (fun f k b hk hI => by
      have hstep : ∀ X : O, (LX9_quarrels_5 (fun x3 σ13 => gb x3 (some (x3, σ13))) (f + 1) (nI pl) (nI o) (bI b) (nI k) σ = X) = (BX9_quarrels_5 (fun x3 σ13 => gb x3 (some (x3, σ13))) (LX9_quarrels_5 (fun x3 σ13 => gb x3 (some (x3, σ13))) f) (nI pl) (nI o) (bI b) (nI k) σ = X) := fun _ => rfl
      unfold BX9_quarrels_5 at hstep
      have d64 : nI k / 64 = nI (k / 64) := pk_div (d := 64) (by omega) (by omega) (by omega)
      have d16 : nI k / 16 = nI (k / 16) := pk_div (d := 16) (by omega) (by omega) (by omega)
      have d4 : nI k / 4 = nI (k / 4) := pk_div (d := 4) (by omega) (by omega) (by omega)
      have m16 : remi (nI (k / 16)) 4 = nI (k / 16 % 4) := pk_rem (d := 4) (by omega) (by omega) (by omega)
      have m4 : remi (nI (k / 4)) 4 = nI (k / 4 % 4) := pk_rem (d := 4) (by omega) (by omega) (by omega)
      have m1 : remi (nI k) 4 = nI (k % 4) := pk_rem (d := 4) (by omega) (by omega) (by omega)
      rw [if_neg (show ¬ (256 : Int32) ≤ nI k from nle_n (a := 256) hk (by decide)), one_n, d64, d16, d4, m16, m4, m1] at hstep
      dsimp only [letv] at hstep
      cases b with
      | true =>
        rw [if_neg (show ¬ bI true = 0 by decide)] at hstep
        exact ⟨true, ⟨fun _ => by obtain ⟨i, h1, h2⟩ := hI.mp rfl; exact ⟨i, by omega, h2⟩, fun _ => rfl⟩, by rw [hstep]; rfl⟩
      | false =>
        have hno : ¬ ∃ i, i < k ∧ Qc (fun a c => Td n R pl a o c) i := fun z => Bool.noConfusion (hI.mpr z)
        have hsame : ¬ Qc (fun a c => Td n R pl a o c) k → (false = true ↔ ∃ i, i < k + 1 ∧ Qc (fun a c => Td n R pl a o c) i) := by
          intro hk2
          refine ⟨fun z => Bool.noConfusion z, fun ⟨i, i1, i2⟩ => ?_⟩
          by_cases hik : i = k
          · subst hik; exact absurd i2 hk2
          · exact absurd ⟨i, by omega, i2⟩ hno
        rw [if_pos (show bI false = 0 by decide)] at hstep
        by_cases g1 : k / 64 < k / 16 % 4
        · rw [if_neg (nle_n g1 (by omega))] at hstep
          by_cases g2 : k / 4 % 4 < k % 4
          · rw [if_neg (nle_n g2 (by omega))] at hstep
            obtain ⟨b1, a1, c1⟩ := isTold_eq h hp ho (show k / 64 < 4 by omega) (show k / 4 % 4 < 4 by omega)
            rw [a1, bnd_eq] at hstep
            cases b1 with
            | false =>
              rw [if_pos (show bI false = 0 by decide)] at hstep
              exact ⟨false, hsame (fun z => Bool.noConfusion (c1.mpr z.2.2.1)), by rw [hstep]; rfl⟩
            | true =>
              rw [if_neg (show ¬ bI true = 0 by decide)] at hstep
              obtain ⟨b2, a2, c2⟩ := isTold_eq h hp ho (show k / 64 < 4 by omega) (show k % 4 < 4 by omega)
              rw [a2, bnd_eq] at hstep
              cases b2 with
              | false =>
                rw [if_pos (show bI false = 0 by decide)] at hstep
                exact ⟨false, hsame (fun z => Bool.noConfusion (c2.mpr z.2.2.2.1)), by rw [hstep]; rfl⟩
              | true =>
                rw [if_neg (show ¬ bI true = 0 by decide)] at hstep
                obtain ⟨b3, a3, c3⟩ := isTold_eq h hp ho (show k / 16 % 4 < 4 by omega) (show k / 4 % 4 < 4 by omega)
                rw [a3, bnd_eq] at hstep
                cases b3 with
                | false =>
                  rw [if_pos (show bI false = 0 by decide)] at hstep
                  exact ⟨false, hsame (fun z => Bool.noConfusion (c3.mpr z.2.2.2.2.1)), by rw [hstep]; rfl⟩
                | true =>
                  rw [if_neg (show ¬ bI true = 0 by decide)] at hstep
                  obtain ⟨b4, a4, c4⟩ := isTold_eq h hp ho (show k / 16 % 4 < 4 by omega) (show k % 4 < 4 by omega)
                  rw [a4, bnd_eq] at hstep
                  cases b4 with
                  | false =>
                    rw [if_pos (show bI false = 0 by decide)] at hstep
                    exact ⟨false, hsame (fun z => Bool.noConfusion (c4.mpr z.2.2.2.2.2)), by rw [hstep]; rfl⟩
                  | true =>
                    rw [if_neg (show ¬ bI true = 0 by decide)] at hstep
                    exact ⟨true, ⟨fun _ => ⟨k, by omega, g1, g2, c1.mp rfl, c2.mp rfl, c3.mp rfl, c4.mp rfl⟩, fun _ => rfl⟩, by rw [hstep]; rfl⟩
          · rw [if_pos (le_n (by omega) (by omega))] at hstep
            exact ⟨false, hsame (fun z => g2 z.2.1), by rw [hstep]; rfl⟩
        · rw [if_pos (le_n (by omega) (by omega))] at hstep
          exact ⟨false, hsame (fun z => g1 z.1), by rw [hstep]; rfl⟩)
    (fun f b hI => by
      show BX9_quarrels_5 _ _ (nI pl) (nI o) (bI b) (nI 256) σ = _
      unfold BX9_quarrels_5
      rw [if_pos (show (256 : Int32) ≤ nI 256 by decide)]
      cases b <;> rfl)
    0 false 300 (by omega) (by omega) ⟨fun z => Bool.noConfusion z, fun ⟨i, i1, _⟩ => absurd i1 (Nat.not_lt_zero i)⟩
  exact ⟨b, h2, h1.trans (Qc_iff _)⟩
theorem one_all : (List.range 32).all (fun m => (List.range 32).all (fun i => bt ((1 : Int32) <<< (nI m &&& 31)) i == (i == m))) = true := by decide +kernel
theorem one_bt {m i : Nat} (hm : m < 32) (hi : i < 32) : bt ((1 : Int32) <<< (nI m &&& 31)) i = (i == m) := by
  have h := one_all
  simp only [List.all_eq_true, List.mem_range, beq_iff_eq] at h
  exact h m hm i hi
theorem n4_tb : ∀ a b c d : Bool, ∀ i, i < 32 → (n4 a b c d).testBit i = (if i = 0 then a else if i = 1 then b else if i = 2 then c else if i = 3 then d else false) := by decide +kernel
theorem b_15 : ∀ i, i < 32 → bt 15 i = decide (i < 4) := by decide +kernel
theorem pop_two : ∀ a b c d : Bool, n4 a b c d < 256 ∧ pop8 (n4 a b c d) < 9 ∧ (2 ≤ pop8 (n4 a b c d) ↔ (a && b || a && c || a && d || b && c || b && d || c && d) = true) := by decide +kernel
theorem nib_eq (x : Int32) {a b : Nat} (ha : a < 4) (hb : b < 4) : ((ush x ((4 : Int32) * nI a)) &&& (ush x ((4 : Int32) * nI b))) &&& 15 = nI (n4 (bt x (4 * a) && bt x (4 * b)) (bt x (4 * a + 1) && bt x (4 * b + 1)) (bt x (4 * a + 2) && bt x (4 * b + 2)) (bt x (4 * a + 3) && bt x (4 * b + 3))) := by
  apply b_ext
  intro i hi
  rw [show (4 : Int32) * nI a = nI (4 * a) from mul_n 4 a, show (4 : Int32) * nI b = nI (4 * b) from mul_n 4 b, b_and, b_and, b_us _ (by omega), b_us _ (by omega), b_nI hi, n4_tb _ _ _ _ i hi, b_15 i hi]
  by_cases h0 : i = 0
  · subst h0; simp
  · by_cases h1 : i = 1
    · subst h1; simp
    · by_cases h2 : i = 2
      · subst h2; simp
      · by_cases h3 : i = 3
        · subst h3; simp
        · rw [if_neg h0, if_neg h1, if_neg h2, if_neg h3, decide_eq_false (by omega), Bool.and_false]
/-- the class's test of two rows of ways -/
def Qp (T : Nat → Nat → Prop) (a b : Nat) : Prop := ∃ c d, c < d ∧ d < 4 ∧ T a c ∧ T a d ∧ T b c ∧ T b d
theorem two_iff {x : Int32} {T : Nat → Nat → Prop} (hT : ∀ a, a < 4 → ∀ c, c < 4 → (bt x (4 * a + c) = true ↔ T a c)) {a b : Nat} (ha : a < 4) (hb : b < 4) (σ : Mem) : ∃ y, fJ6_bitCount_0f7a4 (((ush x ((4 : Int32) * nI a)) &&& (ush x ((4 : Int32) * nI b))) &&& 15) σ = some (nI y, σ) ∧ y < 9 ∧ (2 ≤ y ↔ Qp T a b) := by
  rw [nib_eq x ha hb, bitC_eq]
  obtain ⟨p1, p2, p3⟩ := pop_two (bt x (4 * a) && bt x (4 * b)) (bt x (4 * a + 1) && bt x (4 * b + 1)) (bt x (4 * a + 2) && bt x (4 * b + 2)) (bt x (4 * a + 3) && bt x (4 * b + 3))
  rw [(spr_tab p1).2.1]
  refine ⟨_, rfl, p2, p3.trans ?_⟩
  have A0 := hT a ha 0 (by omega)
  have A1 := hT a ha 1 (by omega)
  have A2 := hT a ha 2 (by omega)
  have A3 := hT a ha 3 (by omega)
  have B0 := hT b hb 0 (by omega)
  have B1 := hT b hb 1 (by omega)
  have B2 := hT b hb 2 (by omega)
  have B3 := hT b hb 3 (by omega)
  simp only [Nat.add_zero] at A0 B0
  simp only [Bool.or_eq_true, Bool.and_eq_true, A0, A1, A2, A3, B0, B1, B2, B3]
  constructor
  · intro h
    rcases h with ((((h | h) | h) | h) | h) | h
    · exact ⟨0, 1, by omega, by omega, h.1.1, h.2.1, h.1.2, h.2.2⟩
    · exact ⟨0, 2, by omega, by omega, h.1.1, h.2.1, h.1.2, h.2.2⟩
    · exact ⟨0, 3, by omega, by omega, h.1.1, h.2.1, h.1.2, h.2.2⟩
    · exact ⟨1, 2, by omega, by omega, h.1.1, h.2.1, h.1.2, h.2.2⟩
    · exact ⟨1, 3, by omega, by omega, h.1.1, h.2.1, h.1.2, h.2.2⟩
    · exact ⟨2, 3, by omega, by omega, h.1.1, h.2.1, h.1.2, h.2.2⟩
  · rintro ⟨c, d, h1, h2, h3, h4, h5, h6⟩
    have hcd : (c = 0 ∧ d = 1) ∨ (c = 0 ∧ d = 2) ∨ (c = 0 ∧ d = 3) ∨ (c = 1 ∧ d = 2) ∨ (c = 1 ∧ d = 3) ∨ (c = 2 ∧ d = 3) := by omega
    rcases hcd with ⟨rfl, rfl⟩ | ⟨rfl, rfl⟩ | ⟨rfl, rfl⟩ | ⟨rfl, rfl⟩ | ⟨rfl, rfl⟩ | ⟨rfl, rfl⟩
    · exact Or.inl (Or.inl (Or.inl (Or.inl (Or.inl ⟨⟨h3, h5⟩, h4, h6⟩))))
    · exact Or.inl (Or.inl (Or.inl (Or.inl (Or.inr ⟨⟨h3, h5⟩, h4, h6⟩))))
    · exact Or.inl (Or.inl (Or.inl (Or.inr ⟨⟨h3, h5⟩, h4, h6⟩)))
    · exact Or.inl (Or.inl (Or.inr ⟨⟨h3, h5⟩, h4, h6⟩))
    · exact Or.inl (Or.inr ⟨⟨h3, h5⟩, h4, h6⟩)
    · exact Or.inr ⟨⟨h3, h5⟩, h4, h6⟩
theorem inQuarrel_eq {σ : Mem} {n p : Nat} {R : Nat → Nat → Nat} (h : CC σ n p R) {pl o : Nat} (hp : pl < p) (ho : o < p) : ∃ b, fX8_inQuarrel (nI pl) (nI o) σ = some (bI b, σ) ∧ (b = true ↔ QR (fun a c => Td n R pl a o c)) := by
  have hn := h.2.2.1
  obtain ⟨w, h1, h2⟩ := up_k (fun f i (w : Int32) => LX8_inQuarrel_5 (fun x3 σ6 => LX8_inQuarrel_74 (fun σ12 => some (0, σ12)) 300 x3 0 σ6) f (nI pl) (nI o) w (nI i) σ) n (fun k w => ∀ a, a < 4 → ∀ c, c < 4 → (bt w (4 * a + c) = true ↔ ∃ i, i < k ∧ R i pl = a ∧ R i o = c)) (fun w => LX8_inQuarrel_74 (fun σ12 => some (0, σ12)) 300 w 0 σ)
    (fun f k w hk hI => by
      have hstep : ∀ X : O, (LX8_inQuarrel_5 (fun x3 σ6 => LX8_inQuarrel_74 (fun σ12 => some (0, σ12)) 300 x3 0 σ6) (f + 1) (nI pl) (nI o) w (nI k) σ = X) = (BX8_inQuarrel_5 (fun x3 σ6 => LX8_inQuarrel_74 (fun σ12 => some (0, σ12)) 300 x3 0 σ6) (LX8_inQuarrel_5 (fun x3 σ6 => LX8_inQuarrel_74 (fun σ12 => some (0, σ12)) 300 x3 0 σ6) f) (nI pl) (nI o) w (nI k) σ = X) := fun _ => rfl
      unfold BX8_inQuarrel_5 at hstep
      rw [h.1, if_neg (nle_n hk (by omega)), one_n, b_at h hk hp, b_at h hk ho] at hstep
      have r1 := (h.2.2.2.2 k hk pl hp).2
      have r2 := (h.2.2.2.2 k hk o ho).2
      have hsame : (R k pl = 4 ∨ R k o = 4) → ∀ a, a < 4 → ∀ c, c < 4 → (bt w (4 * a + c) = true ↔ ∃ i, i < k + 1 ∧ R i pl = a ∧ R i o = c) := by
        intro h4 a ha c hc
        rw [hI a ha c hc]
        constructor
        · rintro ⟨i, i1, i2⟩; exact ⟨i, by omega, i2⟩
        · rintro ⟨i, i1, i2⟩
          by_cases hik : i = k
          · subst hik; omega
          · exact ⟨i, by omega, i2⟩
      by_cases e1 : R k pl = 4
      · rw [if_pos (show nI (R k pl) = (4 : Int32) by rw [e1]; rfl)] at hstep
        exact ⟨w, hsame (Or.inl e1), by rw [hstep]⟩
      · rw [if_neg (show ¬ nI (R k pl) = (4 : Int32) from ne_n (b := 4) e1 (by omega) (by decide))] at hstep
        by_cases e2 : R k o = 4
        · rw [if_pos (show nI (R k o) = (4 : Int32) by rw [e2]; rfl)] at hstep
          exact ⟨w, hsame (Or.inr e2), by rw [hstep]⟩
        · rw [if_neg (show ¬ nI (R k o) = (4 : Int32) from ne_n (b := 4) e2 (by omega) (by decide)), show (4 : Int32) * nI (R k pl) = nI (4 * R k pl) from mul_n 4 _, add_n] at hstep
          dsimp only [letv] at hstep
          refine ⟨_, fun a ha c hc => ?_, by rw [hstep]⟩
          rw [b_or, one_bt (by omega) (by omega), Bool.or_eq_true, hI a ha c hc, beq_iff_eq]
          constructor
          · rintro (⟨i, i1, i2⟩ | e)
            · exact ⟨i, by omega, i2⟩
            · exact ⟨k, by omega, by omega, by omega⟩
          · rintro ⟨i, i1, i2⟩
            by_cases hik : i = k
            · subst hik; exact Or.inr (by omega)
            · exact Or.inl ⟨i, by omega, i2⟩)
    (fun f w hI => by
      show BX8_inQuarrel_5 _ _ (nI pl) (nI o) w (nI n) σ = _
      unfold BX8_inQuarrel_5
      rw [h.1, if_pos (le_n (Nat.le_refl n) (by omega))])
    0 0 300 (by omega) (by omega) (fun a ha c hc => ⟨fun z => absurd ((b_0 _).symm.trans z) Bool.false_ne_true, fun ⟨i, i1, _⟩ => absurd i1 (Nat.not_lt_zero i)⟩)
  have hT : ∀ a, a < 4 → ∀ c, c < 4 → (bt w (4 * a + c) = true ↔ Td n R pl a o c) := h1
  have hin : ∀ (g : Nat) (a : Nat), a < 4 → ((∃ b, a + 1 ≤ b ∧ b < 4 ∧ Qp (fun a c => Td n R pl a o c) a b) ∧ LX8_inQuarrel_86 (fun x3 x4 σ11 => LX8_inQuarrel_74 (fun σ12 => some (0, σ12)) g x3 (x4 + 1) σ11) 300 w (nI a) (nI (a + 1)) σ = some (1, σ)) ∨ ((∀ b, a + 1 ≤ b → b < 4 → ¬ Qp (fun a c => Td n R pl a o c) a b) ∧ LX8_inQuarrel_86 (fun x3 x4 σ11 => LX8_inQuarrel_74 (fun σ12 => some (0, σ12)) g x3 (x4 + 1) σ11) 300 w (nI a) (nI (a + 1)) σ = LX8_inQuarrel_74 (fun σ12 => some (0, σ12)) g w (nI (a + 1)) σ) := by
    intro g a ha
    refine up_any (fun f i => LX8_inQuarrel_86 (fun x3 x4 σ11 => LX8_inQuarrel_74 (fun σ12 => some (0, σ12)) g x3 (x4 + 1) σ11) f w (nI a) (nI i) σ) 4 (fun b => Qp (fun a c => Td n R pl a o c) a b) _ _ (fun f i hi => ?_) (fun f => ?_) (4 - (a + 1)) (a + 1) 300 (by omega) (by omega)
    · show (_ ∧ BX8_inQuarrel_86 _ _ w (nI a) (nI i) σ = _) ∨ (_ ∧ BX8_inQuarrel_86 _ _ w (nI a) (nI i) σ = _)
      unfold BX8_inQuarrel_86
      obtain ⟨y, y1, y2, y3⟩ := two_iff hT ha hi σ
      rw [if_neg (show ¬ (4 : Int32) ≤ nI i from nle_n (a := 4) hi (by decide))]
      dsimp only [letv]
      rw [y1, bnd_eq, one_n]
      by_cases hy : 2 ≤ y
      · exact Or.inl ⟨y3.mp hy, by rw [if_neg (show ¬ nI y < (2 : Int32) from nlt_n (b := 2) hy (by omega))]⟩
      · exact Or.inr ⟨fun z => hy (y3.mpr z), by rw [if_pos (show nI y < (2 : Int32) from lt_n (b := 2) (by omega) (by decide))]⟩
    · show BX8_inQuarrel_86 _ _ w (nI a) (nI 4) σ = _
      unfold BX8_inQuarrel_86
      rw [if_pos (show (4 : Int32) ≤ nI 4 by decide), ← one_n]
  have hout := up_any (fun f i => LX8_inQuarrel_74 (fun σ12 => some (0, σ12)) f w (nI i) σ) 4 (fun a => ∃ b, a + 1 ≤ b ∧ b < 4 ∧ Qp (fun a c => Td n R pl a o c) a b) (some (1, σ)) (some (0, σ))
    (fun f i hi => by
      show (_ ∧ BX8_inQuarrel_74 _ _ w (nI i) σ = _) ∨ (_ ∧ BX8_inQuarrel_74 _ _ w (nI i) σ = _)
      unfold BX8_inQuarrel_74
      rw [if_neg (show ¬ (4 : Int32) ≤ nI i from nle_n (a := 4) hi (by decide)), one_n]
      dsimp only [letv]
      rcases hin f i hi with ⟨a1, a2⟩ | ⟨a1, a2⟩
      · exact Or.inl ⟨a1, a2⟩
      · exact Or.inr ⟨fun ⟨b, b1, b2, b3⟩ => a1 b b1 b2 b3, a2⟩)
    (fun f => by
      show BX8_inQuarrel_74 _ _ w (nI 4) σ = _
      unfold BX8_inQuarrel_74
      rw [if_pos (show (4 : Int32) ≤ nI 4 by decide)])
    4 0 300 (by omega) (by omega)
  rcases hout with ⟨⟨a, -, a2, b, b1, b2, c, d, c1, c2, c3⟩, e⟩ | ⟨hno, e⟩
  · exact ⟨true, h2.trans e, fun _ => ⟨a, b, c, d, by omega, b2, c1, c2, c3⟩, fun _ => rfl⟩
  · refine ⟨false, h2.trans e, fun z => Bool.noConfusion z, fun ⟨a, b, c, d, q1, q2, q3, q4, q5⟩ => ?_⟩
    exact absurd ⟨b, by omega, q2, c, d, q3, q4, q5⟩ (hno a (by omega) (by omega))
