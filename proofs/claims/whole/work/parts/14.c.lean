/-! bits: the family bt of BITS.to-paste, and sets of readings four bits a place -/
def bt (x : Int32) (i : Nat) : Bool := x.toBitVec.getLsbD i
theorem b_ext {x y : Int32} (h : ∀ i, i < 32 → bt x i = bt y i) : x = y := Int32.toBitVec_inj.mp (BitVec.eq_of_getLsbD_eq (fun i hi => h i hi))
theorem b_or (x y : Int32) (i : Nat) : bt (x ||| y) i = (bt x i || bt y i) := by unfold bt; rw [Int32.toBitVec_or, BitVec.getLsbD_or]
theorem b_and (x y : Int32) (i : Nat) : bt (x &&& y) i = (bt x i && bt y i) := by unfold bt; rw [Int32.toBitVec_and, BitVec.getLsbD_and]
theorem b_xor (x y : Int32) (i : Nat) : bt (x ^^^ y) i = (bt x i ^^ bt y i) := by unfold bt; rw [Int32.toBitVec_xor, BitVec.getLsbD_xor]
theorem b_big {x : Int32} {i : Nat} (h : 32 ≤ i) : bt x i = false := BitVec.getLsbD_of_ge _ _ h
theorem b_255 (i : Nat) : bt 255 i = decide (i < 8) := by
  rcases Nat.lt_or_ge i 32 with h | h
  · exact (by decide +kernel : ∀ i, i < 32 → bt 255 i = decide (i < 8)) i h
  · rw [b_big h, decide_eq_false (by omega)]
theorem b_65535 (i : Nat) : bt 65535 i = decide (i < 16) := by
  rcases Nat.lt_or_ge i 32 with h | h
  · exact (by decide +kernel : ∀ i, i < 32 → bt 65535 i = decide (i < 16)) i h
  · rw [b_big h, decide_eq_false (by omega)]
theorem b_m1 : ∀ i, i < 32 → bt (-1) i = true := by decide +kernel
theorem b_0 (i : Nat) : bt 0 i = false := BitVec.getLsbD_zero
theorem s_l : ∀ n, n < 32 → ((nI n &&& 31).toBitVec.smod 32).toNat = n := by decide +kernel
theorem s_u : ∀ n, n < 32 → (((nI n).toUInt32 &&& Int32.toUInt32 31).toBitVec % 32).toNat = n := by decide +kernel
theorem b_shl (n : Nat) (hn : n < 32) (x : Int32) {i : Nat} (hi : i < 32) : bt (x <<< (nI n &&& 31)) i = (decide (n ≤ i) && bt x (i - n)) := by
  unfold bt
  rw [Int32.toBitVec_shiftLeft]
  show (x.toBitVec <<< ((nI n &&& 31).toBitVec.smod 32).toNat).getLsbD i = _
  rw [s_l n hn, BitVec.getLsbD_shiftLeft]
  rcases Nat.lt_or_ge i n with h | h
  · simp [h, Nat.not_le.mpr h]
  · simp [hi, h, Nat.not_lt.mpr h]
theorem b_ushr (n : Nat) (hn : n < 32) (x : Int32) (i : Nat) : bt ((x.toUInt32 >>> ((nI n).toUInt32 &&& Int32.toUInt32 31)).toInt32) i = bt x (n + i) := by
  show (x.toUInt32 >>> ((nI n).toUInt32 &&& Int32.toUInt32 31)).toBitVec.getLsbD i = x.toUInt32.toBitVec.getLsbD (n + i)
  rw [UInt32.toBitVec_shiftRight]
  show (x.toUInt32.toBitVec >>> (((nI n).toUInt32 &&& Int32.toUInt32 31).toBitVec % 32).toNat).getLsbD i = _
  rw [s_u n hn, BitVec.getLsbD_ushiftRight]
theorem b_sshr (n : Nat) (hn : n < 32) (x : Int32) {i : Nat} (hi : i < 32) : bt (x >>> (nI n &&& 31)) i = if n + i < 32 then bt x (n + i) else bt x 31 := by
  unfold bt
  rw [Int32.toBitVec_shiftRight]
  show (x.toBitVec.sshiftRight ((nI n &&& 31).toBitVec.smod 32).toNat).getLsbD i = _
  rw [s_l n hn, BitVec.getLsbD_sshiftRight, BitVec.msb_eq_getLsbD_last]
  simp [hi]
theorem b_nI {v k : Nat} (hk : k < 32) : bt (nI v) k = v.testBit k := by
  unfold bt nI
  show (BitVec.ofNat 32 v).getLsbD k = _
  rw [BitVec.getLsbD_ofNat]
  simp [hk]
theorem b_us (n : Nat) (hn : n < 32) (x : Int32) (i : Nat) : bt (ush x (nI n)) i = bt x (n + i) := b_ushr n hn x i
def n4 (a b c d : Bool) : Nat := a.toNat + 2 * b.toNat + 4 * c.toNat + 8 * d.toNat
theorem n4_lt : ∀ a b c d : Bool, n4 a b c d < 16 := by decide
theorem n4_and : ∀ a b c d a' b' c' d' : Bool, n4 (a && a') (b && b') (c && c') (d && d') = n4 a b c d &&& n4 a' b' c' d' := by decide +kernel
theorem n4_or : ∀ a b c d a' b' c' d' : Bool, n4 (a || a') (b || b') (c || c') (d || d') = n4 a b c d ||| n4 a' b' c' d' := by decide +kernel
theorem n4_0 : ∀ a b c d : Bool, decide (n4 a b c d = 0) = !(a || b || c || d) := by decide
def nb (x : Int32) (j : Nat) : Nat := n4 (bt x (4 * j)) (bt x (4 * j + 1)) (bt x (4 * j + 2)) (bt x (4 * j + 3))
theorem nb_lt (x : Int32) (j : Nat) : nb x j < 16 := n4_lt _ _ _ _
theorem nb_and (x y : Int32) (j : Nat) : nb (x &&& y) j = nb x j &&& nb y j := by
  unfold nb
  rw [b_and, b_and, b_and, b_and, n4_and]
theorem nb_or (x y : Int32) (j : Nat) : nb (x ||| y) j = nb x j ||| nb y j := by
  unfold nb
  rw [b_or, b_or, b_or, b_or, n4_or]
/-- eight bits, spread by fours -/
def spr (y : Nat) : Nat := (List.range 8).foldl (fun s j => s + (if y.testBit j then 16 ^ j else 0)) 0
def pop8 (y : Nat) : Nat := (List.range 8).foldl (fun s j => s + (if y.testBit j then 1 else 0)) 0
def bitC (x0 : Int32) : Int32 :=
  let v1 := x0 - ((ush x0 1) &&& 1431655765)
  let v2 := (v1 &&& 858993459) + ((ush v1 2) &&& 858993459)
  let v3 := (v2 + (ush v2 4)) &&& 252645135
  let v4 := v3 + (ush v3 8)
  let v5 := v4 + (ush v4 16)
  v5 &&& 63
theorem bitC_eq (x : Int32) (σ : Mem) : fJ6_bitCount_0f7a4 x σ = some (bitC x, σ) := rfl
theorem spr_all : (List.range 256).all (fun y => decide (spr y * 15 < 2 ^ 32) && (bitC (nI (spr y)) == nI (pop8 y)) && (bitC (nI y) == nI (pop8 y)) && (List.range 32).all (fun k => ((spr y).testBit k == (k % 4 == 0 && y.testBit (k / 4))) && ((spr y * 15).testBit k == y.testBit (k / 4)))) = true := by decide +kernel
theorem spr_tab {y : Nat} (hy : y < 256) : bitC (nI (spr y)) = nI (pop8 y) ∧ bitC (nI y) = nI (pop8 y) ∧ ∀ k, k < 32 → (spr y).testBit k = (k % 4 == 0 && y.testBit (k / 4)) ∧ (spr y * 15).testBit k = y.testBit (k / 4) := by
  have h := spr_all
  simp only [List.all_eq_true, List.mem_range, Bool.and_eq_true, decide_eq_true_eq, beq_iff_eq] at h
  obtain ⟨⟨⟨-, h2⟩, h3⟩, h4⟩ := h y hy
  exact ⟨h2, h3, h4⟩
theorem y_of : ∀ a b c d e f g h : Bool, ∃ y : Fin 256, y.val.testBit 0 = a ∧ y.val.testBit 1 = b ∧ y.val.testBit 2 = c ∧ y.val.testBit 3 = d ∧ y.val.testBit 4 = e ∧ y.val.testBit 5 = f ∧ y.val.testBit 6 = g ∧ y.val.testBit 7 = h := by
  intro a b c d e f g h
  have key : ∀ a b c d e f g h : Bool, (let y := n4 a b c d + 16 * n4 e f g h; y < 256 ∧ y.testBit 0 = a ∧ y.testBit 1 = b ∧ y.testBit 2 = c ∧ y.testBit 3 = d ∧ y.testBit 4 = e ∧ y.testBit 5 = f ∧ y.testBit 6 = g ∧ y.testBit 7 = h) := by decide +kernel
  obtain ⟨h1, h2⟩ := key a b c d e f g h
  exact ⟨⟨_, h1⟩, h2⟩
theorem y_ex (f : Nat → Bool) : ∃ y, y < 256 ∧ ∀ j, j < 8 → y.testBit j = f j := by
  obtain ⟨y, h0, h1, h2, h3, h4, h5, h6, h7⟩ := y_of (f 0) (f 1) (f 2) (f 3) (f 4) (f 5) (f 6) (f 7)
  refine ⟨y.val, y.isLt, fun j hj => ?_⟩
  match j, hj with
  | 0, _ => exact h0
  | 1, _ => exact h1
  | 2, _ => exact h2
  | 3, _ => exact h3
  | 4, _ => exact h4
  | 5, _ => exact h5
  | 6, _ => exact h6
  | 7, _ => exact h7
  | j + 8, h => omega
theorem empty_eq (x : Int32) (σ : Mem) : ∃ y, y < 256 ∧ (∀ j, j < 8 → y.testBit j = decide (nb x j = 0)) ∧ fX0_emptyPlaces x σ = some (nI (spr y), σ) := by
  obtain ⟨y, hy, hj⟩ := y_ex (fun j => decide (nb x j = 0))
  refine ⟨y, hy, hj, ?_⟩
  unfold fX0_emptyPlaces
  show some ((((x ||| ush x 1) ||| ush (x ||| ush x 1) 2) ^^^ (-1)) &&& 286331153, σ) = _
  congr 2
  apply b_ext
  intro k hk
  rw [b_nI hk, ((spr_tab hy).2.2 k hk).1, b_and, b_xor, b_m1 k hk, b_or]
  have e1 : bt (ush (x ||| ush x 1) 2) k = bt (x ||| ush x 1) (2 + k) := b_us 2 (by omega) _ _
  have e2 : ∀ i, bt (ush x 1) i = bt x (1 + i) := fun i => b_us 1 (by omega) _ _
  rw [e1, b_or, b_or, e2, e2]
  have hc : ∀ k, k < 32 → bt 286331153 k = (k % 4 == 0) := by decide +kernel
  rw [hc k hk]
  by_cases h4 : k % 4 = 0
  · have hk4 : k = 4 * (k / 4) := by omega
    rw [hj (k / 4) (by omega)]
    unfold nb
    rw [n4_0]
    generalize k / 4 = j at *
    subst hk4
    rw [show 2 + 4 * j = 4 * j + 2 by omega, show 1 + (4 * j + 2) = 4 * j + 3 by omega, show 1 + 4 * j = 4 * j + 1 by omega]
    simp only [Nat.mul_mod_right, beq_self_eq_true, Bool.and_true, Bool.true_and, Bool.xor_true]
    cases bt x (4 * j) <;> cases bt x (4 * j + 1) <;> cases bt x (4 * j + 2) <;> cases bt x (4 * j + 3) <;> rfl
  · have : (k % 4 == 0) = false := by simpa using h4
    rw [this]
    simp
/-- what a knot has by the two below -/
def cmb (l r : Int32) (y : Nat) : Int32 := (l &&& r) ||| ((l ||| r) &&& (nI (spr y) * 15))
theorem cmb_nb {l r : Int32} {y : Nat} (hy : y < 256) (hj : ∀ j, j < 8 → y.testBit j = decide (nb (l &&& r) j = 0)) {j : Nat} (hj8 : j < 8) : nb (cmb l r y) j = fitS (nb l j) (nb r j) := by
  have hb : ∀ i, i < 4 → bt (nI (spr y) * 15) (4 * j + i) = decide (nb (l &&& r) j = 0) := by
    intro i hi
    rw [show (15 : Int32) = nI 15 from rfl, mul_n, b_nI (by omega), ((spr_tab hy).2.2 (4 * j + i) (by omega)).2, show (4 * j + i) / 4 = j by omega, hj j hj8]
  unfold fitS
  rw [← nb_and]
  by_cases h0 : nb (l &&& r) j = 0
  · rw [if_pos h0]
    have ha : ∀ i, i < 4 → bt (cmb l r y) (4 * j + i) = bt (l ||| r) (4 * j + i) := by
      intro i hi
      unfold cmb
      rw [b_or, b_and (l ||| r), hb i hi, h0]
      rw [b_and, b_or]
      cases bt l (4 * j + i) <;> cases bt r (4 * j + i) <;> rfl
    rw [← nb_or]
    unfold nb
    rw [show 4 * j = 4 * j + 0 by omega, ha 0 (by omega), ha 1 (by omega), ha 2 (by omega), ha 3 (by omega)]
  · rw [if_neg h0]
    have ha : ∀ i, i < 4 → bt (cmb l r y) (4 * j + i) = bt (l &&& r) (4 * j + i) := by
      intro i hi
      unfold cmb
      rw [b_or, b_and (l ||| r), hb i hi, decide_eq_false h0]
      simp
    unfold nb
    rw [show 4 * j = 4 * j + 0 by omega, ha 0 (by omega), ha 1 (by omega), ha 2 (by omega), ha 3 (by omega)]
def sumR (f : Nat → Nat) : Nat → Nat
  | 0 => 0
  | n + 1 => sumR f n + f n
theorem pop8_sum : (List.range 256).all (fun y => pop8 y == sumR (fun j => if y.testBit j then 1 else 0) 8) = true := by decide +kernel
theorem sumR_congr {f g : Nat → Nat} : ∀ {n : Nat}, (∀ i, i < n → f i = g i) → sumR f n = sumR g n := by
  intro n
  induction n with
  | zero => intro _; rfl
  | succ n ih =>
    intro h
    show sumR f n + f n = sumR g n + g n
    rw [ih (fun i hi => h i (by omega)), h n (by omega)]
theorem sumR_add (f g : Nat → Nat) : ∀ n, sumR (fun i => f i + g i) n = sumR f n + sumR g n := by
  intro n
  induction n with
  | zero => rfl
  | succ n ih =>
    show sumR (fun i => f i + g i) n + (f n + g n) = (sumR f n + f n) + (sumR g n + g n)
    rw [ih]
    omega
theorem sumR_0 : ∀ n, sumR (fun _ => 0) n = 0 := by
  intro n
  induction n with
  | zero => rfl
  | succ n ih => show sumR (fun _ => 0) n + 0 = 0; rw [ih]
theorem sumR_comm (f : Nat → Nat → Nat) (m : Nat) : ∀ n, sumR (fun i => sumR (f i) m) n = sumR (fun j => sumR (fun i => f i j) n) m := by
  intro n
  induction n with
  | zero => exact (sumR_0 m).symm
  | succ n ih =>
    show sumR (fun i => sumR (f i) m) n + sumR (f n) m = sumR (fun j => sumR (fun i => f i j) n + f n j) m
    rw [ih, sumR_add]
/-- how many places part at a knot -/
def pcK (l r : Int32) : Nat := sumR (fun j => fitK (nb l j) (nb r j)) 8
theorem par_eq {l r : Int32} {y : Nat} (hy : y < 256) (hj : ∀ j, j < 8 → y.testBit j = decide (nb (l &&& r) j = 0)) : bitC (nI (spr y)) = nI (pcK l r) := by
  rw [(spr_tab hy).1]
  congr 1
  have h := pop8_sum
  simp only [List.all_eq_true, List.mem_range, beq_iff_eq] at h
  rw [h y hy]
  unfold pcK
  apply sumR_congr
  intro i hi
  unfold fitK
  rw [← nb_and, hj i hi]
  by_cases h0 : nb (l &&& r) i = 0 <;> simp [h0]
