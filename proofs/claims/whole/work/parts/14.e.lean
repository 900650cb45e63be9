/-! the class's directed costs -/
theorem mn_n {a b : Nat} (ha : a < 2 ^ 31) (hb : b < 2 ^ 31) : mn (nI a) (nI b) = nI (min a b) := by
  unfold mn
  by_cases h : b < a
  · rw [if_pos (lt_n h ha), Nat.min_eq_right (by omega)]
  · rw [if_neg (nlt_n (by omega) hb), Nat.min_eq_left (by omega)]
def dnP (cap : Nat) (dir : Bool) (c : Nat → Nat) (r : Nat) : Nat → Nat
  | 0 => cap
  | i + 1 => min (dnP cap dir c r i) (c i + btw dir r i)
theorem dnP_4 (cap : Nat) (dir : Bool) (c : Nat → Nat) (r : Nat) : dnP cap dir c r 4 = dnC cap dir c r := rfl
theorem dnP_le (cap : Nat) (dir : Bool) (c : Nat → Nat) (r : Nat) : ∀ i, dnP cap dir c r i ≤ cap := by
  intro i
  induction i with
  | zero => exact Nat.le_refl _
  | succ i ih => exact Nat.le_trans (Nat.min_le_left _ _) ih
theorem dnC_le (cap : Nat) (dir : Bool) (c : Nat → Nat) (r : Nat) : dnC cap dir c r ≤ cap := by rw [← dnP_4]; exact dnP_le _ _ _ _ 4
theorem costDown_eq {σ : Mem} {b r : Nat} {V : Nat → Nat} (hb : b < 11) (hr : r < 4) (hV : ∀ q, q < 4 → σ 40 (4 * b + q) = nI (V q) ∧ V q < 100000) : fX0_costDown (nI b) (nI r) σ = some (nI (dnC 1000 true V r), σ) := by
  have e := up_f (fun f i (a : Int32 × Mem) => LX0_costDown_7 (fun x3 σ5 => some (x3, σ5)) f (nI b) (nI r) a.1 (nI i) a.2) 4 (fun i => (nI (dnP 1000 true V r i), σ)) (fun a => some (a.1, a.2))
    (fun f i hi => by
      have hstep : ∀ X : O, (LX0_costDown_7 (fun x3 σ5 => some (x3, σ5)) (f + 1) (nI b) (nI r) (nI (dnP 1000 true V r i)) (nI i) σ = X) = (BX0_costDown_7 (fun x3 σ5 => some (x3, σ5)) (LX0_costDown_7 (fun x3 σ5 => some (x3, σ5)) f) (nI b) (nI r) (nI (dnP 1000 true V r i)) (nI i) σ = X) := fun _ => rfl
      show LX0_costDown_7 (fun x3 σ5 => some (x3, σ5)) (f + 1) (nI b) (nI r) (nI (dnP 1000 true V r i)) (nI i) σ = LX0_costDown_7 (fun x3 σ5 => some (x3, σ5)) f (nI b) (nI r) (nI (dnP 1000 true V r (i + 1))) (nI (i + 1)) σ
      rw [hstep]
      unfold BX0_costDown_7
      rw [if_neg (show ¬ (4 : Int32) ≤ nI i from nle_n (a := 4) hi (by decide))]
      dsimp only [jn, letv]
      have hix : (nI b * 4 + nI i : Int32) = nI (4 * b + i) := by rw [show (4 : Int32) = nI 4 from rfl, mul_n, add_n, Nat.mul_comm]
      have hat : fX5_at 39 44 (nI b * 4 + nI i) σ = some (nI (V i), σ) := by
        rw [hix, at_in (by omega) (by decide), show σ (39 + 1) (4 * b + i) = nI (V i) from (hV i hi).1]
      have hle := dnP_le 1000 true V r i
      have hvi := (hV i hi).2
      have fin : ∀ z, z ≤ 2 → btw true r i = z → mn (nI (dnP 1000 true V r i)) (nI (V i) + nI z) = nI (dnP 1000 true V r (i + 1)) := by
        intro z hz hz2
        rw [add_n, mn_n (by omega) (by omega)]
        show _ = nI (min (dnP 1000 true V r i) (V i + btw true r i))
        rw [hz2]
      rw [hat]
      by_cases h1 : i = r
      · subst h1
        rw [if_pos rfl, bnd_eq, show (0 : Int32) = nI 0 from rfl, fin 0 (by omega) (by unfold btw; rw [if_pos rfl]), one_n]
      · rw [if_neg (ne_n h1 (by omega) (by omega))]
        by_cases h2 : i ≤ r
        · rw [if_pos (le_n h2 (by omega)), bnd_eq, show (2 : Int32) = nI 2 from rfl, fin 2 (by omega) (by unfold btw; rw [if_neg (by omega), if_pos (by simp; omega)]), one_n]
        · rw [if_neg (nle_n (by omega) (by omega)), bnd_eq, show (1 : Int32) = nI 1 from rfl, fin 1 (by omega) (by unfold btw; rw [if_neg (by omega), if_neg (by simp; omega)]), show (nI 1 : Int32) = 1 from rfl, one_n])
    (fun f => by
      show BX0_costDown_7 _ _ (nI b) (nI r) _ (nI 4) σ = _
      unfold BX0_costDown_7
      rw [if_pos (show (4 : Int32) ≤ nI 4 from le_n (Nat.le_refl 4) (by decide))])
    0 300 (by omega) (by omega)
  exact e
theorem n4_bit : ∀ a b c d : Bool, (n4 a b c d).testBit 0 = a ∧ (n4 a b c d).testBit 1 = b ∧ (n4 a b c d).testBit 2 = c ∧ (n4 a b c d).testBit 3 = d := by decide
theorem nb_bit (x : Int32) (j : Nat) {r : Nat} (hr : r < 4) : (nb x j).testBit r = bt x (4 * j + r) := by
  obtain ⟨h0, h1, h2, h3⟩ := n4_bit (bt x (4 * j)) (bt x (4 * j + 1)) (bt x (4 * j + 2)) (bt x (4 * j + 3))
  unfold nb
  match r, hr with
  | 0, _ => exact h0
  | 1, _ => exact h1
  | 2, _ => exact h2
  | 3, _ => exact h3
  | r + 4, h => omega
theorem bit_all : (List.range 8).all (fun j => (List.range 4).all (fun r => (List.range 32).all (fun k => bt ((1 : Int32) <<< ((((4 : Int32) * nI j) + nI r) &&& 31)) k == (k == 4 * j + r)))) = true := by decide +kernel
theorem bit_0 {x : Int32} {j r : Nat} (hj : j < 8) (hr : r < 4) : (x &&& ((1 : Int32) <<< ((((4 : Int32) * nI j) + nI r) &&& 31))) = 0 ↔ (nb x j).testBit r = false := by
  have h := bit_all
  simp only [List.all_eq_true, List.mem_range, beq_iff_eq] at h
  have hb := h j hj r hr
  rw [nb_bit x j hr]
  constructor
  · intro h0
    have h1 : bt (x &&& ((1 : Int32) <<< ((((4 : Int32) * nI j) + nI r) &&& 31))) (4 * j + r) = false := by rw [h0, b_0]
    rw [b_and, hb (4 * j + r) (by omega)] at h1
    simpa using h1
  · intro h0
    apply b_ext
    intro k hk
    rw [b_and, hb k hk, b_0]
    by_cases hkj : k = 4 * j + r
    · rw [hkj, h0]; rfl
    · simp [hkj]
theorem vA_le {n : Nat} {q : PL} {bl : List Nat} {S : Nat → Nat} {dir : Bool} (hn : n ≤ 6) (h : FO n q bl) {j : Nat} (hj : j < q.length) (r : Nat) : vA q bl S dir j r ≤ 2000 := by
  have hv : vA q bl S dir j = if (q.getD j (0, 0)).1 < 6 then lfc 1000 (S (q.getD j (0, 0)).1) else (fun r => dnC 1000 dir (vA q bl S dir (bl.getD j 0)) r + dnC 1000 dir (vA q bl S dir (bl.getD j 0 + 1)) r) := evA_eq (z := (fun _ => 0 : Nat → Nat)) (lf := fun x => lfc 1000 (S x)) (kn := fun _ a b => fun r => dnC 1000 dir a r + dnC 1000 dir b r) hj (h.ev hn hj)
  rw [hv]
  split
  · unfold lfc; split <;> omega
  · have := dnC_le 1000 dir (vA q bl S dir (bl.getD j 0)) r
    have := dnC_le 1000 dir (vA q bl S dir (bl.getD j 0 + 1)) r
    dsimp only
    omega
theorem costOf_eq {σ : Mem} {n : Nat} {q : PL} {bl : List Nat} {c r j : Nat} {S : Nat → Nat} (hn : n ≤ 6) (h : FO n q bl) (hq : Bd q) (hD : DeC σ q bl) (hl : q.length ≤ 11) (hc : c < q.length) (hr : r < 4) (hj : j < 8) (hS : ∀ x, x < 6 → S x = nb (σ 42 x) j)
    (hv : ∀ i, c < i → i < q.length → ∀ r, r < 4 → σ 40 (4 * i + r) = nI (vA q bl S true i r)) : fX0_costOf (nI c) (nI r) (nI j) σ = some (nI (vA q bl S true c r), σ) := by
  have hb := hq.at hc
  have hev : vA q bl S true c = if (q.getD c (0, 0)).1 < 6 then lfc 1000 (S (q.getD c (0, 0)).1) else (fun r => dnC 1000 true (vA q bl S true (bl.getD c 0)) r + dnC 1000 true (vA q bl S true (bl.getD c 0 + 1)) r) := evA_eq (z := (fun _ => 0 : Nat → Nat)) (lf := fun x => lfc 1000 (S x)) (kn := fun _ a b => fun r => dnC 1000 true a r + dnC 1000 true b r) hc (h.ev hn hc)
  unfold fX0_costOf
  rw [at_in (by omega) (by decide), bnd_eq, show σ (31 + 1) c = nI (q.getD c (0, 0)).1 from (hD.1.2 c hc).1]
  by_cases hlf : (q.getD c (0, 0)).1 < 6
  · rw [if_neg (show ¬ (6 : Int32) ≤ nI (q.getD c (0, 0)).1 from nle_n (a := 6) hlf (by decide)), at_in hlf (by decide), bnd_eq]
    rw [if_pos hlf] at hev
    unfold fX8_bitOf
    rw [bnd_eq, hev]
    unfold lfc
    rw [hS _ hlf]
    by_cases hz : (nb (σ 42 (q.getD c (0, 0)).1) j).testBit r = false
    · rw [if_pos ((bit_0 hj hr).mpr hz), if_neg (by rw [hz]; decide)]
      rfl
    · rw [if_neg (fun x => hz ((bit_0 hj hr).mp x)), if_pos (by simpa using hz)]
      rfl
  · obtain ⟨b1, b2, -⟩ := h.kn hn hc hlf
    have hbl : σ (35 + 1) c = nI (bl.getD c 0) := hD.2 c hc (by omega)
    rw [if_neg hlf] at hev
    rw [if_pos (show (6 : Int32) ≤ nI (q.getD c (0, 0)).1 from le_n (a := 6) (by omega) (by omega)), at_in (by omega) (by decide), bnd_eq, hbl, costDown_eq (V := vA q bl S true (bl.getD c 0)) (by omega) hr (fun q2 hq2 => ⟨hv _ (by omega) (by omega) q2 hq2, by have := vA_le (S := S) (dir := true) hn h (j := bl.getD c 0) (by omega) q2; omega⟩), bnd_eq, at_in (by omega) (by decide), bnd_eq, hbl, one_n, costDown_eq (V := vA q bl S true (bl.getD c 0 + 1)) (by omega) hr (fun q2 hq2 => ⟨hv _ (by omega) b2 q2 hq2, by have := vA_le (S := S) (dir := true) hn h (j := bl.getD c 0 + 1) b2 q2; omega⟩), bnd_eq, add_n, hev]
def mnP (cap : Nat) (c : Nat → Nat) : Nat → Nat
  | 0 => cap
  | i + 1 => min (mnP cap c i) (c i)
theorem mnP_le (cap : Nat) (c : Nat → Nat) : ∀ i, mnP cap c i ≤ cap := by
  intro i
  induction i with
  | zero => exact Nat.le_refl _
  | succ i ih => exact Nat.le_trans (Nat.min_le_left _ _) ih
theorem costAt_eq {σ : Mem} {n : Nat} {q : PL} {bl : List Nat} {j : Nat} {S : Nat → Nat} (hn : n ≤ 6) (h : FO n q bl) (h2 : 2 ≤ n) (hq : Bd q) (hD : DeC σ q bl) (hj : j < 8) (hS : ∀ x, x < 6 → S x = nb (σ 42 x) j) : ∃ σ', fX0_costAt (nI j) σ = some (nI (mn4 1000 (vA q bl S true 0)), σ') ∧ Keep (nC [40]) σ σ' := by
  have hql := h.1
  have hl : q.length ≤ 11 := by omega
  obtain ⟨σ2, ⟨-, h1, hK⟩, e⟩ := down_k (fun f c (s : Mem) => LX0_costAt_7 (fun σ7 => LX0_costAt_61 (fun x3 σ11 => some (x3, σ11)) 300 1000 0 σ7) f (nI j) (xm c) s) (fun c s => c ≤ q.length ∧ (∀ i, c ≤ i → i < q.length → ∀ r, r < 4 → s 40 (4 * i + r) = nI (vA q bl S true i r)) ∧ Keep (nC [40]) σ s) (fun σ7 => LX0_costAt_61 (fun x3 σ11 => some (x3, σ11)) 300 1000 0 σ7)
    (fun f c s hI => by
      obtain ⟨hc, hv, hK⟩ := hI
      have hcl : c < q.length := by omega
      obtain ⟨s2, ⟨g1, g2⟩, e2⟩ := up_k (fun f2 r (s : Mem) => LX0_costAt_14 (fun x1 x3 σ6 => LX0_costAt_7 (fun σ7 => LX0_costAt_61 (fun x3 σ11 => some (x3, σ11)) 300 1000 0 σ7) f x1 (x3 + (-1)) σ6) f2 (nI j) (nI c) (nI r) s) 4 (fun k s' => ((∀ r, r < k → s' 40 (4 * c + r) = nI (vA q bl S true c r)) ∧ (∀ i, c < i → i < q.length → ∀ r, r < 4 → s' 40 (4 * i + r) = nI (vA q bl S true i r))) ∧ Keep (nC [40]) σ s') (fun s' => LX0_costAt_7 (fun σ7 => LX0_costAt_61 (fun x3 σ11 => some (x3, σ11)) 300 1000 0 σ7) f (nI j) (xm c) s')
        (fun f2 r s' hr hI2 => by
          obtain ⟨⟨i1, i2⟩, i3⟩ := hI2
          have hD' : DeC s' q bl := ⟨hD.1.keep i3 (fun _ => rfl) (fun _ => rfl) rfl, fun z hz hz2 => by rw [i3 36 z rfl]; exact hD.2 z hz hz2⟩
          have hix : (nI c * 4 + nI r : Int32) = nI (4 * c + r) := by rw [show (4 : Int32) = nI 4 from rfl, mul_n, add_n, Nat.mul_comm]
          refine ⟨stm s' 40 (4 * c + r) (nI (vA q bl S true c r)), ⟨⟨fun r2 hr2 => ?_, fun i hi1 hi2 r2 hr2 => ?_⟩, i3.st rfl⟩, ?_⟩
          · by_cases hrr : r2 = r
            · subst hrr; rw [stm_v]
            · rw [stm_k (by omega)]; exact i1 r2 (by omega)
          · rw [stm_k (by omega)]; exact i2 i hi1 hi2 r2 hr2
          · show BX0_costAt_14 _ _ (nI j) (nI c) (nI r) s' = _
            unfold BX0_costAt_14
            rw [if_neg (show ¬ (4 : Int32) ≤ nI r from nle_n (a := 4) hr (by decide)), costOf_eq hn h hq hD' hl hcl hr hj (fun x hx => by rw [i3 42 x rfl]; exact hS x hx) i2, bnd_eq, hix, put_in (by omega) (by decide), bnd_eq, one_n])
        (fun f2 s' _ => by
          show BX0_costAt_14 _ _ (nI j) (nI c) (nI 4) s' = _
          unfold BX0_costAt_14
          rw [if_pos (show (4 : Int32) ≤ nI 4 from le_n (Nat.le_refl 4) (by decide))]
          dsimp only
          rw [xm_m])
        0 s 300 (by omega) (by omega) ⟨⟨fun r hr => absurd hr (Nat.not_lt_zero r), fun i hi1 hi2 => hv i (by omega) hi2⟩, hK⟩
      refine ⟨s2, ⟨by omega, fun i hi1 hi2 r hr => ?_, g2⟩, ?_⟩
      · by_cases hic : i = c
        · subst hic; exact g1.1 r hr
        · exact g1.2 i (by omega) hi2 r hr
      · rw [xm_s]
        show BX0_costAt_7 _ _ (nI j) (nI c) s = _
        unfold BX0_costAt_7
        rw [if_neg (nI_pos (by omega))]
        exact e2)
    (fun f s _ => by
      show BX0_costAt_7 _ _ (nI j) (xm 0) s = _
      unfold BX0_costAt_7
      rw [if_pos xm_0])
    q.length σ 300 (by omega) ⟨Nat.le_refl _, fun i h1 h2 => by omega, Keep.rf⟩
  have e3 := up_f (fun f i (a : Int32 × Mem) => LX0_costAt_61 (fun x3 σ11 => some (x3, σ11)) f a.1 (nI i) a.2) 4 (fun i => (nI (mnP 1000 (vA q bl S true 0) i), σ2)) (fun a => some (a.1, a.2))
    (fun f i hi => by
      show BX0_costAt_61 _ _ (nI (mnP 1000 (vA q bl S true 0) i)) (nI i) σ2 = _
      unfold BX0_costAt_61
      have h0 : σ2 (39 + 1) i = nI (vA q bl S true 0 i) := by
        have := h1 0 (Nat.zero_le _) (by omega) i hi
        rw [Nat.mul_zero, Nat.zero_add] at this
        exact this
      have hle := mnP_le 1000 (vA q bl S true 0) i
      have hvl := vA_le (S := S) (dir := true) hn h (j := 0) (by omega) i
      rw [if_neg (show ¬ (4 : Int32) ≤ nI i from nle_n (a := 4) hi (by decide)), at_in (by omega) (by decide), bnd_eq, h0]
      dsimp only [letv]
      rw [mn_n (by omega) (by omega), one_n]
      rfl)
    (fun f => by
      show BX0_costAt_61 _ _ _ (nI 4) σ2 = _
      unfold BX0_costAt_61
      rw [if_pos (show (4 : Int32) ≤ nI 4 from le_n (Nat.le_refl 4) (by decide))])
    0 300 (by omega) (by omega)
  refine ⟨σ2, ?_, hK⟩
  unfold fX0_costAt
  dsimp only [letv]
  rw [hD.1.1]
  exact e.trans e3
/-- the directed cost of a tree and an edge, all places -/
def dcs (n p t e : Nat) (R : Nat → Nat → Nat) : Nat := sumR (fun j => mn4 1000 (vA (fol0 (edg 6 n t) e).1 (fol0 (edg 6 n t) e).2 (fun x => LSt n p R x j) true 0)) p
theorem vA_congr {q : PL} {bl : List Nat} {S S' : Nat → Nat} {dir : Bool} (h : ∀ x, x < 6 → S x = S' x) : vA q bl S dir = vA q bl S' dir := by
  unfold vA
  exact evA_congr (fun x hx => by rw [h x hx])
theorem costFrom_eq (hT : TreeOK) {σ : Mem} {n p t e : Nat} {R : Nat → Nat → Nat} (hC : CC σ n p R) (ht : t < TN n) (h2 : 2 ≤ n) (he : e < eN n) (hE : EdG 27 29 25 2 σ (edg 6 n t)) (hS : ∀ x, x < 6 → ∀ i, i < 8 → nb (σ 42 x) i = LSt n p R x i) : ∃ σ', fX8_costFrom (nI e) σ = some (nI (dcs n p t e R), σ') ∧ Keep (nC [30, 32, 34, 36, 40]) σ σ' := by
  have hn := hC.2.2.1
  have hp := hC.2.2.2.1
  have hfo := dir_fo hT h2 hn ht he
  have hl := edg_len 6 n t
  have h9 := eN_le hn
  obtain ⟨σ1, b1, b2, b3⟩ := follow_eq hE (Bd.edg (Nat.le_refl 6) hn ht) (by omega) (show e < (edg 6 n t).length by omega) (by have := hfo.1; omega)
  have hbq := fol0_bd hn ht he
  obtain ⟨a', ⟨g1, g2⟩, e2⟩ := up_k (fun f i (a : Nat × Mem) => LX8_costFrom_16 (fun x2 σ6 => some (x2, σ6)) f (nI a.1) (nI i) a.2) p (fun k a => a.1 = sumR (fun j => mn4 1000 (vA (fol0 (edg 6 n t) e).1 (fol0 (edg 6 n t) e).2 (fun x => LSt n p R x j) true 0)) k ∧ Keep (nC [40]) σ1 a.2) (fun a => some (nI a.1, a.2))
    (fun f k a hk hI => by
      obtain ⟨acc, s⟩ := a
      obtain ⟨i1, i2⟩ := hI
      dsimp only at i1 i2 ⊢
      have hD' : DeC s (fol0 (edg 6 n t) e).1 (fol0 (edg 6 n t) e).2 := ⟨b2.1.keep i2 (fun _ => rfl) (fun _ => rfl) rfl, fun z hz hz2 => by rw [i2 36 z rfl]; exact b2.2 z hz hz2⟩
      obtain ⟨s2, c1, c2⟩ := costAt_eq (S := fun x => LSt n p R x k) (j := k) hn hfo h2 hbq hD' (by omega) (fun x hx => by rw [i2 42 x rfl, b3 42 x rfl]; exact (hS x hx k (by omega)).symm)
      refine ⟨(acc + mn4 1000 (vA (fol0 (edg 6 n t) e).1 (fol0 (edg 6 n t) e).2 (fun x => LSt n p R x k) true 0), s2), ⟨by dsimp only; rw [i1]; rfl, i2.tr c2⟩, ?_⟩
      show BX8_costFrom_16 _ _ (nI acc) (nI k) s = _
      unfold BX8_costFrom_16
      rw [i2 4 2 rfl, b3 4 2 rfl, hC.2.1, if_neg (nle_n hk (by omega)), c1, bnd_eq]
      dsimp only [letv]
      rw [add_n, one_n])
    (fun f a hI => by
      show BX8_costFrom_16 _ _ (nI a.1) (nI p) a.2 = _
      unfold BX8_costFrom_16
      rw [hI.2 4 2 rfl, b3 4 2 rfl, hC.2.1, if_pos (le_n (Nat.le_refl p) (by omega))])
    0 (0, σ1) 300 (by omega) (by omega) ⟨rfl, Keep.rf⟩
  refine ⟨a'.2, ?_, (b3.mono (nC_mono (by decide))).tr (g2.mono (nC_mono (by decide)))⟩
  unfold fX8_costFrom
  rw [b1, bnd_eq]
  rw [show LX8_costFrom_16 (fun x2 σ6 => some (x2, σ6)) 300 0 0 σ1 = some (nI a'.1, a'.2) from e2, g1]
  rfl
