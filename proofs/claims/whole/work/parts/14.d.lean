/-! the class's changesOver, setsOf, loadSets, changesOf -/
theorem down_k {α : Type} (L : Nat → Nat → α → O) (I : Nat → α → Prop) (k : α → O)
    (hs : ∀ (f c : Nat) (a : α), I (c + 1) a → ∃ a', I c a' ∧ L (f + 1) (c + 1) a = L f c a')
    (he : ∀ (f : Nat) (a : α), I 0 a → L (f + 1) 0 a = k a) : ∀ (c : Nat) (a : α) (f : Nat), c < f → I c a → ∃ a', I 0 a' ∧ L f c a = k a' := by
  intro c
  induction c with
  | zero =>
    intro a f hf h
    obtain ⟨f, rfl⟩ : ∃ g, f = g + 1 := ⟨f - 1, by omega⟩
    exact ⟨a, h, he f a h⟩
  | succ c ih =>
    intro a f hf h
    obtain ⟨f, rfl⟩ : ∃ g, f = g + 1 := ⟨f - 1, by omega⟩
    obtain ⟨a', h1, h2⟩ := hs f c a h
    obtain ⟨a2, h3, h4⟩ := ih a' f (by omega) h1
    exact ⟨a2, h3, by rw [h2, h4]⟩
def xm (c : Nat) : Int32 := nI c - 1
theorem xm_s (c : Nat) : xm (c + 1) = nI c := by
  unfold xm
  rw [show (1 : Int32) = nI 1 from rfl, pk_sub (by omega)]
  rfl
theorem xm_m (c : Nat) : nI c + (-1) = xm c := by
  cases c with
  | zero => rfl
  | succ c => rw [xm_s, pk_m1]
theorem xm_0 : xm 0 < 0 := by decide
def epI (x : Int32) : Int32 := (((x ||| ush x 1) ||| ush (x ||| ush x 1) 2) ^^^ (-1)) &&& 286331153
theorem ep_eq (x : Int32) (σ : Mem) : fX0_emptyPlaces x σ = some (epI x, σ) := rfl
def cmbI (l r : Int32) : Int32 := (l &&& r) ||| ((l ||| r) &&& (epI (l &&& r) * 15))
theorem cmbI_nb (l r : Int32) {j : Nat} (hj : j < 8) : nb (cmbI l r) j = fitS (nb l j) (nb r j) := by
  obtain ⟨y, hy, h1, h2⟩ := empty_eq (l &&& r) (fun _ _ => 0)
  have e : epI (l &&& r) = nI (spr y) := (Prod.mk.inj (Option.some.inj ((ep_eq _ _).symm.trans h2))).1
  unfold cmbI
  rw [e]
  exact cmb_nb hy h1 hj
theorem epI_pc (l r : Int32) : bitC (epI (l &&& r)) = nI (pcK l r) := by
  obtain ⟨y, hy, h1, h2⟩ := empty_eq (l &&& r) (fun _ _ => 0)
  have e : epI (l &&& r) = nI (spr y) := (Prod.mk.inj (Option.some.inj ((ep_eq _ _).symm.trans h2))).1
  rw [e]
  exact par_eq hy h1
def sI (q : PL) (bl : List Nat) (CS : Nat → Int32) : Nat → Int32 := evA q bl 0 CS (fun _ a b => cmbI a b)
def pcA (q : PL) (bl : List Nat) (CS : Nat → Int32) (j : Nat) : Nat := if 6 ≤ (q.getD j (0, 0)).1 then pcK (sI q bl CS (bl.getD j 0)) (sI q bl CS (bl.getD j 0 + 1)) else 0
theorem changesOver_eq {σ : Mem} {n : Nat} {q : PL} {bl : List Nat} (hn : n ≤ 6) (h : FO n q bl) (hq : Bd q) (hD : DeC σ q bl) (hl : q.length ≤ 11) : ∃ σ', fX0_changesOver σ = some (nI (sumR (pcA q bl (σ 42)) q.length), σ') ∧ Keep (nC [38]) σ σ' := by
  obtain ⟨a', ⟨h0, h1, h2⟩, e⟩ := down_k (fun f c (a : Nat × Mem) => LX0_changesOver_9 (fun x2 σ24 => some (x2, σ24)) f (nI a.1) (xm c) a.2) (fun c a => c ≤ q.length ∧ (a.1 + sumR (pcA q bl (σ 42)) c = sumR (pcA q bl (σ 42)) q.length ∧ ∀ j, c ≤ j → j < q.length → a.2 38 j = sI q bl (σ 42) j) ∧ Keep (nC [38]) σ a.2) (fun a => some (nI a.1, a.2))
    (fun f c a hI => by
      obtain ⟨acc, σ'⟩ := a
      obtain ⟨hc, ⟨hs, hv⟩, hK⟩ := hI
      dsimp only at hs hv hK ⊢
      have hcl : c < q.length := by omega
      have hb := hq.at hcl
      have hev : sI q bl (σ 42) c = if (q.getD c (0, 0)).1 < 6 then σ 42 (q.getD c (0, 0)).1 else cmbI (sI q bl (σ 42) (bl.getD c 0)) (sI q bl (σ 42) (bl.getD c 0 + 1)) := evA_eq (z := (0 : Int32)) (lf := σ 42) (kn := fun _ a b => cmbI a b) hcl (h.ev hn hcl)
      have hsum : sumR (pcA q bl (σ 42)) (c + 1) = sumR (pcA q bl (σ 42)) c + pcA q bl (σ 42) c := rfl
      have hn1 : σ' (31 + 1) c = nI (q.getD c (0, 0)).1 := by
        rw [show σ' (31 + 1) c = σ 32 c from hK 32 c rfl]
        exact (hD.1.2 c hcl).1
      have hstep : ∀ X : O, (LX0_changesOver_9 (fun x2 σ24 => some (x2, σ24)) (f + 1) (nI acc) (xm (c + 1)) σ' = X) = (BX0_changesOver_9 (fun x2 σ24 => some (x2, σ24)) (LX0_changesOver_9 (fun x2 σ24 => some (x2, σ24)) f) (nI acc) (nI c) σ' = X) := by intro X; rw [xm_s]; rfl
      unfold BX0_changesOver_9 at hstep
      rw [if_neg (nI_pos (by omega)), at_in (by omega) (by decide), bnd_eq, hn1] at hstep
      by_cases hlf : (q.getD c (0, 0)).1 < 6
      · rw [if_neg (show ¬ (6 : Int32) ≤ nI (q.getD c (0, 0)).1 from nle_n (a := 6) hlf (by decide)), at_in hlf (by decide), bnd_eq, put_in (by omega) (by decide), bnd_eq, xm_m] at hstep
        rw [if_pos hlf] at hev
        refine ⟨(acc, stm σ' 38 c (σ' 42 (q.getD c (0, 0)).1)), ⟨by omega, ⟨?_, fun j hj1 hj2 => ?_⟩, hK.st rfl⟩, ?_⟩
        · rw [hsum] at hs
          have : pcA q bl (σ 42) c = 0 := by unfold pcA; rw [if_neg (by omega)]
          dsimp only
          omega
        · dsimp only
          by_cases hjc : j = c
          · subst hjc
            rw [stm_v, hK 42 _ rfl, hev]
          · rw [stm_k hjc]
            exact hv j (by omega) hj2
        · rw [hstep]
      · obtain ⟨b1, b2, -⟩ := h.kn hn hcl hlf
        have hbl : ∀ σ'' : Mem, σ'' = σ' → σ'' (35 + 1) c = nI (bl.getD c 0) := by
          intro σ'' e
          rw [e, show σ' (35 + 1) c = σ 36 c from hK 36 c rfl]
          exact hD.2 c hcl (by omega)
        rw [if_pos (show (6 : Int32) ≤ nI (q.getD c (0, 0)).1 from le_n (a := 6) (by omega) (by omega)), at_in (by omega) (by decide), bnd_eq, hbl σ' rfl, at_in (by omega) (by decide), bnd_eq, at_in (by omega) (by decide), bnd_eq, hbl σ' rfl, one_n, at_in (by omega) (by decide), bnd_eq] at hstep
        have v1 : σ' (37 + 1) (bl.getD c 0) = sI q bl (σ 42) (bl.getD c 0) := hv _ (by omega) (by omega)
        have v2 : σ' (37 + 1) (bl.getD c 0 + 1) = sI q bl (σ 42) (bl.getD c 0 + 1) := hv _ (by omega) (by omega)
        rw [v1, v2] at hstep
        rw [if_neg hlf] at hev
        have hpc : pcA q bl (σ 42) c = pcK (sI q bl (σ 42) (bl.getD c 0)) (sI q bl (σ 42) (bl.getD c 0 + 1)) := by unfold pcA; rw [if_pos (by omega)]
        generalize hlv : sI q bl (σ 42) (bl.getD c 0) = lv at *
        generalize hrv : sI q bl (σ 42) (bl.getD c 0 + 1) = rv at *
        refine ⟨(acc + pcK lv rv, stm σ' 38 c (cmbI lv rv)), ⟨by omega, ⟨?_, fun j hj1 hj2 => ?_⟩, hK.st rfl⟩, ?_⟩
        · rw [hsum] at hs
          dsimp only
          omega
        · dsimp only
          by_cases hjc : j = c
          · subst hjc
            rw [stm_v, hev]
          · rw [stm_k hjc]
            exact hv j (by omega) hj2
        · rw [hstep]
          dsimp only [letv]
          rw [ep_eq, bnd_eq, bitC_eq, bnd_eq, epI_pc]
          show bnd (fX5_put 37 11 (nI c) (cmbI lv rv) σ') (fun r18 σ19 => LX0_changesOver_9 _ f (nI acc + nI (pcK lv rv)) (nI c + (-1)) σ19) = _
          rw [put_in (by omega) (by decide), bnd_eq, add_n, xm_m])
    (fun f a hI => by
      show BX0_changesOver_9 _ _ (nI a.1) (xm 0) a.2 = _
      unfold BX0_changesOver_9
      rw [if_pos xm_0])
    q.length (0, σ) 300 (by omega) ⟨Nat.le_refl _, ⟨by dsimp only; omega, fun j h1 h2 => by omega⟩, Keep.rf⟩
  refine ⟨a'.2, ?_, h2⟩
  have h3 : a'.1 = sumR (pcA q bl (σ 42)) q.length := by
    have := h1.1
    show a'.1 = _
    have z : sumR (pcA q bl (σ 42)) 0 = 0 := rfl
    omega
  unfold fX0_changesOver
  show LX0_changesOver_9 _ 300 0 (σ 30 5 - 1) σ = _
  rw [hD.1.1, ← h3]
  exact e
theorem evA_congr {α : Type} {q : PL} {bl : List Nat} {z : α} {lf lf' : Nat → α} {kn : Nat → α → α → α} (h : ∀ x, x < 6 → lf x = lf' x) : evA q bl z lf kn = evA q bl z lf' kn := by
  unfold evA
  generalize q.length = k
  suffices H : ∀ k, evG q bl z lf kn k = evG q bl z lf' kn k from H k
  intro k
  induction k with
  | zero => rfl
  | succ k ih =>
    funext j
    show (if j = q.length - 1 - k then _ else _) = (if j = q.length - 1 - k then _ else _)
    rw [ih]
    by_cases h1 : j = q.length - 1 - k
    · rw [if_pos h1, if_pos h1]
      by_cases h2 : (q.getD j (0, 0)).1 < 6
      · rw [if_pos h2, if_pos h2, h _ h2]
      · rw [if_neg h2, if_neg h2]
    · rw [if_neg h1, if_neg h1]
theorem sI_nb {n : Nat} {q : PL} {bl : List Nat} {CS : Nat → Int32} (hn : n ≤ 6) (h : FO n q bl) {i : Nat} (hi : i < 8) : ∀ (d j : Nat), q.length - j ≤ d → j < q.length → nb (sI q bl CS j) i = fA q bl (fun x => nb (CS x) i) j := by
  intro d
  induction d with
  | zero => intro j h1 h2; omega
  | succ d ih =>
    intro j h1 h2
    have e1 : sI q bl CS j = if (q.getD j (0, 0)).1 < 6 then CS (q.getD j (0, 0)).1 else cmbI (sI q bl CS (bl.getD j 0)) (sI q bl CS (bl.getD j 0 + 1)) := evA_eq (z := (0 : Int32)) (lf := CS) (kn := fun _ a b => cmbI a b) h2 (h.ev hn h2)
    have e2 : fA q bl (fun x => nb (CS x) i) j = if (q.getD j (0, 0)).1 < 6 then nb (CS (q.getD j (0, 0)).1) i else fitS (fA q bl (fun x => nb (CS x) i) (bl.getD j 0)) (fA q bl (fun x => nb (CS x) i) (bl.getD j 0 + 1)) := evA_eq (z := (0 : Nat)) (lf := fun x => nb (CS x) i) (kn := fun _ a b => fitS a b) h2 (h.ev hn h2)
    by_cases hlf : (q.getD j (0, 0)).1 < 6
    · rw [e1, e2, if_pos hlf, if_pos hlf]
    · obtain ⟨b1, b2, -⟩ := h.kn hn h2 hlf
      rw [e1, e2, if_neg hlf, if_neg hlf, cmbI_nb _ _ hi, ih _ (by omega) (by omega), ih _ (by omega) b2]
theorem filt_sum (p : Nat → Bool) (f : Nat → Nat) : ∀ n, (((List.range n).filter p).map f).sum = sumR (fun j => if p j then f j else 0) n := by
  intro n
  induction n with
  | zero => rfl
  | succ n ih =>
    rw [List.range_succ, List.filter_append, List.map_append, List.sum_append, ih]
    show _ = sumR _ n + (if p n then f n else 0)
    congr 1
    by_cases h : p n = true
    · simp [h]
    · simp [h]
theorem pcA_sum {n : Nat} {q : PL} {bl : List Nat} {CS : Nat → Int32} (hn : n ≤ 6) (h : FO n q bl) : sumR (pcA q bl CS) q.length = sumR (fun i => chK q bl (fun x => nb (CS x) i)) 8 := by
  have e : ∀ i, i < 8 → chK q bl (fun x => nb (CS x) i) = sumR (fun j => if decide (6 ≤ (q.getD j (0, 0)).1) then fitK (nb (sI q bl CS (bl.getD j 0)) i) (nb (sI q bl CS (bl.getD j 0 + 1)) i) else 0) q.length := by
    intro i hi
    unfold chK
    rw [filt_sum]
    apply sumR_congr
    intro j hj
    by_cases hk : 6 ≤ (q.getD j (0, 0)).1
    · obtain ⟨b1, b2, -⟩ := h.kn hn hj (by omega)
      rw [if_pos (by simpa using hk), if_pos (by simpa using hk), sI_nb hn h hi q.length _ (by omega) (by omega), sI_nb hn h hi q.length _ (by omega) b2]
      rfl
    · rw [if_neg (by simpa using hk), if_neg (by simpa using hk)]
  rw [sumR_congr e, ← sumR_comm]
  apply sumR_congr
  intro j hj
  unfold pcA
  by_cases hk : 6 ≤ (q.getD j (0, 0)).1
  · rw [if_pos hk]
    unfold pcK
    apply sumR_congr
    intro i hi
    rw [if_pos (by simpa using hk)]
  · rw [if_neg hk]
    rw [sumR_congr (g := fun _ => 0) (fun i _ => by rw [if_neg (by simpa using hk)]), sumR_0]
/-- sets of readings -/
def lfS (v : Nat) : Nat := if v = 4 then 15 else 2 ^ v
def LSt (n p : Nat) (R : Nat → Nat → Nat) (x i : Nat) : Nat := if x < n ∧ i < p then lfS (R x i) else 15
theorem mask_all : (List.range 8).all (fun j => (List.range 8).all (fun i => (nb (((15 : Int32) <<< (((4 : Int32) * nI j) &&& 31)) ^^^ (-1)) i == if i = j then 0 else 15) && (List.range 4).all (fun v => nb ((((15 : Int32) <<< (((4 : Int32) * nI j) &&& 31)) ^^^ (-1)) ||| ((1 : Int32) <<< ((((4 : Int32) * nI j) + nI v) &&& 31))) i == if i = j then 2 ^ v else 15))) = true := by decide +kernel
theorem mask_nb {j i : Nat} (hj : j < 8) (hi : i < 8) : nb (((15 : Int32) <<< (((4 : Int32) * nI j) &&& 31)) ^^^ (-1)) i = (if i = j then 0 else 15) ∧ ∀ v, v < 4 → nb ((((15 : Int32) <<< (((4 : Int32) * nI j) &&& 31)) ^^^ (-1)) ||| ((1 : Int32) <<< ((((4 : Int32) * nI j) + nI v) &&& 31))) i = if i = j then 2 ^ v else 15 := by
  have h := mask_all
  simp only [List.all_eq_true, List.mem_range, Bool.and_eq_true, beq_iff_eq] at h
  obtain ⟨h1, h2⟩ := h j hj i hi
  exact ⟨h1, h2⟩
theorem m1_nb : ∀ i, i < 8 → nb (-1) i = 15 := by decide +kernel
theorem and15 {a : Nat} (h : a < 16) : a &&& 15 = a := by
  have := Nat.and_two_pow_sub_one_eq_mod a 4
  rw [show (2 : Nat) ^ 4 - 1 = 15 from rfl] at this
  rw [this]
  omega
theorem cc_at_no {σ : Mem} {n p : Nat} {R : Nat → Nat → Nat} (h : CC σ n p R) {x : Nat} {y : Int32} (hx : n ≤ x) (hx2 : x < 2 ^ 31) : fX4_at 4 (nI x) y σ = some (4, σ) := by
  unfold fX4_at fX4_has
  rw [cc_hasCopy_no h (Or.inr (nI_le hx hx2)), bnd_eq, if_pos rfl, bnd_eq, if_pos rfl]
theorem setsOf_eq {σ : Mem} {n p : Nat} {R : Nat → Nat → Nat} (h : CC σ n p R) {x : Nat} (hx : x < 6) : ∃ v, fX4_setsOf 4 (nI x) σ = some (v, σ) ∧ ∀ i, i < 8 → nb v i = LSt n p R x i := by
  have hp := h.2.2.2.1
  obtain ⟨a', ⟨h1, h2⟩, e⟩ := up_k (fun f i (a : Int32 × Mem) => LX4_setsOf_4 4 (fun x2 σ8 => some (x2, σ8)) f (nI x) a.1 (nI i) a.2) p (fun k a => (∀ i, i < 8 → nb a.1 i = LSt n k R x i) ∧ a.2 = σ) (fun a => some (a.1, a.2))
    (fun f k a hk hI => by
      obtain ⟨v, σ'⟩ := a
      obtain ⟨hv, hs⟩ := hI
      dsimp only at hv hs ⊢
      subst hs
      have hstep : ∀ X : O, (LX4_setsOf_4 4 (fun x2 σ8 => some (x2, σ8)) (f + 1) (nI x) v (nI k) σ' = X) = (BX4_setsOf_4 4 (fun x2 σ8 => some (x2, σ8)) (LX4_setsOf_4 4 (fun x2 σ8 => some (x2, σ8)) f) (nI x) v (nI k) σ' = X) := fun _ => rfl
      unfold BX4_setsOf_4 at hstep
      rw [h.2.1, if_neg (nle_n hk (by omega))] at hstep
      have same : (x < n → R x k = 4) → ∀ i, i < 8 → nb v i = LSt n (k + 1) R x i := by
        intro h4 i hi
        rw [hv i hi]
        unfold LSt
        by_cases hik : i = k
        · subst hik
          rw [if_neg (by omega)]
          by_cases hxn : x < n
          · rw [if_pos ⟨hxn, by omega⟩, h4 hxn]
            rfl
          · rw [if_neg (by omega)]
        · by_cases hxn : x < n ∧ i < k
          · rw [if_pos hxn, if_pos ⟨hxn.1, by omega⟩]
          · rw [if_neg hxn, if_neg (by omega)]
      by_cases hxn : x < n
      · have hr := (h.2.2.2.2 x hxn k hk).2
        rw [cc_at h hxn hk, bnd_eq] at hstep
        by_cases h4 : R x k = 4
        · rw [if_pos (show nI (R x k) = (4 : Int32) by rw [h4]; rfl)] at hstep
          exact ⟨(v, σ'), ⟨same (fun _ => h4), rfl⟩, by rw [hstep, one_n]⟩
        · rw [if_neg (show ¬ nI (R x k) = (4 : Int32) from ne_n (b := 4) h4 (by omega) (by decide))] at hstep
          refine ⟨(v &&& ((((15 : Int32) <<< (((4 : Int32) * nI k) &&& 31)) ^^^ (-1)) ||| ((1 : Int32) <<< ((((4 : Int32) * nI k) + nI (R x k)) &&& 31))), σ'), ⟨fun i hi => ?_, rfl⟩, by rw [hstep, ← one_n]; rfl⟩
          dsimp only
          rw [nb_and, (mask_nb (j := k) (by omega) hi).2 (R x k) (by omega), hv i hi]
          unfold LSt
          by_cases hik : i = k
          · subst hik
            rw [if_pos rfl, if_neg (by omega), if_pos ⟨hxn, by omega⟩, Nat.and_comm, and15 (by have : 2 ^ R x i ≤ 2 ^ 3 := Nat.pow_le_pow_right (by omega) (by omega); omega)]
            unfold lfS
            rw [if_neg h4]
          · rw [if_neg hik]
            by_cases hxk : x < n ∧ i < k
            · rw [if_pos hxk, if_pos ⟨hxk.1, by omega⟩, and15]
              unfold lfS
              have hr2 := (h.2.2.2.2 x hxn i (by omega)).2
              split
              · omega
              · have : 2 ^ R x i ≤ 2 ^ 3 := Nat.pow_le_pow_right (by omega) (by omega)
                omega
            · rw [if_neg hxk, if_neg (by omega)]
              rfl
      · rw [cc_at_no h (by omega) (by omega), bnd_eq, if_pos rfl] at hstep
        exact ⟨(v, σ'), ⟨same (fun z => absurd z hxn), rfl⟩, by rw [hstep, one_n]⟩)
    (fun f a hI => by
      show BX4_setsOf_4 4 _ _ (nI x) a.1 (nI p) a.2 = _
      unfold BX4_setsOf_4
      rw [hI.2, h.2.1, if_pos (le_n (Nat.le_refl p) (by omega))])
    0 (-1, σ) 300 (by omega) (by omega) ⟨fun i hi => by
      dsimp only
      rw [m1_nb i hi]
      unfold LSt
      rw [if_neg (by omega)], rfl⟩
  refine ⟨a'.1, ?_, h1⟩
  unfold fX4_setsOf
  rw [show LX4_setsOf_4 4 (fun x2 σ8 => some (x2, σ8)) 300 (nI x) (-1) 0 σ = some (a'.1, a'.2) from e, h2]
/-- the places that are asked for: all (none), or one -/
def LPt (n p : Nat) (R : Nat → Nat → Nat) (P : Option Nat) (x i : Nat) : Nat := match P with
  | none => LSt n p R x i
  | some j => if i = j then LSt n p R x i else 15
def plI (P : Option Nat) : Int32 := match P with
  | none => -1
  | some j => nI j
theorem LSt_lt {n p : Nat} {R : Nat → Nat → Nat} {σ : Mem} (h : CC σ n p R) (x i : Nat) : 0 < LSt n p R x i ∧ LSt n p R x i < 16 := by
  unfold LSt
  by_cases hx : x < n ∧ i < p
  · rw [if_pos hx]
    have := (h.2.2.2.2 x hx.1 i hx.2).2
    unfold lfS
    split
    · omega
    · have h1 : 2 ^ R x i ≤ 2 ^ 3 := Nat.pow_le_pow_right (by omega) (by omega)
      have h2 : 0 < 2 ^ R x i := Nat.pow_pos (by omega)
      omega
  · rw [if_neg hx]; omega
theorem or15 : ∀ a, a < 16 → a ||| 15 = 15 := by decide
theorem loadSets_eq {σ : Mem} {n p : Nat} {R : Nat → Nat → Nat} (h : CC σ n p R) {P : Option Nat} (hP : ∀ j, P = some j → j < 8) : ∃ σ', fX8_loadSets (plI P) σ = some (0, σ') ∧ (∀ x, x < 6 → ∀ i, i < 8 → nb (σ' 42 x) i = LPt n p R P x i) ∧ Keep (nC [42]) σ σ' := by
  obtain ⟨σ2, ⟨j1, j2⟩, e⟩ := up_k (fun f i (s : Mem) => LX8_loadSets_2 (fun σ8 => some (0, σ8)) f (plI P) (nI i) s) 6 (fun k s => (∀ x, x < k → ∀ i, i < 8 → nb (s 42 x) i = LPt n p R P x i) ∧ Keep (nC [42]) σ s) (fun s => some (0, s))
    (fun f k s hk hI => by
      obtain ⟨hI1, hI2⟩ := hI
      have hC : CC s n p R := ⟨by rw [hI2 4 1 rfl]; exact h.1, by rw [hI2 4 2 rfl]; exact h.2.1, h.2.2.1, h.2.2.2.1, fun i hi j hj => by rw [hI2 6 _ rfl]; exact h.2.2.2.2 i hi j hj⟩
      obtain ⟨v, v1, v2⟩ := setsOf_eq hC hk
      have hstep : ∀ X : O, (LX8_loadSets_2 (fun σ8 => some (0, σ8)) (f + 1) (plI P) (nI k) s = X) = (BX8_loadSets_2 (fun σ8 => some (0, σ8)) (LX8_loadSets_2 (fun σ8 => some (0, σ8)) f) (plI P) (nI k) s = X) := fun _ => rfl
      unfold BX8_loadSets_2 at hstep
      rw [if_neg (show ¬ (6 : Int32) ≤ nI k from nle_n (a := 6) hk (by decide)), v1, bnd_eq] at hstep
      have fin : ∀ w : Int32, (∀ i, i < 8 → nb w i = LPt n p R P k i) → (∀ x, x < k + 1 → ∀ i, i < 8 → nb (stm s 42 k w 42 x) i = LPt n p R P x i) ∧ Keep (nC [42]) σ (stm s 42 k w) := by
        intro w hw
        refine ⟨fun x hx i hi => ?_, hI2.st rfl⟩
        by_cases hxk : x = k
        · subst hxk
          rw [stm_v]
          exact hw i hi
        · rw [stm_k hxk]
          exact hI1 x (by omega) i hi
      cases P with
      | none =>
        refine ⟨stm s 42 k v, fin v v2, ?_⟩
        rw [hstep]
        dsimp only [jn]
        rw [if_pos (show plI none = (-1) from rfl), put_in hk (by decide), bnd_eq, one_n]
      | some j =>
        have hj := hP j rfl
        refine ⟨stm s 42 k (v ||| (((15 : Int32) <<< (((4 : Int32) * nI j) &&& 31)) ^^^ (-1))), fin _ (fun i hi => ?_), ?_⟩
        · rw [nb_or, (mask_nb hj hi).1, v2 i hi]
          show _ = if i = j then LSt n p R k i else 15
          by_cases hij : i = j
          · rw [if_pos hij, if_pos hij, Nat.or_zero]
          · rw [if_neg hij, if_neg hij, or15 _ (LSt_lt h k i).2]
        · rw [hstep]
          dsimp only [jn]
          rw [if_neg (show ¬ plI (some j) = (-1) from ne_neg (by decide) (by omega))]
          show bnd (fX5_put 41 6 (nI k) (v ||| (((15 : Int32) <<< (((4 : Int32) * nI j) &&& 31)) ^^^ (-1))) s) _ = _
          rw [put_in hk (by decide), bnd_eq, one_n])
    (fun f s hI => by
      show BX8_loadSets_2 _ _ (plI P) (nI 6) s = _
      unfold BX8_loadSets_2
      rw [if_pos (show (6 : Int32) ≤ nI 6 from le_n (Nat.le_refl 6) (by decide))])
    0 σ 300 (by omega) (by omega) ⟨fun x hx => absurd hx (Nat.not_lt_zero x), Keep.rf⟩
  exact ⟨σ2, e, j1, j2⟩
/-- the descents of the trees, root on edge 0 -/
def chg1 (n t : Nat) (S : Nat → Nat) : Nat := if n < 2 then 0 else chK (fol0 (edg 6 n t) 0).1 (fol0 (edg 6 n t) 0).2 S
theorem chK_congr {q : PL} {bl : List Nat} {S S' : Nat → Nat} (h : ∀ x, x < 6 → S x = S' x) : chK q bl S = chK q bl S' := by
  unfold chK incA fA
  rw [evA_congr (lf := S) (lf' := S') h]
theorem chg1_congr {n t : Nat} {S S' : Nat → Nat} (h : ∀ x, x < 6 → S x = S' x) : chg1 n t S = chg1 n t S' := by
  unfold chg1
  rw [chK_congr h]
/-- facts about all trees, from the tables -/
def TreeOK : Prop := ∀ n t, 2 ≤ n → n ≤ 6 → t < TN n → undOK n t = true ∧ ∀ e, e < eN n → dirOK n t e = true
theorem und_fo (hT : TreeOK) {n t : Nat} (h2 : 2 ≤ n) (hn : n ≤ 6) (ht : t < TN n) : FO n (fol0 (edg 6 n t) 0).1 (fol0 (edg 6 n t) 0).2 := by
  have h := (hT n t h2 hn ht).1
  unfold undOK at h
  simp only [Bool.and_eq_true] at h
  exact fo_of h.1.1.1.1
theorem dir_fo (hT : TreeOK) {n t e : Nat} (h2 : 2 ≤ n) (hn : n ≤ 6) (ht : t < TN n) (he : e < eN n) : FO n (fol0 (edg 6 n t) e).1 (fol0 (edg 6 n t) e).2 := by
  have h := (hT n t h2 hn ht).2 e he
  unfold dirOK at h
  simp only [Bool.and_eq_true] at h
  exact fo_of h.1
theorem fol_bd {es : PL} (hB : Bd es) (hl : es.length ≤ 9) : ∀ f i q bl, Bd q → Bd (fol es f i q bl).1 := by
  intro f
  induction f with
  | zero => intro i q bl h; exact h
  | succ f ih =>
    intro i q bl h
    unfold fol
    split
    · split
      · exact ih _ _ _ (h.app (hB.kids hl _ _))
      · exact ih _ _ _ h
    · exact h
theorem eN_le {n : Nat} (hn : n ≤ 6) : eN n ≤ 9 := by unfold eN; split <;> omega
theorem fol0_bd {n t e : Nat} (hn : n ≤ 6) (ht : t < TN n) (he : e < eN n) : Bd (fol0 (edg 6 n t) e).1 := by
  have hB := Bd.edg (b := 6) (Nat.le_refl 6) hn ht
  have hl : (edg 6 n t).length ≤ 9 := by rw [edg_len]; exact eN_le hn
  have hb := hB.at (i := e) (by rw [edg_len]; exact he)
  have h9 := eN_le hn
  refine fol_bd hB hl _ _ _ _ ?_
  intro x hx
  simp only [List.mem_cons, List.not_mem_nil, or_false] at hx
  rcases hx with z | z | z <;> rw [z] <;> dsimp only <;> omega
/-- a tree grown and followed from edge 0 -/
theorem laid_eq (hT : TreeOK) {σ : Mem} {n t : Nat} (hn : n ≤ 6) (ht : t < TN n) : ∃ σ1 σ', fX7_grow (nI t) (nI n) σ = some (0, σ1) ∧ fX0_follow 0 σ1 = some (0, σ') ∧ (2 ≤ n → DeC σ' (fol0 (edg 6 n t) 0).1 (fol0 (edg 6 n t) 0).2) ∧ (n < 2 → σ' 30 5 = 0) ∧ Keep (nC [25, 27, 29, 30, 32, 34, 36]) σ σ' := by
  obtain ⟨σ1, a1, a2, a3⟩ := grow_eq (σ := σ) hn ht
  have k1 : Keep (nC [25, 27, 29, 30, 32, 34, 36]) σ σ1 := a3.mono (nC_mono (by decide))
  by_cases h2 : 2 ≤ n
  · have hfo := und_fo hT h2 hn ht
    have he : 0 < eN n := by unfold eN; split <;> omega
    have hl := edg_len 6 n t
    have h9 := eN_le hn
    obtain ⟨σ2, b1, b2, b3⟩ := follow_eq (e := 0) a2 (Bd.edg (Nat.le_refl 6) hn ht) (by omega) (by omega) (by have := hfo.1; omega)
    exact ⟨σ1, σ2, a1, b1, fun _ => b2, fun h => by omega, k1.tr (b3.mono (nC_mono (by decide)))⟩
  · refine ⟨σ1, stm σ1 30 5 0, a1, ?_, fun h => absurd h h2, fun _ => stm_v _ _ _ _, k1.st rfl⟩
    unfold fX0_follow
    dsimp only [letm]
    have e0 : σ1 25 2 = nI 0 := by
      rw [a2.1, edg_len]
      unfold eN
      rw [if_pos (by omega)]
    rw [if_neg (by decide), stm_ne (by decide), e0, if_neg (show ¬ (0 : Int32) < nI 0 by decide)]
/-- what changesOver says of a laid tree -/
theorem over_eq (hT : TreeOK) {σ : Mem} {n t : Nat} (hn : n ≤ 6) (ht : t < TN n) (hD : 2 ≤ n → DeC σ (fol0 (edg 6 n t) 0).1 (fol0 (edg 6 n t) 0).2) (h0 : n < 2 → σ 30 5 = 0) : ∃ σ', fX0_changesOver σ = some (nI (sumR (fun i => chg1 n t (fun x => nb (σ 42 x) i)) 8), σ') ∧ Keep (nC [38]) σ σ' := by
  by_cases h2 : 2 ≤ n
  · have hfo := und_fo hT h2 hn ht
    have he : 0 < eN n := by unfold eN; split <;> omega
    obtain ⟨σ', b1, b2⟩ := changesOver_eq hn hfo (fol0_bd hn ht he) (hD h2) (by have := hfo.1; omega)
    refine ⟨σ', ?_, b2⟩
    rw [b1, pcA_sum hn hfo]
    congr 2
    congr 1
    apply sumR_congr
    intro i _
    unfold chg1
    rw [if_neg (show ¬ n < 2 by omega)]
  · refine ⟨σ, ?_, Keep.rf⟩
    unfold fX0_changesOver
    dsimp only [letv]
    rw [h0 (by omega), sumR_congr (g := fun _ => 0) (fun i _ => by unfold chg1; rw [if_pos (show n < 2 by omega)]), sumR_0]
    rfl
theorem changesOf_eq (hT : TreeOK) {σ : Mem} {n t : Nat} (hn : n ≤ 6) (ht : t < TN n) (hc : σ 4 1 = nI n) : ∃ σ', fX8_changesOf (nI t) σ = some (nI (sumR (fun i => chg1 n t (fun x => nb (σ 42 x) i)) 8), σ') ∧ (2 ≤ n → DeC σ' (fol0 (edg 6 n t) 0).1 (fol0 (edg 6 n t) 0).2) ∧ (n < 2 → σ' 30 5 = 0) ∧ Keep (nC [25, 27, 29, 30, 32, 34, 36, 38]) σ σ' := by
  obtain ⟨σ1, σ2, a1, a2, a3, a4, a5⟩ := laid_eq hT (σ := σ) hn ht
  obtain ⟨σ3, b1, b2⟩ := over_eq hT hn ht a3 a4
  refine ⟨σ3, ?_, fun h => ?_, fun h => by rw [b2 30 5 rfl]; exact a4 h, (a5.mono (nC_mono (by decide))).tr (b2.mono (nC_mono (by decide)))⟩
  · unfold fX8_changesOf
    rw [hc, a1, bnd_eq, a2, bnd_eq, b1, bnd_eq]
    have : ∀ x, σ2 42 x = σ 42 x := fun x => a5 42 x rfl
    congr 2
    congr 1
    apply sumR_congr
    intro i _
    congr 1
    funext x
    rw [this]
  · exact ⟨(a3 h).1.keep b2 (fun _ => rfl) (fun _ => rfl) rfl, fun j hj hk => by rw [b2 36 j rfl]; exact (a3 h).2 j hj hk⟩
