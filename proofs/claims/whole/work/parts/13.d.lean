/-! class's costs and the reference's are the same -/
def c0M (n : Nat) (S : Nat → Nat) : CV := fun x r => if x < n then lfc 9999 (S x) r else 0
def vA (q : PL) (bl : List Nat) (S : Nat → Nat) (dir : Bool) : CV := evA q bl (fun _ => 0) (fun x => lfc 1000 (S x)) (fun _ a b => fun r => dnC 1000 dir a r + dnC 1000 dir b r)
def NS (n : Nat) (S : Nat → Nat) : Prop := ∀ x, x < n → 0 < S x ∧ S x < 16
theorem rnm_leaf {n x : Nat} (hn : n ≤ 6) (h : x < n) : rnm n x = x := by
  unfold rnm
  rw [if_neg (by omega), if_neg (by omega)]
theorem FO.ev {n : Nat} {q : PL} {bl : List Nat} (h : FO n q bl) (hn : n ≤ 6) {j : Nat} (hj : j < q.length) : ¬ (q.getD j (0, 0)).1 < 6 → j < bl.getD j 0 ∧ bl.getD j 0 + 1 < q.length := fun hk => ⟨(h.kn hn hj hk).1, (h.kn hn hj hk).2.1⟩
theorem inv_dir {n : Nat} {q : PL} {bl : List Nat} {S : Nat → Nat} {dir : Bool} (hn : n ≤ 6) (h : FO n q bl) (hS : NS n S) : ∀ k, k ≤ q.length →
    (∀ j, j < q.length → q.length - k ≤ j → (∀ r, r < 4 → dnC 9999 dir (cK (dnC 9999 dir) n q bl (c0M n S) k (rnm n (q.getD j (0, 0)).1)) r = dnC 1000 dir (vA q bl S dir j) r ∧ dnC 1000 dir (vA q bl S dir j) r ≤ 2 * szA q bl j) ∧ (¬ (q.getD j (0, 0)).1 < 6 → ∀ r, r < 4 → cK (dnC 9999 dir) n q bl (c0M n S) k (rnm n (q.getD j (0, 0)).1) r = vA q bl S dir j r ∧ vA q bl S dir j r + 2 ≤ 2 * szA q bl j)) ∧
    (∀ j, j < q.length - k → cK (dnC 9999 dir) n q bl (c0M n S) k (rnm n (q.getD j (0, 0)).1) = c0M n S (rnm n (q.getD j (0, 0)).1)) := by
  intro k
  induction k with
  | zero =>
    intro _
    exact ⟨fun j h1 h2 => by omega, fun j _ => rfl⟩
  | succ k ih =>
    intro hk
    obtain ⟨ih1, ih2⟩ := ih (by omega)
    obtain ⟨s1, s2, s3⟩ := cK_step (dn := dnC 9999 dir) (c0 := c0M n S) hn h (k := k) (by omega)
    generalize hi : q.length - 1 - k = i at s1 s2 s3
    have hil : i < q.length := by omega
    have hv := evA_eq (z := (fun _ => 0 : Nat → Nat)) (lf := fun x => lfc 1000 (S x)) (kn := fun _ a b => fun r => dnC 1000 dir a r + dnC 1000 dir b r) hil (h.ev hn hil)
    have hz := evA_eq (z := (0 : Nat)) (lf := fun _ => 1) (kn := fun _ a b => a + b + 1) hil (h.ev hn hil)
    refine ⟨fun j hj1 hj2 => ?_, fun j hj => ?_⟩
    · by_cases hji : j = i
      · subst hji
        by_cases hlf : (q.getD j (0, 0)).1 < 6
        · refine ⟨fun r hr => ?_, fun x => absurd hlf x⟩
          have hx := h.lf hil hlf
          rw [s3 hlf, ih2 j (by omega)]
          have e1 : vA q bl S dir j = lfc 1000 (S (q.getD j (0, 0)).1) := by
            unfold vA
            rw [hv, if_pos hlf]
          have e2 : szA q bl j = 1 := by
            unfold szA
            rw [hz, if_pos hlf]
          have e3 : c0M n S (rnm n (q.getD j (0, 0)).1) = lfc 9999 (S (q.getD j (0, 0)).1) := by
            funext r
            rw [rnm_leaf hn hx]
            unfold c0M
            rw [if_pos hx]
          rw [e1, e2, e3]
          exact dn_leaf (hS _ hx).1 (hS _ hx).2 dir hr
        · obtain ⟨b1, b2, b3⟩ := h.kn hn hil hlf
          obtain ⟨p1, -⟩ := ih1 (bl.getD j 0) (by omega) (by omega)
          obtain ⟨p2, -⟩ := ih1 (bl.getD j 0 + 1) b2 (by omega)
          have e2 : szA q bl j = szA q bl (bl.getD j 0) + szA q bl (bl.getD j 0 + 1) + 1 := by
            unfold szA
            rw [hz, if_neg hlf]
          have hsz := (h.2.2.2 j hil).2.2.2
          have e1 : ∀ r, vA q bl S dir j r = dnC 1000 dir (vA q bl S dir (bl.getD j 0)) r + dnC 1000 dir (vA q bl S dir (bl.getD j 0 + 1)) r := by
            intro r
            unfold vA
            rw [hv, if_neg hlf]
          have e3 : ∀ r, r < 4 → cK (dnC 9999 dir) n q bl (c0M n S) (k + 1) (rnm n (q.getD j (0, 0)).1) r = vA q bl S dir j r := by
            intro r hr
            rw [s2 hlf r, ih2 j (by omega), e1 r, (p1 r hr).1, (p2 r hr).1]
            have : c0M n S (rnm n (q.getD j (0, 0)).1) r = 0 := by
              unfold c0M
              rw [if_neg (by omega)]
            rw [this, Nat.zero_add]
          have e4 : ∀ r, r < 4 → vA q bl S dir j r + 2 ≤ 2 * szA q bl j := by
            intro r hr
            rw [e1 r]
            have := (p1 r hr).2
            have := (p2 r hr).2
            omega
          refine ⟨fun r hr => ?_, fun _ r hr => ⟨e3 r hr, e4 r hr⟩⟩
          have h0 := e4 0 (by omega)
          obtain ⟨x1, x2⟩ := dn_small (c := cK (dnC 9999 dir) n q bl (c0M n S) (k + 1) (rnm n (q.getD j (0, 0)).1)) (c' := vA q bl S dir j) e3 (by omega) dir r
          exact ⟨x1, by omega⟩
      · rw [s1 j hj1 hji]
        exact ih1 j hj1 (by omega)
    · rw [s1 j (by omega) (by omega)]
      exact ih2 j (by omega)
theorem mn_small {c c' : Nat → Nat} (h : ∀ q, q < 4 → c q = c' q) (h0 : c' 0 ≤ 900) : mn4 9999 c = mn4 1000 c' := by
  unfold mn4
  rw [h 0 (by omega), h 1 (by omega), h 2 (by omega), h 3 (by omega), Nat.min_eq_right (show c' 0 ≤ 9999 by omega), Nat.min_eq_right (show c' 0 ≤ 1000 by omega)]
/-- the directed cost by the class is that by any plan of the same tree -/
theorem dir_eq {n : Nat} {q : PL} {bl : List Nat} {S : Nat → Nat} {p : PL} (hn : n ≤ 6) (hn2 : 2 ≤ n) (h : FO n q bl) (hS : NS n S) (hp : permOK p ((planQ q bl q.length).map (fun (a : Nat × Nat) => (rnm n a.1, rnm n a.2))) = true) :
    mn4 9999 (exP (dnC 9999 true) p (c0M n S) (2 * n - 2)) = mn4 1000 (vA q bl S true 0) := by
  rw [perm_ex _ _ hp]
  have e := cK_planQ (dnC 9999 true) n q bl (c0M n S) q.length (Nat.le_refl _)
  rw [Nat.sub_self] at e
  have e' : exP (dnC 9999 true) ((planQ q bl q.length).map (fun (a : Nat × Nat) => (rnm n a.1, rnm n a.2))) (c0M n S) = cK (dnC 9999 true) n q bl (c0M n S) q.length := e
  rw [e']
  have hl := h.1
  have h10 := h.2.2.1
  obtain ⟨i1, -⟩ := inv_dir (dir := true) hn h hS q.length (Nat.le_refl _)
  obtain ⟨-, i2⟩ := i1 0 (by omega) (by omega)
  have i3 := i2 (by omega)
  have hr : rnm n (q.getD 0 (0, 0)).1 = 2 * n - 2 := by
    rw [h10]
    unfold rnm
    rw [if_pos rfl]
  rw [hr] at i3
  have hsz := (h.2.2.2 0 (by omega)).2.2.2
  refine mn_small (fun r hr => (i3 r hr).1) ?_
  have := (i3 0 (by omega)).2
  omega
/-- sets and changes, one place of the readings -/
def fitS (a b : Nat) : Nat := if a &&& b = 0 then a ||| b else a &&& b
def fitK (a b : Nat) : Nat := if a &&& b = 0 then 1 else 0
def fA (q : PL) (bl : List Nat) (S : Nat → Nat) : Nat → Nat := evA q bl 0 S (fun _ a b => fitS a b)
def incA (q : PL) (bl : List Nat) (S : Nat → Nat) (j : Nat) : Nat := fitK (fA q bl S (bl.getD j 0)) (fA q bl S (bl.getD j 0 + 1))
def kA (q : PL) (bl : List Nat) (S : Nat → Nat) : Nat → Nat := evA q bl 0 (fun _ => 0) (fun j a b => a + b + incA q bl S j)
def bz (A r : Nat) : Nat := if A.testBit r then 0 else 1
theorem fit_all : (List.range 16).all (fun A => A == 0 || (List.range 16).all (fun B => B == 0 || (decide (0 < fitS A B) && decide (fitS A B < 16) && (mn4 9999 (fun r => lfc 9999 A r + bz B r) == fitK A B) && (List.range 4).all (fun r => dnC 9999 false (fun q => bz A q + bz B q) r == fitK A B + bz (fitS A B) r)))) = true := by decide +kernel
theorem fit_tab {A B : Nat} (a0 : 0 < A) (a1 : A < 16) (b0 : 0 < B) (b1 : B < 16) : 0 < fitS A B ∧ fitS A B < 16 ∧ mn4 9999 (fun r => lfc 9999 A r + bz B r) = fitK A B ∧ ∀ r, r < 4 → dnC 9999 false (fun q => bz A q + bz B q) r = fitK A B + bz (fitS A B) r := by
  have h := fit_all
  simp only [List.all_eq_true, List.mem_range, Bool.or_eq_true, beq_iff_eq, Bool.and_eq_true, decide_eq_true_eq] at h
  rcases h A a1 with h | h
  · omega
  · rcases h B b1 with h | h
    · omega
    · exact ⟨h.1.1.1, h.1.1.2, h.1.2, h.2⟩
theorem lf_all : (List.range 16).all (fun A => A == 0 || (List.range 4).all (fun r => dnC 9999 false (lfc 9999 A) r == bz A r)) = true := by decide +kernel
theorem lf_tab {A : Nat} (a0 : 0 < A) (a1 : A < 16) {r : Nat} (hr : r < 4) : dnC 9999 false (lfc 9999 A) r = bz A r := by
  have h := lf_all
  simp only [List.all_eq_true, List.mem_range, Bool.or_eq_true, beq_iff_eq] at h
  rcases h A a1 with h | h
  · omega
  · exact h r hr
theorem bz_le (A r : Nat) : bz A r ≤ 1 := by unfold bz; split <;> omega
theorem fitK_le (a b : Nat) : fitK a b ≤ 1 := by unfold fitK; split <;> omega
theorem dn_shift {v : Nat → Nat} {k : Nat} (hk : k + v 0 + 2 ≤ 9999) (dir : Bool) (r : Nat) : dnC 9999 dir (fun q => k + v q) r = k + dnC 9999 dir v r := by
  have hb := btw_le dir r 0
  unfold dnC
  rw [Nat.min_eq_right (show k + v 0 + btw dir r 0 ≤ 9999 by omega), Nat.min_eq_right (show v 0 + btw dir r 0 ≤ 9999 by omega)]
  dsimp only
  omega
theorem mn_shift {v : Nat → Nat} {k : Nat} (hk : k + mn4 9999 v < 9999) : mn4 9999 (fun q => k + v q) = k + mn4 9999 v := by
  unfold mn4 at *
  dsimp only
  omega
theorem kA_sum {n : Nat} {q : PL} {bl : List Nat} {S : Nat → Nat} (hn : n ≤ 6) (h : FO n q bl) : ∀ (d j : Nat), q.length - j ≤ d → j < q.length → kA q bl S j = ((sbA q bl j).map (incA q bl S)).sum ∧ kA q bl S j + 1 ≤ szA q bl j := by
  intro d
  induction d with
  | zero => intro j h1 h2; omega
  | succ d ih =>
    intro j h1 h2
    have hv := evA_eq (z := (0 : Nat)) (lf := fun _ => 0) (kn := fun j a b => a + b + incA q bl S j) h2 (h.ev hn h2)
    have hs := evA_eq (z := ([] : List Nat)) (lf := fun _ => []) (kn := fun j a b => j :: (a ++ b)) h2 (h.ev hn h2)
    have hz := evA_eq (z := (0 : Nat)) (lf := fun _ => 1) (kn := fun _ a b => a + b + 1) h2 (h.ev hn h2)
    have e1 : kA q bl S j = if (q.getD j (0, 0)).1 < 6 then 0 else kA q bl S (bl.getD j 0) + kA q bl S (bl.getD j 0 + 1) + incA q bl S j := hv
    have e2 : sbA q bl j = if (q.getD j (0, 0)).1 < 6 then [] else j :: (sbA q bl (bl.getD j 0) ++ sbA q bl (bl.getD j 0 + 1)) := hs
    have e3 : szA q bl j = if (q.getD j (0, 0)).1 < 6 then 1 else szA q bl (bl.getD j 0) + szA q bl (bl.getD j 0 + 1) + 1 := hz
    by_cases hlf : (q.getD j (0, 0)).1 < 6
    · rw [if_pos hlf] at e1 e2 e3
      rw [e1, e2, e3]
      exact ⟨rfl, by omega⟩
    · rw [if_neg hlf] at e1 e2 e3
      obtain ⟨b1, b2, -⟩ := h.kn hn h2 hlf
      obtain ⟨p1, p2⟩ := ih (bl.getD j 0) (by omega) (by omega)
      obtain ⟨p3, p4⟩ := ih (bl.getD j 0 + 1) (by omega) b2
      have hf : incA q bl S j ≤ 1 := fitK_le _ _
      rw [e1, e2, e3, p1, p3] at *
      refine ⟨?_, by omega⟩
      rw [List.map_cons, List.sum_cons, List.map_append, List.sum_append]
      omega
theorem inv_und {n : Nat} {q : PL} {bl : List Nat} {S : Nat → Nat} (hn : n ≤ 6) (h : FO n q bl) (hS : NS n S) : ∀ k, k ≤ q.length →
    (∀ j, j < q.length → q.length - k ≤ j → (∀ r, r < 4 → dnC 9999 false (cK (dnC 9999 false) n q bl (c0M n S) k (rnm n (q.getD j (0, 0)).1)) r = kA q bl S j + bz (fA q bl S j) r) ∧ 0 < fA q bl S j ∧ fA q bl S j < 16 ∧ ((q.getD j (0, 0)).1 < 6 → cK (dnC 9999 false) n q bl (c0M n S) k (rnm n (q.getD j (0, 0)).1) = c0M n S (rnm n (q.getD j (0, 0)).1))) ∧
    (∀ j, j < q.length - k → cK (dnC 9999 false) n q bl (c0M n S) k (rnm n (q.getD j (0, 0)).1) = c0M n S (rnm n (q.getD j (0, 0)).1)) := by
  intro k
  induction k with
  | zero =>
    intro _
    exact ⟨fun j h1 h2 => by omega, fun j _ => rfl⟩
  | succ k ih =>
    intro hk
    obtain ⟨ih1, ih2⟩ := ih (by omega)
    obtain ⟨s1, s2, s3⟩ := cK_step (dn := dnC 9999 false) (c0 := c0M n S) hn h (k := k) (by omega)
    generalize hi : q.length - 1 - k = i at s1 s2 s3
    have hil : i < q.length := by omega
    have e1 : fA q bl S i = if (q.getD i (0, 0)).1 < 6 then S (q.getD i (0, 0)).1 else fitS (fA q bl S (bl.getD i 0)) (fA q bl S (bl.getD i 0 + 1)) := evA_eq (z := (0 : Nat)) (lf := S) (kn := fun _ a b => fitS a b) hil (h.ev hn hil)
    have e2 : kA q bl S i = if (q.getD i (0, 0)).1 < 6 then 0 else kA q bl S (bl.getD i 0) + kA q bl S (bl.getD i 0 + 1) + incA q bl S i := evA_eq (z := (0 : Nat)) (lf := fun _ => 0) (kn := fun j a b => a + b + incA q bl S j) hil (h.ev hn hil)
    refine ⟨fun j hj1 hj2 => ?_, fun j hj => ?_⟩
    · by_cases hji : j = i
      · subst hji
        by_cases hlf : (q.getD j (0, 0)).1 < 6
        · have hx := h.lf hil hlf
          rw [if_pos hlf] at e1 e2
          rw [s3 hlf, ih2 j (by omega), e1, e2]
          have e3 : c0M n S (rnm n (q.getD j (0, 0)).1) = lfc 9999 (S (q.getD j (0, 0)).1) := by
            funext r
            rw [rnm_leaf hn hx]
            unfold c0M
            rw [if_pos hx]
          refine ⟨fun r hr => ?_, (hS _ hx).1, (hS _ hx).2, fun _ => rfl⟩
          rw [e3, Nat.zero_add]
          exact lf_tab (hS _ hx).1 (hS _ hx).2 hr
        · rw [if_neg hlf] at e1 e2
          obtain ⟨b1, b2, b3⟩ := h.kn hn hil hlf
          obtain ⟨p1, p2, p3, -⟩ := ih1 (bl.getD j 0) (by omega) (by omega)
          obtain ⟨t1, t2, t3, -⟩ := ih1 (bl.getD j 0 + 1) b2 (by omega)
          obtain ⟨f1, f2, -, f4⟩ := fit_tab p2 p3 t2 t3
          obtain ⟨-, z1⟩ := kA_sum (S := S) hn h q.length (bl.getD j 0) (by omega) (by omega)
          obtain ⟨-, z2⟩ := kA_sum (S := S) hn h q.length (bl.getD j 0 + 1) (by omega) b2
          have z3 := (h.2.2.2 (bl.getD j 0) (by omega)).2.2.2
          have z4 := (h.2.2.2 (bl.getD j 0 + 1) b2).2.2.2
          refine ⟨fun r hr => ?_, by rw [e1]; exact f1, by rw [e1]; exact f2, fun x => absurd x hlf⟩
          have e3 : ∀ r, r < 4 → cK (dnC 9999 false) n q bl (c0M n S) (k + 1) (rnm n (q.getD j (0, 0)).1) r = (kA q bl S (bl.getD j 0) + kA q bl S (bl.getD j 0 + 1)) + (bz (fA q bl S (bl.getD j 0)) r + bz (fA q bl S (bl.getD j 0 + 1)) r) := by
            intro r hr
            rw [s2 hlf r, ih2 j (by omega), p1 r hr, t1 r hr]
            have : c0M n S (rnm n (q.getD j (0, 0)).1) r = 0 := by
              unfold c0M
              rw [if_neg (by omega)]
            rw [this]
            omega
          rw [dnC_congr e3 r]
          have hb1 := bz_le (fA q bl S (bl.getD j 0)) 0
          have hb2 := bz_le (fA q bl S (bl.getD j 0 + 1)) 0
          rw [dn_shift (v := fun r => bz (fA q bl S (bl.getD j 0)) r + bz (fA q bl S (bl.getD j 0 + 1)) r) (by omega), f4 r hr, e1, e2]
          unfold incA
          omega
      · rw [s1 j hj1 hji]
        exact ih1 j hj1 (by omega)
    · rw [s1 j (by omega) (by omega)]
      exact ih2 j (by omega)
/-- the class's count of changes at a place: over all knots -/
def chK (q : PL) (bl : List Nat) (S : Nat → Nat) : Nat := (((List.range q.length).filter (fun i => decide (6 ≤ (q.getD i (0, 0)).1))).map (incA q bl S)).sum
theorem und_eq {n : Nat} {q : PL} {bl : List Nat} {S : Nat → Nat} {p : PL} (hn : n ≤ 6) (hn2 : 2 ≤ n) (h : FO n q bl) (hS : NS n S) (h1 : (q.getD 1 (0, 0)).1 = 0) (hb : bl.getD 0 0 = 1) (hsub : List.Perm (sbA q bl 0) ((List.range q.length).filter (fun i => decide (6 ≤ (q.getD i (0, 0)).1))))
    (hp : permOK p ((planQ1 q bl q.length ++ [((q.getD 2 (0, 0)).1, 0)]).map (fun (a : Nat × Nat) => (rnm n a.1, rnm n a.2))) = true) :
    mn4 9999 (exP (dnC 9999 false) p (c0M n S) 0) = chK q bl S := by
  have hl := h.1
  have hk0 : kA q bl S 0 = chK q bl S := by
    rw [(kA_sum (S := S) hn h q.length 0 (by omega) (by omega)).1]
    exact (hsub.map _).sum_nat
  rw [← hk0, perm_ex _ _ hp, List.map_append, exP_app]
  obtain ⟨m, hm⟩ : ∃ m, q.length = m + 1 := ⟨q.length - 1, by omega⟩
  have e := cK_planQ1 (dnC 9999 false) n q bl (c0M n S) m (by omega)
  rw [show q.length - (m + 1) = 0 by omega] at e
  have e' : exP (dnC 9999 false) ((planQ1 q bl q.length).map (fun (a : Nat × Nat) => (rnm n a.1, rnm n a.2))) (c0M n S) = cK (dnC 9999 false) n q bl (c0M n S) (q.length - 1) := by
    rw [← e, ← hm]
    rfl
  rw [e']
  obtain ⟨i1, -⟩ := inv_und hn h hS (q.length - 1) (by omega)
  obtain ⟨a1, a2, a3, a4⟩ := i1 1 (by omega) (by omega)
  obtain ⟨b1, b2, b3, -⟩ := i1 2 (by omega) (by omega)
  have r0 : rnm n 0 = 0 := rnm_leaf hn (by omega)
  have hlf1 : (q.getD 1 (0, 0)).1 < 6 := by rw [h1]; omega
  have f1 : fA q bl S 1 = S 0 := by
    have := evA_eq (z := (0 : Nat)) (lf := S) (kn := fun _ a b => fitS a b) (show 1 < q.length by omega) (h.ev hn (by omega))
    rw [if_pos hlf1, h1] at this
    exact this
  have k1 : kA q bl S 1 = 0 := by
    have := evA_eq (z := (0 : Nat)) (lf := fun _ => 0) (kn := fun j a b => a + b + incA q bl S j) (show 1 < q.length by omega) (h.ev hn (by omega))
    rw [if_pos hlf1] at this
    exact this
  have h10 : ¬ (q.getD 0 (0, 0)).1 < 6 := by rw [h.2.2.1]; omega
  have k0 : kA q bl S 0 = kA q bl S 1 + kA q bl S 2 + incA q bl S 0 := by
    have := evA_eq (z := (0 : Nat)) (lf := fun _ => 0) (kn := fun j a b => a + b + incA q bl S j) (show 0 < q.length by omega) (h.ev hn (by omega))
    rw [if_neg h10, hb] at this
    exact this
  have i0 : incA q bl S 0 = fitK (S 0) (fA q bl S 2) := by
    unfold incA
    rw [hb, f1]
  rw [h1, r0] at a4
  have hc : ∀ r, r < 4 → exP (dnC 9999 false) ([((q.getD 2 (0, 0)).1, 0)].map (fun (a : Nat × Nat) => (rnm n a.1, rnm n a.2))) (cK (dnC 9999 false) n q bl (c0M n S) (q.length - 1)) 0 r = kA q bl S 2 + (lfc 9999 (S 0) r + bz (fA q bl S 2) r) := by
    intro r hr
    show tk (dnC 9999 false) (rnm n (q.getD 2 (0, 0)).1, rnm n 0) _ 0 r = _
    unfold tk
    dsimp only
    rw [r0, if_pos rfl, b1 r hr, a4 (by omega)]
    have : c0M n S 0 r = lfc 9999 (S 0) r := by
      unfold c0M
      rw [if_pos (by omega)]
    rw [this]
    omega
  rw [mn4_congr hc]
  obtain ⟨-, -, f3, -⟩ := fit_tab (hS 0 (by omega)).1 (hS 0 (by omega)).2 b2 b3
  obtain ⟨-, z1⟩ := kA_sum (S := S) hn h q.length 2 (by omega) (by omega)
  have z3 := (h.2.2.2 2 (by omega)).2.2.2
  have hf := fitK_le (S 0) (fA q bl S 2)
  rw [mn_shift (v := fun r => lfc 9999 (S 0) r + bz (fA q bl S 2) r) (by rw [f3]; omega), f3, k0, k1, i0]
  omega
