/-! costs by places of a descent, and by plans -/
def knot (q : PL) (j : Nat) : Prop := 6 ≤ (q.getD j (0, 0)).1
/-- the shape that the proofs use -/
def FO (n : Nat) (q : PL) (bl : List Nat) : Prop :=
  q.length = 2 * n - 1 ∧ bl.length = q.length ∧ (q.getD 0 (0, 0)).1 = 10 ∧ ∀ i, i < q.length → (((q.getD i (0, 0)).1 < n ∨ (6 ≤ (q.getD i (0, 0)).1 ∧ i < bl.getD i 0 ∧ bl.getD i 0 + 1 < q.length ∧ n ≤ rnm n (q.getD i (0, 0)).1)) ∧ rnm n (q.getD i (0, 0)).1 ≤ 2 * n - 2 ∧ (∀ j, j < i → rnm n (q.getD j (0, 0)).1 ≠ rnm n (q.getD i (0, 0)).1) ∧ szA q bl i ≤ 11)
theorem fo_of {n : Nat} {q : PL} {bl : List Nat} (h : folOK n q bl = true) : FO n q bl := by
  unfold folOK at h
  simp only [Bool.and_eq_true, beq_iff_eq, List.all_eq_true, List.mem_range, decide_eq_true_eq, Bool.or_eq_true, Bool.not_eq_true', beq_eq_false_iff_ne, ne_eq] at h
  obtain ⟨⟨⟨h1, h2⟩, h3⟩, h4⟩ := h
  refine ⟨h1, h2, h3, fun i hi => ?_⟩
  obtain ⟨⟨⟨a, b⟩, c⟩, d⟩ := h4 i hi
  refine ⟨?_, b, fun j hj => c j hj, d⟩
  rcases a with a | a
  · exact Or.inl a
  · exact Or.inr ⟨a.1.1.1, a.1.1.2, a.1.2, a.2⟩
theorem FO.kn {n : Nat} {q : PL} {bl : List Nat} (h : FO n q bl) (hn : n ≤ 6) {j : Nat} (hj : j < q.length) (hk : ¬ (q.getD j (0, 0)).1 < 6) : j < bl.getD j 0 ∧ bl.getD j 0 + 1 < q.length ∧ n ≤ rnm n (q.getD j (0, 0)).1 := by
  rcases (h.2.2.2 j hj).1 with a | a
  · omega
  · exact a.2
theorem FO.lf {n : Nat} {q : PL} {bl : List Nat} (h : FO n q bl) {j : Nat} (hj : j < q.length) (hk : (q.getD j (0, 0)).1 < 6) : (q.getD j (0, 0)).1 < n := by
  rcases (h.2.2.2 j hj).1 with a | a
  · exact a
  · omega
theorem evG_st {α : Type} {q : PL} {bl : List Nat} {z : α} {lf : Nat → α} {kn : Nat → α → α → α} {j : Nat} : ∀ (m k : Nat), q.length - 1 - j < k → j < q.length → k + m ≤ q.length → evG q bl z lf kn (k + m) j = evG q bl z lf kn k j := by
  intro m
  induction m with
  | zero => intro k _ _ _; rfl
  | succ m ih =>
    intro k h1 h2 h3
    show evG q bl z lf kn ((k + m) + 1) j = _
    rw [← ih k h1 h2 (by omega)]
    show (if j = q.length - 1 - (k + m) then _ else _) = _
    rw [if_neg (by omega)]
theorem evA_eq {α : Type} {q : PL} {bl : List Nat} {z : α} {lf : Nat → α} {kn : Nat → α → α → α} {j : Nat} (hj : j < q.length) (h : ¬ (q.getD j (0, 0)).1 < 6 → j < bl.getD j 0 ∧ bl.getD j 0 + 1 < q.length) :
    evA q bl z lf kn j = if (q.getD j (0, 0)).1 < 6 then lf (q.getD j (0, 0)).1 else kn j (evA q bl z lf kn (bl.getD j 0)) (evA q bl z lf kn (bl.getD j 0 + 1)) := by
  unfold evA
  have e1 : evG q bl z lf kn q.length j = evG q bl z lf kn (q.length - j) j := by
    have := evG_st (q := q) (bl := bl) (z := z) (lf := lf) (kn := kn) (j := j) j (q.length - j) (by omega) hj (by omega)
    rw [← this]
    congr 1
    omega
  obtain ⟨k, hk⟩ : ∃ k, q.length - j = k + 1 := ⟨q.length - j - 1, by omega⟩
  rw [e1, hk]
  show (if j = q.length - 1 - k then _ else _) = _
  rw [if_pos (by omega)]
  by_cases hc : (q.getD j (0, 0)).1 < 6
  · rw [if_pos hc, if_pos hc]
  · rw [if_neg hc, if_neg hc]
    obtain ⟨h1, h2⟩ := h hc
    have e2 : ∀ b, j < b → b < q.length → evG q bl z lf kn k b = evG q bl z lf kn q.length b := by
      intro b hb1 hb2
      have := evG_st (q := q) (bl := bl) (z := z) (lf := lf) (kn := kn) (j := b) (q.length - k) k (by omega) hb2 (by omega)
      rw [← this]
      congr 1
      omega
    rw [e2 _ h1 (by omega), e2 _ (by omega) h2]
def btw (dir : Bool) (r q : Nat) : Nat := if r = q then 0 else if dir && decide (q < r) then 2 else 1
def dnC (cap : Nat) (dir : Bool) (c : Nat → Nat) (r : Nat) : Nat := min (min (min (min cap (c 0 + btw dir r 0)) (c 1 + btw dir r 1)) (c 2 + btw dir r 2)) (c 3 + btw dir r 3)
def mn4 (cap : Nat) (c : Nat → Nat) : Nat := min (min (min (min cap (c 0)) (c 1)) (c 2)) (c 3)
def lfc (cap S r : Nat) : Nat := if S.testBit r then 0 else cap
theorem btw_le (dir : Bool) (r q : Nat) : btw dir r q ≤ 2 := by
  unfold btw
  split
  · omega
  · split <;> omega
theorem dnC_congr {cap : Nat} {dir : Bool} {c c' : Nat → Nat} (h : ∀ q, q < 4 → c q = c' q) (r : Nat) : dnC cap dir c r = dnC cap dir c' r := by
  unfold dnC
  rw [h 0 (by omega), h 1 (by omega), h 2 (by omega), h 3 (by omega)]
theorem mn4_congr {cap : Nat} {c c' : Nat → Nat} (h : ∀ q, q < 4 → c q = c' q) : mn4 cap c = mn4 cap c' := by
  unfold mn4
  rw [h 0 (by omega), h 1 (by omega), h 2 (by omega), h 3 (by omega)]
theorem dn_leaf_all : (List.range 16).all (fun S => S == 0 || [true, false].all (fun dir => (List.range 4).all (fun r => decide (dnC 9999 dir (lfc 9999 S) r = dnC 1000 dir (lfc 1000 S) r) && decide (dnC 1000 dir (lfc 1000 S) r ≤ 2)))) = true := by decide +kernel
theorem dn_leaf {S : Nat} (h0 : 0 < S) (h1 : S < 16) (dir : Bool) {r : Nat} (hr : r < 4) : dnC 9999 dir (lfc 9999 S) r = dnC 1000 dir (lfc 1000 S) r ∧ dnC 1000 dir (lfc 1000 S) r ≤ 2 := by
  have h := dn_leaf_all
  simp only [List.all_eq_true, List.mem_range, Bool.or_eq_true, beq_iff_eq, Bool.and_eq_true, decide_eq_true_eq] at h
  rcases h S h1 with h | h
  · omega
  · exact h dir (by cases dir <;> simp) r hr
theorem dn_small {c c' : Nat → Nat} (h : ∀ q, q < 4 → c q = c' q) (h0 : c' 0 ≤ 900) (dir : Bool) (r : Nat) : dnC 9999 dir c r = dnC 1000 dir c' r ∧ dnC 1000 dir c' r ≤ c' 0 + 2 := by
  have hb := btw_le dir r 0
  unfold dnC
  rw [h 0 (by omega), h 1 (by omega), h 2 (by omega), h 3 (by omega), Nat.min_eq_right (show c' 0 + btw dir r 0 ≤ 9999 by omega), Nat.min_eq_right (show c' 0 + btw dir r 0 ≤ 1000 by omega)]
  refine ⟨rfl, ?_⟩
  refine Nat.le_trans (Nat.min_le_left _ _) (Nat.le_trans (Nat.min_le_left _ _) (Nat.le_trans (Nat.min_le_left _ _) (by omega)))
/-- the takes of one place, by the reference's names -/
def tkAt (n : Nat) (q : PL) (bl : List Nat) (i : Nat) : PL := if 6 ≤ (q.getD i (0, 0)).1 then [(rnm n (q.getD (bl.getD i 0) (0, 0)).1, rnm n (q.getD i (0, 0)).1), (rnm n (q.getD (bl.getD i 0 + 1) (0, 0)).1, rnm n (q.getD i (0, 0)).1)] else []
def cK (dn : (Nat → Nat) → Nat → Nat) (n : Nat) (q : PL) (bl : List Nat) (c0 : CV) : Nat → CV
  | 0 => c0
  | k + 1 => exP dn (tkAt n q bl (q.length - 1 - k)) (cK dn n q bl c0 k)
theorem exP_app (dn : (Nat → Nat) → Nat → Nat) : ∀ (a b : PL) (c : CV), exP dn (a ++ b) c = exP dn b (exP dn a c) := by
  intro a
  induction a with
  | nil => intro b c; rfl
  | cons x a ih => intro b c; exact ih b (tk dn x c)
theorem planQ_map (n : Nat) (q : PL) (bl : List Nat) : ∀ m, (planQ q bl (m + 1)).map (fun (a : Nat × Nat) => (rnm n a.1, rnm n a.2)) = tkAt n q bl m ++ (planQ q bl m).map (fun (a : Nat × Nat) => (rnm n a.1, rnm n a.2)) := by
  intro m
  show ((if 6 ≤ (q.getD m (0, 0)).1 then _ else _) ++ planQ q bl m).map _ = _
  rw [List.map_append]
  congr 1
  unfold tkAt
  split <;> rfl
theorem cK_planQ (dn : (Nat → Nat) → Nat → Nat) (n : Nat) (q : PL) (bl : List Nat) (c0 : CV) : ∀ m, m ≤ q.length → exP dn ((planQ q bl m).map (fun (a : Nat × Nat) => (rnm n a.1, rnm n a.2))) (cK dn n q bl c0 (q.length - m)) = cK dn n q bl c0 q.length := by
  intro m
  induction m with
  | zero => intro _; rfl
  | succ m ih =>
    intro h
    rw [planQ_map, exP_app]
    have e : exP dn (tkAt n q bl m) (cK dn n q bl c0 (q.length - (m + 1))) = cK dn n q bl c0 (q.length - m) := by
      obtain ⟨k, hk⟩ : ∃ k, q.length - m = k + 1 := ⟨q.length - m - 1, by omega⟩
      rw [hk]
      have e1 : q.length - (m + 1) = k := by omega
      have e2 : m = q.length - 1 - k := by omega
      rw [e1]
      show _ = exP dn (tkAt n q bl (q.length - 1 - k)) (cK dn n q bl c0 k)
      rw [← e2]
    rw [e]
    exact ih (by omega)
theorem planQ1_map (n : Nat) (q : PL) (bl : List Nat) : ∀ m, (planQ1 q bl (m + 2)).map (fun (a : Nat × Nat) => (rnm n a.1, rnm n a.2)) = tkAt n q bl (m + 1) ++ (planQ1 q bl (m + 1)).map (fun (a : Nat × Nat) => (rnm n a.1, rnm n a.2)) := by
  intro m
  show ((if 6 ≤ (q.getD (m + 1) (0, 0)).1 then _ else _) ++ planQ1 q bl (m + 1)).map _ = _
  rw [List.map_append]
  congr 1
  unfold tkAt
  split <;> rfl
theorem cK_planQ1 (dn : (Nat → Nat) → Nat → Nat) (n : Nat) (q : PL) (bl : List Nat) (c0 : CV) : ∀ m, m + 1 ≤ q.length → exP dn ((planQ1 q bl (m + 1)).map (fun (a : Nat × Nat) => (rnm n a.1, rnm n a.2))) (cK dn n q bl c0 (q.length - (m + 1))) = cK dn n q bl c0 (q.length - 1) := by
  intro m
  induction m with
  | zero => intro _; rfl
  | succ m ih =>
    intro h
    rw [planQ1_map, exP_app]
    have e : exP dn (tkAt n q bl (m + 1)) (cK dn n q bl c0 (q.length - (m + 2))) = cK dn n q bl c0 (q.length - (m + 1)) := by
      obtain ⟨k, hk⟩ : ∃ k, q.length - (m + 1) = k + 1 := ⟨q.length - (m + 1) - 1, by omega⟩
      rw [hk]
      have e1 : q.length - (m + 2) = k := by omega
      have e2 : m + 1 = q.length - 1 - k := by omega
      rw [e1]
      show _ = exP dn (tkAt n q bl (q.length - 1 - k)) (cK dn n q bl c0 k)
      rw [← e2]
    rw [e]
    exact ih (by omega)
/-- one more place: the others stay, a knot has what its two below give -/
theorem cK_step {dn : (Nat → Nat) → Nat → Nat} {n : Nat} {q : PL} {bl : List Nat} {c0 : CV} (hn : n ≤ 6) (h : FO n q bl) {k : Nat} (hk : k < q.length) :
    (∀ j, j < q.length → j ≠ q.length - 1 - k → cK dn n q bl c0 (k + 1) (rnm n (q.getD j (0, 0)).1) = cK dn n q bl c0 k (rnm n (q.getD j (0, 0)).1)) ∧
    (¬ (q.getD (q.length - 1 - k) (0, 0)).1 < 6 → ∀ r, cK dn n q bl c0 (k + 1) (rnm n (q.getD (q.length - 1 - k) (0, 0)).1) r = cK dn n q bl c0 k (rnm n (q.getD (q.length - 1 - k) (0, 0)).1) r + dn (cK dn n q bl c0 k (rnm n (q.getD (bl.getD (q.length - 1 - k) 0) (0, 0)).1)) r + dn (cK dn n q bl c0 k (rnm n (q.getD (bl.getD (q.length - 1 - k) 0 + 1) (0, 0)).1)) r) ∧
    ((q.getD (q.length - 1 - k) (0, 0)).1 < 6 → cK dn n q bl c0 (k + 1) = cK dn n q bl c0 k) := by
  generalize hi : q.length - 1 - k = i
  have hil : i < q.length := by omega
  have hne : ∀ a b, a < q.length → b < q.length → a ≠ b → rnm n (q.getD a (0, 0)).1 ≠ rnm n (q.getD b (0, 0)).1 := by
    intro a b ha hb hab
    rcases Nat.lt_or_gt_of_ne hab with x | x
    · exact (h.2.2.2 b hb).2.2.1 a x
    · exact Ne.symm ((h.2.2.2 a ha).2.2.1 b x)
  have hdef : cK dn n q bl c0 (k + 1) = exP dn (tkAt n q bl i) (cK dn n q bl c0 k) := by rw [← hi]; rfl
  rw [hdef]
  generalize hc : cK dn n q bl c0 k = c
  by_cases hlf : (q.getD i (0, 0)).1 < 6
  · have e : tkAt n q bl i = [] := by unfold tkAt; rw [if_neg (by omega)]
    rw [e]
    exact ⟨fun _ _ _ => rfl, fun x => absurd hlf x, fun _ => rfl⟩
  · have e : tkAt n q bl i = [(rnm n (q.getD (bl.getD i 0) (0, 0)).1, rnm n (q.getD i (0, 0)).1), (rnm n (q.getD (bl.getD i 0 + 1) (0, 0)).1, rnm n (q.getD i (0, 0)).1)] := by unfold tkAt; rw [if_pos (by omega)]
    obtain ⟨b1, b2, b3⟩ := h.kn hn hil hlf
    have n2 : rnm n (q.getD (bl.getD i 0 + 1) (0, 0)).1 ≠ rnm n (q.getD i (0, 0)).1 := hne _ _ b2 hil (by omega)
    rw [e]
    refine ⟨fun j hj hji => ?_, fun _ r => ?_, fun x => absurd x hlf⟩
    · funext r
      show tk dn _ (tk dn _ c) _ r = _
      unfold tk
      dsimp only
      rw [if_neg (hne j i hj hil hji), if_neg (hne j i hj hil hji)]
    · show tk dn _ (tk dn _ c) _ r = _
      unfold tk
      dsimp only
      rw [if_pos rfl, if_pos rfl]
      congr 1
      congr 1
      funext r2
      rw [if_neg n2]
