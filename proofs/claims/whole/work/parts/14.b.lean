/-! the class's follow -/
theorem gD_a {α : Type} {es l : List α} {i : Nat} {z : α} (h : i < es.length) : (es ++ l).getD i z = es.getD i z := by
  simp only [List.getD_eq_getElem?_getD]
  rw [List.getElem?_append_left h]
theorem gD_last {α : Type} {es : List α} {x z : α} : (es ++ [x]).getD es.length z = x := by
  simp only [List.getD_eq_getElem?_getD]
  rw [List.getElem?_append_right (Nat.le_refl _)]
  simp
def Bd (es : PL) : Prop := ∀ x ∈ es, x.1 < 100 ∧ x.2 < 100
theorem Bd.at {es : PL} (h : Bd es) {i : Nat} (hi : i < es.length) : (es.getD i (0, 0)).1 < 100 ∧ (es.getD i (0, 0)).2 < 100 := by
  have e : es.getD i (0, 0) = es[i] := by simp [List.getD_eq_getElem?_getD, hi]
  rw [e]
  exact h _ (List.getElem_mem hi)
theorem Bd.hang {es : PL} {b k e : Nat} (h : Bd es) (hb : b + k < 100) (he : e < es.length) : Bd (hangE b k e es) := by
  have h2 := h.at he
  intro x hx
  unfold hangE at hx
  rcases List.mem_append.mp hx with hx | hx
  · rcases List.mem_or_eq_of_mem_set hx with q | q
    · exact h x q
    · rw [q]; exact ⟨h2.1, by dsimp only; omega⟩
  · simp only [List.mem_cons, List.not_mem_nil, or_false] at hx
    rcases hx with q | q
    · rw [q]; exact ⟨by dsimp only; omega, h2.2⟩
    · rw [q]; exact ⟨by dsimp only; omega, by dsimp only; omega⟩
theorem Bd.edg3 {b n t : Nat} (hb : b ≤ 6) (hn : n ≤ 6) (ht : t < TN n) : ∀ m, m + 3 ≤ n → Bd (edg3 b t m) := by
  intro m
  induction m with
  | zero =>
    intro _ x hx
    simp only [_root_.Jvm.Pilot.CStemmaTreeLaw_law_r1628_88d2c4.edg3, List.mem_cons, List.not_mem_nil, or_false] at hx
    rcases hx with q | q | q <;> rw [q] <;> exact ⟨by dsimp only; omega, by dsimp only; omega⟩
  | succ m ih =>
    intro h
    have hl := edg3_len b t m
    have hd := dig_lt (k := m + 3) hn ht (by omega) (by omega)
    exact (ih (by omega)).hang (by omega) (by omega)
theorem Bd.edg {b n t : Nat} (hb : b ≤ 6) (hn : n ≤ 6) (ht : t < TN n) : Bd (edg b n t) := by
  unfold _root_.Jvm.Pilot.CStemmaTreeLaw_law_r1628_88d2c4.edg
  by_cases h1 : n < 2
  · rw [if_pos h1]; intro x hx; cases hx
  · rw [if_neg h1]
    by_cases h2 : n = 2
    · rw [if_pos h2]
      intro x hx
      simp only [List.mem_cons, List.not_mem_nil, or_false] at hx
      rw [hx]
      exact ⟨by decide, by decide⟩
    · rw [if_neg h2]
      exact Bd.edg3 hb hn ht (n - 3) (by omega)
theorem append_eq {σ : Mem} {m : Nat} {x1 x2 : Int32} (h : σ 30 5 = nI m) (hm : m < 11) : fX0_append x1 x2 σ = some (0, stm (stm (stm σ 32 m x1) 34 m x2) 30 5 (nI (m + 1))) := by
  unfold fX0_append
  rw [h, put_in hm (by decide), bnd_eq, stm_ne (show (30 : Nat) ≠ 31 + 1 by decide), h, put_in hm (by decide), bnd_eq]
  show some ((0 : Int32), stm (stm (stm σ 32 m x1) 34 m x2) 30 5 (stm (stm σ 32 m x1) 34 m x2 30 5 + 1)) = _
  rw [stm_ne (show (30 : Nat) ≠ 34 by decide), stm_ne (show (30 : Nat) ≠ 32 by decide), h, one_n]
theorem appE {σ : Mem} {q : PL} {a b : Nat} (h : EdG 32 34 30 5 σ q) (hl : q.length < 11) : ∃ σ', fX0_append (nI a) (nI b) σ = some (0, σ') ∧ EdG 32 34 30 5 σ' (q ++ [(a, b)]) ∧ Keep (nC [30, 32, 34]) σ σ' :=
  ⟨_, append_eq h.1 hl, edG_add h (by decide) (by decide) (by decide), ((Keep.rf.st rfl).st rfl).st rfl⟩
theorem kidsF_len (es : PL) (x ea : Nat) : ∀ d j, (kidsF es x ea j).length ≤ (kidsF es x ea (j + d)).length := by
  intro d
  induction d with
  | zero => intro j; exact Nat.le_refl _
  | succ d ih =>
    intro j
    refine Nat.le_trans (ih j) ?_
    show _ ≤ (kidsF es x ea (j + d) ++ _).length
    rw [List.length_append]
    omega
theorem EdG.keep {cf cs cm km : Nat} {σ σ' : Mem} {es : PL} {Rl : Nat → Nat → Bool} (h : EdG cf cs cm km σ es) (hK : Keep Rl σ σ') (h1 : ∀ k, Rl cf k = true) (h2 : ∀ k, Rl cs k = true) (h3 : Rl cm km = true) : EdG cf cs cm km σ' es :=
  ⟨by rw [hK cm km h3]; exact h.1, fun i hi => by rw [hK cf i (h1 i), hK cs i (h2 i)]; exact h.2 i hi⟩
theorem appendBelow_eq {σ : Mem} {es q : PL} {x ea : Nat} (hE : EdG 27 29 25 2 σ es) (hB : Bd es) (hl : es.length ≤ 9) (hq : EdG 32 34 30 5 σ q) (hx : x < 100) (hea : ea < 100) (hlen : (q ++ kids es x ea).length ≤ 11) : ∃ σ', fX0_appendBelow (nI x) (nI ea) σ = some (0, σ') ∧ EdG 32 34 30 5 σ' (q ++ kids es x ea) ∧ Keep (nC [30, 32, 34]) σ σ' := by
  rw [List.length_append] at hlen
  obtain ⟨σ2, ⟨j1, j2⟩, e2⟩ := up_k (fun f i (σ : Mem) => LX0_appendBelow_3 (fun σ13 => some (0, σ13)) f (nI x) (nI ea) (nI i) σ) es.length (fun i σ' => EdG 32 34 30 5 σ' (q ++ kidsF es x ea i) ∧ Keep (nC [30, 32, 34]) σ σ') (fun σ13 => some (0, σ13))
    (fun f i σ' hi hI => by
      obtain ⟨hI1, hI2⟩ := hI
      have hE' : EdG 27 29 25 2 σ' es := hE.keep hI2 (fun _ => rfl) (fun _ => rfl) rfl
      have hb := hB.at hi
      have hk : kidsF es x ea (i + 1) = kidsF es x ea i ++ (if i = ea then [] else if (es.getD i (0, 0)).1 = x then [((es.getD i (0, 0)).2, i)] else if (es.getD i (0, 0)).2 = x then [((es.getD i (0, 0)).1, i)] else []) := rfl
      have hmono := kidsF_len es x ea (es.length - (i + 1)) (i + 1)
      rw [show i + 1 + (es.length - (i + 1)) = es.length by omega] at hmono
      have hfin : (kidsF es x ea es.length).length + q.length ≤ 11 := by unfold kids at hlen; omega
      have hstep : ∀ X : O, (LX0_appendBelow_3 (fun σ13 => some (0, σ13)) (f + 1) (nI x) (nI ea) (nI i) σ' = X) = (BX0_appendBelow_3 (fun σ13 => some (0, σ13)) (LX0_appendBelow_3 (fun σ13 => some (0, σ13)) f) (nI x) (nI ea) (nI i) σ' = X) := fun _ => rfl
      unfold BX0_appendBelow_3 at hstep
      rw [hE'.1, if_neg (nle_n hi (by omega))] at hstep
      by_cases h1 : i = ea
      · rw [if_pos h1, List.append_nil] at hk
        refine ⟨σ', ⟨by rw [hk]; exact hI1, hI2⟩, ?_⟩
        rw [hstep, if_pos (by rw [h1]), one_n]
      · rw [if_neg h1] at hk
        rw [if_neg (ne_n h1 (by omega) (by omega)), at_in (by omega) (by decide), bnd_eq] at hstep
        have c1 : σ' (26 + 1) i = nI (es.getD i (0, 0)).1 := (hE'.2 i hi).1
        have c2 : σ' (28 + 1) i = nI (es.getD i (0, 0)).2 := (hE'.2 i hi).2
        rw [c1] at hstep
        by_cases h2 : (es.getD i (0, 0)).1 = x
        · rw [if_pos h2] at hk
          rw [if_pos (by rw [h2]), at_in (by omega) (by decide), bnd_eq, c2] at hstep
          have hlen2 : (q ++ kidsF es x ea i).length < 11 := by
            rw [hk, List.length_append] at hmono
            rw [List.length_append]
            simp only [List.length_cons, List.length_nil] at hmono
            omega
          obtain ⟨σ3, g1, g2, g3⟩ := appE (a := (es.getD i (0, 0)).2) (b := i) hI1 hlen2
          refine ⟨σ3, ⟨by rw [hk, ← List.append_assoc]; exact g2, hI2.tr g3⟩, ?_⟩
          rw [hstep, g1, bnd_eq, one_n]
        · rw [if_neg h2] at hk
          rw [if_neg (ne_n h2 (by omega) (by omega)), at_in (by omega) (by decide), bnd_eq, c2] at hstep
          by_cases h3 : (es.getD i (0, 0)).2 = x
          · rw [if_pos h3] at hk
            rw [if_pos (by rw [h3]), at_in (by omega) (by decide), bnd_eq, c1] at hstep
            have hlen2 : (q ++ kidsF es x ea i).length < 11 := by
              rw [hk, List.length_append] at hmono
              rw [List.length_append]
              simp only [List.length_cons, List.length_nil] at hmono
              omega
            obtain ⟨σ3, g1, g2, g3⟩ := appE (a := (es.getD i (0, 0)).1) (b := i) hI1 hlen2
            refine ⟨σ3, ⟨by rw [hk, ← List.append_assoc]; exact g2, hI2.tr g3⟩, ?_⟩
            rw [hstep, g1, bnd_eq, one_n]
          · rw [if_neg h3, List.append_nil] at hk
            rw [if_neg (ne_n h3 (by omega) (by omega))] at hstep
            refine ⟨σ', ⟨by rw [hk]; exact hI1, hI2⟩, ?_⟩
            rw [hstep, one_n])
    (fun f σ' hI => by
      show BX0_appendBelow_3 _ _ (nI x) (nI ea) (nI es.length) σ' = _
      unfold BX0_appendBelow_3
      rw [hI.2 25 2 rfl, hE.1, if_pos (le_n (Nat.le_refl _) (by omega))])
    0 σ 300 (by omega) (by omega) ⟨by rw [show q ++ kidsF es x ea 0 = q from List.append_nil q]; exact hq, Keep.rf⟩
  exact ⟨σ2, e2, j1, j2⟩
theorem Bd.app {a b : PL} (h1 : Bd a) (h2 : Bd b) : Bd (a ++ b) := fun x hx => (List.mem_append.mp hx).elim (h1 x) (h2 x)
theorem Bd.kidsF {es : PL} (h : Bd es) (hl : es.length ≤ 9) (x ea : Nat) : ∀ j, j ≤ es.length → Bd (kidsF es x ea j) := by
  intro j
  induction j with
  | zero => intro _ x hx; cases hx
  | succ j ih =>
    intro hj
    have hb := h.at (i := j) (by omega)
    refine (ih (by omega)).app ?_
    split
    · intro x hx; cases hx
    · split
      · intro x hx
        rw [List.mem_singleton.mp hx]
        exact ⟨hb.2, by dsimp only; omega⟩
      · split
        · intro x hx
          rw [List.mem_singleton.mp hx]
          exact ⟨hb.1, by dsimp only; omega⟩
        · intro x hx; cases hx
theorem Bd.kids {es : PL} (h : Bd es) (hl : es.length ≤ 9) (x ea : Nat) : Bd (kids es x ea) := h.kidsF hl x ea es.length (Nat.le_refl _)
theorem fol_len (es : PL) : ∀ f i q bl, q.length ≤ (fol es f i q bl).1.length := by
  intro f
  induction f with
  | zero => intro i q bl; exact Nat.le_refl _
  | succ f ih =>
    intro i q bl
    unfold fol
    split
    · split
      · refine Nat.le_trans ?_ (ih _ _ _)
        rw [List.length_append]
        omega
      · exact ih _ _ _
    · exact Nat.le_refl _
/-- a descent in memory -/
def DeC (σ : Mem) (q : PL) (bl : List Nat) : Prop := EdG 32 34 30 5 σ q ∧ ∀ j, j < q.length → 6 ≤ (q.getD j (0, 0)).1 → σ 36 j = nI (bl.getD j 0)
theorem follow_eq {σ : Mem} {es : PL} {e : Nat} (hE : EdG 27 29 25 2 σ es) (hB : Bd es) (hl : es.length ≤ 9) (he : e < es.length) (hfin : (fol0 es e).1.length ≤ 11) : ∃ σ', fX0_follow (nI e) σ = some (0, σ') ∧ DeC σ' (fol0 es e).1 (fol0 es e).2 ∧ Keep (nC [30, 32, 34, 36]) σ σ' := by
  have hb := hB.at he
  have k0 : Keep (nC [30, 32, 34, 36]) σ (stm σ 30 5 0) := Keep.rf.st rfl
  have q0 : EdG 32 34 30 5 (stm σ 30 5 0) [] := ⟨stm_v _ _ _ _, fun i hi => absurd hi (Nat.not_lt_zero i)⟩
  have hsub : ∀ c k, nC [30, 32, 34, 36] c k = true → nC [30, 32, 34] c k = true := nC_mono (by decide)
  obtain ⟨σ1, a1, a2, a3⟩ := appE (a := 10) (b := e) q0 (by decide)
  have k1 := k0.tr (a3.mono hsub)
  have k2 : Keep (nC [30, 32, 34, 36]) σ (stm σ1 36 0 (nI 1)) := k1.st rfl
  have q2 : EdG 32 34 30 5 (stm σ1 36 0 (nI 1)) ([] ++ [(10, e)]) := a2.keep (Rl := nC [36]) (Keep.rf.st rfl) (fun _ => rfl) (fun _ => rfl) rfl
  obtain ⟨σ3, b1, b2, b3⟩ := appE (a := (es.getD e (0, 0)).1) (b := e) q2 (show 1 < 11 by decide)
  have k3 := k2.tr (b3.mono hsub)
  obtain ⟨σ4, c1, c2, c3⟩ := appE (a := (es.getD e (0, 0)).2) (b := e) b2 (show 2 < 11 by decide)
  have k4 := k3.tr (c3.mono hsub)
  have hbl0 : σ4 36 0 = nI 1 := by rw [c3 36 0 rfl, b3 36 0 rfl, stm_v]
  have hq3 : Bd [(10, e), ((es.getD e (0, 0)).1, e), ((es.getD e (0, 0)).2, e)] := by
    intro x hx
    simp only [List.mem_cons, List.not_mem_nil, or_false] at hx
    rcases hx with z | z | z <;> rw [z] <;> dsimp only <;> omega
  have hloop := up_loop (fun f i (σ : Mem) => LX0_follow_65 (fun σ24 => some (0, σ24)) f (nI i) σ) 11 (fun i σ' => 1 ≤ i ∧ ∃ (q : PL) (bl : List Nat), fol es (12 - i) i q bl = fol0 es e ∧ bl.length = i ∧ i ≤ q.length ∧ EdG 32 34 30 5 σ' q ∧ Bd q ∧ (∀ j, j < i → 6 ≤ (q.getD j (0, 0)).1 → σ' 36 j = nI (bl.getD j 0)) ∧ Keep (nC [30, 32, 34, 36]) σ σ') (fun o => ∃ σ', o = some (0, σ') ∧ DeC σ' (fol0 es e).1 (fol0 es e).2 ∧ Keep (nC [30, 32, 34, 36]) σ σ')
    (fun f i σ' hi hI => by
      obtain ⟨hi1, q, bl, hf, hbl, hiq, hQ, hqb, hb2, hK⟩ := hI
      have hql : q.length ≤ 11 := by
        have := fol_len es (12 - i) i q bl
        rw [hf] at this
        omega
      obtain ⟨g, hg⟩ : ∃ g, 12 - i = g + 1 := ⟨11 - i, by omega⟩
      rw [hg] at hf
      have hstep : ∀ X : O, (LX0_follow_65 (fun σ24 => some (0, σ24)) (f + 1) (nI i) σ' = X) = (BX0_follow_65 (fun σ24 => some (0, σ24)) (LX0_follow_65 (fun σ24 => some (0, σ24)) f) (nI i) σ' = X) := fun _ => rfl
      unfold BX0_follow_65 at hstep
      rw [hQ.1] at hstep
      unfold fol at hf
      by_cases h1 : i < q.length
      · right
        rw [if_pos h1] at hf
        have hqi := hqb.at h1
        rw [if_neg (nle_n h1 (by omega)), if_neg (show ¬ (11 : Int32) ≤ nI i from nle_n (a := 11) (by omega) (by decide)), at_in (by omega) (by decide), bnd_eq, show σ' (31 + 1) i = nI (q.getD i (0, 0)).1 from (hQ.2 i h1).1] at hstep
        by_cases h2 : 6 ≤ (q.getD i (0, 0)).1
        · rw [if_pos h2] at hf
          rw [if_neg (show ¬ nI (q.getD i (0, 0)).1 < (6 : Int32) from nlt_n (b := 6) (by omega) (by omega)), put_in (by omega) (by decide), bnd_eq, at_in (by omega) (by decide), bnd_eq, at_in (by omega) (by decide), bnd_eq] at hstep
          have kp : Keep (nC [36]) σ' (stm σ' 36 i (nI q.length)) := Keep.rf.st rfl
          have hQ2 : EdG 32 34 30 5 (stm σ' 36 i (nI q.length)) q := hQ.keep kp (fun _ => rfl) (fun _ => rfl) rfl
          have hE2 : EdG 27 29 25 2 (stm σ' 36 i (nI q.length)) es := (hE.keep hK (fun _ => rfl) (fun _ => rfl) rfl).keep kp (fun _ => rfl) (fun _ => rfl) rfl
          have hl2 : (q ++ kids es (q.getD i (0, 0)).1 (q.getD i (0, 0)).2).length ≤ 11 := by
            have := fol_len es g (i + 1) (q ++ kids es (q.getD i (0, 0)).1 (q.getD i (0, 0)).2) (bl ++ [q.length])
            rw [hf] at this
            omega
          obtain ⟨σ5, g1, g2, g3⟩ := appendBelow_eq (x := (q.getD i (0, 0)).1) (ea := (q.getD i (0, 0)).2) hE2 hB hl hQ2 hqi.1 hqi.2 hl2
          refine ⟨σ5, ⟨by omega, _, _, by rw [show 12 - (i + 1) = g by omega]; exact hf, by rw [List.length_append, hbl]; rfl, by rw [List.length_append]; omega, g2, hqb.app (hB.kids hl _ _), fun j hj hj2 => ?_, (hK.st rfl).tr (g3.mono hsub)⟩, ?_⟩
          · rw [gD_a (by omega)] at hj2
            rw [g3 36 j rfl]
            by_cases hji : j = i
            · subst hji
              rw [stm_v, ← hbl, gD_last]
            · rw [stm_k hji, gD_a (by omega)]
              exact hb2 j (by omega) hj2
          · rw [hstep, hQ.1]
            have e1 : (stm σ' (35 + 1) i (nI q.length)) (31 + 1) i = nI (q.getD i (0, 0)).1 := (hQ2.2 i h1).1
            have e2 : (stm σ' (35 + 1) i (nI q.length)) (33 + 1) i = nI (q.getD i (0, 0)).2 := (hQ2.2 i h1).2
            rw [e1, e2]
            show bnd (fX0_appendBelow (nI (q.getD i (0, 0)).1) (nI (q.getD i (0, 0)).2) (stm σ' 36 i (nI q.length))) _ = _
            rw [g1, bnd_eq, one_n]
        · rw [if_neg h2] at hf
          rw [if_pos (show nI (q.getD i (0, 0)).1 < (6 : Int32) from lt_n (b := 6) (by omega) (by decide))] at hstep
          refine ⟨σ', ⟨by omega, q, bl ++ [0], by rw [show 12 - (i + 1) = g by omega]; exact hf, by rw [List.length_append, hbl]; rfl, by omega, hQ, hqb, fun j hj hj2 => ?_, hK⟩, by rw [hstep, one_n]⟩
          by_cases hji : j = i
          · subst hji; exact absurd hj2 h2
          · rw [gD_a (by omega)]
            exact hb2 j (by omega) hj2
      · left
        rw [if_neg h1] at hf
        rw [if_pos (le_n (by omega) (by omega))] at hstep
        refine ⟨σ', (hstep _).mpr rfl, ?_, hK⟩
        rw [← hf]
        exact ⟨hQ, fun j hj hj2 => hb2 j (by dsimp only at hj; omega) hj2⟩)
    (fun f σ' hI => by
      obtain ⟨hi1, q, bl, hf, hbl, hiq, hQ, hqb, hb2, hK⟩ := hI
      have hql : q.length ≤ 11 := by
        have := fol_len es (12 - 11) 11 q bl
        rw [hf] at this
        omega
      refine ⟨σ', ?_, ?_, hK⟩
      · show BX0_follow_65 _ _ (nI 11) σ' = _
        unfold BX0_follow_65
        rw [hQ.1, if_pos (le_n (by omega) (by omega))]
      · have hf2 : fol es 1 11 q bl = fol0 es e := hf
        unfold fol at hf2
        rw [if_neg (by omega)] at hf2
        rw [← hf2]
        exact ⟨hQ, fun j hj hj2 => hb2 j (by dsimp only at hj; omega) hj2⟩)
    10 1 σ4 300 (by omega) (by omega) ⟨by omega, [(10, e), ((es.getD e (0, 0)).1, e), ((es.getD e (0, 0)).2, e)], [1], rfl, rfl, show 1 ≤ 3 by decide, c2, hq3, fun j hj _ => by rw [show j = 0 by omega]; exact hbl0, k4⟩
  obtain ⟨σ', h1, h2, h3⟩ := hloop
  refine ⟨σ', ?_, h2, h3⟩
  unfold fX0_follow
  show (if nI e < (0 : Int32) then _ else _) = _
  rw [if_neg (nI_pos (by omega)), show (stm σ 30 5 0) 25 2 = nI es.length by rw [stm_ne (by decide), hE.1], if_pos (lt_n he (by omega)), show fX0_append 10 (nI e) (stm σ 30 5 0) = some (0, σ1) from a1, bnd_eq, a2.1]
  show bnd (fX5_put 35 11 (nI 0) (nI 1) σ1) _ = _
  rw [put_in (by omega) (by decide), bnd_eq, at_in (by omega) (by decide), bnd_eq]
  have d1 : (stm σ1 (35 + 1) 0 (nI 1)) (26 + 1) e = nI (es.getD e (0, 0)).1 := by
    rw [show (stm σ1 (35 + 1) 0 (nI 1)) (26 + 1) e = σ 27 e from k2 27 e rfl]
    exact (hE.2 e he).1
  rw [d1]
  show bnd (fX0_append (nI (es.getD e (0, 0)).1) (nI e) (stm σ1 36 0 (nI 1))) _ = _
  rw [b1, bnd_eq, at_in (by omega) (by decide), bnd_eq]
  have d2 : σ3 (28 + 1) e = nI (es.getD e (0, 0)).2 := by
    rw [show σ3 (28 + 1) e = σ 29 e from k3 29 e rfl]
    exact (hE.2 e he).2
  rw [d2, c1, bnd_eq]
  exact h1
