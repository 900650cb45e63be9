/-! edges in memory: the class's grow, the reference's layTree -/
def nC (cs : List Nat) : Nat → Nat → Bool := fun c _ => !(cs.contains c)
theorem Keep.mono {R1 R2 : Nat → Nat → Bool} {σ σ' : Mem} (h : Keep R2 σ σ') (hm : ∀ c k, R1 c k = true → R2 c k = true) : Keep R1 σ σ' := fun c k hk => h c k (hm c k hk)
theorem nC_mono {a b : List Nat} (h : ∀ c, c ∈ a → c ∈ b) : ∀ c k, nC b c k = true → nC a c k = true := by
  intro c k hc
  unfold nC at *
  simp only [Bool.not_eq_true', List.contains_eq_mem, decide_eq_false_iff_not] at *
  exact fun q => hc (h c q)
theorem gD_l {es : PL} {x : Nat × Nat} {i : Nat} (h : i < es.length) : (es ++ [x]).getD i (0, 0) = es.getD i (0, 0) := by
  simp only [List.getD_eq_getElem?_getD]
  rw [List.getElem?_append_left h]
theorem gD_r {es : PL} {x : Nat × Nat} : (es ++ [x]).getD es.length (0, 0) = x := by
  simp only [List.getD_eq_getElem?_getD]
  rw [List.getElem?_append_right (Nat.le_refl _)]
  simp
theorem gD_se {es : PL} {x : Nat × Nat} {e : Nat} (h : e < es.length) : (es.set e x).getD e (0, 0) = x := by
  simp only [List.getD_eq_getElem?_getD]
  rw [List.getElem?_set_self h]
  rfl
theorem gD_sn {es : PL} {x : Nat × Nat} {e i : Nat} (h : i ≠ e) : (es.set e x).getD i (0, 0) = es.getD i (0, 0) := by
  simp only [List.getD_eq_getElem?_getD]
  rw [List.getElem?_set_ne (Ne.symm h)]
def EdG (cf cs cm km : Nat) (σ : Mem) (es : PL) : Prop := σ cm km = nI es.length ∧ ∀ i, i < es.length → σ cf i = nI (es.getD i (0, 0)).1 ∧ σ cs i = nI (es.getD i (0, 0)).2
theorem edG_add {cf cs cm km a b : Nat} {σ : Mem} {es : PL} (h : EdG cf cs cm km σ es) (h1 : cf ≠ cs) (h2 : cf ≠ cm) (h3 : cs ≠ cm) : EdG cf cs cm km (stm (stm (stm σ cf es.length (nI a)) cs es.length (nI b)) cm km (nI (es.length + 1))) (es ++ [(a, b)]) := by
  refine ⟨?_, fun i hi => ?_⟩
  · rw [stm_v, List.length_append]; rfl
  · rw [stm_ne h2, stm_ne h3, stm_ne h1]
    rw [List.length_append] at hi
    by_cases hl : i < es.length
    · rw [gD_l hl, stm_k (by omega), stm_k (by omega), stm_ne (Ne.symm h1)]
      exact h.2 i hl
    · have : i = es.length := by simp at hi; omega
      subst this
      rw [gD_r, stm_v, stm_v]
      exact ⟨rfl, rfl⟩
theorem edG_set {cf cs cm km b e : Nat} {σ : Mem} {es : PL} (h : EdG cf cs cm km σ es) (h1 : cf ≠ cs) (h3 : cm ≠ cs) (he : e < es.length) : EdG cf cs cm km (stm σ cs e (nI b)) (es.set e ((es.getD e (0, 0)).1, b)) := by
  refine ⟨?_, fun i hi => ?_⟩
  · rw [stm_ne h3, List.length_set]; exact h.1
  · rw [List.length_set] at hi
    rw [stm_ne h1]
    by_cases hie : i = e
    · subst hie
      rw [gD_se he, stm_v]
      exact ⟨(h.2 i hi).1, rfl⟩
    · rw [gD_sn hie, stm_k hie]
      exact h.2 i hi
theorem addEdge_eq {σ : Mem} {m : Nat} {x1 x2 : Int32} (h : σ 25 2 = nI m) (hm : m < 9) : fX7_addEdge x1 x2 σ = some (0, stm (stm (stm σ 27 m x1) 29 m x2) 25 2 (nI (m + 1))) := by
  unfold fX7_addEdge
  rw [h, put_in hm (by decide), bnd_eq, stm_ne (show (25 : Nat) ≠ 26 + 1 by decide), h, put_in hm (by decide), bnd_eq]
  show some ((0 : Int32), stm (stm (stm σ 27 m x1) 29 m x2) 25 2 (stm (stm σ 27 m x1) 29 m x2 25 2 + 1)) = _
  rw [stm_ne (show (25 : Nat) ≠ 29 by decide), stm_ne (show (25 : Nat) ≠ 27 by decide), h, one_n]
theorem edge_eq {σ : Mem} {m : Nat} {x1 x2 : Int32} (h : σ 50 19 = nI m) (hm : m < 10) : fX9_edge x1 x2 σ = some (0, stm (stm (stm σ 58 m x1) 59 m x2) 50 19 (nI (m + 1))) := by
  unfold fX9_edge
  rw [h, gd_n hm (by decide), cl_n (by omega)]
  show gd 10 (stm σ 58 m x1 50 19) _ = _
  rw [stm_ne (show (50 : Nat) ≠ 58 by decide), h, gd_n hm (by decide), cl_n (by omega)]
  show some ((0 : Int32), stm (stm (stm σ 58 m x1) 59 m x2) 50 19 (stm (stm σ 58 m x1) 59 m x2 50 19 + 1)) = _
  rw [stm_ne (show (50 : Nat) ≠ 59 by decide), stm_ne (show (50 : Nat) ≠ 58 by decide), h, one_n]
theorem edgeOf_eq {σ : Mem} {t k : Nat} (ht : t < 2 ^ 31) (hk : k < 2 ^ 31) : fX7_edgeOf (nI t) (nI k) σ = some (nI (dig t k), σ) := by
  have e3 : remi (nI t) 3 = nI (t % 3) := pk_rem (d := 3) ht (by omega) (by omega)
  have d3 : nI t / 3 = nI (t / 3) := pk_div (d := 3) ht (by omega) (by omega)
  have d15 : nI t / 15 = nI (t / 15) := pk_div (d := 15) ht (by omega) (by omega)
  have e5 : remi (nI (t / 3)) 5 = nI (t / 3 % 5) := pk_rem (d := 5) (by omega) (by omega) (by omega)
  unfold fX7_edgeOf dig
  by_cases h3 : k = 3
  · subst h3
    rw [if_pos (show nI 3 = (3 : Int32) from rfl), if_pos rfl, e3]
  · rw [if_neg (show ¬ nI k = (3 : Int32) from ne_n h3 hk (by decide)), if_neg h3]
    by_cases h4 : k = 4
    · subst h4
      rw [if_pos (show nI 4 = (4 : Int32) from rfl), if_pos rfl, d3, e5]
    · rw [if_neg (show ¬ nI k = (4 : Int32) from ne_n h4 hk (by decide)), if_neg h4, d15]
theorem edgeOf_eq9 {σ : Mem} {t k : Nat} (ht : t < 2 ^ 31) (hk : k < 2 ^ 31) : fX9_edgeOf (nI t) (nI k) σ = some (nI (dig t k), σ) := edgeOf_eq ht hk
theorem hangE_len {b k e : Nat} {es : PL} : (hangE b k e es).length = es.length + 2 := by
  unfold hangE
  rw [List.length_append, List.length_set]
  rfl
theorem edg3_len (b t : Nat) : ∀ m, (edg3 b t m).length = 2 * m + 3 := by
  intro m
  induction m with
  | zero => rfl
  | succ m ih =>
    show (hangE b (m + 3) (dig t (m + 3)) (edg3 b t m)).length = _
    rw [hangE_len, ih]
    omega
theorem edg_len (b n t : Nat) : (edg b n t).length = eN n := by
  unfold edg eN
  by_cases h1 : n < 2
  · rw [if_pos h1, if_pos h1]; rfl
  · rw [if_neg h1, if_neg h1]
    by_cases h2 : n = 2
    · rw [if_pos h2]; subst h2; rfl
    · rw [if_neg h2, edg3_len]; omega
theorem TN_le {n : Nat} : TN n ≤ 105 := by
  unfold TN
  split
  · omega
  · split
    · omega
    · split <;> omega
theorem dig_lt {n t k : Nat} (hn : n ≤ 6) (ht : t < TN n) (h3 : 3 ≤ k) (hk : k < n) : dig t k < 2 * (k - 3) + 3 := by
  have hT := TN_le (n := n)
  unfold dig
  by_cases e3 : k = 3
  · rw [if_pos e3]; omega
  · rw [if_neg e3]
    by_cases e4 : k = 4
    · rw [if_pos e4]; omega
    · rw [if_neg e4]; omega
theorem addE {σ : Mem} {es : PL} {a b : Nat} (h : EdG 27 29 25 2 σ es) (hl : es.length < 9) : ∃ σ', fX7_addEdge (nI a) (nI b) σ = some (0, σ') ∧ EdG 27 29 25 2 σ' (es ++ [(a, b)]) ∧ Keep (nC [25, 27, 29]) σ σ' :=
  ⟨_, addEdge_eq h.1 hl, edG_add h (by decide) (by decide) (by decide), ((Keep.rf.st rfl).st rfl).st rfl⟩
theorem addE9 {σ : Mem} {es : PL} {a b : Nat} (h : EdG 58 59 50 19 σ es) (hl : es.length < 10) : ∃ σ', fX9_edge (nI a) (nI b) σ = some (0, σ') ∧ EdG 58 59 50 19 σ' (es ++ [(a, b)]) ∧ Keep (fun c k => !(c == 58 || c == 59 || (c == 50 && k == 19))) σ σ' :=
  ⟨_, edge_eq h.1 hl, edG_add h (by decide) (by decide) (by decide), ((Keep.rf.st rfl).st rfl).st rfl⟩
theorem hang_eq {σ : Mem} {es : PL} {k e : Nat} (h : EdG 27 29 25 2 σ es) (he : e < es.length) (hl : es.length ≤ 7) (h3 : 3 ≤ k) (h6 : k < 6) : ∃ σ', fX7_hang (nI k) (nI e) σ = some (0, σ') ∧ EdG 27 29 25 2 σ' (hangE 6 k e es) ∧ Keep (nC [25, 27, 29]) σ σ' := by
  have hv : ((6 : Int32) + nI k) - 2 = nI (6 + (k - 2)) := by
    rw [show (6 : Int32) = nI 6 from rfl, show (2 : Int32) = nI 2 from rfl, add_n, pk_sub (by omega)]
    congr 1
    omega
  have s1 := edG_set (b := 6 + (k - 2)) h (by decide) (by decide) he
  obtain ⟨σ2, a1, s2, t2⟩ := addE (a := 6 + (k - 2)) (b := (es.getD e (0, 0)).2) s1 (by rw [List.length_set]; omega)
  obtain ⟨σ3, a2, s3, t3⟩ := addE (a := 6 + (k - 2)) (b := k) s2 (by rw [List.length_append, List.length_set]; show es.length + 1 < 9; omega)
  refine ⟨σ3, ?_, ?_, ?_⟩
  · unfold fX7_hang
    show bnd (fX5_at 28 9 (nI e) σ) _ = _
    rw [at_in (by omega) (by decide), bnd_eq, hv, put_in (by omega) (by decide), bnd_eq]
    show bnd (fX7_addEdge (nI (6 + (k - 2))) (σ 29 e) (stm σ 29 e (nI (6 + (k - 2))))) _ = _
    rw [(h.2 e he).2, a1, bnd_eq, a2, bnd_eq]
  · have : hangE 6 k e es = (es.set e ((es.getD e (0, 0)).1, 6 + (k - 2)) ++ [(6 + (k - 2), (es.getD e (0, 0)).2)]) ++ [(6 + (k - 2), k)] := by
      unfold hangE
      rw [List.append_assoc]
      rfl
    rw [this]
    exact s3
  · have t1 : Keep (nC [25, 27, 29]) σ (stm σ 29 e (nI (6 + (k - 2)))) := Keep.rf.st rfl
    exact (t1.tr t2).tr t3
theorem grow_eq {σ : Mem} {n t : Nat} (hn : n ≤ 6) (ht : t < TN n) : ∃ σ', fX7_grow (nI t) (nI n) σ = some (0, σ') ∧ EdG 27 29 25 2 σ' (edg 6 n t) ∧ Keep (nC [25, 27, 29]) σ σ' := by
  have hT := TN_le (n := n)
  have h0 : EdG 27 29 25 2 (stm σ 25 2 0) [] := ⟨stm_v σ 25 2 0, fun i hi => absurd hi (Nat.not_lt_zero i)⟩
  unfold fX7_grow edg
  show ∃ σ', (if (nI n : Int32) = 2 then _ else _) = some (0, σ') ∧ _
  by_cases h2 : n = 2
  · subst h2
    obtain ⟨σ3, g1, g2, g3⟩ := addE (a := 0) (b := 1) h0 (by decide)
    have g1' : fX7_addEdge 0 1 (stm σ 25 2 0) = some (0, σ3) := g1
    rw [if_pos (show nI 2 = (2 : Int32) from rfl), if_neg (show ¬ (2 : Nat) < 2 by omega), if_pos rfl, g1', bnd_eq]
    exact ⟨σ3, rfl, g2, Keep.tr (Keep.rf.st rfl) g3⟩
  · rw [if_neg (show ¬ nI n = (2 : Int32) from ne_n h2 (by omega) (by decide))]
    show ∃ σ', (if (nI 3 : Int32) ≤ nI n then _ else _) = some (0, σ') ∧ _
    by_cases h1 : n < 2
    · rw [if_neg (nle_n (by omega) (by omega)), if_pos h1]
      exact ⟨_, rfl, h0, Keep.rf.st rfl⟩
    · rw [if_pos (le_n (by omega) (by omega)), if_neg h1, if_neg h2]
      -- the three first edges
      obtain ⟨σ1, ⟨i1, i2⟩, e1⟩ := up_k (fun f i (σ : Mem) => LX7_grow_24 (fun x1 x2 σ5 => LX7_grow_44 (fun σ10 => some (0, σ10)) 300 x1 x2 3 σ5) f (nI t) (nI n) (nI i) σ) 3 (fun i σ' => EdG 27 29 25 2 σ' ((List.range i).map (fun j => (j, 6))) ∧ Keep (nC [25, 27, 29]) σ σ') (fun σ5 => LX7_grow_44 (fun σ10 => some (0, σ10)) 300 (nI t) (nI n) 3 σ5)
        (fun f i σ' hi hI => by
          have hl : ((List.range i).map (fun j => ((j, 6) : Nat × Nat))).length = i := by simp
          obtain ⟨σ3, g1, g2, g3⟩ := addE (a := i) (b := 6) hI.1 (by omega)
          refine ⟨σ3, ⟨?_, hI.2.tr g3⟩, ?_⟩
          · rw [List.range_succ, List.map_append]
            exact g2
          · show BX7_grow_24 _ _ (nI t) (nI n) (nI i) σ' = _
            unfold BX7_grow_24
            rw [if_neg (show ¬ (3 : Int32) ≤ nI i from nle_n hi (by decide)), show (6 : Int32) = nI 6 from rfl, g1, bnd_eq, one_n])
        (fun f σ' hI => by
          show BX7_grow_24 _ _ (nI t) (nI n) (nI 3) σ' = _
          unfold BX7_grow_24
          rw [if_pos (show (3 : Int32) ≤ nI 3 from le_n (Nat.le_refl 3) (by decide))])
        0 (stm σ 25 2 0) 300 (by omega) (by omega) ⟨h0, Keep.rf.st rfl⟩
      rw [show (LX7_grow_24 (fun x1 x2 σ5 => LX7_grow_44 (fun σ10 => some (0, σ10)) 300 x1 x2 3 σ5) 300 (nI t) (nI n) 0 (stm σ 25 2 0)) = _ from e1]
      obtain ⟨σ2, ⟨j1, j2⟩, e2⟩ := up_k (fun f i (σ : Mem) => LX7_grow_44 (fun σ10 => some (0, σ10)) f (nI t) (nI n) (nI i) σ) n (fun i σ' => 3 ≤ i ∧ EdG 27 29 25 2 σ' (edg3 6 t (i - 3)) ∧ Keep (nC [25, 27, 29]) σ σ') (fun σ10 => some (0, σ10))
        (fun f i σ' hi hI => by
          obtain ⟨h3, hE, hKp⟩ := hI
          have hl := edg3_len 6 t (i - 3)
          have hd := dig_lt hn ht h3 hi
          obtain ⟨σ3, g1, g2, g3⟩ := hang_eq (k := i) (e := dig t i) hE (by omega) (by omega) h3 (by omega)
          refine ⟨σ3, ⟨by omega, ?_, hKp.tr g3⟩, ?_⟩
          · have : i + 1 - 3 = (i - 3) + 1 := by omega
            rw [this]
            show EdG 27 29 25 2 σ3 (hangE 6 (i - 3 + 3) (dig t (i - 3 + 3)) (edg3 6 t (i - 3)))
            rw [show i - 3 + 3 = i by omega]
            exact g2
          · show BX7_grow_44 _ _ (nI t) (nI n) (nI i) σ' = _
            unfold BX7_grow_44
            rw [if_neg (nle_n hi (by omega)), edgeOf_eq (σ := σ') (t := t) (k := i) (by omega) (by omega), bnd_eq, g1, bnd_eq, one_n])
        (fun f σ' hI => by
          show BX7_grow_44 _ _ (nI t) (nI n) (nI n) σ' = _
          unfold BX7_grow_44
          rw [if_pos (le_n (Nat.le_refl n) (by omega))])
        3 σ1 300 (by omega) (by omega) ⟨by omega, i1, i2⟩
      exact ⟨σ2, e2, j2.1, j2.2⟩
/-- the reference's scratch for a tree -/
def rT : Nat → Nat → Bool := fun c k => !(c == 58 || c == 59 || (c == 50 && (k == 19 || k == 20)))
theorem layTree_eq {σ : Mem} {n t : Nat} (hn : n ≤ 6) (ht : t < TN n) (hm : σ 50 0 = nI n) : ∃ σ', fX9_layTree (nI t) σ = some (0, σ') ∧ EdG 58 59 50 19 σ' (edg n n t) ∧ σ' 50 20 = nI (if n < 3 then n else 2 * n - 2) ∧ Keep rT σ σ' := by
  have hT := TN_le (n := n)
  have hw : ∀ c k, rT c k = true → (fun c k => !(c == 58 || c == 59 || (c == 50 && k == 19))) c k = true := by
    intro c k h
    unfold rT at h
    simp only [Bool.not_eq_true', Bool.or_eq_false_iff, Bool.and_eq_false_iff] at *
    exact ⟨h.1, h.2.imp id (fun z => z.1)⟩
  have e0 : stm σ 50 19 0 50 0 = nI n := by rw [stm_k (by decide), hm]
  obtain ⟨σa, hσa⟩ : ∃ s : Mem, s = stm (stm σ 50 19 0) 50 20 (nI n) := ⟨_, rfl⟩
  have h0 : EdG 58 59 50 19 σa [] := by rw [hσa]; exact ⟨by rw [stm_k (by decide), stm_v]; rfl, fun i hi => absurd hi (Nat.not_lt_zero i)⟩
  have hk0 : Keep rT σ σa := by rw [hσa]; exact (Keep.rf.st rfl).st rfl
  have hm0 : σa 50 0 = nI n := by rw [hk0 50 0 rfl, hm]
  have hn0 : σa 50 20 = nI n := by rw [hσa, stm_v]
  have hstart : ∀ X : O, (fX9_layTree (nI t) σ = X) = ((if σa 50 0 = 2 then bnd (fX9_edge 0 1 σa) (fun r21 σ22 => (fun (x1 : Int32) (σ3 : Mem) => if (3 : Int32) ≤ (σ3 50 0) then bnd (fX9_edge 0 (σ3 50 0) σ3) (fun r4 σ5 => bnd (fX9_edge 1 (σ5 50 0) σ5) (fun r6 σ7 => bnd (fX9_edge 2 (σ7 50 0) σ7) (fun r8 σ9 => letm (stm σ9 50 20 ((σ9 50 20) + 1)) (fun σ10 => LX9_layTree_75 (fun σ20 => some (0, σ20)) 300 x1 3 σ10)))) else some (0, σ3)) (nI t) σ22) else (fun (x1 : Int32) (σ3 : Mem) => if (3 : Int32) ≤ (σ3 50 0) then bnd (fX9_edge 0 (σ3 50 0) σ3) (fun r4 σ5 => bnd (fX9_edge 1 (σ5 50 0) σ5) (fun r6 σ7 => bnd (fX9_edge 2 (σ7 50 0) σ7) (fun r8 σ9 => letm (stm σ9 50 20 ((σ9 50 20) + 1)) (fun σ10 => LX9_layTree_75 (fun σ20 => some (0, σ20)) 300 x1 3 σ10)))) else some (0, σ3)) (nI t) σa) = X) := by
    intro X
    rw [hσa, ← e0]
    rfl
  unfold edg
  by_cases h2 : n = 2
  · subst h2
    obtain ⟨σ3, g1, g2, g3⟩ := addE9 (a := 0) (b := 1) h0 (by decide)
    refine ⟨σ3, ?_, by rw [if_neg (by omega), if_pos rfl]; exact g2, ?_, hk0.tr (g3.mono hw)⟩
    · have g1' : fX9_edge 0 1 σa = some (0, σ3) := g1
      rw [hstart, if_pos (show σa 50 0 = (2 : Int32) from hm0), g1', bnd_eq]
      show (if (3 : Int32) ≤ σ3 50 0 then _ else _) = _
      rw [g3 50 0 rfl, hm0, if_neg (by decide)]
    · rw [if_pos (by omega), g3 50 20 rfl, hn0]
  · by_cases h1 : n < 2
    · refine ⟨σa, ?_, by rw [if_pos h1]; exact h0, by rw [if_pos (by omega)]; exact hn0, hk0⟩
      rw [hstart, if_neg (show ¬ σa 50 0 = (2 : Int32) by rw [hm0]; exact ne_n h2 (by omega) (by decide))]
      show (if (3 : Int32) ≤ σa 50 0 then _ else _) = _
      rw [hm0, if_neg (show ¬ (3 : Int32) ≤ nI n from nle_n (a := 3) (by omega) (by decide))]
    · rw [if_neg h1, if_neg h2, if_neg (show ¬ n < 3 by omega)]
      obtain ⟨σ1, g1, g2, g3⟩ := addE9 (a := 0) (b := n) h0 (by decide)
      obtain ⟨σ2, g4, g5, g6⟩ := addE9 (a := 1) (b := n) g2 (show 1 < 10 by decide)
      obtain ⟨σ3, g7, g8, g9⟩ := addE9 (a := 2) (b := n) g5 (show 2 < 10 by decide)
      have k3 : Keep rT σ σ3 := ((hk0.tr (g3.mono hw)).tr (g6.mono hw)).tr (g9.mono hw)
      have m1 : σ1 50 0 = nI n := by rw [g3 50 0 rfl, hm0]
      have m2 : σ2 50 0 = nI n := by rw [g6 50 0 rfl, m1]
      have m3 : σ3 50 20 = nI n := by rw [g9 50 20 rfl, g6 50 20 rfl, g3 50 20 rfl, hn0]
      have hE4 : EdG 58 59 50 19 (stm σ3 50 20 (nI (n + 1))) (edg3 n t 0) := by
        refine ⟨by rw [stm_k (by decide)]; exact g8.1, fun i hi => ?_⟩
        rw [stm_ne (by decide), stm_ne (by decide)]
        exact g8.2 i hi
      obtain ⟨σ4, ⟨j0, j1, j2, j3⟩, e2⟩ := up_k (fun f i (σ : Mem) => LX9_layTree_75 (fun σ20 => some (0, σ20)) f (nI t) (nI i) σ) n (fun i σ' => 3 ≤ i ∧ EdG 58 59 50 19 σ' (edg3 n t (i - 3)) ∧ σ' 50 20 = nI (n + (i - 2)) ∧ Keep rT σ σ') (fun σ20 => some (0, σ20))
        (fun f i σ' hi hI => by
          obtain ⟨h3, hE, hnm, hKp⟩ := hI
          have hl := edg3_len n t (i - 3)
          have hd := dig_lt hn ht h3 hi
          have s1 := edG_set (b := n + (i - 2)) hE (by decide) (by decide) (show dig t i < (edg3 n t (i - 3)).length by omega)
          have kp1 : Keep rT σ' (stm σ' 59 (dig t i) (nI (n + (i - 2)))) := Keep.rf.st rfl
          obtain ⟨σ5, a1, a2, a3⟩ := addE9 (a := n + (i - 2)) (b := ((edg3 n t (i - 3)).getD (dig t i) (0, 0)).2) s1 (by rw [List.length_set]; omega)
          obtain ⟨σ6, b1, b2, b3⟩ := addE9 (a := n + (i - 2)) (b := i) a2 (by rw [List.length_append, List.length_set]; show (edg3 n t (i - 3)).length + 1 < 10; omega)
          have c1 : σ5 50 20 = nI (n + (i - 2)) := by rw [a3 50 20 rfl, stm_ne (by decide), hnm]
          have c2 : σ6 50 20 = nI (n + (i - 2)) := by rw [b3 50 20 rfl, c1]
          refine ⟨stm σ6 50 20 (nI (n + (i + 1 - 2))), ⟨by omega, ?_, stm_v _ _ _ _, (((hKp.tr kp1).tr (a3.mono hw)).tr (b3.mono hw)).st rfl⟩, ?_⟩
          · have : i + 1 - 3 = (i - 3) + 1 := by omega
            rw [this]
            show EdG 58 59 50 19 _ (hangE n (i - 3 + 3) (dig t (i - 3 + 3)) (edg3 n t (i - 3)))
            rw [show i - 3 + 3 = i by omega]
            have hh : hangE n i (dig t i) (edg3 n t (i - 3)) = ((edg3 n t (i - 3)).set (dig t i) (((edg3 n t (i - 3)).getD (dig t i) (0, 0)).1, n + (i - 2)) ++ [(n + (i - 2), ((edg3 n t (i - 3)).getD (dig t i) (0, 0)).2)]) ++ [(n + (i - 2), i)] := by
              unfold hangE
              rw [List.append_assoc]
              rfl
            rw [hh]
            refine ⟨by rw [stm_k (by decide)]; exact b2.1, fun x hx => ?_⟩
            rw [stm_ne (by decide), stm_ne (by decide)]
            exact b2.2 x hx
          · show BX9_layTree_75 _ _ (nI t) (nI i) σ' = _
            unfold BX9_layTree_75
            rw [hKp 50 0 rfl, hm, if_neg (nle_n hi (by omega)), edgeOf_eq9 (σ := σ') (t := t) (k := i) (by omega) (by omega), bnd_eq, gd_n (by omega) (by decide), cl_n (by omega)]
            show gd 10 (nI (dig t i)) _ = _
            rw [gd_n (by omega) (by decide)]
            show bnd (fX9_edge (stm σ' 59 (dig t i) (σ' 50 20) 50 20) (σ' 59 (dig t i)) (stm σ' 59 (dig t i) (σ' 50 20))) _ = _
            rw [stm_ne (show (50 : Nat) ≠ 59 by decide), hnm, (hE.2 (dig t i) (by omega)).2, a1, bnd_eq, c1, b1, bnd_eq]
            show LX9_layTree_75 _ f (nI t) (nI i + 1) (stm σ6 50 20 (σ6 50 20 + 1)) = _
            rw [c2, one_n, one_n, show n + (i - 2) + 1 = n + (i + 1 - 2) by omega])
        (fun f σ' hI => by
          show BX9_layTree_75 _ _ (nI t) (nI n) σ' = _
          unfold BX9_layTree_75
          rw [hI.2.2.2 50 0 rfl, hm, if_pos (le_n (Nat.le_refl n) (by omega))])
        3 (stm σ3 50 20 (nI (n + 1))) 300 (by omega) (by omega) ⟨by omega, hE4, by rw [stm_v], k3.st rfl⟩
      refine ⟨σ4, ?_, j1, by rw [j2]; congr 1; omega, j3⟩
      rw [hstart, if_neg (show ¬ σa 50 0 = (2 : Int32) by rw [hm0]; exact ne_n h2 (by omega) (by decide))]
      show (if (3 : Int32) ≤ σa 50 0 then _ else _) = _
      rw [hm0, if_pos (show (3 : Int32) ≤ nI n from le_n (a := 3) (by omega) (by omega)), show fX9_edge 0 (nI n) σa = some (0, σ1) from g1, bnd_eq, m1, show fX9_edge 1 (nI n) σ1 = some (0, σ2) from g4, bnd_eq, m2, show fX9_edge 2 (nI n) σ2 = some (0, σ3) from g7, bnd_eq]
      show LX9_layTree_75 _ 300 (nI t) (nI 3) (stm σ3 50 20 (σ3 50 20 + 1)) = _
      rw [m3, one_n]
      exact e2
