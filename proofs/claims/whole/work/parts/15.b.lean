/-! the reference's costs of a place -/
def esOK (nm : Nat) (es : PL) : Bool := es.all (fun a => !(a.1 == a.2) && decide (a.1 < nm) && decide (a.2 < nm))
theorem esOK_at {nm : Nat} {es : PL} (h : esOK nm es = true) {i : Nat} (hi : i < es.length) : (es.getD i (0, 0)).1 ≠ (es.getD i (0, 0)).2 ∧ (es.getD i (0, 0)).1 < nm ∧ (es.getD i (0, 0)).2 < nm := by
  unfold esOK at h
  simp only [List.all_eq_true, Bool.and_eq_true, Bool.not_eq_true', beq_eq_false_iff_ne, ne_eq, decide_eq_true_eq] at h
  have e : es.getD i (0, 0) = es[i] := by simp [List.getD_eq_getElem?_getD, hi]
  rw [e]
  obtain ⟨⟨a, b⟩, c⟩ := h _ (List.getElem_mem hi)
  exact ⟨a, b, c⟩
theorem lastEd_lt {es : PL} {g : Nat → Bool} {x w : Nat} (h : lastEd es g x = some w) : w < es.length ∧ g w = false ∧ ((es.getD w (0, 0)).1 = x ∨ (es.getD w (0, 0)).2 = x) := by
  unfold lastEd at h
  cases hl : lastE es g x es.length none with
  | none => rw [hl] at h; cases h
  | some z =>
    rw [hl] at h
    dsimp only at h
    subst h
    exact lastE_lt _ _ hl
/-- memory, edges gone, how many, and the plan so far -/
def PaM (σ0 σ : Mem) (es : PL) (nm : Nat) (d : Bool) (c0 : CV) (g : Nat → Bool) (k : Nat) (p : PL) : Prop :=
  GoM σ es.length g ∧ CoM σ nm (exP (dnC 9999 d) p c0) ∧ (∀ x, x < nm → ∀ r, r < 4 → exP (dnC 9999 d) p c0 x r ≤ 9999 * (p.length + 1)) ∧ p.length = k ∧ Keep (nC [60, 61]) σ0 σ
theorem passM_n {es : PL} {root m x : Nat} {g : Nat → Bool} {k : Nat} {p : PL} (h : (if x = root then none else lastEd es g x) = none) : passM es root (m + 1) x g k p = passM es root m (x + 1) g k p := by
  simp only [passM, h]
theorem passM_s {es : PL} {root m x e : Nat} {g : Nat → Bool} {k : Nat} {p : PL} (h : (if x = root then none else lastEd es g x) = some e) : passM es root (m + 1) x g k p = passM es root m (x + 1) (gset g e) (k + 1) (p ++ [(x, if (es.getD e (0, 0)).1 = x then (es.getD e (0, 0)).2 else (es.getD e (0, 0)).1)]) := by
  simp only [passM, h]
theorem pass_eq {σ0 : Mem} {es : PL} {nm root : Nat} {d : Bool} {c0 : CV} {P : PL} (hE : EdG 58 59 50 19 σ0 es) (hB : Bd es) (hl : es.length ≤ 10) (hok : esOK nm es = true) (hnm : nm ≤ 11) (hN : σ0 50 20 = nI nm) (hroot : root < 100) (K : Int32 → Int32 → Int32 → Mem → O) :
    ∀ (m x : Nat) (g : Nat → Bool) (k : Nat) (p : PL) (σ : Mem) (f : Nat), x + m = nm → m < f → PaM σ0 σ es nm d c0 g k p → (passM es root m x g k p).2.2.length ≤ 30 → ∃ σ', PaM σ0 σ' es nm d c0 (passM es root m x g k p).1 (passM es root m x g k p).2.1 (passM es root m x g k p).2.2 ∧ LX9_costFrom_46 K f (nI root) (dI d) (nI k) (nI x) σ = K (nI root) (dI d) (nI (passM es root m x g k p).2.1) σ' := by
  intro m
  induction m with
  | zero =>
    intro x g k p σ f hx hf hPa _
    obtain ⟨f, rfl⟩ : ∃ g, f = g + 1 := ⟨f - 1, by omega⟩
    refine ⟨σ, hPa, ?_⟩
    show BX9_costFrom_46 _ _ (nI root) (dI d) (nI k) (nI x) σ = _
    unfold BX9_costFrom_46
    rw [hPa.2.2.2.2 50 20 rfl, hN, if_pos (le_n (by omega) (by omega))]
    rfl
  | succ m ih =>
    intro x g k p σ f hx hf hPa hlen
    obtain ⟨f, rfl⟩ : ∃ g, f = g + 1 := ⟨f - 1, by omega⟩
    obtain ⟨p1, p2, p3, p4, p5⟩ := hPa
    have hE' : EdG 58 59 50 19 σ es := hE.keep p5 (fun _ => rfl) (fun _ => rfl) rfl
    have hstep : ∀ X : O, (LX9_costFrom_46 K (f + 1) (nI root) (dI d) (nI k) (nI x) σ = X) = (BX9_costFrom_46 K (LX9_costFrom_46 K f) (nI root) (dI d) (nI k) (nI x) σ = X) := fun _ => rfl
    unfold BX9_costFrom_46 at hstep
    rw [p5 50 20 rfl, hN, if_neg (nle_n (by omega) (by omega))] at hstep
    dsimp only [jn] at hstep
    -- which edge
    have hsel : ∃ w, w = (if x = root then none else lastEd es g x) ∧ ∀ X : O, (LX9_costFrom_46 K (f + 1) (nI root) (dI d) (nI k) (nI x) σ = X) = ((if enc w = (-9) then LX9_costFrom_46 K f (nI root) (dI d) (nI k) (nI x + 1) σ else gd 10 (enc w) (if σ 58 (enc w).toNatClampNeg = nI x then gd 10 (enc w) (bnd (fX9_takes (nI x) (σ 59 (enc w).toNatClampNeg) (dI d) σ) (fun r7 σ8 => gd 10 (enc w) (letm (stm σ8 61 (enc w).toNatClampNeg 1) (fun σ9 => LX9_costFrom_46 K f (nI root) (dI d) (nI k + 1) (nI x + 1) σ9)))) else gd 10 (enc w) (bnd (fX9_takes (nI x) (σ 58 (enc w).toNatClampNeg) (dI d) σ) (fun r7 σ8 => gd 10 (enc w) (letm (stm σ8 61 (enc w).toNatClampNeg 1) (fun σ9 => LX9_costFrom_46 K f (nI root) (dI d) (nI k + 1) (nI x + 1) σ9)))))) = X) := by
      by_cases hxr : x = root
      · refine ⟨none, by rw [if_pos hxr], ?_⟩
        rw [if_pos (by rw [hxr])] at hstep
        exact hstep
      · refine ⟨lastEd es g x, by rw [if_neg hxr], ?_⟩
        rw [if_neg (ne_n hxr (by omega) (by omega)), lastEdge_eq hE' hB hl p1 (by omega), bnd_eq] at hstep
        exact hstep
    obtain ⟨w, hw, hs2⟩ := hsel
    cases w with
    | none =>
      have hpm := passM_n (m := m) (k := k) (p := p) hw.symm
      rw [hpm] at hlen ⊢
      obtain ⟨σ', a1, a2⟩ := ih (x + 1) g k p σ f (by omega) (by omega) ⟨p1, p2, p3, p4, p5⟩ hlen
      refine ⟨σ', a1, ?_⟩
      rw [hs2, if_pos (show enc none = (-9) from rfl), one_n]
      exact a2
    | some e =>
      have hwl : lastEd es g x = some e := by
        by_cases hxr : x = root
        · rw [if_pos hxr] at hw; cases hw
        · rw [if_neg hxr] at hw; exact hw.symm
      obtain ⟨e1, e2, e3⟩ := lastEd_lt hwl
      obtain ⟨o1, o2, o3⟩ := esOK_at hok e1
      obtain ⟨y, hy⟩ : ∃ y, y = (if (es.getD e (0, 0)).1 = x then (es.getD e (0, 0)).2 else (es.getD e (0, 0)).1) := ⟨_, rfl⟩
      have hyx : x ≠ y ∧ y < nm := by
        rw [hy]
        by_cases h1 : (es.getD e (0, 0)).1 = x
        · rw [if_pos h1]; exact ⟨by rw [← h1]; exact o1, o3⟩
        · rw [if_neg h1]; exact ⟨fun z => h1 z.symm, o2⟩
      have hpm := passM_s (m := m) (k := k) (p := p) hw.symm
      rw [← hy] at hpm
      rw [hpm] at hlen ⊢
      have hpl : p.length + 1 ≤ 30 := by
        have mono : ∀ (m x : Nat) (g : Nat → Bool) (k : Nat) (p : PL), p.length ≤ (passM es root m x g k p).2.2.length := by
          intro m
          induction m with
          | zero => intro x g k p; exact Nat.le_refl _
          | succ m ih2 =>
            intro x g k p
            unfold passM
            split
            · exact ih2 _ _ _ _
            · refine Nat.le_trans ?_ (ih2 _ _ _ _)
              rw [List.length_append]
              omega
        have := mono m (x + 1) (gset g e) (k + 1) (p ++ [(x, y)])
        rw [List.length_append] at this
        simp only [List.length_cons, List.length_nil] at this
        omega
      obtain ⟨σ2, t1, t2, t3⟩ := takes_eq (d := d) p2 hnm (show x < nm by omega) hyx.2 hyx.1 (fun r hr => by
        have := p3 y hyx.2 r hr
        have h30 : 9999 * (p.length + 1) ≤ 9999 * 30 := Nat.mul_le_mul_left _ hpl
        omega)
      have hexp : exP (dnC 9999 d) (p ++ [(x, y)]) c0 = tk (dnC 9999 d) (x, y) (exP (dnC 9999 d) p c0) := by
        rw [exP_app]
        rfl
      have hG2 : GoM (stm σ2 61 e 1) es.length (gset g e) := by
        intro j hj
        by_cases hje : j = e
        · subst hje
          rw [stm_v]
          unfold gset
          rw [if_pos (by simp)]
        · rw [stm_k hje, t3 61 j rfl, p1 j hj]
          unfold gset
          rw [if_neg (show ¬ (j == e) = true by simpa using hje)]
      have hC2 : CoM (stm σ2 61 e 1) nm (exP (dnC 9999 d) (p ++ [(x, y)]) c0) := by
        intro z hz r hr
        rw [hexp, stm_ne (by decide)]
        exact t2 z hz r hr
      have hbd : ∀ z, z < nm → ∀ r, r < 4 → exP (dnC 9999 d) (p ++ [(x, y)]) c0 z r ≤ 9999 * ((p ++ [(x, y)]).length + 1) := by
        intro z hz r hr
        rw [hexp, List.length_append]
        unfold tk
        dsimp only [List.length_cons, List.length_nil]
        have := p3 z hz r hr
        have := dnC_le 9999 d (exP (dnC 9999 d) p c0 x) r
        split <;> omega
      obtain ⟨σ', a1, a2⟩ := ih (x + 1) (gset g e) (k + 1) (p ++ [(x, y)]) (stm σ2 61 e 1) f (by omega) (by omega) ⟨hG2, hC2, hbd, by rw [List.length_append, p4]; rfl, (p5.tr (t3.mono (nC_mono (by decide)))).st rfl⟩ hlen
      refine ⟨σ', a1, ?_⟩
      rw [hs2]
      show (if nI e = (-9) then _ else _) = _
      rw [if_neg (ne_neg (by decide) (by omega))]
      show gd 10 (nI e) (if σ 58 (nI e).toNatClampNeg = nI x then gd 10 (nI e) (bnd (fX9_takes (nI x) (σ 59 (nI e).toNatClampNeg) (dI d) σ) (fun r7 σ8 => gd 10 (nI e) (letm (stm σ8 61 (nI e).toNatClampNeg 1) (fun σ9 => LX9_costFrom_46 K f (nI root) (dI d) (nI k + 1) (nI x + 1) σ9)))) else gd 10 (nI e) (bnd (fX9_takes (nI x) (σ 58 (nI e).toNatClampNeg) (dI d) σ) (fun r7 σ8 => gd 10 (nI e) (letm (stm σ8 61 (nI e).toNatClampNeg 1) (fun σ9 => LX9_costFrom_46 K f (nI root) (dI d) (nI k + 1) (nI x + 1) σ9))))) = _
      have hbe := hB.at e1
      have tail : bnd (fX9_takes (nI x) (nI y) (dI d) σ) (fun r7 σ8 => gd 10 (nI e) (letm (stm σ8 61 e 1) (fun σ9 => LX9_costFrom_46 K f (nI root) (dI d) (nI k + 1) (nI x + 1) σ9))) = K (nI root) (dI d) (nI (passM es root m (x + 1) (gset g e) (k + 1) (p ++ [(x, y)])).2.1) σ' := by
        rw [t1, bnd_eq, gd_n (by omega) (by decide)]
        dsimp only [letm]
        rw [one_n, one_n]
        exact a2
      rw [gd_n (by omega) (by decide), cl_n (by omega), (hE'.2 e e1).1, (hE'.2 e e1).2, gd_n (by omega) (by decide), gd_n (by omega) (by decide)]
      by_cases h1 : (es.getD e (0, 0)).1 = x
      · rw [if_pos h1] at hy
        rw [if_pos (by rw [h1]), ← hy]
        exact tail
      · rw [if_neg h1] at hy
        rw [if_neg (ne_n h1 (by omega) (by omega)), ← hy]
        exact tail
theorem passM_cnt {es : PL} {root : Nat} : ∀ (m x : Nat) (g : Nat → Bool) (k : Nat) (p : PL), p.length = k → (passM es root m x g k p).2.2.length = (passM es root m x g k p).2.1 ∧ p.length ≤ (passM es root m x g k p).2.2.length := by
  intro m
  induction m with
  | zero => intro x g k p h; exact ⟨h, Nat.le_refl _⟩
  | succ m ih =>
    intro x g k p h
    unfold passM
    split
    · exact ih _ _ _ _ h
    · obtain ⟨a, b⟩ := ih (x + 1) (gset g _) (k + 1) (p ++ [_]) (by rw [List.length_append, h]; rfl)
      refine ⟨a, Nat.le_trans ?_ b⟩
      rw [List.length_append]
      omega
theorem planM_len {es : PL} {nm root : Nat} : ∀ (fu : Nat) (g : Nat → Bool) (k : Nat) (p P : PL), p.length = k → planM es nm root fu g k p = some P → p.length ≤ P.length := by
  intro fu
  induction fu with
  | zero => intro g k p P _ h; cases h
  | succ fu ih =>
    intro g k p P hk h
    unfold planM at h
    split at h
    · cases h; exact Nat.le_refl _
    · obtain ⟨a, b⟩ := passM_cnt nm 0 g k p hk
      exact Nat.le_trans b (ih _ _ _ _ a h)
theorem plan_eq {σ0 : Mem} {es : PL} {nm root : Nat} {d : Bool} {c0 : CV} {P : PL} (hE : EdG 58 59 50 19 σ0 es) (hB : Bd es) (hl : es.length ≤ 10) (hok : esOK nm es = true) (hnm : nm ≤ 11) (hN : σ0 50 20 = nI nm) (hroot : root < 100) (hP : P.length ≤ 30) (K : Int32 → Mem → O) :
    ∀ (fu : Nat) (g : Nat → Bool) (k : Nat) (p : PL) (σ : Mem) (f : Nat), fu ≤ f → PaM σ0 σ es nm d c0 g k p → planM es nm root fu g k p = some P → ∃ σ', CoM σ' nm (exP (dnC 9999 d) P c0) ∧ Keep (nC [60, 61]) σ0 σ' ∧ LX9_costFrom_34 K f (nI root) (dI d) (nI k) σ = K (nI root) σ' := by
  intro fu
  induction fu with
  | zero => intro g k p σ f _ _ h; cases h
  | succ fu ih =>
    intro g k p σ f hf hPa h
    obtain ⟨f, rfl⟩ : ∃ g, f = g + 1 := ⟨f - 1, by omega⟩
    have hk := hPa.2.2.2.1
    have hpl := planM_len (fu + 1) g k p P hk h
    have hstep : ∀ X : O, (LX9_costFrom_34 K (f + 1) (nI root) (dI d) (nI k) σ = X) = (BX9_costFrom_34 K (LX9_costFrom_34 K f) (nI root) (dI d) (nI k) σ = X) := fun _ => rfl
    unfold BX9_costFrom_34 at hstep
    rw [hPa.2.2.2.2 50 19 rfl, hE.1] at hstep
    unfold planM at h
    by_cases hc : es.length ≤ k
    · rw [if_pos hc] at h
      cases h
      rw [if_pos (le_n hc (by omega))] at hstep
      exact ⟨σ, hPa.2.1, hPa.2.2.2.2, (hstep _).mpr rfl⟩
    · rw [if_neg hc] at h
      rw [if_neg (nle_n (by omega) (by omega))] at hstep
      obtain ⟨a, b⟩ := passM_cnt (es := es) (root := root) nm 0 g k p hk
      have hpl2 := planM_len fu _ _ _ P a h
      obtain ⟨σ', c1, c2⟩ := pass_eq (P := P) hE hB hl hok hnm hN hroot (fun x1 x3 x4 σ12 => LX9_costFrom_34 K f x1 x3 x4 σ12) nm 0 g k p σ 300 (by omega) (by omega) hPa (by omega)
      obtain ⟨σ2, d1, d2, d3⟩ := ih _ _ _ σ' f (by omega) c1 h
      refine ⟨σ2, d1, d2, ?_⟩
      rw [hstep, show (0 : Int32) = nI 0 from rfl, c2]
      exact d3
theorem lfc_lf : (List.range 5).all (fun v => (List.range 4).all (fun r => (lfc 9999 (lfS v) r == if v = 4 ∨ v = r then 0 else 9999))) = true := by decide +kernel
theorem lfc_tab {v r : Nat} (hv : v ≤ 4) (hr : r < 4) : lfc 9999 (lfS v) r = if v = 4 ∨ v = r then 0 else 9999 := by
  have h := lfc_lf
  simp only [List.all_eq_true, List.mem_range, beq_iff_eq] at h
  exact h v (by omega) r hr
theorem layLeaves_eq {σ : Mem} {n p nm j : Nat} {R : Nat → Nat → Nat} (hM : MM σ n p R) (hj : n = 0 ∨ j < p) (hj8 : j < 8) (hnm : nm ≤ 11) (hN : σ 50 20 = nI nm) : ∃ σ', fX9_layLeaves (nI j) σ = some (0, σ') ∧ CoM σ' nm (c0M n (fun x => lfS (R x j))) ∧ Keep (nC [60]) σ σ' := by
  have hn := hM.2.2.1
  obtain ⟨s2, ⟨g1, g2⟩, e⟩ := up_k (fun f x (s : Mem) => LX9_layLeaves_2 (fun σ10 => some (0, σ10)) f (nI j) (nI x) s) nm (fun k s => (∀ x, x < k → ∀ r, r < 4 → s 60 (4 * x + r) = nI (c0M n (fun x => lfS (R x j)) x r)) ∧ Keep (nC [60]) σ s) (fun s => some (0, s))
    (fun f x s hx hI => by
      obtain ⟨i1, i2⟩ := hI
      obtain ⟨s3, ⟨h1, h2⟩, e2⟩ := up_k (fun f2 r (s' : Mem) => LX9_layLeaves_12 (fun x1 x2 σ9 => LX9_layLeaves_2 (fun σ10 => some (0, σ10)) f x1 (x2 + 1) σ9) f2 (nI j) (nI x) (nI r) s') 4 (fun k s' => ((∀ r, r < k → s' 60 (4 * x + r) = nI (c0M n (fun x => lfS (R x j)) x r)) ∧ (∀ y, y < x → ∀ r, r < 4 → s' 60 (4 * y + r) = nI (c0M n (fun x => lfS (R x j)) y r))) ∧ Keep (nC [60]) σ s') (fun s' => LX9_layLeaves_2 (fun σ10 => some (0, σ10)) f (nI j) (nI x + 1) s')
        (fun f2 r s' hr hI2 => by
          obtain ⟨⟨k1, k2⟩, k3⟩ := hI2
          have hM' : MM s' n p R := ⟨by rw [k3 50 0 rfl]; exact hM.1, by rw [k3 50 1 rfl]; exact hM.2.1, hM.2.2.1, hM.2.2.2.1, fun i hi z hz => by rw [k3 51 _ rfl]; exact hM.2.2.2.2 i hi z hz⟩
          refine ⟨stm s' 60 (4 * x + r) (nI (c0M n (fun x => lfS (R x j)) x r)), ⟨⟨fun r2 hr2 => ?_, fun y hy r2 hr2 => ?_⟩, k3.st rfl⟩, ?_⟩
          · by_cases hrr : r2 = r
            · subst hrr; rw [stm_v]
            · rw [stm_k (by omega)]; exact k1 r2 (by omega)
          · rw [stm_k (by omega)]; exact k2 y hy r2 hr2
          · show BX9_layLeaves_12 _ _ (nI j) (nI x) (nI r) s' = _
            unfold BX9_layLeaves_12
            dsimp only [jn]
            rw [if_neg (show ¬ (4 : Int32) ≤ nI r from nle_n (a := 4) hr (by decide)), hM'.1, ix4]
            dsimp only [letm]
            unfold c0M
            by_cases hxn : x < n
            · have hjp : j < p := by omega
              have hr4 := (hM.2.2.2.2 x hxn j hjp).2
              rw [if_neg (nle_n hxn (by omega)), mm_at hM' hxn hjp, bnd_eq, if_pos hxn, lfc_tab hr4 hr]
              by_cases h4 : R x j = 4
              · rw [if_pos (show nI (R x j) = (4 : Int32) by rw [h4]; rfl), if_neg (by decide), if_pos (Or.inl h4), gd_n (by omega) (by decide), cl_n (by omega), one_n]
                rfl
              · rw [if_neg (show ¬ nI (R x j) = (4 : Int32) from ne_n (b := 4) h4 (by omega) (by decide)), mm_at hM' hxn hjp, bnd_eq]
                by_cases hrr : R x j = r
                · rw [if_pos (by rw [hrr]), if_neg (by decide), if_pos (Or.inr hrr), gd_n (by omega) (by decide), cl_n (by omega), one_n]
                  rfl
                · rw [if_neg (ne_n hrr (by omega) (by omega)), if_pos rfl, if_neg (by omega), gd_n (by omega) (by decide), cl_n (by omega), one_n]
                  rfl
            · rw [if_pos (le_n (by omega) (by omega)), if_neg (by decide), if_neg hxn, gd_n (by omega) (by decide), cl_n (by omega), one_n]
              rfl)
        (fun f2 s' _ => by
          show BX9_layLeaves_12 _ _ (nI j) (nI x) (nI 4) s' = _
          unfold BX9_layLeaves_12
          rw [if_pos (show (4 : Int32) ≤ nI 4 from le_n (Nat.le_refl 4) (by decide))])
        0 s 300 (by omega) (by omega) ⟨⟨fun r hr => absurd hr (Nat.not_lt_zero r), i1⟩, i2⟩
      refine ⟨s3, ⟨fun y hy r hr => ?_, h2⟩, ?_⟩
      · by_cases hyx : y = x
        · subst hyx; exact h1.1 r hr
        · exact h1.2 y (by omega) r hr
      · show BX9_layLeaves_2 _ _ (nI j) (nI x) s = _
        unfold BX9_layLeaves_2
        rw [i2 50 20 rfl, hN, if_neg (nle_n hx (by omega)), show (0 : Int32) = nI 0 from rfl, ← one_n]
        exact e2)
    (fun f s hI => by
      show BX9_layLeaves_2 _ _ (nI j) (nI nm) s = _
      unfold BX9_layLeaves_2
      rw [hI.2 50 20 rfl, hN, if_pos (le_n (Nat.le_refl _) (by omega))])
    0 σ 300 (by omega) (by omega) ⟨fun x hx => absurd hx (Nat.not_lt_zero x), Keep.rf⟩
  refine ⟨s2, e, fun x hx r hr => ⟨g1 x hx r hr, ?_⟩, g2⟩
  unfold c0M lfc
  split
  · split <;> omega
  · omega
theorem costFrom9_eq {σ : Mem} {n p nm j root : Nat} {R : Nat → Nat → Nat} {es P : PL} {d : Bool} (hM : MM σ n p R) (hj : n = 0 ∨ j < p) (hj8 : j < 8) (hnm : nm ≤ 11) (hN : σ 50 20 = nI nm) (hE : EdG 58 59 50 19 σ es) (hB : Bd es) (hl : es.length ≤ 10) (hok : esOK nm es = true) (hroot : root < nm) (hP : P.length ≤ 30) (hplan : plan0 es nm root = some P) : ∃ σ', fX9_costFrom (nI root) (nI j) (dI d) σ = some (nI (mn4 9999 (exP (dnC 9999 d) P (c0M n (fun x => lfS (R x j))) root)), σ') ∧ Keep (nC [60, 61]) σ σ' := by
  obtain ⟨σ1, a1, a2, a3⟩ := layLeaves_eq hM hj hj8 hnm hN
  have k1 : Keep (nC [60, 61]) σ σ1 := a3.mono (nC_mono (by decide))
  obtain ⟨σ2, ⟨b1, b2, b3⟩, e⟩ := up_k (fun f i (s : Mem) => LX9_costFrom_8 (fun x1 x3 σ4 => LX9_costFrom_34 (fun x1 σ13 => bnd (fX9_least x1 σ13) (fun r14 σ15 => some (r14, σ15))) 300 x1 x3 0 σ4) f (nI root) (dI d) (nI i) s) es.length (fun k s => (∀ i, i < k → s 61 i = 0) ∧ CoM s nm (c0M n (fun x => lfS (R x j))) ∧ Keep (nC [60, 61]) σ s) (fun s => LX9_costFrom_34 (fun x1 σ13 => bnd (fX9_least x1 σ13) (fun r14 σ15 => some (r14, σ15))) 300 (nI root) (dI d) 0 s)
    (fun f i s hi hI => by
      obtain ⟨i1, i2, i3⟩ := hI
      refine ⟨stm s 61 i 0, ⟨fun z hz => ?_, fun x hx r hr => ?_, i3.st rfl⟩, ?_⟩
      · by_cases hzi : z = i
        · subst hzi; rw [stm_v]
        · rw [stm_k hzi]; exact i1 z (by omega)
      · rw [stm_ne (by decide)]; exact i2 x hx r hr
      · show BX9_costFrom_8 _ _ (nI root) (dI d) (nI i) s = _
        unfold BX9_costFrom_8
        rw [i3 50 19 rfl, hE.1, if_neg (nle_n hi (by omega)), gd_n (by omega) (by decide), cl_n (by omega), one_n]
        rfl)
    (fun f s hI => by
      show BX9_costFrom_8 _ _ (nI root) (dI d) (nI es.length) s = _
      unfold BX9_costFrom_8
      rw [hI.2.2 50 19 rfl, hE.1, if_pos (le_n (Nat.le_refl _) (by omega))])
    0 σ1 300 (by omega) (by omega) ⟨fun i hi => absurd hi (Nat.not_lt_zero i), a2, k1⟩
  have hPa : PaM σ σ2 es nm d (c0M n (fun x => lfS (R x j))) (fun _ => false) 0 [] := by
    refine ⟨fun z hz => b1 z hz, b2, fun x hx r hr => ?_, rfl, b3⟩
    show c0M n (fun x => lfS (R x j)) x r ≤ 9999 * 1
    unfold c0M lfc
    split
    · split <;> omega
    · omega
  obtain ⟨σ3, c1, c2, c3⟩ := plan_eq hE hB hl hok hnm hN (by omega) hP (fun x1 σ13 => bnd (fX9_least x1 σ13) (fun r14 σ15 => some (r14, σ15))) 20 (fun _ => false) 0 [] σ2 300 (by omega) hPa hplan
  refine ⟨σ3, ?_, c2⟩
  unfold fX9_costFrom
  rw [a1, bnd_eq, show LX9_costFrom_8 (fun x1 x3 σ4 => LX9_costFrom_34 (fun x1 σ13 => bnd (fX9_least x1 σ13) (fun r14 σ15 => some (r14, σ15))) 300 x1 x3 0 σ4) 300 (nI root) (dI d) 0 σ1 = _ from e, show LX9_costFrom_34 (fun x1 σ13 => bnd (fX9_least x1 σ13) (fun r14 σ15 => some (r14, σ15))) 300 (nI root) (dI d) 0 σ2 = _ from c3, least_eq c1 hnm hroot, bnd_eq]
