/-! mixed copies: the reference, and both -/
def E9 (s : S4) (σ : Mem) : Prop := s.1 ≤ 9 ∧ (σ 63 0 = if s.1 = 9 then 9999 else nI s.1) ∧ (s.1 < 9 → σ 63 1 = nI s.2.1 ∧ σ 63 2 = nI s.2.2.1 ∧ σ 63 3 = nI s.2.2.2)
theorem le_9 {s : S4} {v : Nat} (hs : s.1 ≤ 9) (hv : v ≤ 8) : ((if s.1 = 9 then 9999 else nI s.1 : Int32) ≤ nI v) ↔ s.1 ≤ v := by
  by_cases h9 : s.1 = 9
  · rw [if_pos h9, h9]
    exact ⟨fun z => absurd z (nle_n (a := 9999) (by omega) (by decide)), fun z => by omega⟩
  · rw [if_neg h9]
    constructor
    · intro z
      by_cases hv2 : s.1 ≤ v
      · exact hv2
      · exact absurd z (nle_n (by omega) (by omega))
    · intro z
      exact le_n z (by omega)
theorem uF_0 (R : Nat → Nat → Nat) (a b : Nat) {c P : Nat} (h : c ≤ P) : sumR (uF R a b 0) c = sumR (fun j => if j < c then ul R a b j else 0) P := by
  have := sumR_ext (f := fun j => if j < c then ul R a b j else 0) (m := c) (P - c) (fun i h1 h2 => by rw [if_neg (by omega)])
  rw [show c + (P - c) = P by omega] at this
  rw [this]
  apply sumR_congr
  intro j hj
  unfold uF
  rw [if_pos (Nat.zero_le j), if_pos hj]
theorem mixed9_in {σ : Mem} {n p : Nat} {R : Nat → Nat → Nat} (h : MM σ n p R) {a x y w : Nat} (ha : a < n) (hx : x < n) (hy : y < n) (K : Int32 → Int32 → Int32 → Int32 → Mem → O) {s : S4} (hE : E9 s σ) : ∃ σ', LX9_mixed_114 K 300 (nI a) (nI w) (nI x) (nI y) 1 σ = K (nI a) (nI w) (nI x) (nI y) σ' ∧ E9 (if y = a ∨ x = y then s else m3 R p a x y p s) σ' ∧ Keep (nC [63]) σ σ' ∧ σ' 63 4 = σ 63 4 := by
  have hp := h.2.2.2.1
  have hn := h.2.2.1
  have first : ∀ (σ : Mem), σ 50 1 = nI p → (p ≤ 1 ∨ y = x ∨ y = a) → LX9_mixed_114 K 300 (nI a) (nI w) (nI x) (nI y) 1 σ = K (nI a) (nI w) (nI x) (nI y) σ := by
    intro σ h1 hc
    show BX9_mixed_114 K (LX9_mixed_114 K 299) (nI a) (nI w) (nI x) (nI y) (nI 1) σ = _
    unfold BX9_mixed_114
    rw [h1]
    by_cases c1 : p ≤ 1
    · rw [if_pos (le_n c1 (by omega))]
    · rw [if_neg (nle_n (by omega) (by omega))]
      by_cases c2 : y = x
      · rw [if_pos (by rw [c2])]
      · rw [if_neg (ne_n c2 (by omega) (by omega)), if_pos (by rw [(hc.resolve_left c1).resolve_left c2])]
  by_cases hc : y = a ∨ x = y
  · rw [if_pos hc]
    exact ⟨σ, first σ h.2.1 (by omega), hE, Keep.rf, rfl⟩
  · rw [if_neg hc]
    by_cases hp1 : p ≤ 1
    · refine ⟨σ, first σ h.2.1 (Or.inl hp1), ?_, Keep.rf, rfl⟩
      rcases (by omega : p = 0 ∨ p = 1) with rfl | rfl
      · exact hE
      · exact hE
    · obtain ⟨σ', ⟨h1, h2, h3, h4⟩, e⟩ := up_k (fun f c (s' : Mem) => LX9_mixed_114 K f (nI a) (nI w) (nI x) (nI y) (nI c) s') p (fun c s' => 1 ≤ c ∧ E9 (m3 R p a x y c s) s' ∧ Keep (nC [63]) σ s' ∧ s' 63 4 = σ 63 4) (fun s' => K (nI a) (nI w) (nI x) (nI y) s')
        (fun f c s' hc2 hI => by
          obtain ⟨i1, i2, i3, i4⟩ := hI
          have hM : MM s' n p R := h.keep i3 rfl rfl (fun _ => rfl)
          have hV := Vm_le (R := R) (P := p) (a := a) (p := x) (q := y) (c := c) hp
          have hstep : ∀ X : O, (LX9_mixed_114 K (f + 1) (nI a) (nI w) (nI x) (nI y) (nI c) s' = X) = (BX9_mixed_114 K (LX9_mixed_114 K f) (nI a) (nI w) (nI x) (nI y) (nI c) s' = X) := fun _ => rfl
          unfold BX9_mixed_114 at hstep
          rw [hM.2.1, if_neg (nle_n hc2 (by omega)), if_neg (ne_n (show y ≠ x by omega) (by omega) (by omega)), if_neg (ne_n (show y ≠ a by omega) (by omega) (by omega)), show fX9_unlikes (nI a) (nI x) 0 (nI c) s' = some (nI (sumR (uF R a x 0) c), s') from unlikes_eq hM ha hx (Nat.zero_le c) (by omega), bnd_eq, hM.2.1, unlikes_eq hM ha hy (show c ≤ p by omega) (Nat.le_refl p), bnd_eq, uF_0 R a x (show c ≤ p by omega), add_n, show sumR (fun j => if j < c then ul R a x j else 0) p + sumR (uF R a y c) p = Vm R p a x y c from rfl, one_n] at hstep
          dsimp only [letv] at hstep
          rw [show (gd 5 0 (if (s' 63 (0 : Int32).toNatClampNeg : Int32) ≤ nI (Vm R p a x y c) then LX9_mixed_114 K f (nI a) (nI w) (nI x) (nI y) (nI (c + 1)) s' else gd 5 0 (letm (stm s' 63 (0 : Int32).toNatClampNeg (nI (Vm R p a x y c))) (fun σ15 => gd 5 1 (letm (stm σ15 63 (1 : Int32).toNatClampNeg (nI x)) (fun σ16 => gd 5 2 (letm (stm σ16 63 (2 : Int32).toNatClampNeg (nI y)) (fun σ17 => gd 5 3 (letm (stm σ17 63 (3 : Int32).toNatClampNeg (nI c)) (fun σ18 => LX9_mixed_114 K f (nI a) (nI w) (nI x) (nI y) (nI (c + 1)) σ18)))))))))) = (if s' 63 0 ≤ nI (Vm R p a x y c) then LX9_mixed_114 K f (nI a) (nI w) (nI x) (nI y) (nI (c + 1)) s' else LX9_mixed_114 K f (nI a) (nI w) (nI x) (nI y) (nI (c + 1)) (stm (stm (stm (stm s' 63 0 (nI (Vm R p a x y c))) 63 1 (nI x)) 63 2 (nI y)) 63 3 (nI c))) from rfl, i2.2.1] at hstep
          have em : m3 R p a x y (c + 1) s = stp (m3 R p a x y c s) x y c (Vm R p a x y c) := by
            show (if c = 0 then s else _ : S4) = _
            rw [if_neg (by omega)]
          have i9 := i2.1
          by_cases hle : (m3 R p a x y c s).1 ≤ Vm R p a x y c
          · rw [if_pos ((le_9 i9 hV).mpr hle)] at hstep
            refine ⟨s', ⟨by omega, ?_, i3, i4⟩, by rw [hstep]⟩
            rw [em]
            unfold stp
            rw [if_pos hle]
            exact i2
          · rw [if_neg (fun z => hle ((le_9 i9 hV).mp z))] at hstep
            refine ⟨_, ⟨by omega, ?_, ?_, ?_⟩, by rw [hstep]⟩
            · rw [em]
              unfold stp
              rw [if_neg hle]
              refine ⟨by dsimp only; omega, ?_, fun _ => ⟨?_, ?_, ?_⟩⟩
              · dsimp only
                rw [if_neg (by omega), stm_k (by decide), stm_k (by decide), stm_k (by decide), stm_v]
              · rw [stm_k (by decide), stm_k (by decide), stm_v]
              · rw [stm_k (by decide), stm_v]
              · rw [stm_v]
            · exact (((i3.st rfl).st rfl).st rfl).st rfl
            · rw [stm_k (by decide), stm_k (by decide), stm_k (by decide), stm_k (by decide), i4])
        (fun f s' hI => by
          show BX9_mixed_114 K _ (nI a) (nI w) (nI x) (nI y) (nI p) s' = _
          unfold BX9_mixed_114
          rw [hI.2.2.1 50 1 rfl, h.2.1, if_pos (le_n (Nat.le_refl p) (by omega))])
        1 σ 300 (by omega) (by omega) ⟨Nat.le_refl 1, hE, Keep.rf, rfl⟩
      exact ⟨σ', e, h2, h3, h4⟩
theorem m2_a (R : Nat → Nat → Nat) (P a : Nat) (s : S4) : ∀ q, m2 R P a a q s = s := by
  intro q
  induction q with
  | zero => rfl
  | succ q ih =>
    show (if a = a ∨ q = a ∨ a = q then _ else _ : S4) = _
    rw [if_pos (Or.inl rfl), ih]
theorem mixed9_mid {σ : Mem} {n p : Nat} {R : Nat → Nat → Nat} (h : MM σ n p R) {a x w : Nat} (ha : a < n) (hx : x < n) (K : Int32 → Int32 → Int32 → Mem → O) {s : S4} (hE : E9 s σ) : ∃ σ', LX9_mixed_96 K 300 (nI a) (nI w) (nI x) 0 σ = K (nI a) (nI w) (nI x) σ' ∧ E9 (m2 R p a x n s) σ' ∧ Keep (nC [63]) σ σ' ∧ σ' 63 4 = σ 63 4 := by
  have hp := h.2.2.2.1
  have hn := h.2.2.1
  by_cases hxa : x = a
  · subst hxa
    refine ⟨σ, ?_, by rw [m2_a]; exact hE, Keep.rf, rfl⟩
    show BX9_mixed_96 K (LX9_mixed_96 K 299) (nI x) (nI w) (nI x) (nI 0) σ = _
    unfold BX9_mixed_96
    rw [h.1, if_neg (nle_n (by omega) (by omega)), if_pos rfl]
  · obtain ⟨σ', ⟨h2, h3, h4⟩, e⟩ := up_k (fun f y (s' : Mem) => LX9_mixed_96 K f (nI a) (nI w) (nI x) (nI y) s') n (fun y s' => E9 (m2 R p a x y s) s' ∧ Keep (nC [63]) σ s' ∧ s' 63 4 = σ 63 4) (fun s' => K (nI a) (nI w) (nI x) s')
      (fun f y s' hy hI => by
        obtain ⟨i2, i3, i4⟩ := hI
        have hM : MM s' n p R := h.keep i3 rfl rfl (fun _ => rfl)
        obtain ⟨s2, t1, t2, t3, t4⟩ := mixed9_in hM ha hx hy (w := w) (fun x1 x2 x4 x6 σ19 => LX9_mixed_96 K f x1 x2 x4 (x6 + 1) σ19) i2
        refine ⟨s2, ⟨?_, i3.tr t3, by rw [t4, i4]⟩, ?_⟩
        · show E9 (if x = a ∨ y = a ∨ x = y then m2 R p a x y s else m3 R p a x y p (m2 R p a x y s)) s2
          by_cases hc : y = a ∨ x = y
          · rw [if_pos (Or.inr hc)]
            rw [if_pos hc] at t2
            exact t2
          · rw [if_neg (by omega)]
            rw [if_neg hc] at t2
            exact t2
        · show BX9_mixed_96 K _ (nI a) (nI w) (nI x) (nI y) s' = _
          unfold BX9_mixed_96
          rw [hM.1, if_neg (nle_n hy (by omega)), if_neg (ne_n hxa (by omega) (by omega)), t1, ← one_n])
      (fun f s' hI => by
        show BX9_mixed_96 K _ (nI a) (nI w) (nI x) (nI n) s' = _
        unfold BX9_mixed_96
        rw [hI.2.1 50 0 rfl, h.1, if_pos (le_n (Nat.le_refl n) (by omega))])
      0 σ 300 (by omega) (by omega) ⟨hE, Keep.rf, rfl⟩
    exact ⟨σ', e, h2, h3, h4⟩
theorem uF_all (R : Nat → Nat → Nat) (a b p : Nat) : sumR (uF R a b 0) p = sumR (ul R a b) p := by
  apply sumR_congr
  intro j _
  unfold uF
  rw [if_pos (Nat.zero_le j)]
theorem gd54 {o : O} : gd 5 4 o = o := gd_n (n := 5) (i := 4) (by decide) (by decide)
theorem c4t : (4 : Int32).toNatClampNeg = 4 := rfl
theorem pm_0 (R : Nat → Nat → Nat) (p a c : Nat) : pm R p a c 0 = c := rfl
theorem mixed9_all {σ : Mem} {n p : Nat} {R : Nat → Nat → Nat} (h : MM σ n p R) {a w c0 : Nat} (hc0 : (9999 : Int32) = nI c0) (hcl : c0 < 10000) (ha : a < n) (K : Int32 → Mem → O) (hE : E9 (9, 0, 0, 0) σ) (h4 : σ 63 4 = 9999) : ∃ σ', LX9_mixed_39 K 300 (nI a) (nI w) 0 σ = K (nI w) σ' ∧ E9 (m1 R p a n n) σ' ∧ Keep (nC [63]) σ σ' ∧ σ' 63 4 = nI (pm R p a c0 n) := by
  have hp := h.2.2.2.1
  have hn := h.2.2.1
  obtain ⟨σ', ⟨h2, h3, h5⟩, e⟩ := up_k (fun f x (s' : Mem) => LX9_mixed_39 K f (nI a) (nI w) (nI x) s') n (fun x s' => E9 (m1 R p a n x) s' ∧ Keep (nC [63]) σ s' ∧ s' 63 4 = nI (pm R p a c0 x)) (fun s' => K (nI w) s')
    (fun f x s' hx hI => by
      obtain ⟨i2, i3, i4⟩ := hI
      have hM : MM s' n p R := h.keep i3 rfl rfl (fun _ => rfl)
      have hpl := pm_le R p a c0 x
      have hs8 := sumR_le (ul_le R a x) p
      have hk4 : ∀ v : Nat, ∃ s2, LX9_mixed_96 (fun x1 x2 x4 σ20 => LX9_mixed_39 K f x1 x2 (x4 + 1) σ20) 300 (nI a) (nI w) (nI x) 0 (stm s' 63 4 (nI v)) = LX9_mixed_39 K f (nI a) (nI w) (nI (x + 1)) s2 ∧ E9 (m1 R p a n (x + 1)) s2 ∧ Keep (nC [63]) σ s2 ∧ s2 63 4 = nI v := by
        intro v
        have hE2 : E9 (m1 R p a n x) (stm s' 63 4 (nI v)) := ⟨i2.1, by rw [stm_k (by decide)]; exact i2.2.1, fun z => by rw [stm_k (by decide), stm_k (by decide), stm_k (by decide)]; exact i2.2.2 z⟩
        have hM2 : MM (stm s' 63 4 (nI v)) n p R := h.keep (i3.st rfl) rfl rfl (fun _ => rfl)
        obtain ⟨s2, t1, t2, t3, t4⟩ := mixed9_mid hM2 ha hx (w := w) (fun x1 x2 x4 σ20 => LX9_mixed_39 K f x1 x2 (x4 + 1) σ20) hE2
        exact ⟨s2, by rw [t1, ← one_n], t2, (i3.st rfl).tr t3, by rw [t4, stm_v]⟩
      have hstep : ∀ X : O, (LX9_mixed_39 K (f + 1) (nI a) (nI w) (nI x) s' = X) = (BX9_mixed_39 K (LX9_mixed_39 K f) (nI a) (nI w) (nI x) s' = X) := fun _ => rfl
      unfold BX9_mixed_39 at hstep
      rw [hM.1, if_neg (nle_n hx (by omega))] at hstep
      by_cases hxa : x = a
      · obtain ⟨s2, t1, t2, t3, t4⟩ := hk4 (pm R p a c0 x)
        refine ⟨s2, ⟨t2, t3, ?_⟩, ?_⟩
        · rw [t4]
          show _ = nI (if x = a then _ else _)
          rw [if_pos hxa]
        · rw [hstep]
          dsimp only [jn]
          rw [if_pos (by rw [hxa])]
          simp only [gd54, c4t, letm]
          rw [i4, if_pos (show nI (pm R p a c0 x) ≤ (9999 : Int32) by rw [hc0]; exact le_n hpl (by omega)), t1]
      · have ep : pm R p a c0 (x + 1) = min (pm R p a c0 x) (sumR (ul R a x) p) := by
          show (if x = a then _ else _) = _
          rw [if_neg hxa]
        obtain ⟨s2, t1, t2, t3, t4⟩ := hk4 (pm R p a c0 (x + 1))
        refine ⟨s2, ⟨t2, t3, t4⟩, ?_⟩
        rw [hstep]
        dsimp only [jn]
        rw [if_neg (ne_n hxa (by omega) (by omega)), hM.2.1, show fX9_unlikes (nI a) (nI x) 0 (nI p) s' = some (nI (sumR (uF R a x 0) p), s') from unlikes_eq hM ha hx (Nat.zero_le p) (Nat.le_refl p), bnd_eq, uF_all]
        simp only [gd54, c4t, letm]
        rw [i4]
        by_cases hle : pm R p a c0 x ≤ sumR (ul R a x) p
        · rw [show pm R p a c0 (x + 1) = pm R p a c0 x by omega] at t1
          rw [if_pos (le_n hle (by omega)), t1]
        · rw [show pm R p a c0 (x + 1) = sumR (ul R a x) p by omega] at t1
          rw [if_neg (nle_n (by omega) (by omega)), t1])
    (fun f s' hI => by
      show BX9_mixed_39 K _ (nI a) (nI w) (nI n) s' = _
      unfold BX9_mixed_39
      rw [hI.2.1 50 0 rfl, h.1, if_pos (le_n (Nat.le_refl n) (by omega))])
    0 σ 300 (by omega) (by omega) ⟨hE, Keep.rf, by rw [pm_0, ← hc0]; exact h4⟩
  exact ⟨σ', e, h2, h3, h5⟩
