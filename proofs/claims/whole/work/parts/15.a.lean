/-! the reference's costFrom -/
def CoM (σ : Mem) (nm : Nat) (c : CV) : Prop := ∀ x, x < nm → ∀ r, r < 4 → σ 60 (4 * x + r) = nI (c x r) ∧ c x r < 1000000
def dI (d : Bool) : Int32 := if d then 1 else 0
theorem between_eq {σ : Mem} {r q : Nat} (d : Bool) (hr : r < 4) (hq : q < 4) : fX9_between (nI r) (nI q) (dI d) σ = some (nI (btw d r q), σ) := by
  unfold fX9_between btw
  by_cases h1 : r = q
  · subst h1
    rw [if_pos rfl, if_pos rfl]
    rfl
  · rw [if_neg (ne_n h1 (by omega) (by omega)), if_neg h1]
    cases d with
    | false => rfl
    | true =>
      show (if (1 : Int32) = 0 then _ else _) = _
      rw [if_neg (by decide)]
      by_cases h2 : r ≤ q
      · rw [if_pos (le_n h2 (by omega)), if_neg (by simp; omega)]
        rfl
      · rw [if_neg (nle_n (by omega) (by omega)), if_pos (by simp; omega)]
        rfl
theorem ix4 (x r : Nat) : ((4 : Int32) * nI x + nI r : Int32) = nI (4 * x + r) := by rw [show (4 : Int32) = nI 4 from rfl, mul_n, add_n]
theorem takes_in {σ : Mem} {nm u v r : Nat} {c : CV} {d : Bool} (hC : CoM σ nm c) (hnm : nm ≤ 11) (hu : u < nm) (hr : r < 4) (k : Int32 → Int32 → Int32 → Int32 → Int32 → Mem → O) : LX9_takes_17 k 300 (nI u) (nI v) (dI d) (nI r) 9999 0 σ = k (nI u) (nI v) (dI d) (nI r) (nI (dnC 9999 d (c u) r)) σ := by
  have e := up_f (fun f i (a : Int32 × Mem) => LX9_takes_17 k f (nI u) (nI v) (dI d) (nI r) a.1 (nI i) a.2) 4 (fun i => (nI (dnP 9999 d (c u) r i), σ)) (fun a => k (nI u) (nI v) (dI d) (nI r) a.1 a.2)
    (fun f i hi => by
      show BX9_takes_17 _ _ (nI u) (nI v) (dI d) (nI r) (nI (dnP 9999 d (c u) r i)) (nI i) σ = _
      unfold BX9_takes_17
      have hle := dnP_le 9999 d (c u) r i
      obtain ⟨h1, h2⟩ := hC u hu i hi
      have hbt := btw_le d r i
      rw [if_neg (show ¬ (4 : Int32) ≤ nI i from nle_n (a := 4) hi (by decide)), ix4, gd_n (by omega) (by decide), between_eq d hr hi, bnd_eq, cl_n (by omega), h1]
      dsimp only [letv]
      rw [add_n]
      by_cases hm : dnP 9999 d (c u) r i ≤ c u i + btw d r i
      · rw [if_pos (le_n hm (by omega)), one_n]
        have : dnP 9999 d (c u) r (i + 1) = dnP 9999 d (c u) r i := Nat.min_eq_left hm
        rw [this]
      · rw [if_neg (nle_n (by omega) (by omega)), one_n]
        have : dnP 9999 d (c u) r (i + 1) = c u i + btw d r i := Nat.min_eq_right (by omega)
        rw [this])
    (fun f => by
      show BX9_takes_17 _ _ (nI u) (nI v) (dI d) (nI r) _ (nI 4) σ = _
      unfold BX9_takes_17
      rw [if_pos (show (4 : Int32) ≤ nI 4 from le_n (Nat.le_refl 4) (by decide))])
    0 300 (by omega) (by omega)
  exact e
theorem takes_eq {σ : Mem} {nm u v : Nat} {c : CV} {d : Bool} (hC : CoM σ nm c) (hnm : nm ≤ 11) (hu : u < nm) (hv : v < nm) (huv : u ≠ v) (hb : ∀ r, r < 4 → c v r < 900000) : ∃ σ', fX9_takes (nI u) (nI v) (dI d) σ = some (0, σ') ∧ CoM σ' nm (tk (dnC 9999 d) (u, v) c) ∧ Keep (nC [60]) σ σ' := by
  obtain ⟨s2, ⟨g1, g2⟩, e⟩ := up_k (fun f r (s : Mem) => LX9_takes_3 (fun σ6 => some (0, σ6)) f (nI u) (nI v) (dI d) (nI r) s) 4 (fun k s => (∀ x, x < nm → ∀ r, r < 4 → s 60 (4 * x + r) = nI (if x = v ∧ r < k then c v r + dnC 9999 d (c u) r else c x r)) ∧ Keep (nC [60]) σ s) (fun s => some (0, s))
    (fun f r s hr hI => by
      obtain ⟨i1, i2⟩ := hI
      have hcu : ∀ q, q < 4 → s 60 (4 * u + q) = nI (c u q) := fun q hq => by rw [i1 u hu q hq, if_neg (by omega)]
      have hC2 : CoM s nm (fun x r' => if x = v ∧ r' < r then c v r' + dnC 9999 d (c u) r' else c x r') := by
        intro x hx r' hr'
        refine ⟨i1 x hx r' hr', ?_⟩
        dsimp only
        split
        · have := dnC_le 9999 d (c u) r'
          have := hb r' hr'
          omega
        · exact (hC x hx r' hr').2
      have hvr : s 60 (4 * v + r) = nI (c v r) := by rw [i1 v hv r hr, if_neg (by omega)]
      refine ⟨stm s 60 (4 * v + r) (nI (c v r + dnC 9999 d (c u) r)), ⟨fun x hx r' hr' => ?_, i2.st rfl⟩, ?_⟩
      · by_cases hh : x = v ∧ r' = r
        · obtain ⟨rfl, rfl⟩ := hh
          rw [stm_v, if_pos ⟨rfl, by omega⟩]
        · rw [stm_k (by omega), i1 x hx r' hr']
          by_cases h2 : x = v ∧ r' < r
          · rw [if_pos h2, if_pos ⟨h2.1, by omega⟩]
          · rw [if_neg h2, if_neg (by omega)]
      · show BX9_takes_3 _ _ (nI u) (nI v) (dI d) (nI r) s = _
        unfold BX9_takes_3
        have hfun : (fun r' => if u = v ∧ r' < r then c v r' + dnC 9999 d (c u) r' else c u r') = c u := by
          funext r'
          rw [if_neg (by omega)]
        rw [if_neg (show ¬ (4 : Int32) ≤ nI r from nle_n (a := 4) hr (by decide)), takes_in hC2 hnm hu hr]
        rw [hfun, ix4, gd_n (by omega) (by decide), gd_n (by omega) (by decide), cl_n (by omega)]
        dsimp only [letm]
        rw [hvr, add_n, one_n])
    (fun f s _ => by
      show BX9_takes_3 _ _ (nI u) (nI v) (dI d) (nI 4) s = _
      unfold BX9_takes_3
      rw [if_pos (show (4 : Int32) ≤ nI 4 from le_n (Nat.le_refl 4) (by decide))])
    0 σ 300 (by omega) (by omega) ⟨fun x hx r hr => by rw [(hC x hx r hr).1, if_neg (by omega)], Keep.rf⟩
  refine ⟨s2, e, fun x hx r hr => ?_, g2⟩
  unfold tk
  dsimp only
  rw [g1 x hx r hr]
  by_cases hxv : x = v
  · subst hxv
    rw [if_pos ⟨rfl, hr⟩, if_pos rfl]
    refine ⟨rfl, ?_⟩
    have := dnC_le 9999 d (c u) r
    have := hb r hr
    omega
  · rw [if_neg (by omega), if_neg hxv]
    exact ⟨rfl, (hC x hx r hr).2⟩
theorem least_eq {σ : Mem} {nm x : Nat} {c : CV} (hC : CoM σ nm c) (hnm : nm ≤ 11) (hx : x < nm) : fX9_least (nI x) σ = some (nI (mn4 9999 (c x)), σ) := by
  have e := up_f (fun f i (a : Int32 × Mem) => LX9_least_6 (fun x2 σ2 => some (x2, σ2)) f (nI x) a.1 (nI i) a.2) 4 (fun i => (nI (mnP 9999 (c x) i), σ)) (fun a => some (a.1, a.2))
    (fun f i hi => by
      show BX9_least_6 _ _ (nI x) (nI (mnP 9999 (c x) i)) (nI i) σ = _
      unfold BX9_least_6
      have hle := mnP_le 9999 (c x) i
      obtain ⟨h1, h2⟩ := hC x hx i hi
      rw [if_neg (show ¬ (4 : Int32) ≤ nI i from nle_n (a := 4) hi (by decide)), ix4, gd_n (by omega) (by decide), gd_n (by omega) (by decide), cl_n (by omega), h1]
      dsimp only [letv]
      by_cases hm : mnP 9999 (c x) i ≤ c x i
      · rw [if_pos (le_n hm (by omega)), one_n]
        have : mnP 9999 (c x) (i + 1) = mnP 9999 (c x) i := Nat.min_eq_left hm
        rw [this]
      · rw [if_neg (nle_n (by omega) (by omega)), one_n]
        have : mnP 9999 (c x) (i + 1) = c x i := Nat.min_eq_right (by omega)
        rw [this])
    (fun f => by
      show BX9_least_6 _ _ (nI x) _ (nI 4) σ = _
      unfold BX9_least_6
      rw [if_pos (show (4 : Int32) ≤ nI 4 from le_n (Nat.le_refl 4) (by decide))])
    0 300 (by omega) (by omega)
  exact e
/-- edges that are gone -/
def GoM (σ : Mem) (m : Nat) (g : Nat → Bool) : Prop := ∀ j, j < m → σ 61 j = (if g j then 1 else 0)
def enc (w : Option Nat) : Int32 := match w with
  | none => -9
  | some j => nI j
theorem lastE_none {es : PL} {g : Nat → Bool} {x : Nat} {w : Option Nat} : ∀ (d j : Nat), lastE es g x j w = none → lastE es g x (j + d) w = none := by
  intro d
  induction d with
  | zero => intro j h; exact h
  | succ d ih =>
    intro j h
    show lastE es g x (j + d + 1) w = none
    simp only [lastE, ih j h]
theorem lastE_lt {es : PL} {g : Nat → Bool} {x : Nat} : ∀ (j w : Nat), lastE es g x j none = some (some w) → w < j ∧ g w = false ∧ ((es.getD w (0, 0)).1 = x ∨ (es.getD w (0, 0)).2 = x) := by
  intro j
  induction j with
  | zero => intro w h; cases h
  | succ j ih =>
    intro w h
    have h' : (match lastE es g x j none with | none => none | some w' => if !g j && ((es.getD j (0, 0)).1 == x || (es.getD j (0, 0)).2 == x) then (match w' with | none => some (some j) | some _ => none) else some w') = some (some w) := h
    cases hl : lastE es g x j none with
    | none => rw [hl] at h'; cases h'
    | some w' =>
      rw [hl] at h'
      dsimp only at h'
      split at h'
      · rename_i hc
        cases w' with
        | none =>
          have : j = w := by simpa using h'
          subst this
          simp only [Bool.and_eq_true, Bool.not_eq_true', Bool.or_eq_true, beq_iff_eq] at hc
          exact ⟨by omega, hc.1, hc.2⟩
        | some z => cases h'
      · have : w' = some w := by simpa using h'
        subst this
        obtain ⟨a, b, c⟩ := ih w hl
        exact ⟨by omega, b, c⟩
def lstp (w : Option Nat) (i : Nat) : Option (Option Nat) := match w with
  | none => some (some i)
  | some _ => none
theorem lastE_s {es : PL} {g : Nat → Bool} {x i : Nat} {w : Option Nat} (hw : lastE es g x i none = some w) : lastE es g x (i + 1) none = (if !g i && ((es.getD i (0, 0)).1 == x || (es.getD i (0, 0)).2 == x) then lstp w i else some w) := by
  simp only [lastE, hw]
  cases w <;> rfl
theorem lastEdge_eq {σ : Mem} {es : PL} {g : Nat → Bool} {x : Nat} (hE : EdG 58 59 50 19 σ es) (hB : Bd es) (hl : es.length ≤ 10) (hG : GoM σ es.length g) (hx : x < 100) : fX9_lastEdge (nI x) σ = some (enc (lastEd es g x), σ) := by
  have h := up_loop (fun f i (a : Int32) => LX9_lastEdge_5 (fun x2 σ2 => some (x2, σ2)) f (nI x) a (nI i) σ) es.length (fun i a => ∃ w, lastE es g x i none = some w ∧ a = enc w) (fun o => o = some (enc (lastEd es g x), σ))
    (fun f i a hi hI => by
      obtain ⟨w, hw, ha⟩ := hI
      have hb := hB.at hi
      obtain ⟨e1, e2⟩ := hE.2 i hi
      have hsucc := lastE_s hw
      have hstep : ∀ X : O, (LX9_lastEdge_5 (fun x2 σ2 => some (x2, σ2)) (f + 1) (nI x) a (nI i) σ = X) = (BX9_lastEdge_5 (fun x2 σ2 => some (x2, σ2)) (LX9_lastEdge_5 (fun x2 σ2 => some (x2, σ2)) f) (nI x) a (nI i) σ = X) := fun _ => rfl
      unfold BX9_lastEdge_5 at hstep
      rw [hE.1, if_neg (nle_n hi (by omega)), gd_n (by omega) (by decide), cl_n (by omega), hG i hi, e1, e2] at hstep
      dsimp only [jn] at hstep
      -- the edge doesn't count
      have skip : (!g i && ((es.getD i (0, 0)).1 == x || (es.getD i (0, 0)).2 == x)) = false → (∃ w, lastE es g x (i + 1) none = some w ∧ a = enc w) := by
        intro hc
        rw [hc] at hsucc
        exact ⟨w, by rw [hsucc]; rfl, ha⟩
      have take : (!g i && ((es.getD i (0, 0)).1 == x || (es.getD i (0, 0)).2 == x)) = true → (LX9_lastEdge_5 (fun x2 σ2 => some (x2, σ2)) (f + 1) (nI x) a (nI i) σ = (if a = (-9) then LX9_lastEdge_5 (fun x2 σ2 => some (x2, σ2)) f (nI x) (nI i) (nI i + 1) σ else some ((-9), σ))) → (LX9_lastEdge_5 (fun x2 σ2 => some (x2, σ2)) (f + 1) (nI x) a (nI i) σ = some (enc (lastEd es g x), σ)) ∨ ∃ a', (∃ w, lastE es g x (i + 1) none = some w ∧ a' = enc w) ∧ LX9_lastEdge_5 (fun x2 σ2 => some (x2, σ2)) (f + 1) (nI x) a (nI i) σ = LX9_lastEdge_5 (fun x2 σ2 => some (x2, σ2)) f (nI x) a' (nI (i + 1)) σ := by
        intro hc hs2
        rw [hc, if_pos rfl] at hsucc
        cases w with
        | none =>
          right
          refine ⟨nI i, ⟨some i, hsucc, rfl⟩, ?_⟩
          rw [hs2, if_pos (by rw [ha]; rfl), one_n]
        | some z =>
          left
          have hz := (lastE_lt i z hw).1
          rw [hs2, if_neg (by rw [ha]; exact ne_neg (by decide) (by omega))]
          have hn := lastE_none (es.length - (i + 1)) (i + 1) hsucc
          rw [show i + 1 + (es.length - (i + 1)) = es.length by omega] at hn
          unfold lastEd
          rw [hn]
          rfl
      cases hg : g i with
      | true =>
        right
        rw [hg, if_pos (rfl : true = true), if_neg (show ¬ ((1 : Int32) = 0) by decide)] at hstep
        exact ⟨a, skip (by rw [hg]; rfl), by rw [hstep, one_n]⟩
      | false =>
        rw [hg, if_neg (show ¬ (false = true) by decide), if_pos (rfl : (0 : Int32) = 0), gd_n (by omega) (by decide), gd_n (by omega) (by decide)] at hstep
        by_cases h1 : (es.getD i (0, 0)).1 = x
        · rw [if_pos (by rw [h1])] at hstep
          exact take (by rw [hg, h1]; simp) ((hstep _).mpr rfl)
        · rw [if_neg (ne_n h1 (by omega) (by omega))] at hstep
          by_cases h2 : (es.getD i (0, 0)).2 = x
          · rw [if_pos (by rw [h2])] at hstep
            exact take (by rw [hg, h2]; simp) ((hstep _).mpr rfl)
          · rw [if_neg (ne_n h2 (by omega) (by omega))] at hstep
            right
            exact ⟨a, skip (by rw [hg, beq_false_of_ne h1, beq_false_of_ne h2]; rfl), by rw [hstep, one_n]⟩)
    (fun f a hI => by
      obtain ⟨w, hw, ha⟩ := hI
      show BX9_lastEdge_5 _ _ (nI x) a (nI es.length) σ = _
      unfold BX9_lastEdge_5
      rw [hE.1, if_pos (le_n (Nat.le_refl _) (by omega)), ha]
      unfold lastEd
      rw [hw])
    es.length 0 (-9) 300 (by omega) (by omega) ⟨none, rfl, rfl⟩
  exact h
