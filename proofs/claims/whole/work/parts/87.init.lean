theorem nw_in : ∀ w ∈ NW, w ∈ lw_tbl := by
  have h : NW = ([96, 111, 112, 114, 115, 116, 118, 119, 136, 138, 140, 157, 158, 159, 178, 180, 181, 183, 228, 230, 232, 234, 76, 104, 129, 150, 155, 171, 193, 220, 424, 427, 518] : List Nat).filterMap (fun i => lw_tbl[i]?) := by decide +kernel
  intro w hw
  rw [h] at hw
  obtain ⟨i, -, hi⟩ := List.mem_filterMap.mp hw
  exact List.mem_of_getElem? hi
theorem nw_tab {w : Cond} (hw : w ∈ NW) : w.onTables = true := by
  rcases List.mem_append.mp hw with hw | hw
  · obtain ⟨q, -, rfl⟩ := List.mem_map.mp hw
    rfl
  · obtain ⟨q, -, rfl⟩ := List.mem_map.mp hw
    rfl
theorem inj_of_D {cI cZ : ClassId} {ad : Nat → Nat} {A : Nat → Prop} {σ : Mem} (h : va_D A (WS cI cZ ad σ)) : INJ ad ∧ ∀ i, i < 64 → A (ad i) := by
  have key : ∀ i, i < 64 → ∃ x, (WS cI cZ ad σ)[i]? = some (ad i, x) := by
    intro i hi
    have hl : i < LY.length := hi
    exact ⟨_, ws_at (List.getElem?_eq_getElem hl)⟩
  refine ⟨fun i j hi hj hij => ?_, fun i hi => ?_⟩
  · obtain ⟨x, hx⟩ := key i hi
    obtain ⟨y, hy⟩ := key j hj
    exact h.1 i j _ _ hx hy hij
  · obtain ⟨x, hx⟩ := key i hi
    exact h.2 i _ hx
def mkL {α β : Type} (f : Nat → α → β) : Nat → List α → List β
  | _, [] => []
  | i, a :: t => f i a :: mkL f (i + 1) t
theorem mkL_eq {α β : Type} (f : Nat → α → β) : ∀ (t : List α) (i : Nat), t.mapIdx (fun k a => f (i + k) a) = mkL f i t := by
  intro t
  induction t with
  | nil => intro i; rfl
  | cons a t ih =>
    intro i
    rw [List.mapIdx_cons]
    have := ih (i + 1)
    simp only [mkL]
    rw [← this]
    congr 1
    congr 1
    funext k a
    congr 1
    omega
theorem ws_mk (cI cZ : ClassId) (ad : Nat → Nat) (σ : Mem) : WS cI cZ ad σ = mkL (fun c d => (ad c, cellE cI cZ ad (σ c) d)) 0 LY := by
  rw [← mkL_eq]
  unfold WS
  congr 1
  funext k a
  rw [Nat.zero_add]
set_option maxRecDepth 100000 in
set_option maxHeartbeats 4000000 in
theorem ws_init {cI cZ : ClassId} {h0 h1 : Nat} {w1 w2 : va_W} (b1 : shS cI h0 w1) (b2 : shM cI cZ h1 w2) : ∃ ad : Nat → Nat, w1 ++ w2 = WS cI cZ ad (fun _ _ => 0) ∧ ad 0 = h0 ∧ ad 50 = h1 := by
  obtain ⟨q1, q2, q3, q4, q5, q6, q7, q8, q9, q10, q11, q12, q13, _, _, _, _, _, _, _, _, _, _, _, _, _, ⟨a1, _, ⟨a2, rfl⟩, rfl⟩, ⟨a3, _, ⟨a4, rfl⟩, rfl⟩, ⟨a5, _, ⟨a6, rfl⟩, rfl⟩, ⟨a7, a8, _, _, ⟨a9, rfl⟩, ⟨a10, rfl⟩, rfl⟩, ⟨a11, _, ⟨a12, _, ⟨a13, rfl⟩, rfl⟩, rfl⟩, ⟨a14, _, ⟨a15, _, ⟨a16, rfl⟩, rfl⟩, rfl⟩, ⟨a17, rfl⟩, ⟨a18, a19, _, _, ⟨a20, rfl⟩, ⟨a21, rfl⟩, rfl⟩, ⟨a22, a23, a24, a25, a26, _, _, _, _, _, ⟨a27, rfl⟩, ⟨a28, rfl⟩, ⟨a29, rfl⟩, ⟨a30, rfl⟩, ⟨a31, rfl⟩, rfl⟩, ⟨a32, rfl⟩, ⟨a33, rfl⟩, ⟨a34, rfl⟩, ⟨a35, _, ⟨a36, rfl⟩, rfl⟩, rfl⟩ := b1
  obtain ⟨p1, p2, p3, p4, p5, p6, p7, p8, p9, p10, p11, p12, p13, rfl⟩ := b2
  refine ⟨fun i => ([h0, q1, a1, a2, q2, a3, a4, q3, a5, a6, q4, a7, a9, a8, a10, q5, a11, a12, a13, q6, a14, a15, a16, q7, a17, q8, a18, a20, a19, a21, q9, a22, a27, a23, a28, a24, a29, a25, a30, a26, a31, q10, a32, q11, a33, q12, a34, q13, a35, a36, h1, p1, p2, p3, p4, p5, p6, p7, p8, p9, p10, p11, p12, p13] : List Nat).getD i 0, ?_, rfl, rfl⟩
  rw [ws_mk]
  rfl
