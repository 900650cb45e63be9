set_option maxRecDepth 100000 in
def BX8_rank_31 (k71 : Mem → Option (Int32 × Mem)) (rec : Int32 → Int32 → Mem → Option (Int32 × Mem)) (x2 : Int32) (x3 : Int32) (σ : Mem) : Option (Int32 × Mem) := if (48 : Int32) < x3 then k71 σ else bnd (fX5_at 45 49 x3 σ) (fun r5 σ6 => if (r5 : Int32) ≤ x2 then letv (x2 - r5) (fun v7 => rec v7 (x3 + 1) σ6) else bnd (fX8_treeWith x3 x2 σ6) (fun r8 σ9 => some (r8, σ9)))
def LX8_rank_31 (k71 : Mem → Option (Int32 × Mem)) : Nat → Int32 → Int32 → Mem → Option (Int32 × Mem)
  | 0 => fun _ _ _ => none
  | n + 1 => BX8_rank_31 k71 (LX8_rank_31 k71 n)
set_option maxRecDepth 100000 in
set_option maxHeartbeats 4000000 in
theorem wX8_rank_31 {p : Program} {l : Launch} {e : Env} {s : State} {m : MethodId} {args : Array Value} {below : List Frame} {meth : Method} {c : Code} {D : va_G} {cI cZ : ClassId} {ad : Nat → Nat} {tT : Nat} {A : Nat → Prop} (C : CX p s m args meth c cX8_rank 5 RX8 (some .int) D cI cZ ad tT A) (k71 : Mem → Option (Int32 × Mem)) (hk71 : ∀ (σ : Mem) (ls : Array Slot), lv_has ls 5 [] → WM p l e 6 135 s m args below meth c D cI cZ ad A rvi (k71 σ) σ (F0 m 71 ls [])) :
    ∀ (n0 : Nat), ∀ (x2 : Int32) (x3 : Int32) (σ : Mem) (ls : Array Slot), lv_has ls 5 [(0, .ref (ad 0)), (2, .int x2), (3, .int x3)] → WM p l e 6 135 s m args below meth c D cI cZ ad A rvi (LX8_rank_31 k71 n0 x2 x3 σ) σ (F0 m 31 ls []) := by
  intro n0
  induction n0 with
  | zero => intro x2 x3 σ ls hl; exact r_none
  | succ n0 ih =>
    intro x2 x3 σ ls hl
    show WM p l e 6 135 s m args below meth c D cI cZ ad A rvi (BX8_rank_31 k71 (LX8_rank_31 k71 n0) x2 x3 σ) σ (F0 m 31 ls [])
    unfold BX8_rank_31
    refine r_iload_n C dX8_rank_31 rfl (lv_at hl 2 rfl) ?_
    refine r_bipush (v := 48) C dX8_rank_32 (by decide) ?_
    refine r_icmp_gt (tgt := 71) C dX8_rank_34 (by decide) ?_ ?_
    · exact hk71 σ ls (lv_sub hl [] rfl)
    · refine r_aload_n C dX8_rank_37 rfl (lv_at hl 0 rfl) ?_
      refine r_getR C fl_X8_72 lf_0_11 dX8_rank_38 ?_
      refine r_iload_n C dX8_rank_41 rfl (lv_at hl 2 rfl) ?_
      refine r_callVi (As := [.int x3]) (rest := []) C hl ml_X8_152 rc_45 (gX5_at l C.inj 45 49 row_45 x3 σ) ⟨Nat.le_of_ble_eq_true rfl, Nat.le_of_ble_eq_true rfl⟩ ⟨Nat.le_of_ble_eq_true rfl, Nat.le_of_ble_eq_true rfl⟩ rfl rfl (Nat.le_of_ble_eq_true rfl) dX8_rank_42 (fun r5 σ6 => ?_)
      refine r_istore (lv' := [(4, .int r5), (0, .ref (ad 0)), (2, .int x2), (3, .int x3)]) C dX8_rank_45 hl (by decide) rfl (fun ls hl => ?_)
      refine r_iload_n C dX8_rank_47 rfl (lv_at hl 2 rfl) ?_
      refine r_iload C dX8_rank_48 (lv_at hl 0 rfl) ?_
      refine r_icmp_ge (tgt := 60) C dX8_rank_50 (by decide) ?_ ?_
      · refine r_iload_n C dX8_rank_60 rfl (lv_at hl 2 rfl) ?_
        refine r_iload C dX8_rank_61 (lv_at hl 0 rfl) ?_
        refine r_isub C dX8_rank_63 ?_
        refine r_letv (fun v7 => ?_)
        refine r_istore_n (lv' := [(2, .int v7), (4, .int r5), (0, .ref (ad 0)), (3, .int x3)]) C dX8_rank_64 rfl hl (by decide) rfl (fun ls hl => ?_)
        refine r_iinc (v := x3 + 1) (lv' := [(3, .int (x3 + 1)), (2, .int v7), (4, .int r5), (0, .ref (ad 0))]) C dX8_rank_65 hl (k := 3) rfl rfl (by decide) rfl (fun ls hl => ?_)
        refine r_goto (tgt := 31) C dX8_rank_68 (by decide) ?_
        exact ih v7 (x3 + 1) σ6 ls (lv_sub hl [3, 1, 0] rfl)
      · refine r_aload_n C dX8_rank_53 rfl (lv_at hl 1 rfl) ?_
        refine r_iload_n C dX8_rank_54 rfl (lv_at hl 3 rfl) ?_
        refine r_iload_n C dX8_rank_55 rfl (lv_at hl 2 rfl) ?_
        refine r_callVi (As := [.int x3, .int x2]) (rest := []) C hl ml_X8_185 rc_0 (gX8_treeWith l C.inj x3 x2 σ6) ⟨Nat.le_of_ble_eq_true rfl, Nat.le_of_ble_eq_true rfl⟩ ⟨Nat.le_of_ble_eq_true rfl, Nat.le_of_ble_eq_true rfl⟩ rfl rfl (Nat.le_of_ble_eq_true rfl) dX8_rank_56 (fun r8 σ9 => ?_)
        exact r_iret C rfl dX8_rank_59
set_option maxRecDepth 100000 in
def fX8_rank (x1 : Int32) (σ : Mem) : Option (Int32 × Mem) := if (0 : Int32) ≤ x1 then bnd (fX8_treesOf (σ 4 1) σ) (fun r1 σ2 => if (x1 : Int32) < r1 then bnd (fX8_weighTrees σ2) (fun r3 σ4 => LX8_rank_31 (fun σ10 => some ((-9), σ10)) 300 x1 0 σ4) else some ((-9), σ2)) else some ((-1), σ)
set_option maxRecDepth 100000 in
set_option maxHeartbeats 4000000 in
theorem gX8_rank (l : Launch) {D : va_G} {cI cZ : ClassId} {ad : Nat → Nat} {tT : Nat} (hi : INJ ad) (x1 : Int32) (σ : Mem) : GM l D cI cZ ad tT yX8_rank cX8_rank 5 (some .int) 6 135 rvi [.ref (ad 0), .int x1] σ (fX8_rank x1 σ) := by
  refine gm_of (lv := [(0, .ref (ad 0)), (1, .int x1)]) (own := RX8) hi (by decide +kernel) rfl (Nat.le_of_ble_eq_true rfl) rfl ?_
  intro p e s m args below meth c A C ls hl
  unfold fX8_rank
  refine r_iload_n C dX8_rank_0 rfl (lv_at hl 1 rfl) ?_
  refine r_if_ge (tgt := 6) C dX8_rank_1 (by decide) ?_ ?_
  · refine r_iload_n C dX8_rank_6 rfl (lv_at hl 1 rfl) ?_
    refine r_aload_n C dX8_rank_7 rfl (lv_at hl 0 rfl) ?_
    refine r_getR C fl_X8_19 lf_0_1 dX8_rank_8 ?_
    refine r_getIN C fn_X8_113 lf_4_1 dX8_rank_11 ?_
    refine r_callSi (As := [.int (σ 4 1)]) (rest := [.int x1]) C hl ml_X8_182 (gX8_treesOf l C.inj (σ 4 1) σ) ⟨Nat.le_of_ble_eq_true rfl, Nat.le_of_ble_eq_true rfl⟩ ⟨Nat.le_of_ble_eq_true rfl, Nat.le_of_ble_eq_true rfl⟩ rfl rfl (Nat.le_of_ble_eq_true rfl) dX8_rank_14 (fun r1 σ2 => ?_)
    refine r_icmp_lt (tgt := 23) C dX8_rank_17 (by decide) ?_ ?_
    · refine r_aload_n C dX8_rank_23 rfl (lv_at hl 0 rfl) ?_
      refine r_callVv (As := []) (rest := []) C hl ml_X8_142 rc_0 (gX8_weighTrees l C.inj σ2) ⟨Nat.le_of_ble_eq_true rfl, Nat.le_of_ble_eq_true rfl⟩ ⟨Nat.le_of_ble_eq_true rfl, Nat.le_of_ble_eq_true rfl⟩ rfl rfl (Nat.le_of_ble_eq_true rfl) dX8_rank_24 (fun r3 σ4 => ?_)
      refine r_iload_n C dX8_rank_27 rfl (lv_at hl 1 rfl) ?_
      refine r_istore_n (lv' := [(2, .int x1), (0, .ref (ad 0)), (1, .int x1)]) C dX8_rank_28 rfl hl (by decide) rfl (fun ls hl => ?_)
      refine r_iconst (v := 0) C dX8_rank_29 (by decide) ?_
      refine r_istore_n (lv' := [(3, .int 0), (2, .int x1), (0, .ref (ad 0)), (1, .int x1)]) C dX8_rank_30 rfl hl (by decide) rfl (fun ls hl => ?_)
      refine wX8_rank_31  C _ ?_ 300 x1 0 σ4 ls (lv_sub hl [2, 1, 0] rfl)
      · intro σ10 ls hl
        refine r_bipush (v := (-9)) C dX8_rank_71 (by decide) ?_
        exact r_iret C rfl dX8_rank_73
    · refine r_bipush (v := (-9)) C dX8_rank_20 (by decide) ?_
      exact r_iret C rfl dX8_rank_22
  · refine r_iconst (v := (-1)) C dX8_rank_4 (by decide) ?_
    exact r_iret C rfl dX8_rank_5

set_option maxRecDepth 100000 in
def BX8_bound_20 (k63 : Int32 → Int32 → Int32 → Mem → Option (Int32 × Mem)) (rec : Int32 → Int32 → Int32 → Int32 → Mem → Option (Int32 × Mem)) (x1 : Int32) (x2 : Int32) (x3 : Int32) (x4 : Int32) (σ : Mem) : Option (Int32 × Mem) := if (σ 4 1 : Int32) ≤ x4 then k63 x1 x2 x3 σ else bnd (fX4_at 4 x4 x2 σ) (fun r1 σ2 => if (r1 : Int32) = 4 then rec x1 x2 x3 (x4 + 1) σ2 else letv (x3 ||| ((1 : Int32) <<< (r1 &&& 31))) (fun v3 => rec x1 x2 v3 (x4 + 1) σ2))
def LX8_bound_20 (k63 : Int32 → Int32 → Int32 → Mem → Option (Int32 × Mem)) : Nat → Int32 → Int32 → Int32 → Int32 → Mem → Option (Int32 × Mem)
  | 0 => fun _ _ _ _ _ => none
  | n + 1 => BX8_bound_20 k63 (LX8_bound_20 k63 n)
set_option maxRecDepth 100000 in
set_option maxHeartbeats 4000000 in
theorem wX8_bound_20 {p : Program} {l : Launch} {e : Env} {s : State} {m : MethodId} {args : Array Value} {below : List Frame} {meth : Method} {c : Code} {D : va_G} {cI cZ : ClassId} {ad : Nat → Nat} {tT : Nat} {A : Nat → Prop} (C : CX p s m args meth c cX8_bound 6 RX8 (some .int) D cI cZ ad tT A) (k63 : Int32 → Int32 → Int32 → Mem → Option (Int32 × Mem)) (hk63 : ∀ (x1 : Int32) (x2 : Int32) (x3 : Int32) (σ : Mem) (ls : Array Slot), lv_has ls 6 [(0, .ref (ad 0)), (1, .int x1), (2, .int x2), (3, .int x3)] → WM p l e 3 65 s m args below meth c D cI cZ ad A rvi (k63 x1 x2 x3 σ) σ (F0 m 63 ls [])) :
    ∀ (n0 : Nat), ∀ (x1 : Int32) (x2 : Int32) (x3 : Int32) (x4 : Int32) (σ : Mem) (ls : Array Slot), lv_has ls 6 [(0, .ref (ad 0)), (1, .int x1), (2, .int x2), (3, .int x3), (4, .int x4)] → WM p l e 3 65 s m args below meth c D cI cZ ad A rvi (LX8_bound_20 k63 n0 x1 x2 x3 x4 σ) σ (F0 m 20 ls []) := by
  intro n0
  induction n0 with
  | zero => intro x1 x2 x3 x4 σ ls hl; exact r_none
  | succ n0 ih =>
    intro x1 x2 x3 x4 σ ls hl
    show WM p l e 3 65 s m args below meth c D cI cZ ad A rvi (BX8_bound_20 k63 (LX8_bound_20 k63 n0) x1 x2 x3 x4 σ) σ (F0 m 20 ls [])
    unfold BX8_bound_20
    refine r_iload C dX8_bound_20 (lv_at hl 4 rfl) ?_
    refine r_aload_n C dX8_bound_22 rfl (lv_at hl 0 rfl) ?_
    refine r_getR C fl_X8_19 lf_0_1 dX8_bound_23 ?_
    refine r_getIN C fn_X8_113 lf_4_1 dX8_bound_26 ?_
    refine r_icmp_ge (tgt := 63) C dX8_bound_29 (by decide) ?_ ?_
    · exact hk63 x1 x2 x3 σ ls (lv_sub hl [0, 1, 2, 3] rfl)
    · refine r_aload_n C dX8_bound_32 rfl (lv_at hl 0 rfl) ?_
      refine r_getR C fl_X8_19 lf_0_1 dX8_bound_33 ?_
      refine r_iload C dX8_bound_36 (lv_at hl 4 rfl) ?_
      refine r_iload_n C dX8_bound_38 rfl (lv_at hl 2 rfl) ?_
      refine r_callVi (As := [.int x4, .int x2]) (rest := []) C hl ml_X8_120 rc_4 (gX4_at l C.inj 4 rdg_4 x4 x2 σ) ⟨Nat.le_of_ble_eq_true rfl, Nat.le_of_ble_eq_true rfl⟩ ⟨Nat.le_of_ble_eq_true rfl, Nat.le_of_ble_eq_true rfl⟩ rfl rfl (Nat.le_of_ble_eq_true rfl) dX8_bound_39 (fun r1 σ2 => ?_)
      refine r_istore (lv' := [(5, .int r1), (0, .ref (ad 0)), (1, .int x1), (2, .int x2), (3, .int x3), (4, .int x4)]) C dX8_bound_42 hl (by decide) rfl (fun ls hl => ?_)
      refine r_iload C dX8_bound_44 (lv_at hl 0 rfl) ?_
      refine r_iconst (v := 4) C dX8_bound_46 (by decide) ?_
      refine r_icmp_eq (tgt := 57) C dX8_bound_47 (by decide) ?_ ?_
      · refine r_iinc (v := x4 + 1) (lv' := [(4, .int (x4 + 1)), (5, .int r1), (0, .ref (ad 0)), (1, .int x1), (2, .int x2), (3, .int x3)]) C dX8_bound_57 hl (k := 5) rfl rfl (by decide) rfl (fun ls hl => ?_)
        refine r_goto (tgt := 20) C dX8_bound_60 (by decide) ?_
        exact ih x1 x2 x3 (x4 + 1) σ2 ls (lv_sub hl [2, 3, 4, 5, 0] rfl)
      · refine r_iload_n C dX8_bound_50 rfl (lv_at hl 4 rfl) ?_
        refine r_iconst (v := 1) C dX8_bound_51 (by decide) ?_
        refine r_iload C dX8_bound_52 (lv_at hl 0 rfl) ?_
        refine r_ishl C dX8_bound_54 ?_
        refine r_ior C dX8_bound_55 ?_
        refine r_letv (fun v3 => ?_)
        refine r_istore_n (lv' := [(3, .int v3), (5, .int r1), (0, .ref (ad 0)), (1, .int x1), (2, .int x2), (4, .int x4)]) C dX8_bound_56 rfl hl (by decide) rfl (fun ls hl => ?_)
        refine r_iinc (v := x4 + 1) (lv' := [(4, .int (x4 + 1)), (3, .int v3), (5, .int r1), (0, .ref (ad 0)), (1, .int x1), (2, .int x2)]) C dX8_bound_57 hl (k := 5) rfl rfl (by decide) rfl (fun ls hl => ?_)
        refine r_goto (tgt := 20) C dX8_bound_60 (by decide) ?_
        exact ih x1 x2 v3 (x4 + 1) σ2 ls (lv_sub hl [3, 4, 5, 1, 0] rfl)
set_option maxRecDepth 100000 in
def BX8_bound_4 (k82 : Int32 → Mem → Option (Int32 × Mem)) (rec : Int32 → Int32 → Mem → Option (Int32 × Mem)) (x1 : Int32) (x2 : Int32) (σ : Mem) : Option (Int32 × Mem) := if (σ 4 2 : Int32) ≤ x2 then k82 x1 σ else LX8_bound_20 (fun x1 x2 x3 σ4 => bnd (fJ6_bitCount_0f7a4 x3 σ4) (fun r5 σ6 => letv (x1 + (mx (r5 - 1) 0)) (fun v7 => rec v7 (x2 + 1) σ6))) 300 x1 x2 0 0 σ
def LX8_bound_4 (k82 : Int32 → Mem → Option (Int32 × Mem)) : Nat → Int32 → Int32 → Mem → Option (Int32 × Mem)
  | 0 => fun _ _ _ => none
  | n + 1 => BX8_bound_4 k82 (LX8_bound_4 k82 n)
set_option maxRecDepth 100000 in
set_option maxHeartbeats 4000000 in
theorem wX8_bound_4 {p : Program} {l : Launch} {e : Env} {s : State} {m : MethodId} {args : Array Value} {below : List Frame} {meth : Method} {c : Code} {D : va_G} {cI cZ : ClassId} {ad : Nat → Nat} {tT : Nat} {A : Nat → Prop} (C : CX p s m args meth c cX8_bound 6 RX8 (some .int) D cI cZ ad tT A) (k82 : Int32 → Mem → Option (Int32 × Mem)) (hk82 : ∀ (x1 : Int32) (σ : Mem) (ls : Array Slot), lv_has ls 6 [(1, .int x1)] → WM p l e 3 65 s m args below meth c D cI cZ ad A rvi (k82 x1 σ) σ (F0 m 82 ls [])) :
    ∀ (n0 : Nat), ∀ (x1 : Int32) (x2 : Int32) (σ : Mem) (ls : Array Slot), lv_has ls 6 [(0, .ref (ad 0)), (1, .int x1), (2, .int x2)] → WM p l e 3 65 s m args below meth c D cI cZ ad A rvi (LX8_bound_4 k82 n0 x1 x2 σ) σ (F0 m 4 ls []) := by
  intro n0
  induction n0 with
  | zero => intro x1 x2 σ ls hl; exact r_none
  | succ n0 ih =>
    intro x1 x2 σ ls hl
    show WM p l e 3 65 s m args below meth c D cI cZ ad A rvi (BX8_bound_4 k82 (LX8_bound_4 k82 n0) x1 x2 σ) σ (F0 m 4 ls [])
    unfold BX8_bound_4
    refine r_iload_n C dX8_bound_4 rfl (lv_at hl 2 rfl) ?_
    refine r_aload_n C dX8_bound_5 rfl (lv_at hl 0 rfl) ?_
    refine r_getR C fl_X8_19 lf_0_1 dX8_bound_6 ?_
    refine r_getIN C fn_X8_212 lf_4_2 dX8_bound_9 ?_
    refine r_icmp_ge (tgt := 82) C dX8_bound_12 (by decide) ?_ ?_
    · exact hk82 x1 σ ls (lv_sub hl [1] rfl)
    · refine r_iconst (v := 0) C dX8_bound_15 (by decide) ?_
      refine r_istore_n (lv' := [(3, .int 0), (0, .ref (ad 0)), (1, .int x1), (2, .int x2)]) C dX8_bound_16 rfl hl (by decide) rfl (fun ls hl => ?_)
      refine r_iconst (v := 0) C dX8_bound_17 (by decide) ?_
      refine r_istore (lv' := [(4, .int 0), (3, .int 0), (0, .ref (ad 0)), (1, .int x1), (2, .int x2)]) C dX8_bound_18 hl (by decide) rfl (fun ls hl => ?_)
      refine wX8_bound_20  C _ ?_ 300 x1 x2 0 0 σ ls (lv_sub hl [2, 3, 4, 1, 0] rfl)
      · intro x1 x2 x3 σ4 ls hl
        refine r_iload_n C dX8_bound_63 rfl (lv_at hl 1 rfl) ?_
        refine r_iload_n C dX8_bound_64 rfl (lv_at hl 3 rfl) ?_
        refine r_callSi (As := [.int x3]) (rest := [.int x1]) C hl ml_X8_283 (gJ6_bitCount_0f7a4 l C.inj x3 σ4) ⟨Nat.le_of_ble_eq_true rfl, Nat.le_of_ble_eq_true rfl⟩ ⟨Nat.le_of_ble_eq_true rfl, Nat.le_of_ble_eq_true rfl⟩ rfl rfl (Nat.le_of_ble_eq_true rfl) dX8_bound_65 (fun r5 σ6 => ?_)
        refine r_iconst (v := 1) C dX8_bound_68 (by decide) ?_
        refine r_isub C dX8_bound_69 ?_
        refine r_iconst (v := 0) C dX8_bound_70 (by decide) ?_
        refine r_mmax2 C hl ml_X8_255 ⟨Nat.le_of_ble_eq_true rfl, Nat.le_of_ble_eq_true rfl, Nat.le_of_ble_eq_true rfl, Nat.le_of_ble_eq_true rfl⟩ dX8_bound_71 ?_
        refine r_iadd C dX8_bound_74 ?_
        refine r_letv (fun v7 => ?_)
        refine r_istore_n (lv' := [(1, .int v7), (0, .ref (ad 0)), (2, .int x2), (3, .int x3)]) C dX8_bound_75 rfl hl (by decide) rfl (fun ls hl => ?_)
        refine r_iinc (v := x2 + 1) (lv' := [(2, .int (x2 + 1)), (1, .int v7), (0, .ref (ad 0)), (3, .int x3)]) C dX8_bound_76 hl (k := 2) rfl rfl (by decide) rfl (fun ls hl => ?_)
        refine r_goto (tgt := 4) C dX8_bound_79 (by decide) ?_
        exact ih v7 (x2 + 1) σ6 ls (lv_sub hl [2, 1, 0] rfl)
set_option maxRecDepth 100000 in
def fX8_bound (σ : Mem) : Option (Int32 × Mem) := LX8_bound_4 (fun x1 σ8 => some (x1, σ8)) 300 0 0 σ
set_option maxRecDepth 100000 in
set_option maxHeartbeats 4000000 in
theorem gX8_bound (l : Launch) {D : va_G} {cI cZ : ClassId} {ad : Nat → Nat} {tT : Nat} (hi : INJ ad) (σ : Mem) : GM l D cI cZ ad tT yX8_bound cX8_bound 6 (some .int) 3 65 rvi [.ref (ad 0)] σ (fX8_bound σ) := by
  refine gm_of (lv := [(0, .ref (ad 0))]) (own := RX8) hi (by decide +kernel) rfl (Nat.le_of_ble_eq_true rfl) rfl ?_
  intro p e s m args below meth c A C ls hl
  unfold fX8_bound
  refine r_iconst (v := 0) C dX8_bound_0 (by decide) ?_
  refine r_istore_n (lv' := [(1, .int 0), (0, .ref (ad 0))]) C dX8_bound_1 rfl hl (by decide) rfl (fun ls hl => ?_)
  refine r_iconst (v := 0) C dX8_bound_2 (by decide) ?_
  refine r_istore_n (lv' := [(2, .int 0), (1, .int 0), (0, .ref (ad 0))]) C dX8_bound_3 rfl hl (by decide) rfl (fun ls hl => ?_)
  refine wX8_bound_4  C _ ?_ 300 0 0 σ ls (lv_sub hl [2, 1, 0] rfl)
  · intro x1 σ8 ls hl
    refine r_iload_n C dX8_bound_82 rfl (lv_at hl 0 rfl) ?_
    exact r_iret C rfl dX8_bound_83

set_option maxRecDepth 100000 in
def BX8_fewestChanges_2 (k27 : Mem → Option (Int32 × Mem)) (rec : Int32 → Mem → Option (Int32 × Mem)) (x1 : Int32) (σ : Mem) : Option (Int32 × Mem) := if (48 : Int32) < x1 then k27 σ else bnd (fX5_at 45 49 x1 σ) (fun r1 σ2 => if (r1 : Int32) ≤ 0 then rec (x1 + 1) σ2 else some (x1, σ2))
def LX8_fewestChanges_2 (k27 : Mem → Option (Int32 × Mem)) : Nat → Int32 → Mem → Option (Int32 × Mem)
  | 0 => fun _ _ => none
  | n + 1 => BX8_fewestChanges_2 k27 (LX8_fewestChanges_2 k27 n)
set_option maxRecDepth 100000 in
set_option maxHeartbeats 4000000 in
theorem wX8_fewestChanges_2 {p : Program} {l : Launch} {e : Env} {s : State} {m : MethodId} {args : Array Value} {below : List Frame} {meth : Method} {c : Code} {D : va_G} {cI cZ : ClassId} {ad : Nat → Nat} {tT : Nat} {A : Nat → Prop} (C : CX p s m args meth c cX8_fewestChanges 2 RX8 (some .int) D cI cZ ad tT A) (k27 : Mem → Option (Int32 × Mem)) (hk27 : ∀ (σ : Mem) (ls : Array Slot), lv_has ls 2 [] → WM p l e 1 21 s m args below meth c D cI cZ ad A rvi (k27 σ) σ (F0 m 27 ls [])) :
    ∀ (n0 : Nat), ∀ (x1 : Int32) (σ : Mem) (ls : Array Slot), lv_has ls 2 [(0, .ref (ad 0)), (1, .int x1)] → WM p l e 1 21 s m args below meth c D cI cZ ad A rvi (LX8_fewestChanges_2 k27 n0 x1 σ) σ (F0 m 2 ls []) := by
  intro n0
  induction n0 with
  | zero => intro x1 σ ls hl; exact r_none
  | succ n0 ih =>
    intro x1 σ ls hl
    show WM p l e 1 21 s m args below meth c D cI cZ ad A rvi (BX8_fewestChanges_2 k27 (LX8_fewestChanges_2 k27 n0) x1 σ) σ (F0 m 2 ls [])
    unfold BX8_fewestChanges_2
    refine r_iload_n C dX8_fewestChanges_2 rfl (lv_at hl 1 rfl) ?_
    refine r_bipush (v := 48) C dX8_fewestChanges_3 (by decide) ?_
    refine r_icmp_gt (tgt := 27) C dX8_fewestChanges_5 (by decide) ?_ ?_
    · exact hk27 σ ls (lv_sub hl [] rfl)
    · refine r_aload_n C dX8_fewestChanges_8 rfl (lv_at hl 0 rfl) ?_
      refine r_getR C fl_X8_72 lf_0_11 dX8_fewestChanges_9 ?_
      refine r_iload_n C dX8_fewestChanges_12 rfl (lv_at hl 1 rfl) ?_
      refine r_callVi (As := [.int x1]) (rest := []) C hl ml_X8_152 rc_45 (gX5_at l C.inj 45 49 row_45 x1 σ) ⟨Nat.le_of_ble_eq_true rfl, Nat.le_of_ble_eq_true rfl⟩ ⟨Nat.le_of_ble_eq_true rfl, Nat.le_of_ble_eq_true rfl⟩ rfl rfl (Nat.le_of_ble_eq_true rfl) dX8_fewestChanges_13 (fun r1 σ2 => ?_)
      refine r_if_le (tgt := 21) C dX8_fewestChanges_16 (by decide) ?_ ?_
      · refine r_iinc (v := x1 + 1) (lv' := [(1, .int (x1 + 1)), (0, .ref (ad 0))]) C dX8_fewestChanges_21 hl (k := 1) rfl rfl (by decide) rfl (fun ls hl => ?_)
        refine r_goto (tgt := 2) C dX8_fewestChanges_24 (by decide) ?_
        exact ih (x1 + 1) σ2 ls (lv_sub hl [1, 0] rfl)
      · refine r_iload_n C dX8_fewestChanges_19 rfl (lv_at hl 1 rfl) ?_
        exact r_iret C rfl dX8_fewestChanges_20
set_option maxRecDepth 100000 in
def fX8_fewestChanges (σ : Mem) : Option (Int32 × Mem) := LX8_fewestChanges_2 (fun σ3 => some (0, σ3)) 300 0 σ
set_option maxRecDepth 100000 in
set_option maxHeartbeats 4000000 in
theorem gX8_fewestChanges (l : Launch) {D : va_G} {cI cZ : ClassId} {ad : Nat → Nat} {tT : Nat} (hi : INJ ad) (σ : Mem) : GM l D cI cZ ad tT yX8_fewestChanges cX8_fewestChanges 2 (some .int) 1 21 rvi [.ref (ad 0)] σ (fX8_fewestChanges σ) := by
  refine gm_of (lv := [(0, .ref (ad 0))]) (own := RX8) hi (by decide +kernel) rfl (Nat.le_of_ble_eq_true rfl) rfl ?_
  intro p e s m args below meth c A C ls hl
  unfold fX8_fewestChanges
  refine r_iconst (v := 0) C dX8_fewestChanges_0 (by decide) ?_
  refine r_istore_n (lv' := [(1, .int 0), (0, .ref (ad 0))]) C dX8_fewestChanges_1 rfl hl (by decide) rfl (fun ls hl => ?_)
  refine wX8_fewestChanges_2  C _ ?_ 300 0 σ ls (lv_sub hl [1, 0] rfl)
  · intro σ3 ls hl
    refine r_iconst (v := 0) C dX8_fewestChanges_27 (by decide) ?_
    exact r_iret C rfl dX8_fewestChanges_28

set_option maxRecDepth 100000 in
def fX8_best (x1 : Int32) (σ : Mem) : Option (Int32 × Mem) := if (x1 : Int32) < 0 then some ((-1), σ) else if (x1 : Int32) ≤ 3 then if (x1 : Int32) = 2 then bnd (fX8_bound σ) (fun r9 σ10 => some (r9, σ10)) else bnd (fX8_weighTrees σ) (fun r1 σ2 => bnd (fX8_fewestChanges σ2) (fun r3 σ4 => if (x1 : Int32) = 0 then some (r3, σ4) else if (x1 : Int32) = 1 then bnd (fX5_at 45 49 r3 σ4) (fun r7 σ8 => some (r7, σ8)) else bnd (fX8_bound σ4) (fun r5 σ6 => if (r5 : Int32) = r3 then some (1, σ6) else some (0, σ6)))) else some ((-1), σ)
set_option maxRecDepth 100000 in
set_option maxHeartbeats 4000000 in
theorem gX8_best (l : Launch) {D : va_G} {cI cZ : ClassId} {ad : Nat → Nat} {tT : Nat} (hi : INJ ad) (x1 : Int32) (σ : Mem) : GM l D cI cZ ad tT yX8_best cX8_best 3 (some .int) 6 135 rvi [.ref (ad 0), .int x1] σ (fX8_best x1 σ) := by
  refine gm_of (lv := [(0, .ref (ad 0)), (1, .int x1)]) (own := RX8) hi (by decide +kernel) rfl (Nat.le_of_ble_eq_true rfl) rfl ?_
  intro p e s m args below meth c A C ls hl
  unfold fX8_best
  refine r_iload_n C dX8_best_0 rfl (lv_at hl 1 rfl) ?_
  refine r_if_lt (tgt := 9) C dX8_best_1 (by decide) ?_ ?_
  · refine r_iconst (v := (-1)) C dX8_best_9 (by decide) ?_
    exact r_iret C rfl dX8_best_10
  · refine r_iload_n C dX8_best_4 rfl (lv_at hl 1 rfl) ?_
    refine r_iconst (v := 3) C dX8_best_5 (by decide) ?_
    refine r_icmp_le (tgt := 11) C dX8_best_6 (by decide) ?_ ?_
    · refine r_iload_n C dX8_best_11 rfl (lv_at hl 1 rfl) ?_
      refine r_iconst (v := 2) C dX8_best_12 (by decide) ?_
      refine r_icmp_ne (tgt := 21) C dX8_best_13 (by decide) ?_ ?_
      · refine r_aload_n C dX8_best_21 rfl (lv_at hl 0 rfl) ?_
        refine r_callVv (As := []) (rest := []) C hl ml_X8_142 rc_0 (gX8_weighTrees l C.inj σ) ⟨Nat.le_of_ble_eq_true rfl, Nat.le_of_ble_eq_true rfl⟩ ⟨Nat.le_of_ble_eq_true rfl, Nat.le_of_ble_eq_true rfl⟩ rfl rfl (Nat.le_of_ble_eq_true rfl) dX8_best_22 (fun r1 σ2 => ?_)
        refine r_aload_n C dX8_best_25 rfl (lv_at hl 0 rfl) ?_
        refine r_callVi (As := []) (rest := []) C hl ml_X8_191 rc_0 (gX8_fewestChanges l C.inj σ2) ⟨Nat.le_of_ble_eq_true rfl, Nat.le_of_ble_eq_true rfl⟩ ⟨Nat.le_of_ble_eq_true rfl, Nat.le_of_ble_eq_true rfl⟩ rfl rfl (Nat.le_of_ble_eq_true rfl) dX8_best_26 (fun r3 σ4 => ?_)
        refine r_istore_n (lv' := [(2, .int r3), (0, .ref (ad 0)), (1, .int x1)]) C dX8_best_29 rfl hl (by decide) rfl (fun ls hl => ?_)
        refine r_iload_n C dX8_best_30 rfl (lv_at hl 2 rfl) ?_
        refine r_if_ne (tgt := 36) C dX8_best_31 (by decide) ?_ ?_
        · refine r_iload_n C dX8_best_36 rfl (lv_at hl 2 rfl) ?_
          refine r_iconst (v := 1) C dX8_best_37 (by decide) ?_
          refine r_icmp_ne (tgt := 50) C dX8_best_38 (by decide) ?_ ?_
          · refine r_aload_n C dX8_best_50 rfl (lv_at hl 1 rfl) ?_
            refine r_callVi (As := []) (rest := []) C hl ml_X8_188 rc_0 (gX8_bound l C.inj σ4) ⟨Nat.le_of_ble_eq_true rfl, Nat.le_of_ble_eq_true rfl⟩ ⟨Nat.le_of_ble_eq_true rfl, Nat.le_of_ble_eq_true rfl⟩ rfl rfl (Nat.le_of_ble_eq_true rfl) dX8_best_51 (fun r5 σ6 => ?_)
            refine r_iload_n C dX8_best_54 rfl (lv_at hl 0 rfl) ?_
            refine r_icmp_ne (tgt := 62) C dX8_best_55 (by decide) ?_ ?_
            · refine r_iconst (v := 0) C dX8_best_62 (by decide) ?_
              exact r_iret C rfl dX8_best_63
            · refine r_iconst (v := 1) C dX8_best_58 (by decide) ?_
              refine r_goto (tgt := 63) C dX8_best_59 (by decide) ?_
              exact r_iret C rfl dX8_best_63
          · refine r_aload_n C dX8_best_41 rfl (lv_at hl 1 rfl) ?_
            refine r_getR C fl_X8_72 lf_0_11 dX8_best_42 ?_
            refine r_iload_n C dX8_best_45 rfl (lv_at hl 0 rfl) ?_
            refine r_callVi (As := [.int r3]) (rest := []) C hl ml_X8_152 rc_45 (gX5_at l C.inj 45 49 row_45 r3 σ4) ⟨Nat.le_of_ble_eq_true rfl, Nat.le_of_ble_eq_true rfl⟩ ⟨Nat.le_of_ble_eq_true rfl, Nat.le_of_ble_eq_true rfl⟩ rfl rfl (Nat.le_of_ble_eq_true rfl) dX8_best_46 (fun r7 σ8 => ?_)
            exact r_iret C rfl dX8_best_49
        · refine r_iload_n C dX8_best_34 rfl (lv_at hl 0 rfl) ?_
          exact r_iret C rfl dX8_best_35
      · refine r_aload_n C dX8_best_16 rfl (lv_at hl 0 rfl) ?_
        refine r_callVi (As := []) (rest := []) C hl ml_X8_188 rc_0 (gX8_bound l C.inj σ) ⟨Nat.le_of_ble_eq_true rfl, Nat.le_of_ble_eq_true rfl⟩ ⟨Nat.le_of_ble_eq_true rfl, Nat.le_of_ble_eq_true rfl⟩ rfl rfl (Nat.le_of_ble_eq_true rfl) dX8_best_17 (fun r9 σ10 => ?_)
        exact r_iret C rfl dX8_best_20
    · refine r_iconst (v := (-1)) C dX8_best_9 (by decide) ?_
      exact r_iret C rfl dX8_best_10

set_option maxRecDepth 100000 in
def fX8_changesIf (x1 : Int32) (x2 : Int32) (x3 : Int32) (σ : Mem) : Option (Int32 × Mem) := bnd (fX5_at 41 6 x1 σ) (fun r1 σ2 => bnd (fX8_bitsOf x2 σ2) (fun r3 σ4 => bnd (fX8_bitOf x2 x3 σ4) (fun r5 σ6 => bnd (fX5_put 41 6 x1 ((r1 &&& (r3 ^^^ (-1))) ||| r5) σ6) (fun r7 σ8 => bnd (fX0_changesOver σ8) (fun r9 σ10 => bnd (fX5_put 41 6 x1 r1 σ10) (fun r11 σ12 => some (r9, σ12)))))))
set_option maxRecDepth 100000 in
set_option maxHeartbeats 4000000 in
theorem gX8_changesIf (l : Launch) {D : va_G} {cI cZ : ClassId} {ad : Nat → Nat} {tT : Nat} (hi : INJ ad) (x1 : Int32) (x2 : Int32) (x3 : Int32) (σ : Mem) : GM l D cI cZ ad tT yX8_changesIf cX8_changesIf 6 (some .int) 2 50 rvi [.ref (ad 0), .int x1, .int x2, .int x3] σ (fX8_changesIf x1 x2 x3 σ) := by
  refine gm_of (lv := [(0, .ref (ad 0)), (1, .int x1), (2, .int x2), (3, .int x3)]) (own := RX8) hi (by decide +kernel) rfl (Nat.le_of_ble_eq_true rfl) rfl ?_
  intro p e s m args below meth c A C ls hl
  unfold fX8_changesIf
  refine r_aload_n C dX8_changesIf_0 rfl (lv_at hl 0 rfl) ?_
  refine r_getR C fl_X8_66 lf_0_9 dX8_changesIf_1 ?_
  refine r_iload_n C dX8_changesIf_4 rfl (lv_at hl 1 rfl) ?_
  refine r_callVi (As := [.int x1]) (rest := []) C hl ml_X8_152 rc_41 (gX5_at l C.inj 41 6 row_41 x1 σ) ⟨Nat.le_of_ble_eq_true rfl, Nat.le_of_ble_eq_true rfl⟩ ⟨Nat.le_of_ble_eq_true rfl, Nat.le_of_ble_eq_true rfl⟩ rfl rfl (Nat.le_of_ble_eq_true rfl) dX8_changesIf_5 (fun r1 σ2 => ?_)
  refine r_istore (lv' := [(4, .int r1), (0, .ref (ad 0)), (1, .int x1), (2, .int x2), (3, .int x3)]) C dX8_changesIf_8 hl (by decide) rfl (fun ls hl => ?_)
  refine r_aload_n C dX8_changesIf_10 rfl (lv_at hl 1 rfl) ?_
  refine r_getR C fl_X8_66 lf_0_9 dX8_changesIf_11 ?_
  refine r_iload_n C dX8_changesIf_14 rfl (lv_at hl 2 rfl) ?_
  refine r_iload C dX8_changesIf_15 (lv_at hl 0 rfl) ?_
  refine r_iload_n C dX8_changesIf_17 rfl (lv_at hl 3 rfl) ?_
  refine r_callSi (As := [.int x2]) (rest := [.int r1, .int x1, .ref (ad 41)]) C hl ml_X8_263 (gX8_bitsOf l C.inj x2 σ2) ⟨Nat.le_of_ble_eq_true rfl, Nat.le_of_ble_eq_true rfl⟩ ⟨Nat.le_of_ble_eq_true rfl, Nat.le_of_ble_eq_true rfl⟩ rfl rfl (Nat.le_of_ble_eq_true rfl) dX8_changesIf_18 (fun r3 σ4 => ?_)
  refine r_iconst (v := (-1)) C dX8_changesIf_21 (by decide) ?_
  refine r_ixor C dX8_changesIf_22 ?_
  refine r_iand C dX8_changesIf_23 ?_
  refine r_iload_n C dX8_changesIf_24 rfl (lv_at hl 3 rfl) ?_
  refine r_iload_n C dX8_changesIf_25 rfl (lv_at hl 4 rfl) ?_
  refine r_callSi (As := [.int x2, .int x3]) (rest := [.int (r1 &&& (r3 ^^^ (-1))), .int x1, .ref (ad 41)]) C hl ml_X8_270 (gX8_bitOf l C.inj x2 x3 σ4) ⟨Nat.le_of_ble_eq_true rfl, Nat.le_of_ble_eq_true rfl⟩ ⟨Nat.le_of_ble_eq_true rfl, Nat.le_of_ble_eq_true rfl⟩ rfl rfl (Nat.le_of_ble_eq_true rfl) dX8_changesIf_26 (fun r5 σ6 => ?_)
  refine r_ior C dX8_changesIf_29 ?_
  refine r_callVv (As := [.int x1, .int ((r1 &&& (r3 ^^^ (-1))) ||| r5)]) (rest := []) C hl ml_X8_159 rc_41 (gX5_put l C.inj 41 6 row_41 x1 ((r1 &&& (r3 ^^^ (-1))) ||| r5) σ6) ⟨Nat.le_of_ble_eq_true rfl, Nat.le_of_ble_eq_true rfl⟩ ⟨Nat.le_of_ble_eq_true rfl, Nat.le_of_ble_eq_true rfl⟩ rfl rfl (Nat.le_of_ble_eq_true rfl) dX8_changesIf_30 (fun r7 σ8 => ?_)
  refine r_aload_n C dX8_changesIf_33 rfl (lv_at hl 1 rfl) ?_
  refine r_getR C fl_X8_62 lf_0_8 dX8_changesIf_34 ?_
  refine r_aload_n C dX8_changesIf_37 rfl (lv_at hl 1 rfl) ?_
  refine r_getR C fl_X8_66 lf_0_9 dX8_changesIf_38 ?_
  refine r_callVi (As := [.ref (ad 41)]) (rest := []) C hl ml_X8_266 rc_30 (gX0_changesOver l C.inj σ8) ⟨Nat.le_of_ble_eq_true rfl, Nat.le_of_ble_eq_true rfl⟩ ⟨Nat.le_of_ble_eq_true rfl, Nat.le_of_ble_eq_true rfl⟩ rfl rfl (Nat.le_of_ble_eq_true rfl) dX8_changesIf_41 (fun r9 σ10 => ?_)
  refine r_istore (lv' := [(5, .int r9), (4, .int r1), (0, .ref (ad 0)), (1, .int x1), (2, .int x2), (3, .int x3)]) C dX8_changesIf_44 hl (by decide) rfl (fun ls hl => ?_)
  refine r_aload_n C dX8_changesIf_46 rfl (lv_at hl 2 rfl) ?_
  refine r_getR C fl_X8_66 lf_0_9 dX8_changesIf_47 ?_
  refine r_iload_n C dX8_changesIf_50 rfl (lv_at hl 3 rfl) ?_
  refine r_iload C dX8_changesIf_51 (lv_at hl 1 rfl) ?_
  refine r_callVv (As := [.int x1, .int r1]) (rest := []) C hl ml_X8_159 rc_41 (gX5_put l C.inj 41 6 row_41 x1 r1 σ10) ⟨Nat.le_of_ble_eq_true rfl, Nat.le_of_ble_eq_true rfl⟩ ⟨Nat.le_of_ble_eq_true rfl, Nat.le_of_ble_eq_true rfl⟩ rfl rfl (Nat.le_of_ble_eq_true rfl) dX8_changesIf_53 (fun r11 σ12 => ?_)
  refine r_iload C dX8_changesIf_56 (lv_at hl 0 rfl) ?_
  exact r_iret C rfl dX8_changesIf_58

set_option maxRecDepth 100000 in
def BX8_fitting_50 (k83 : Int32 → Mem → Option (Int32 × Mem)) (rec : Int32 → Int32 → Int32 → Int32 → Int32 → Mem → Option (Int32 × Mem)) (x1 : Int32) (x2 : Int32) (x3 : Int32) (x4 : Int32) (x5 : Int32) (σ : Mem) : Option (Int32 × Mem) := if (4 : Int32) ≤ x5 then k83 x4 σ else bnd (fX8_changesIf x1 x2 x5 σ) (fun r9 σ10 => if (x3 : Int32) < r9 then rec x1 x2 x3 x4 (x5 + 1) σ10 else letv (x4 ||| ((1 : Int32) <<< (x5 &&& 31))) (fun v11 => rec x1 x2 x3 v11 (x5 + 1) σ10))
def LX8_fitting_50 (k83 : Int32 → Mem → Option (Int32 × Mem)) : Nat → Int32 → Int32 → Int32 → Int32 → Int32 → Mem → Option (Int32 × Mem)
  | 0 => fun _ _ _ _ _ _ => none
  | n + 1 => BX8_fitting_50 k83 (LX8_fitting_50 k83 n)
set_option maxRecDepth 100000 in
set_option maxHeartbeats 4000000 in
theorem wX8_fitting_50 {p : Program} {l : Launch} {e : Env} {s : State} {m : MethodId} {args : Array Value} {below : List Frame} {meth : Method} {c : Code} {D : va_G} {cI cZ : ClassId} {ad : Nat → Nat} {tT : Nat} {A : Nat → Prop} (C : CX p s m args meth c cX8_fitting 6 RX8 (some .int) D cI cZ ad tT A) (k83 : Int32 → Mem → Option (Int32 × Mem)) (hk83 : ∀ (x4 : Int32) (σ : Mem) (ls : Array Slot), lv_has ls 6 [(4, .int x4)] → WM p l e 5 112 s m args below meth c D cI cZ ad A rvi (k83 x4 σ) σ (F0 m 83 ls [])) :
    ∀ (n0 : Nat), ∀ (x1 : Int32) (x2 : Int32) (x3 : Int32) (x4 : Int32) (x5 : Int32) (σ : Mem) (ls : Array Slot), lv_has ls 6 [(0, .ref (ad 0)), (1, .int x1), (2, .int x2), (3, .int x3), (4, .int x4), (5, .int x5)] → WM p l e 5 112 s m args below meth c D cI cZ ad A rvi (LX8_fitting_50 k83 n0 x1 x2 x3 x4 x5 σ) σ (F0 m 50 ls []) := by
  intro n0
  induction n0 with
  | zero => intro x1 x2 x3 x4 x5 σ ls hl; exact r_none
  | succ n0 ih =>
    intro x1 x2 x3 x4 x5 σ ls hl
    show WM p l e 5 112 s m args below meth c D cI cZ ad A rvi (BX8_fitting_50 k83 (LX8_fitting_50 k83 n0) x1 x2 x3 x4 x5 σ) σ (F0 m 50 ls [])
    unfold BX8_fitting_50
    refine r_iload C dX8_fitting_50 (lv_at hl 5 rfl) ?_
    refine r_iconst (v := 4) C dX8_fitting_52 (by decide) ?_
    refine r_icmp_ge (tgt := 83) C dX8_fitting_53 (by decide) ?_ ?_
    · exact hk83 x4 σ ls (lv_sub hl [4] rfl)
    · refine r_aload_n C dX8_fitting_56 rfl (lv_at hl 0 rfl) ?_
      refine r_iload_n C dX8_fitting_57 rfl (lv_at hl 1 rfl) ?_
      refine r_iload_n C dX8_fitting_58 rfl (lv_at hl 2 rfl) ?_
      refine r_iload C dX8_fitting_59 (lv_at hl 5 rfl) ?_
      refine r_callVi (As := [.int x1, .int x2, .int x5]) (rest := []) C hl ml_X8_194 rc_0 (gX8_changesIf l C.inj x1 x2 x5 σ) ⟨Nat.le_of_ble_eq_true rfl, Nat.le_of_ble_eq_true rfl⟩ ⟨Nat.le_of_ble_eq_true rfl, Nat.le_of_ble_eq_true rfl⟩ rfl rfl (Nat.le_of_ble_eq_true rfl) dX8_fitting_61 (fun r9 σ10 => ?_)
      refine r_iload_n C dX8_fitting_64 rfl (lv_at hl 3 rfl) ?_
      refine r_icmp_gt (tgt := 77) C dX8_fitting_65 (by decide) ?_ ?_
      · refine r_iinc (v := x5 + 1) (lv' := [(5, .int (x5 + 1)), (0, .ref (ad 0)), (1, .int x1), (2, .int x2), (3, .int x3), (4, .int x4)]) C dX8_fitting_77 hl (k := 5) rfl rfl (by decide) rfl (fun ls hl => ?_)
        refine r_goto (tgt := 50) C dX8_fitting_80 (by decide) ?_
        exact ih x1 x2 x3 x4 (x5 + 1) σ10 ls (lv_sub hl [1, 2, 3, 4, 5, 0] rfl)
      · refine r_iload C dX8_fitting_68 (lv_at hl 4 rfl) ?_
        refine r_iconst (v := 1) C dX8_fitting_70 (by decide) ?_
        refine r_iload C dX8_fitting_71 (lv_at hl 5 rfl) ?_
        refine r_ishl C dX8_fitting_73 ?_
        refine r_ior C dX8_fitting_74 ?_
        refine r_letv (fun v11 => ?_)
        refine r_istore (lv' := [(4, .int v11), (0, .ref (ad 0)), (1, .int x1), (2, .int x2), (3, .int x3), (5, .int x5)]) C dX8_fitting_75 hl (by decide) rfl (fun ls hl => ?_)
        refine r_iinc (v := x5 + 1) (lv' := [(5, .int (x5 + 1)), (4, .int v11), (0, .ref (ad 0)), (1, .int x1), (2, .int x2), (3, .int x3)]) C dX8_fitting_77 hl (k := 5) rfl rfl (by decide) rfl (fun ls hl => ?_)
        refine r_goto (tgt := 50) C dX8_fitting_80 (by decide) ?_
        exact ih x1 x2 x3 v11 (x5 + 1) σ10 ls (lv_sub hl [2, 3, 4, 5, 1, 0] rfl)
set_option maxRecDepth 100000 in
def fX8_fitting (x1 : Int32) (x2 : Int32) (σ : Mem) : Option (Int32 × Mem) := bnd (fX4_has 4 x1 x2 σ) (fun r1 σ2 => if (r1 : Int32) = 0 then some ((-1), σ2) else bnd (fX4_at 4 x1 x2 σ2) (fun r3 σ4 => if (r3 : Int32) = 4 then bnd (fX8_loadSets x2 σ4) (fun r5 σ6 => bnd (fX8_changesOf (σ6 0 14) σ6) (fun r7 σ8 => LX8_fitting_50 (fun x4 σ12 => some (x4, σ12)) 300 x1 x2 r7 0 0 σ8)) else some ((-9), σ4)))
set_option maxRecDepth 100000 in
set_option maxHeartbeats 4000000 in
theorem gX8_fitting (l : Launch) {D : va_G} {cI cZ : ClassId} {ad : Nat → Nat} {tT : Nat} (hi : INJ ad) (x1 : Int32) (x2 : Int32) (σ : Mem) : GM l D cI cZ ad tT yX8_fitting cX8_fitting 6 (some .int) 5 112 rvi [.ref (ad 0), .int x1, .int x2] σ (fX8_fitting x1 x2 σ) := by
  refine gm_of (lv := [(0, .ref (ad 0)), (1, .int x1), (2, .int x2)]) (own := RX8) hi (by decide +kernel) rfl (Nat.le_of_ble_eq_true rfl) rfl ?_
  intro p e s m args below meth c A C ls hl
  unfold fX8_fitting
  refine r_aload_n C dX8_fitting_0 rfl (lv_at hl 0 rfl) ?_
  refine r_getR C fl_X8_19 lf_0_1 dX8_fitting_1 ?_
  refine r_iload_n C dX8_fitting_4 rfl (lv_at hl 1 rfl) ?_
  refine r_iload_n C dX8_fitting_5 rfl (lv_at hl 2 rfl) ?_
  refine r_callVi (As := [.int x1, .int x2]) (rest := []) C hl ml_X8_116 rc_4 (gX4_has l C.inj 4 rdg_4 x1 x2 σ) ⟨Nat.le_of_ble_eq_true rfl, Nat.le_of_ble_eq_true rfl⟩ ⟨Nat.le_of_ble_eq_true rfl, Nat.le_of_ble_eq_true rfl⟩ rfl rfl (Nat.le_of_ble_eq_true rfl) dX8_fitting_6 (fun r1 σ2 => ?_)
  refine r_if_ne (tgt := 14) C dX8_fitting_9 (by decide) ?_ ?_
  · refine r_aload_n C dX8_fitting_14 rfl (lv_at hl 0 rfl) ?_
    refine r_getR C fl_X8_19 lf_0_1 dX8_fitting_15 ?_
    refine r_iload_n C dX8_fitting_18 rfl (lv_at hl 1 rfl) ?_
    refine r_iload_n C dX8_fitting_19 rfl (lv_at hl 2 rfl) ?_
    refine r_callVi (As := [.int x1, .int x2]) (rest := []) C hl ml_X8_120 rc_4 (gX4_at l C.inj 4 rdg_4 x1 x2 σ2) ⟨Nat.le_of_ble_eq_true rfl, Nat.le_of_ble_eq_true rfl⟩ ⟨Nat.le_of_ble_eq_true rfl, Nat.le_of_ble_eq_true rfl⟩ rfl rfl (Nat.le_of_ble_eq_true rfl) dX8_fitting_20 (fun r3 σ4 => ?_)
    refine r_iconst (v := 4) C dX8_fitting_23 (by decide) ?_
    refine r_icmp_eq (tgt := 30) C dX8_fitting_24 (by decide) ?_ ?_
    · refine r_aload_n C dX8_fitting_30 rfl (lv_at hl 0 rfl) ?_
      refine r_iload_n C dX8_fitting_31 rfl (lv_at hl 2 rfl) ?_
      refine r_callVv (As := [.int x2]) (rest := []) C hl ml_X8_164 rc_0 (gX8_loadSets l C.inj x2 σ4) ⟨Nat.le_of_ble_eq_true rfl, Nat.le_of_ble_eq_true rfl⟩ ⟨Nat.le_of_ble_eq_true rfl, Nat.le_of_ble_eq_true rfl⟩ rfl rfl (Nat.le_of_ble_eq_true rfl) dX8_fitting_32 (fun r5 σ6 => ?_)
      refine r_aload_n C dX8_fitting_35 rfl (lv_at hl 0 rfl) ?_
      refine r_aload_n C dX8_fitting_36 rfl (lv_at hl 0 rfl) ?_
      refine r_getI C fl_X8_97 lf_0_14 dX8_fitting_37 ?_
      refine r_callVi (As := [.int (σ6 0 14)]) (rest := []) C hl ml_X8_167 rc_0 (gX8_changesOf l C.inj (σ6 0 14) σ6) ⟨Nat.le_of_ble_eq_true rfl, Nat.le_of_ble_eq_true rfl⟩ ⟨Nat.le_of_ble_eq_true rfl, Nat.le_of_ble_eq_true rfl⟩ rfl rfl (Nat.le_of_ble_eq_true rfl) dX8_fitting_40 (fun r7 σ8 => ?_)
      refine r_istore_n (lv' := [(3, .int r7), (0, .ref (ad 0)), (1, .int x1), (2, .int x2)]) C dX8_fitting_43 rfl hl (by decide) rfl (fun ls hl => ?_)
      refine r_iconst (v := 0) C dX8_fitting_44 (by decide) ?_
      refine r_istore (lv' := [(4, .int 0), (3, .int r7), (0, .ref (ad 0)), (1, .int x1), (2, .int x2)]) C dX8_fitting_45 hl (by decide) rfl (fun ls hl => ?_)
      refine r_iconst (v := 0) C dX8_fitting_47 (by decide) ?_
      refine r_istore (lv' := [(5, .int 0), (4, .int 0), (3, .int r7), (0, .ref (ad 0)), (1, .int x1), (2, .int x2)]) C dX8_fitting_48 hl (by decide) rfl (fun ls hl => ?_)
      refine wX8_fitting_50  C _ ?_ 300 x1 x2 r7 0 0 σ8 ls (lv_sub hl [3, 4, 5, 2, 1, 0] rfl)
      · intro x4 σ12 ls hl
        refine r_iload C dX8_fitting_83 (lv_at hl 0 rfl) ?_
        exact r_iret C rfl dX8_fitting_85
    · refine r_bipush (v := (-9)) C dX8_fitting_27 (by decide) ?_
      exact r_iret C rfl dX8_fitting_29
  · refine r_iconst (v := (-1)) C dX8_fitting_12 (by decide) ?_
    exact r_iret C rfl dX8_fitting_13

set_option maxRecDepth 100000 in
def BX8_inQuarrel_5 (k71 : Int32 → Mem → Option (Int32 × Mem)) (rec : Int32 → Int32 → Int32 → Int32 → Mem → Option (Int32 × Mem)) (x1 : Int32) (x2 : Int32) (x3 : Int32) (x4 : Int32) (σ : Mem) : Option (Int32 × Mem) := if (σ 4 1 : Int32) ≤ x4 then k71 x3 σ else bnd (fX4_at 4 x4 x1 σ) (fun r1 σ2 => bnd (fX4_at 4 x4 x2 σ2) (fun r3 σ4 => if (r1 : Int32) = 4 then rec x1 x2 x3 (x4 + 1) σ4 else if (r3 : Int32) = 4 then rec x1 x2 x3 (x4 + 1) σ4 else letv (x3 ||| ((1 : Int32) <<< ((((4 : Int32) * r1) + r3) &&& 31))) (fun v5 => rec x1 x2 v5 (x4 + 1) σ4)))
def LX8_inQuarrel_5 (k71 : Int32 → Mem → Option (Int32 × Mem)) : Nat → Int32 → Int32 → Int32 → Int32 → Mem → Option (Int32 × Mem)
  | 0 => fun _ _ _ _ _ => none
  | n + 1 => BX8_inQuarrel_5 k71 (LX8_inQuarrel_5 k71 n)
set_option maxRecDepth 100000 in
set_option maxHeartbeats 4000000 in
theorem wX8_inQuarrel_5 {p : Program} {l : Launch} {e : Env} {s : State} {m : MethodId} {args : Array Value} {below : List Frame} {meth : Method} {c : Code} {D : va_G} {cI cZ : ClassId} {ad : Nat → Nat} {tT : Nat} {A : Nat → Prop} (C : CX p s m args meth c cX8_inQuarrel 7 RX8 (some .boolean) D cI cZ ad tT A) (k71 : Int32 → Mem → Option (Int32 × Mem)) (hk71 : ∀ (x3 : Int32) (σ : Mem) (ls : Array Slot), lv_has ls 7 [(3, .int x3)] → WM p l e 3 65 s m args below meth c D cI cZ ad A rvi (k71 x3 σ) σ (F0 m 71 ls [])) :
    ∀ (n0 : Nat), ∀ (x1 : Int32) (x2 : Int32) (x3 : Int32) (x4 : Int32) (σ : Mem) (ls : Array Slot), lv_has ls 7 [(0, .ref (ad 0)), (1, .int x1), (2, .int x2), (3, .int x3), (4, .int x4)] → WM p l e 3 65 s m args below meth c D cI cZ ad A rvi (LX8_inQuarrel_5 k71 n0 x1 x2 x3 x4 σ) σ (F0 m 5 ls []) := by
  intro n0
  induction n0 with
  | zero => intro x1 x2 x3 x4 σ ls hl; exact r_none
  | succ n0 ih =>
    intro x1 x2 x3 x4 σ ls hl
    show WM p l e 3 65 s m args below meth c D cI cZ ad A rvi (BX8_inQuarrel_5 k71 (LX8_inQuarrel_5 k71 n0) x1 x2 x3 x4 σ) σ (F0 m 5 ls [])
    unfold BX8_inQuarrel_5
    refine r_iload C dX8_inQuarrel_5 (lv_at hl 4 rfl) ?_
    refine r_aload_n C dX8_inQuarrel_7 rfl (lv_at hl 0 rfl) ?_
    refine r_getR C fl_X8_19 lf_0_1 dX8_inQuarrel_8 ?_
    refine r_getIN C fn_X8_113 lf_4_1 dX8_inQuarrel_11 ?_
    refine r_icmp_ge (tgt := 71) C dX8_inQuarrel_14 (by decide) ?_ ?_
    · exact hk71 x3 σ ls (lv_sub hl [3] rfl)
    · refine r_aload_n C dX8_inQuarrel_17 rfl (lv_at hl 0 rfl) ?_
      refine r_getR C fl_X8_19 lf_0_1 dX8_inQuarrel_18 ?_
      refine r_iload C dX8_inQuarrel_21 (lv_at hl 4 rfl) ?_
      refine r_iload_n C dX8_inQuarrel_23 rfl (lv_at hl 1 rfl) ?_
      refine r_callVi (As := [.int x4, .int x1]) (rest := []) C hl ml_X8_120 rc_4 (gX4_at l C.inj 4 rdg_4 x4 x1 σ) ⟨Nat.le_of_ble_eq_true rfl, Nat.le_of_ble_eq_true rfl⟩ ⟨Nat.le_of_ble_eq_true rfl, Nat.le_of_ble_eq_true rfl⟩ rfl rfl (Nat.le_of_ble_eq_true rfl) dX8_inQuarrel_24 (fun r1 σ2 => ?_)
      refine r_istore (lv' := [(5, .int r1), (0, .ref (ad 0)), (1, .int x1), (2, .int x2), (3, .int x3), (4, .int x4)]) C dX8_inQuarrel_27 hl (by decide) rfl (fun ls hl => ?_)
      refine r_aload_n C dX8_inQuarrel_29 rfl (lv_at hl 1 rfl) ?_
      refine r_getR C fl_X8_19 lf_0_1 dX8_inQuarrel_30 ?_
      refine r_iload C dX8_inQuarrel_33 (lv_at hl 5 rfl) ?_
      refine r_iload_n C dX8_inQuarrel_35 rfl (lv_at hl 3 rfl) ?_
      refine r_callVi (As := [.int x4, .int x2]) (rest := []) C hl ml_X8_120 rc_4 (gX4_at l C.inj 4 rdg_4 x4 x2 σ2) ⟨Nat.le_of_ble_eq_true rfl, Nat.le_of_ble_eq_true rfl⟩ ⟨Nat.le_of_ble_eq_true rfl, Nat.le_of_ble_eq_true rfl⟩ rfl rfl (Nat.le_of_ble_eq_true rfl) dX8_inQuarrel_36 (fun r3 σ4 => ?_)
      refine r_istore (lv' := [(6, .int r3), (5, .int r1), (0, .ref (ad 0)), (1, .int x1), (2, .int x2), (3, .int x3), (4, .int x4)]) C dX8_inQuarrel_39 hl (by decide) rfl (fun ls hl => ?_)
      refine r_iload C dX8_inQuarrel_41 (lv_at hl 1 rfl) ?_
      refine r_iconst (v := 4) C dX8_inQuarrel_43 (by decide) ?_
      refine r_icmp_eq (tgt := 65) C dX8_inQuarrel_44 (by decide) ?_ ?_
      · refine r_iinc (v := x4 + 1) (lv' := [(4, .int (x4 + 1)), (6, .int r3), (5, .int r1), (0, .ref (ad 0)), (1, .int x1), (2, .int x2), (3, .int x3)]) C dX8_inQuarrel_65 hl (k := 6) rfl rfl (by decide) rfl (fun ls hl => ?_)
        refine r_goto (tgt := 5) C dX8_inQuarrel_68 (by decide) ?_
        exact ih x1 x2 x3 (x4 + 1) σ4 ls (lv_sub hl [3, 4, 5, 6, 0] rfl)
      · refine r_iload C dX8_inQuarrel_47 (lv_at hl 0 rfl) ?_
        refine r_iconst (v := 4) C dX8_inQuarrel_49 (by decide) ?_
        refine r_icmp_eq (tgt := 65) C dX8_inQuarrel_50 (by decide) ?_ ?_
        · refine r_iinc (v := x4 + 1) (lv' := [(4, .int (x4 + 1)), (6, .int r3), (5, .int r1), (0, .ref (ad 0)), (1, .int x1), (2, .int x2), (3, .int x3)]) C dX8_inQuarrel_65 hl (k := 6) rfl rfl (by decide) rfl (fun ls hl => ?_)
          refine r_goto (tgt := 5) C dX8_inQuarrel_68 (by decide) ?_
          exact ih x1 x2 x3 (x4 + 1) σ4 ls (lv_sub hl [3, 4, 5, 6, 0] rfl)
        · refine r_iload_n C dX8_inQuarrel_53 rfl (lv_at hl 5 rfl) ?_
          refine r_iconst (v := 1) C dX8_inQuarrel_54 (by decide) ?_
          refine r_iconst (v := 4) C dX8_inQuarrel_55 (by decide) ?_
          refine r_iload C dX8_inQuarrel_56 (lv_at hl 1 rfl) ?_
          refine r_imul C dX8_inQuarrel_58 ?_
          refine r_iload C dX8_inQuarrel_59 (lv_at hl 0 rfl) ?_
          refine r_iadd C dX8_inQuarrel_61 ?_
          refine r_ishl C dX8_inQuarrel_62 ?_
          refine r_ior C dX8_inQuarrel_63 ?_
          refine r_letv (fun v5 => ?_)
          refine r_istore_n (lv' := [(3, .int v5), (6, .int r3), (5, .int r1), (0, .ref (ad 0)), (1, .int x1), (2, .int x2), (4, .int x4)]) C dX8_inQuarrel_64 rfl hl (by decide) rfl (fun ls hl => ?_)
          refine r_iinc (v := x4 + 1) (lv' := [(4, .int (x4 + 1)), (3, .int v5), (6, .int r3), (5, .int r1), (0, .ref (ad 0)), (1, .int x1), (2, .int x2)]) C dX8_inQuarrel_65 hl (k := 6) rfl rfl (by decide) rfl (fun ls hl => ?_)
          refine r_goto (tgt := 5) C dX8_inQuarrel_68 (by decide) ?_
          exact ih x1 x2 v5 (x4 + 1) σ4 ls (lv_sub hl [4, 5, 6, 1, 0] rfl)
set_option maxRecDepth 100000 in
def BX8_inQuarrel_86 (k127 : Int32 → Int32 → Mem → Option (Int32 × Mem)) (rec : Int32 → Int32 → Int32 → Mem → Option (Int32 × Mem)) (x3 : Int32) (x4 : Int32) (x5 : Int32) (σ : Mem) : Option (Int32 × Mem) := if (4 : Int32) ≤ x5 then k127 x3 x4 σ else letv (((ush x3 ((4 : Int32) * x4)) &&& (ush x3 ((4 : Int32) * x5))) &&& 15) (fun v8 => bnd (fJ6_bitCount_0f7a4 v8 σ) (fun r9 σ10 => if (r9 : Int32) < 2 then rec x3 x4 (x5 + 1) σ10 else some (1, σ10)))
def LX8_inQuarrel_86 (k127 : Int32 → Int32 → Mem → Option (Int32 × Mem)) : Nat → Int32 → Int32 → Int32 → Mem → Option (Int32 × Mem)
  | 0 => fun _ _ _ _ => none
  | n + 1 => BX8_inQuarrel_86 k127 (LX8_inQuarrel_86 k127 n)
set_option maxRecDepth 100000 in
set_option maxHeartbeats 4000000 in
theorem wX8_inQuarrel_86 {p : Program} {l : Launch} {e : Env} {s : State} {m : MethodId} {args : Array Value} {below : List Frame} {meth : Method} {c : Code} {D : va_G} {cI cZ : ClassId} {ad : Nat → Nat} {tT : Nat} {A : Nat → Prop} (C : CX p s m args meth c cX8_inQuarrel 7 RX8 (some .boolean) D cI cZ ad tT A) (k127 : Int32 → Int32 → Mem → Option (Int32 × Mem)) (hk127 : ∀ (x3 : Int32) (x4 : Int32) (σ : Mem) (ls : Array Slot), lv_has ls 7 [(3, .int x3), (4, .int x4)] → WM p l e 3 65 s m args below meth c D cI cZ ad A rvi (k127 x3 x4 σ) σ (F0 m 127 ls [])) :
    ∀ (n0 : Nat), ∀ (x3 : Int32) (x4 : Int32) (x5 : Int32) (σ : Mem) (ls : Array Slot), lv_has ls 7 [(3, .int x3), (4, .int x4), (5, .int x5)] → WM p l e 3 65 s m args below meth c D cI cZ ad A rvi (LX8_inQuarrel_86 k127 n0 x3 x4 x5 σ) σ (F0 m 86 ls []) := by
  intro n0
  induction n0 with
  | zero => intro x3 x4 x5 σ ls hl; exact r_none
  | succ n0 ih =>
    intro x3 x4 x5 σ ls hl
    show WM p l e 3 65 s m args below meth c D cI cZ ad A rvi (BX8_inQuarrel_86 k127 (LX8_inQuarrel_86 k127 n0) x3 x4 x5 σ) σ (F0 m 86 ls [])
    unfold BX8_inQuarrel_86
    refine r_iload C dX8_inQuarrel_86 (lv_at hl 2 rfl) ?_
    refine r_iconst (v := 4) C dX8_inQuarrel_88 (by decide) ?_
    refine r_icmp_ge (tgt := 127) C dX8_inQuarrel_89 (by decide) ?_ ?_
    · exact hk127 x3 x4 σ ls (lv_sub hl [0, 1] rfl)
    · refine r_iload_n C dX8_inQuarrel_92 rfl (lv_at hl 0 rfl) ?_
      refine r_iconst (v := 4) C dX8_inQuarrel_93 (by decide) ?_
      refine r_iload C dX8_inQuarrel_94 (lv_at hl 1 rfl) ?_
      refine r_imul C dX8_inQuarrel_96 ?_
      refine r_iushr2 C dX8_inQuarrel_97 ?_
      refine r_iload_n C dX8_inQuarrel_98 rfl (lv_at hl 0 rfl) ?_
      refine r_iconst (v := 4) C dX8_inQuarrel_99 (by decide) ?_
      refine r_iload C dX8_inQuarrel_100 (lv_at hl 2 rfl) ?_
      refine r_imul C dX8_inQuarrel_102 ?_
      refine r_iushr2 C dX8_inQuarrel_103 ?_
      refine r_iand C dX8_inQuarrel_104 ?_
      refine r_bipush (v := 15) C dX8_inQuarrel_105 (by decide) ?_
      refine r_iand C dX8_inQuarrel_107 ?_
      refine r_letv (fun v8 => ?_)
      refine r_istore (lv' := [(6, .int v8), (3, .int x3), (4, .int x4), (5, .int x5)]) C dX8_inQuarrel_108 hl (by decide) rfl (fun ls hl => ?_)
      refine r_iload C dX8_inQuarrel_110 (lv_at hl 0 rfl) ?_
      refine r_callSi (As := [.int v8]) (rest := []) C hl ml_X8_283 (gJ6_bitCount_0f7a4 l C.inj v8 σ) ⟨Nat.le_of_ble_eq_true rfl, Nat.le_of_ble_eq_true rfl⟩ ⟨Nat.le_of_ble_eq_true rfl, Nat.le_of_ble_eq_true rfl⟩ rfl rfl (Nat.le_of_ble_eq_true rfl) dX8_inQuarrel_112 (fun r9 σ10 => ?_)
      refine r_iconst (v := 2) C dX8_inQuarrel_115 (by decide) ?_
      refine r_icmp_lt (tgt := 121) C dX8_inQuarrel_116 (by decide) ?_ ?_
      · refine r_iinc (v := x5 + 1) (lv' := [(5, .int (x5 + 1)), (6, .int v8), (3, .int x3), (4, .int x4)]) C dX8_inQuarrel_121 hl (k := 3) rfl rfl (by decide) rfl (fun ls hl => ?_)
        refine r_goto (tgt := 86) C dX8_inQuarrel_124 (by decide) ?_
        exact ih x3 x4 (x5 + 1) σ10 ls (lv_sub hl [2, 3, 0] rfl)
      · refine r_iconst (v := 1) C dX8_inQuarrel_119 (by decide) ?_
        exact r_zret C rfl (by decide) dX8_inQuarrel_120
set_option maxRecDepth 100000 in
def BX8_inQuarrel_74 (k133 : Mem → Option (Int32 × Mem)) (rec : Int32 → Int32 → Mem → Option (Int32 × Mem)) (x3 : Int32) (x4 : Int32) (σ : Mem) : Option (Int32 × Mem) := if (4 : Int32) ≤ x4 then k133 σ else letv (x4 + 1) (fun v7 => LX8_inQuarrel_86 (fun x3 x4 σ11 => rec x3 (x4 + 1) σ11) 300 x3 x4 v7 σ)
def LX8_inQuarrel_74 (k133 : Mem → Option (Int32 × Mem)) : Nat → Int32 → Int32 → Mem → Option (Int32 × Mem)
  | 0 => fun _ _ _ => none
  | n + 1 => BX8_inQuarrel_74 k133 (LX8_inQuarrel_74 k133 n)
set_option maxRecDepth 100000 in
set_option maxHeartbeats 4000000 in
theorem wX8_inQuarrel_74 {p : Program} {l : Launch} {e : Env} {s : State} {m : MethodId} {args : Array Value} {below : List Frame} {meth : Method} {c : Code} {D : va_G} {cI cZ : ClassId} {ad : Nat → Nat} {tT : Nat} {A : Nat → Prop} (C : CX p s m args meth c cX8_inQuarrel 7 RX8 (some .boolean) D cI cZ ad tT A) (k133 : Mem → Option (Int32 × Mem)) (hk133 : ∀ (σ : Mem) (ls : Array Slot), lv_has ls 7 [] → WM p l e 3 65 s m args below meth c D cI cZ ad A rvi (k133 σ) σ (F0 m 133 ls [])) :
    ∀ (n0 : Nat), ∀ (x3 : Int32) (x4 : Int32) (σ : Mem) (ls : Array Slot), lv_has ls 7 [(3, .int x3), (4, .int x4)] → WM p l e 3 65 s m args below meth c D cI cZ ad A rvi (LX8_inQuarrel_74 k133 n0 x3 x4 σ) σ (F0 m 74 ls []) := by
  intro n0
  induction n0 with
  | zero => intro x3 x4 σ ls hl; exact r_none
  | succ n0 ih =>
    intro x3 x4 σ ls hl
    show WM p l e 3 65 s m args below meth c D cI cZ ad A rvi (BX8_inQuarrel_74 k133 (LX8_inQuarrel_74 k133 n0) x3 x4 σ) σ (F0 m 74 ls [])
    unfold BX8_inQuarrel_74
    refine r_iload C dX8_inQuarrel_74 (lv_at hl 1 rfl) ?_
    refine r_iconst (v := 4) C dX8_inQuarrel_76 (by decide) ?_
    refine r_icmp_ge (tgt := 133) C dX8_inQuarrel_77 (by decide) ?_ ?_
    · exact hk133 σ ls (lv_sub hl [] rfl)
    · refine r_iload C dX8_inQuarrel_80 (lv_at hl 1 rfl) ?_
      refine r_iconst (v := 1) C dX8_inQuarrel_82 (by decide) ?_
      refine r_iadd C dX8_inQuarrel_83 ?_
      refine r_letv (fun v7 => ?_)
      refine r_istore (lv' := [(5, .int v7), (3, .int x3), (4, .int x4)]) C dX8_inQuarrel_84 hl (by decide) rfl (fun ls hl => ?_)
      refine wX8_inQuarrel_86  C _ ?_ 300 x3 x4 v7 σ ls (lv_sub hl [1, 2, 0] rfl)
      · intro x3 x4 σ11 ls hl
        refine r_iinc (v := x4 + 1) (lv' := [(4, .int (x4 + 1)), (3, .int x3)]) C dX8_inQuarrel_127 hl (k := 1) rfl rfl (by decide) rfl (fun ls hl => ?_)
        refine r_goto (tgt := 74) C dX8_inQuarrel_130 (by decide) ?_
        exact ih x3 (x4 + 1) σ11 ls (lv_sub hl [1, 0] rfl)
set_option maxRecDepth 100000 in
def fX8_inQuarrel (x1 : Int32) (x2 : Int32) (σ : Mem) : Option (Int32 × Mem) := LX8_inQuarrel_5 (fun x3 σ6 => LX8_inQuarrel_74 (fun σ12 => some (0, σ12)) 300 x3 0 σ6) 300 x1 x2 0 0 σ
set_option maxRecDepth 100000 in
set_option maxHeartbeats 4000000 in
theorem gX8_inQuarrel (l : Launch) {D : va_G} {cI cZ : ClassId} {ad : Nat → Nat} {tT : Nat} (hi : INJ ad) (x1 : Int32) (x2 : Int32) (σ : Mem) : GM l D cI cZ ad tT yX8_inQuarrel cX8_inQuarrel 7 (some .boolean) 3 65 rvi [.ref (ad 0), .int x1, .int x2] σ (fX8_inQuarrel x1 x2 σ) := by
  refine gm_of (lv := [(0, .ref (ad 0)), (1, .int x1), (2, .int x2)]) (own := RX8) hi (by decide +kernel) rfl (Nat.le_of_ble_eq_true rfl) rfl ?_
  intro p e s m args below meth c A C ls hl
  unfold fX8_inQuarrel
  refine r_iconst (v := 0) C dX8_inQuarrel_0 (by decide) ?_
  refine r_istore_n (lv' := [(3, .int 0), (0, .ref (ad 0)), (1, .int x1), (2, .int x2)]) C dX8_inQuarrel_1 rfl hl (by decide) rfl (fun ls hl => ?_)
  refine r_iconst (v := 0) C dX8_inQuarrel_2 (by decide) ?_
  refine r_istore (lv' := [(4, .int 0), (3, .int 0), (0, .ref (ad 0)), (1, .int x1), (2, .int x2)]) C dX8_inQuarrel_3 hl (by decide) rfl (fun ls hl => ?_)
  refine wX8_inQuarrel_5  C _ ?_ 300 x1 x2 0 0 σ ls (lv_sub hl [2, 3, 4, 1, 0] rfl)
  · intro x3 σ6 ls hl
    refine r_iconst (v := 0) C dX8_inQuarrel_71 (by decide) ?_
    refine r_istore (lv' := [(4, .int 0), (3, .int x3)]) C dX8_inQuarrel_72 hl (by decide) rfl (fun ls hl => ?_)
    refine wX8_inQuarrel_74  C _ ?_ 300 x3 0 σ6 ls (lv_sub hl [1, 0] rfl)
    · intro σ12 ls hl
      refine r_iconst (v := 0) C dX8_inQuarrel_133 (by decide) ?_
      exact r_zret C rfl (by decide) dX8_inQuarrel_134

set_option maxRecDepth 100000 in
def fX8_quarrel (x1 : Int32) (x2 : Int32) (σ : Mem) : Option (Int32 × Mem) := bnd (fX4_hasPlace 4 x1 σ) (fun r1 σ2 => if (r1 : Int32) = 0 then some ((-1), σ2) else bnd (fX4_hasPlace 4 x2 σ2) (fun r3 σ4 => if (r3 : Int32) = 0 then some ((-1), σ4) else if (x1 : Int32) = x2 then some ((-1), σ4) else bnd (fX8_inQuarrel x1 x2 σ4) (fun r5 σ6 => if (r5 : Int32) = 0 then some (0, σ6) else some (1, σ6))))
set_option maxRecDepth 100000 in
set_option maxHeartbeats 4000000 in
theorem gX8_quarrel (l : Launch) {D : va_G} {cI cZ : ClassId} {ad : Nat → Nat} {tT : Nat} (hi : INJ ad) (x1 : Int32) (x2 : Int32) (σ : Mem) : GM l D cI cZ ad tT yX8_quarrel cX8_quarrel 3 (some .int) 4 91 rvi [.ref (ad 0), .int x1, .int x2] σ (fX8_quarrel x1 x2 σ) := by
  refine gm_of (lv := [(0, .ref (ad 0)), (1, .int x1), (2, .int x2)]) (own := RX8) hi (by decide +kernel) rfl (Nat.le_of_ble_eq_true rfl) rfl ?_
  intro p e s m args below meth c A C ls hl
  unfold fX8_quarrel
  refine r_aload_n C dX8_quarrel_0 rfl (lv_at hl 0 rfl) ?_
  refine r_getR C fl_X8_19 lf_0_1 dX8_quarrel_1 ?_
  refine r_iload_n C dX8_quarrel_4 rfl (lv_at hl 1 rfl) ?_
  refine r_callVi (As := [.int x1]) (rest := []) C hl ml_X8_161 rc_4 (gX4_hasPlace l C.inj 4 rdg_4 x1 σ) ⟨Nat.le_of_ble_eq_true rfl, Nat.le_of_ble_eq_true rfl⟩ ⟨Nat.le_of_ble_eq_true rfl, Nat.le_of_ble_eq_true rfl⟩ rfl rfl (Nat.le_of_ble_eq_true rfl) dX8_quarrel_5 (fun r1 σ2 => ?_)
  refine r_if_eq (tgt := 27) C dX8_quarrel_8 (by decide) ?_ ?_
  · refine r_iconst (v := (-1)) C dX8_quarrel_27 (by decide) ?_
    exact r_iret C rfl dX8_quarrel_28
  · refine r_aload_n C dX8_quarrel_11 rfl (lv_at hl 0 rfl) ?_
    refine r_getR C fl_X8_19 lf_0_1 dX8_quarrel_12 ?_
    refine r_iload_n C dX8_quarrel_15 rfl (lv_at hl 2 rfl) ?_
    refine r_callVi (As := [.int x2]) (rest := []) C hl ml_X8_161 rc_4 (gX4_hasPlace l C.inj 4 rdg_4 x2 σ2) ⟨Nat.le_of_ble_eq_true rfl, Nat.le_of_ble_eq_true rfl⟩ ⟨Nat.le_of_ble_eq_true rfl, Nat.le_of_ble_eq_true rfl⟩ rfl rfl (Nat.le_of_ble_eq_true rfl) dX8_quarrel_16 (fun r3 σ4 => ?_)
    refine r_if_eq (tgt := 27) C dX8_quarrel_19 (by decide) ?_ ?_
    · refine r_iconst (v := (-1)) C dX8_quarrel_27 (by decide) ?_
      exact r_iret C rfl dX8_quarrel_28
    · refine r_iload_n C dX8_quarrel_22 rfl (lv_at hl 1 rfl) ?_
      refine r_iload_n C dX8_quarrel_23 rfl (lv_at hl 2 rfl) ?_
      refine r_icmp_ne (tgt := 29) C dX8_quarrel_24 (by decide) ?_ ?_
      · refine r_aload_n C dX8_quarrel_29 rfl (lv_at hl 0 rfl) ?_
        refine r_iload_n C dX8_quarrel_30 rfl (lv_at hl 1 rfl) ?_
        refine r_iload_n C dX8_quarrel_31 rfl (lv_at hl 2 rfl) ?_
        refine r_callVi (As := [.int x1, .int x2]) (rest := []) C hl ml_X8_198 rc_0 (gX8_inQuarrel l C.inj x1 x2 σ4) ⟨Nat.le_of_ble_eq_true rfl, Nat.le_of_ble_eq_true rfl⟩ ⟨Nat.le_of_ble_eq_true rfl, Nat.le_of_ble_eq_true rfl⟩ rfl rfl (Nat.le_of_ble_eq_true rfl) dX8_quarrel_32 (fun r5 σ6 => ?_)
        refine r_if_eq (tgt := 42) C dX8_quarrel_35 (by decide) ?_ ?_
        · refine r_iconst (v := 0) C dX8_quarrel_42 (by decide) ?_
          exact r_iret C rfl dX8_quarrel_43
        · refine r_iconst (v := 1) C dX8_quarrel_38 (by decide) ?_
          refine r_goto (tgt := 43) C dX8_quarrel_39 (by decide) ?_
          exact r_iret C rfl dX8_quarrel_43
      · refine r_iconst (v := (-1)) C dX8_quarrel_27 (by decide) ?_
        exact r_iret C rfl dX8_quarrel_28

set_option maxRecDepth 100000 in
def BX8_shared_37 (k78 : Int32 → Mem → Option (Int32 × Mem)) (rec : Int32 → Int32 → Int32 → Int32 → Mem → Option (Int32 × Mem)) (x1 : Int32) (x3 : Int32) (x4 : Int32) (x5 : Int32) (σ : Mem) : Option (Int32 × Mem) := if (σ 4 1 : Int32) ≤ x5 then k78 x4 σ else bnd (fX4_at 4 x5 x1 σ) (fun r5 σ6 => if (r5 : Int32) = x3 then letv (x4 ||| ((1 : Int32) <<< (x5 &&& 31))) (fun v7 => rec x1 x3 v7 (x5 + 1) σ6) else rec x1 x3 x4 (x5 + 1) σ6)
def LX8_shared_37 (k78 : Int32 → Mem → Option (Int32 × Mem)) : Nat → Int32 → Int32 → Int32 → Int32 → Mem → Option (Int32 × Mem)
  | 0 => fun _ _ _ _ _ => none
  | n + 1 => BX8_shared_37 k78 (LX8_shared_37 k78 n)
set_option maxRecDepth 100000 in
set_option maxHeartbeats 4000000 in
theorem wX8_shared_37 {p : Program} {l : Launch} {e : Env} {s : State} {m : MethodId} {args : Array Value} {below : List Frame} {meth : Method} {c : Code} {D : va_G} {cI cZ : ClassId} {ad : Nat → Nat} {tT : Nat} {A : Nat → Prop} (C : CX p s m args meth c cX8_shared 6 RX8 (some .int) D cI cZ ad tT A) (k78 : Int32 → Mem → Option (Int32 × Mem)) (hk78 : ∀ (x4 : Int32) (σ : Mem) (ls : Array Slot), lv_has ls 6 [(4, .int x4)] → WM p l e 3 65 s m args below meth c D cI cZ ad A rvi (k78 x4 σ) σ (F0 m 78 ls [])) :
    ∀ (n0 : Nat), ∀ (x1 : Int32) (x3 : Int32) (x4 : Int32) (x5 : Int32) (σ : Mem) (ls : Array Slot), lv_has ls 6 [(0, .ref (ad 0)), (1, .int x1), (3, .int x3), (4, .int x4), (5, .int x5)] → WM p l e 3 65 s m args below meth c D cI cZ ad A rvi (LX8_shared_37 k78 n0 x1 x3 x4 x5 σ) σ (F0 m 37 ls []) := by
  intro n0
  induction n0 with
  | zero => intro x1 x3 x4 x5 σ ls hl; exact r_none
  | succ n0 ih =>
    intro x1 x3 x4 x5 σ ls hl
    show WM p l e 3 65 s m args below meth c D cI cZ ad A rvi (BX8_shared_37 k78 (LX8_shared_37 k78 n0) x1 x3 x4 x5 σ) σ (F0 m 37 ls [])
    unfold BX8_shared_37
    refine r_iload C dX8_shared_37 (lv_at hl 4 rfl) ?_
    refine r_aload_n C dX8_shared_39 rfl (lv_at hl 0 rfl) ?_
    refine r_getR C fl_X8_19 lf_0_1 dX8_shared_40 ?_
    refine r_getIN C fn_X8_113 lf_4_1 dX8_shared_43 ?_
    refine r_icmp_ge (tgt := 78) C dX8_shared_46 (by decide) ?_ ?_
    · exact hk78 x4 σ ls (lv_sub hl [3] rfl)
    · refine r_aload_n C dX8_shared_49 rfl (lv_at hl 0 rfl) ?_
      refine r_getR C fl_X8_19 lf_0_1 dX8_shared_50 ?_
      refine r_iload C dX8_shared_53 (lv_at hl 4 rfl) ?_
      refine r_iload_n C dX8_shared_55 rfl (lv_at hl 1 rfl) ?_
      refine r_callVi (As := [.int x5, .int x1]) (rest := []) C hl ml_X8_120 rc_4 (gX4_at l C.inj 4 rdg_4 x5 x1 σ) ⟨Nat.le_of_ble_eq_true rfl, Nat.le_of_ble_eq_true rfl⟩ ⟨Nat.le_of_ble_eq_true rfl, Nat.le_of_ble_eq_true rfl⟩ rfl rfl (Nat.le_of_ble_eq_true rfl) dX8_shared_56 (fun r5 σ6 => ?_)
      refine r_iload_n C dX8_shared_59 rfl (lv_at hl 2 rfl) ?_
      refine r_icmp_ne (tgt := 72) C dX8_shared_60 (by decide) ?_ ?_
      · refine r_iinc (v := x5 + 1) (lv' := [(5, .int (x5 + 1)), (0, .ref (ad 0)), (1, .int x1), (3, .int x3), (4, .int x4)]) C dX8_shared_72 hl (k := 4) rfl rfl (by decide) rfl (fun ls hl => ?_)
        refine r_goto (tgt := 37) C dX8_shared_75 (by decide) ?_
        exact ih x1 x3 x4 (x5 + 1) σ6 ls (lv_sub hl [1, 2, 3, 4, 0] rfl)
      · refine r_iload C dX8_shared_63 (lv_at hl 3 rfl) ?_
        refine r_iconst (v := 1) C dX8_shared_65 (by decide) ?_
        refine r_iload C dX8_shared_66 (lv_at hl 4 rfl) ?_
        refine r_ishl C dX8_shared_68 ?_
        refine r_ior C dX8_shared_69 ?_
        refine r_letv (fun v7 => ?_)
        refine r_istore (lv' := [(4, .int v7), (0, .ref (ad 0)), (1, .int x1), (3, .int x3), (5, .int x5)]) C dX8_shared_70 hl (by decide) rfl (fun ls hl => ?_)
        refine r_iinc (v := x5 + 1) (lv' := [(5, .int (x5 + 1)), (4, .int v7), (0, .ref (ad 0)), (1, .int x1), (3, .int x3)]) C dX8_shared_72 hl (k := 4) rfl rfl (by decide) rfl (fun ls hl => ?_)
        refine r_goto (tgt := 37) C dX8_shared_75 (by decide) ?_
        exact ih x1 x3 v7 (x5 + 1) σ6 ls (lv_sub hl [2, 3, 4, 1, 0] rfl)
set_option maxRecDepth 100000 in
def fX8_shared (x1 : Int32) (x2 : Int32) (σ : Mem) : Option (Int32 × Mem) := bnd (fX4_has 4 x2 x1 σ) (fun r1 σ2 => if (r1 : Int32) = 0 then some ((-1), σ2) else bnd (fX4_at 4 x2 x1 σ2) (fun r3 σ4 => if (r3 : Int32) = 4 then some (0, σ4) else LX8_shared_37 (fun x4 σ8 => some (x4, σ8)) 300 x1 r3 0 0 σ4))
set_option maxRecDepth 100000 in
set_option maxHeartbeats 4000000 in
theorem gX8_shared (l : Launch) {D : va_G} {cI cZ : ClassId} {ad : Nat → Nat} {tT : Nat} (hi : INJ ad) (x1 : Int32) (x2 : Int32) (σ : Mem) : GM l D cI cZ ad tT yX8_shared cX8_shared 6 (some .int) 3 65 rvi [.ref (ad 0), .int x1, .int x2] σ (fX8_shared x1 x2 σ) := by
  refine gm_of (lv := [(0, .ref (ad 0)), (1, .int x1), (2, .int x2)]) (own := RX8) hi (by decide +kernel) rfl (Nat.le_of_ble_eq_true rfl) rfl ?_
  intro p e s m args below meth c A C ls hl
  unfold fX8_shared
  refine r_aload_n C dX8_shared_0 rfl (lv_at hl 0 rfl) ?_
  refine r_getR C fl_X8_19 lf_0_1 dX8_shared_1 ?_
  refine r_iload_n C dX8_shared_4 rfl (lv_at hl 2 rfl) ?_
  refine r_iload_n C dX8_shared_5 rfl (lv_at hl 1 rfl) ?_
  refine r_callVi (As := [.int x2, .int x1]) (rest := []) C hl ml_X8_116 rc_4 (gX4_has l C.inj 4 rdg_4 x2 x1 σ) ⟨Nat.le_of_ble_eq_true rfl, Nat.le_of_ble_eq_true rfl⟩ ⟨Nat.le_of_ble_eq_true rfl, Nat.le_of_ble_eq_true rfl⟩ rfl rfl (Nat.le_of_ble_eq_true rfl) dX8_shared_6 (fun r1 σ2 => ?_)
  refine r_if_ne (tgt := 14) C dX8_shared_9 (by decide) ?_ ?_
  · refine r_aload_n C dX8_shared_14 rfl (lv_at hl 0 rfl) ?_
    refine r_getR C fl_X8_19 lf_0_1 dX8_shared_15 ?_
    refine r_iload_n C dX8_shared_18 rfl (lv_at hl 2 rfl) ?_
    refine r_iload_n C dX8_shared_19 rfl (lv_at hl 1 rfl) ?_
    refine r_callVi (As := [.int x2, .int x1]) (rest := []) C hl ml_X8_120 rc_4 (gX4_at l C.inj 4 rdg_4 x2 x1 σ2) ⟨Nat.le_of_ble_eq_true rfl, Nat.le_of_ble_eq_true rfl⟩ ⟨Nat.le_of_ble_eq_true rfl, Nat.le_of_ble_eq_true rfl⟩ rfl rfl (Nat.le_of_ble_eq_true rfl) dX8_shared_20 (fun r3 σ4 => ?_)
    refine r_istore_n (lv' := [(3, .int r3), (0, .ref (ad 0)), (1, .int x1), (2, .int x2)]) C dX8_shared_23 rfl hl (by decide) rfl (fun ls hl => ?_)
    refine r_iload_n C dX8_shared_24 rfl (lv_at hl 0 rfl) ?_
    refine r_iconst (v := 4) C dX8_shared_25 (by decide) ?_
    refine r_icmp_ne (tgt := 31) C dX8_shared_26 (by decide) ?_ ?_
    · refine r_iconst (v := 0) C dX8_shared_31 (by decide) ?_
      refine r_istore (lv' := [(4, .int 0), (3, .int r3), (0, .ref (ad 0)), (1, .int x1), (2, .int x2)]) C dX8_shared_32 hl (by decide) rfl (fun ls hl => ?_)
      refine r_iconst (v := 0) C dX8_shared_34 (by decide) ?_
      refine r_istore (lv' := [(5, .int 0), (4, .int 0), (3, .int r3), (0, .ref (ad 0)), (1, .int x1), (2, .int x2)]) C dX8_shared_35 hl (by decide) rfl (fun ls hl => ?_)
      refine wX8_shared_37  C _ ?_ 300 x1 r3 0 0 σ4 ls (lv_sub hl [3, 4, 2, 1, 0] rfl)
      · intro x4 σ8 ls hl
        refine r_iload C dX8_shared_78 (lv_at hl 0 rfl) ?_
        exact r_iret C rfl dX8_shared_80
    · refine r_iconst (v := 0) C dX8_shared_29 (by decide) ?_
      exact r_iret C rfl dX8_shared_30
  · refine r_iconst (v := (-1)) C dX8_shared_12 (by decide) ?_
    exact r_iret C rfl dX8_shared_13

set_option maxRecDepth 100000 in
def fX8_mixed (x1 : Int32) (x2 : Int32) (σ : Mem) : Option (Int32 × Mem) := bnd (fX4_hasCopy 4 x1 σ) (fun r1 σ2 => if (r1 : Int32) = 0 then some ((-1), σ2) else if (x2 : Int32) < 0 then some ((-1), σ2) else if (x2 : Int32) ≤ 4 then if (2 : Int32) ≤ (σ2 4 1) then bnd (fX3_compare x1 σ2) (fun r3 σ4 => if (x2 : Int32) = 4 then bnd (fX3_plain x1 σ4) (fun r7 σ8 => some (r7, σ8)) else if (σ4 4 1 : Int32) < 3 then some ((-9), σ4) else if (2 : Int32) ≤ (σ4 4 2) then bnd (fX3_find x1 σ4) (fun r5 σ6 => if (x2 : Int32) = 0 then some (σ6 47 1, σ6) else if (x2 : Int32) = 1 then some (σ6 47 2, σ6) else if (x2 : Int32) = 2 then some (σ6 47 3, σ6) else some (σ6 47 4, σ6)) else some ((-9), σ4)) else some ((-9), σ2) else some ((-1), σ2))
set_option maxRecDepth 100000 in
set_option maxHeartbeats 4000000 in
theorem gX8_mixed (l : Launch) {D : va_G} {cI cZ : ClassId} {ad : Nat → Nat} {tT : Nat} (hi : INJ ad) (x1 : Int32) (x2 : Int32) (σ : Mem) : GM l D cI cZ ad tT yX8_mixed cX8_mixed 3 (some .int) 4 92 rvi [.ref (ad 0), .int x1, .int x2] σ (fX8_mixed x1 x2 σ) := by
  refine gm_of (lv := [(0, .ref (ad 0)), (1, .int x1), (2, .int x2)]) (own := RX8) hi (by decide +kernel) rfl (Nat.le_of_ble_eq_true rfl) rfl ?_
  intro p e s m args below meth c A C ls hl
  unfold fX8_mixed
  refine r_aload_n C dX8_mixed_0 rfl (lv_at hl 0 rfl) ?_
  refine r_getR C fl_X8_19 lf_0_1 dX8_mixed_1 ?_
  refine r_iload_n C dX8_mixed_4 rfl (lv_at hl 1 rfl) ?_
  refine r_callVi (As := [.int x1]) (rest := []) C hl ml_X8_201 rc_4 (gX4_hasCopy l C.inj 4 rdg_4 x1 σ) ⟨Nat.le_of_ble_eq_true rfl, Nat.le_of_ble_eq_true rfl⟩ ⟨Nat.le_of_ble_eq_true rfl, Nat.le_of_ble_eq_true rfl⟩ rfl rfl (Nat.le_of_ble_eq_true rfl) dX8_mixed_5 (fun r1 σ2 => ?_)
  refine r_if_eq (tgt := 20) C dX8_mixed_8 (by decide) ?_ ?_
  · refine r_iconst (v := (-1)) C dX8_mixed_20 (by decide) ?_
    exact r_iret C rfl dX8_mixed_21
  · refine r_iload_n C dX8_mixed_11 rfl (lv_at hl 2 rfl) ?_
    refine r_if_lt (tgt := 20) C dX8_mixed_12 (by decide) ?_ ?_
    · refine r_iconst (v := (-1)) C dX8_mixed_20 (by decide) ?_
      exact r_iret C rfl dX8_mixed_21
    · refine r_iload_n C dX8_mixed_15 rfl (lv_at hl 2 rfl) ?_
      refine r_iconst (v := 4) C dX8_mixed_16 (by decide) ?_
      refine r_icmp_le (tgt := 22) C dX8_mixed_17 (by decide) ?_ ?_
      · refine r_aload_n C dX8_mixed_22 rfl (lv_at hl 0 rfl) ?_
        refine r_getR C fl_X8_19 lf_0_1 dX8_mixed_23 ?_
        refine r_getIN C fn_X8_113 lf_4_1 dX8_mixed_26 ?_
        refine r_iconst (v := 2) C dX8_mixed_29 (by decide) ?_
        refine r_icmp_ge (tgt := 36) C dX8_mixed_30 (by decide) ?_ ?_
        · refine r_aload_n C dX8_mixed_36 rfl (lv_at hl 0 rfl) ?_
          refine r_getR C fl_X8_78 lf_0_12 dX8_mixed_37 ?_
          refine r_aload_n C dX8_mixed_40 rfl (lv_at hl 0 rfl) ?_
          refine r_getR C fl_X8_19 lf_0_1 dX8_mixed_41 ?_
          refine r_iload_n C dX8_mixed_44 rfl (lv_at hl 1 rfl) ?_
          refine r_callVv (As := [.ref (ad 4), .int x1]) (rest := []) C hl ml_X8_204 rc_47 (gX3_compare l C.inj x1 σ2) ⟨Nat.le_of_ble_eq_true rfl, Nat.le_of_ble_eq_true rfl⟩ ⟨Nat.le_of_ble_eq_true rfl, Nat.le_of_ble_eq_true rfl⟩ rfl rfl (Nat.le_of_ble_eq_true rfl) dX8_mixed_45 (fun r3 σ4 => ?_)
          refine r_iload_n C dX8_mixed_48 rfl (lv_at hl 2 rfl) ?_
          refine r_iconst (v := 4) C dX8_mixed_49 (by decide) ?_
          refine r_icmp_ne (tgt := 66) C dX8_mixed_50 (by decide) ?_ ?_
          · refine r_aload_n C dX8_mixed_66 rfl (lv_at hl 0 rfl) ?_
            refine r_getR C fl_X8_19 lf_0_1 dX8_mixed_67 ?_
            refine r_getIN C fn_X8_113 lf_4_1 dX8_mixed_70 ?_
            refine r_iconst (v := 3) C dX8_mixed_73 (by decide) ?_
            refine r_icmp_lt (tgt := 88) C dX8_mixed_74 (by decide) ?_ ?_
            · refine r_bipush (v := (-9)) C dX8_mixed_88 (by decide) ?_
              exact r_iret C rfl dX8_mixed_90
            · refine r_aload_n C dX8_mixed_77 rfl (lv_at hl 0 rfl) ?_
              refine r_getR C fl_X8_19 lf_0_1 dX8_mixed_78 ?_
              refine r_getIN C fn_X8_212 lf_4_2 dX8_mixed_81 ?_
              refine r_iconst (v := 2) C dX8_mixed_84 (by decide) ?_
              refine r_icmp_ge (tgt := 91) C dX8_mixed_85 (by decide) ?_ ?_
              · refine r_aload_n C dX8_mixed_91 rfl (lv_at hl 0 rfl) ?_
                refine r_getR C fl_X8_78 lf_0_12 dX8_mixed_92 ?_
                refine r_aload_n C dX8_mixed_95 rfl (lv_at hl 0 rfl) ?_
                refine r_getR C fl_X8_19 lf_0_1 dX8_mixed_96 ?_
                refine r_iload_n C dX8_mixed_99 rfl (lv_at hl 1 rfl) ?_
                refine r_callVv (As := [.ref (ad 4), .int x1]) (rest := []) C hl ml_X8_215 rc_47 (gX3_find l C.inj x1 σ4) ⟨Nat.le_of_ble_eq_true rfl, Nat.le_of_ble_eq_true rfl⟩ ⟨Nat.le_of_ble_eq_true rfl, Nat.le_of_ble_eq_true rfl⟩ rfl rfl (Nat.le_of_ble_eq_true rfl) dX8_mixed_100 (fun r5 σ6 => ?_)
                refine r_iload_n C dX8_mixed_103 rfl (lv_at hl 2 rfl) ?_
                refine r_split (fun c0 => ?_) (fun c0 => ?_)
                · refine r_tableIn (off := 28) (tgt := 132) C dX8_mixed_104 (by rw [c0]; decide) (by rw [c0]; decide) (by rw [c0]; rfl) (by decide) ?_
                  refine r_aload_n C dX8_mixed_132 rfl (lv_at hl 0 rfl) ?_
                  refine r_getR C fl_X8_78 lf_0_12 dX8_mixed_133 ?_
                  refine r_getIN C fn_X8_218 lf_47_1 dX8_mixed_136 ?_
                  exact r_iret C rfl dX8_mixed_139
                · refine r_split (fun c1 => ?_) (fun c1 => ?_)
                  · refine r_tableIn (off := 36) (tgt := 140) C dX8_mixed_104 (by rw [c1]; decide) (by rw [c1]; decide) (by rw [c1]; rfl) (by decide) ?_
                    refine r_aload_n C dX8_mixed_140 rfl (lv_at hl 0 rfl) ?_
                    refine r_getR C fl_X8_78 lf_0_12 dX8_mixed_141 ?_
                    refine r_getIN C fn_X8_221 lf_47_2 dX8_mixed_144 ?_
                    exact r_iret C rfl dX8_mixed_147
                  · refine r_split (fun c2 => ?_) (fun c2 => ?_)
                    · refine r_tableIn (off := 44) (tgt := 148) C dX8_mixed_104 (by rw [c2]; decide) (by rw [c2]; decide) (by rw [c2]; rfl) (by decide) ?_
                      refine r_aload_n C dX8_mixed_148 rfl (lv_at hl 0 rfl) ?_
                      refine r_getR C fl_X8_78 lf_0_12 dX8_mixed_149 ?_
                      refine r_getIN C fn_X8_224 lf_47_3 dX8_mixed_152 ?_
                      exact r_iret C rfl dX8_mixed_155
                    · have q0 : (x2 : Int32).toInt ≠ 0 := ne_toInt 0 c0 rfl
                      have q1 : (x2 : Int32).toInt ≠ 1 := ne_toInt 1 c1 rfl
                      have q2 : (x2 : Int32).toInt ≠ 2 := ne_toInt 2 c2 rfl
                      refine r_tableOut (tgt := 156) C dX8_mixed_104 (by omega) (by decide) ?_
                      refine r_aload_n C dX8_mixed_156 rfl (lv_at hl 0 rfl) ?_
                      refine r_getR C fl_X8_78 lf_0_12 dX8_mixed_157 ?_
                      refine r_getIN C fn_X8_227 lf_47_4 dX8_mixed_160 ?_
                      exact r_iret C rfl dX8_mixed_163
              · refine r_bipush (v := (-9)) C dX8_mixed_88 (by decide) ?_
                exact r_iret C rfl dX8_mixed_90
          · refine r_aload_n C dX8_mixed_53 rfl (lv_at hl 0 rfl) ?_
            refine r_getR C fl_X8_78 lf_0_12 dX8_mixed_54 ?_
            refine r_aload_n C dX8_mixed_57 rfl (lv_at hl 0 rfl) ?_
            refine r_getR C fl_X8_19 lf_0_1 dX8_mixed_58 ?_
            refine r_iload_n C dX8_mixed_61 rfl (lv_at hl 1 rfl) ?_
            refine r_callVi (As := [.ref (ad 4), .int x1]) (rest := []) C hl ml_X8_208 rc_47 (gX3_plain l C.inj x1 σ4) ⟨Nat.le_of_ble_eq_true rfl, Nat.le_of_ble_eq_true rfl⟩ ⟨Nat.le_of_ble_eq_true rfl, Nat.le_of_ble_eq_true rfl⟩ rfl rfl (Nat.le_of_ble_eq_true rfl) dX8_mixed_62 (fun r7 σ8 => ?_)
            exact r_iret C rfl dX8_mixed_65
        · refine r_bipush (v := (-9)) C dX8_mixed_33 (by decide) ?_
          exact r_iret C rfl dX8_mixed_35
      · refine r_iconst (v := (-1)) C dX8_mixed_20 (by decide) ?_
        exact r_iret C rfl dX8_mixed_21

set_option maxRecDepth 100000 in
def fX8_sees (x1 : Int32) (σ : Mem) : Option (Int32 × Mem) := if (x1 : Int32) < 0 then some ((-1), σ) else if (x1 : Int32) ≤ 6 then if (σ 0 13 : Int32) < 6 then bnd (fX5_put 23 6 (σ 0 13) x1 σ) (fun r1 σ2 => letm (stm σ2 0 13 ((σ2 0 13) + 1)) (fun σ3 => some (σ3 0 13, σ3))) else some ((-3), σ) else some ((-1), σ)
set_option maxRecDepth 100000 in
set_option maxHeartbeats 4000000 in
theorem gX8_sees (l : Launch) {D : va_G} {cI cZ : ClassId} {ad : Nat → Nat} {tT : Nat} (hi : INJ ad) (x1 : Int32) (σ : Mem) : GM l D cI cZ ad tT yX8_sees cX8_sees 2 (some .int) 1 22 rvi [.ref (ad 0), .int x1] σ (fX8_sees x1 σ) := by
  refine gm_of (lv := [(0, .ref (ad 0)), (1, .int x1)]) (own := RX8) hi (by decide +kernel) rfl (Nat.le_of_ble_eq_true rfl) rfl ?_
  intro p e s m args below meth c A C ls hl
  unfold fX8_sees
  refine r_iload_n C dX8_sees_0 rfl (lv_at hl 1 rfl) ?_
  refine r_if_lt (tgt := 10) C dX8_sees_1 (by decide) ?_ ?_
  · refine r_iconst (v := (-1)) C dX8_sees_10 (by decide) ?_
    exact r_iret C rfl dX8_sees_11
  · refine r_iload_n C dX8_sees_4 rfl (lv_at hl 1 rfl) ?_
    refine r_bipush (v := 6) C dX8_sees_5 (by decide) ?_
    refine r_icmp_le (tgt := 12) C dX8_sees_7 (by decide) ?_ ?_
    · refine r_aload_n C dX8_sees_12 rfl (lv_at hl 0 rfl) ?_
      refine r_getI C fl_X8_103 lf_0_13 dX8_sees_13 ?_
      refine r_bipush (v := 6) C dX8_sees_16 (by decide) ?_
      refine r_icmp_lt (tgt := 24) C dX8_sees_18 (by decide) ?_ ?_
      · refine r_aload_n C dX8_sees_24 rfl (lv_at hl 0 rfl) ?_
        refine r_getR C fl_X8_48 lf_0_6 dX8_sees_25 ?_
        refine r_aload_n C dX8_sees_28 rfl (lv_at hl 0 rfl) ?_
        refine r_getI C fl_X8_103 lf_0_13 dX8_sees_29 ?_
        refine r_iload_n C dX8_sees_32 rfl (lv_at hl 1 rfl) ?_
        refine r_callVv (As := [.int (σ 0 13), .int x1]) (rest := []) C hl ml_X8_159 rc_23 (gX5_put l C.inj 23 6 row_23 (σ 0 13) x1 σ) ⟨Nat.le_of_ble_eq_true rfl, Nat.le_of_ble_eq_true rfl⟩ ⟨Nat.le_of_ble_eq_true rfl, Nat.le_of_ble_eq_true rfl⟩ rfl rfl (Nat.le_of_ble_eq_true rfl) dX8_sees_33 (fun r1 σ2 => ?_)
        refine r_aload_n C dX8_sees_36 rfl (lv_at hl 0 rfl) ?_
        refine r_dup C dX8_sees_37 rfl ?_
        refine r_getI C fl_X8_103 lf_0_13 dX8_sees_38 ?_
        refine r_iconst (v := 1) C dX8_sees_41 (by decide) ?_
        refine r_iadd C dX8_sees_42 ?_
        refine r_putI C fl_X8_103 fp_X8_13 rfl rfl lf_0_13 dX8_sees_43 ?_
        refine r_letm (fun σ3 => ?_)
        refine r_aload_n C dX8_sees_46 rfl (lv_at hl 0 rfl) ?_
        refine r_getI C fl_X8_103 lf_0_13 dX8_sees_47 ?_
        exact r_iret C rfl dX8_sees_50
      · refine r_bipush (v := (-3)) C dX8_sees_21 (by decide) ?_
        exact r_iret C rfl dX8_sees_23
    · refine r_iconst (v := (-1)) C dX8_sees_10 (by decide) ?_
      exact r_iret C rfl dX8_sees_11

set_option maxRecDepth 100000 in
def fX8_forget (σ : Mem) : Option (Int32 × Mem) := letv (σ 0 13) (fun v1 => letm (stm σ 0 13 0) (fun σ2 => some (v1, σ2)))
set_option maxRecDepth 100000 in
set_option maxHeartbeats 4000000 in
theorem gX8_forget (l : Launch) {D : va_G} {cI cZ : ClassId} {ad : Nat → Nat} {tT : Nat} (hi : INJ ad) (σ : Mem) : GM l D cI cZ ad tT yX8_forget cX8_forget 2 (some .int) 0 0 rvi [.ref (ad 0)] σ (fX8_forget σ) := by
  refine gm_of (lv := [(0, .ref (ad 0))]) (own := RX8) hi (by decide +kernel) rfl (Nat.le_of_ble_eq_true rfl) rfl ?_
  intro p e s m args below meth c A C ls hl
  unfold fX8_forget
  refine r_aload_n C dX8_forget_0 rfl (lv_at hl 0 rfl) ?_
  refine r_getI C fl_X8_103 lf_0_13 dX8_forget_1 ?_
  refine r_letv (fun v1 => ?_)
  refine r_istore_n (lv' := [(1, .int v1), (0, .ref (ad 0))]) C dX8_forget_4 rfl hl (by decide) rfl (fun ls hl => ?_)
  refine r_aload_n C dX8_forget_5 rfl (lv_at hl 1 rfl) ?_
  refine r_iconst (v := 0) C dX8_forget_6 (by decide) ?_
  refine r_putI C fl_X8_103 fp_X8_13 rfl rfl lf_0_13 dX8_forget_7 ?_
  refine r_letm (fun σ2 => ?_)
  refine r_iload_n C dX8_forget_10 rfl (lv_at hl 0 rfl) ?_
  exact r_iret C rfl dX8_forget_11

set_option maxRecDepth 100000 in
def BX8_allSeenIs_2 (k30 : Mem → Option (Int32 × Mem)) (rec : Int32 → Int32 → Mem → Option (Int32 × Mem)) (x1 : Int32) (x2 : Int32) (σ : Mem) : Option (Int32 × Mem) := if (σ 0 13 : Int32) ≤ x2 then k30 σ else bnd (fX5_at 23 6 x2 σ) (fun r1 σ2 => if (r1 : Int32) = x1 then rec x1 (x2 + 1) σ2 else some (0, σ2))
def LX8_allSeenIs_2 (k30 : Mem → Option (Int32 × Mem)) : Nat → Int32 → Int32 → Mem → Option (Int32 × Mem)
  | 0 => fun _ _ _ => none
  | n + 1 => BX8_allSeenIs_2 k30 (LX8_allSeenIs_2 k30 n)
set_option maxRecDepth 100000 in
set_option maxHeartbeats 4000000 in
theorem wX8_allSeenIs_2 {p : Program} {l : Launch} {e : Env} {s : State} {m : MethodId} {args : Array Value} {below : List Frame} {meth : Method} {c : Code} {D : va_G} {cI cZ : ClassId} {ad : Nat → Nat} {tT : Nat} {A : Nat → Prop} (C : CX p s m args meth c cX8_allSeenIs 3 RX8 (some .boolean) D cI cZ ad tT A) (k30 : Mem → Option (Int32 × Mem)) (hk30 : ∀ (σ : Mem) (ls : Array Slot), lv_has ls 3 [] → WM p l e 1 21 s m args below meth c D cI cZ ad A rvi (k30 σ) σ (F0 m 30 ls [])) :
    ∀ (n0 : Nat), ∀ (x1 : Int32) (x2 : Int32) (σ : Mem) (ls : Array Slot), lv_has ls 3 [(0, .ref (ad 0)), (1, .int x1), (2, .int x2)] → WM p l e 1 21 s m args below meth c D cI cZ ad A rvi (LX8_allSeenIs_2 k30 n0 x1 x2 σ) σ (F0 m 2 ls []) := by
  intro n0
  induction n0 with
  | zero => intro x1 x2 σ ls hl; exact r_none
  | succ n0 ih =>
    intro x1 x2 σ ls hl
    show WM p l e 1 21 s m args below meth c D cI cZ ad A rvi (BX8_allSeenIs_2 k30 (LX8_allSeenIs_2 k30 n0) x1 x2 σ) σ (F0 m 2 ls [])
    unfold BX8_allSeenIs_2
    refine r_iload_n C dX8_allSeenIs_2 rfl (lv_at hl 2 rfl) ?_
    refine r_aload_n C dX8_allSeenIs_3 rfl (lv_at hl 0 rfl) ?_
    refine r_getI C fl_X8_103 lf_0_13 dX8_allSeenIs_4 ?_
    refine r_icmp_ge (tgt := 30) C dX8_allSeenIs_7 (by decide) ?_ ?_
    · exact hk30 σ ls (lv_sub hl [] rfl)
    · refine r_aload_n C dX8_allSeenIs_10 rfl (lv_at hl 0 rfl) ?_
      refine r_getR C fl_X8_48 lf_0_6 dX8_allSeenIs_11 ?_
      refine r_iload_n C dX8_allSeenIs_14 rfl (lv_at hl 2 rfl) ?_
      refine r_callVi (As := [.int x2]) (rest := []) C hl ml_X8_152 rc_23 (gX5_at l C.inj 23 6 row_23 x2 σ) ⟨Nat.le_of_ble_eq_true rfl, Nat.le_of_ble_eq_true rfl⟩ ⟨Nat.le_of_ble_eq_true rfl, Nat.le_of_ble_eq_true rfl⟩ rfl rfl (Nat.le_of_ble_eq_true rfl) dX8_allSeenIs_15 (fun r1 σ2 => ?_)
      refine r_iload_n C dX8_allSeenIs_18 rfl (lv_at hl 1 rfl) ?_
      refine r_icmp_eq (tgt := 24) C dX8_allSeenIs_19 (by decide) ?_ ?_
      · refine r_iinc (v := x2 + 1) (lv' := [(2, .int (x2 + 1)), (0, .ref (ad 0)), (1, .int x1)]) C dX8_allSeenIs_24 hl (k := 2) rfl rfl (by decide) rfl (fun ls hl => ?_)
        refine r_goto (tgt := 2) C dX8_allSeenIs_27 (by decide) ?_
        exact ih x1 (x2 + 1) σ2 ls (lv_sub hl [1, 2, 0] rfl)
      · refine r_iconst (v := 0) C dX8_allSeenIs_22 (by decide) ?_
        exact r_zret C rfl (by decide) dX8_allSeenIs_23
set_option maxRecDepth 100000 in
def fX8_allSeenIs (x1 : Int32) (σ : Mem) : Option (Int32 × Mem) := LX8_allSeenIs_2 (fun σ3 => some (1, σ3)) 300 x1 0 σ
set_option maxRecDepth 100000 in
set_option maxHeartbeats 4000000 in
theorem gX8_allSeenIs (l : Launch) {D : va_G} {cI cZ : ClassId} {ad : Nat → Nat} {tT : Nat} (hi : INJ ad) (x1 : Int32) (σ : Mem) : GM l D cI cZ ad tT yX8_allSeenIs cX8_allSeenIs 3 (some .boolean) 1 21 rvi [.ref (ad 0), .int x1] σ (fX8_allSeenIs x1 σ) := by
  refine gm_of (lv := [(0, .ref (ad 0)), (1, .int x1)]) (own := RX8) hi (by decide +kernel) rfl (Nat.le_of_ble_eq_true rfl) rfl ?_
  intro p e s m args below meth c A C ls hl
  unfold fX8_allSeenIs
  refine r_iconst (v := 0) C dX8_allSeenIs_0 (by decide) ?_
  refine r_istore_n (lv' := [(2, .int 0), (0, .ref (ad 0)), (1, .int x1)]) C dX8_allSeenIs_1 rfl hl (by decide) rfl (fun ls hl => ?_)
  refine wX8_allSeenIs_2  C _ ?_ 300 x1 0 σ ls (lv_sub hl [1, 2, 0] rfl)
  · intro σ3 ls hl
    refine r_iconst (v := 1) C dX8_allSeenIs_30 (by decide) ?_
    exact r_zret C rfl (by decide) dX8_allSeenIs_31

set_option maxRecDepth 100000 in
def BX8_mayBeMisread_19 (k51 : Mem → Option (Int32 × Mem)) (rec : Int32 → Int32 → Int32 → Mem → Option (Int32 × Mem)) (x1 : Int32) (x2 : Int32) (x3 : Int32) (σ : Mem) : Option (Int32 × Mem) := if (4 : Int32) ≤ x3 then k51 σ else if (x3 : Int32) = x2 then rec x1 x2 (x3 + 1) σ else bnd (fX8_changesIf x1 0 x3 σ) (fun r3 σ4 => bnd (fX8_allSeenIs r3 σ4) (fun r5 σ6 => if (r5 : Int32) = 0 then rec x1 x2 (x3 + 1) σ6 else some (1, σ6)))
def LX8_mayBeMisread_19 (k51 : Mem → Option (Int32 × Mem)) : Nat → Int32 → Int32 → Int32 → Mem → Option (Int32 × Mem)
  | 0 => fun _ _ _ _ => none
  | n + 1 => BX8_mayBeMisread_19 k51 (LX8_mayBeMisread_19 k51 n)
set_option maxRecDepth 100000 in
set_option maxHeartbeats 4000000 in
theorem wX8_mayBeMisread_19 {p : Program} {l : Launch} {e : Env} {s : State} {m : MethodId} {args : Array Value} {below : List Frame} {meth : Method} {c : Code} {D : va_G} {cI cZ : ClassId} {ad : Nat → Nat} {tT : Nat} {A : Nat → Prop} (C : CX p s m args meth c cX8_mayBeMisread 4 RX8 (some .boolean) D cI cZ ad tT A) (k51 : Mem → Option (Int32 × Mem)) (hk51 : ∀ (σ : Mem) (ls : Array Slot), lv_has ls 4 [] → WM p l e 3 75 s m args below meth c D cI cZ ad A rvi (k51 σ) σ (F0 m 51 ls [])) :
    ∀ (n0 : Nat), ∀ (x1 : Int32) (x2 : Int32) (x3 : Int32) (σ : Mem) (ls : Array Slot), lv_has ls 4 [(0, .ref (ad 0)), (1, .int x1), (2, .int x2), (3, .int x3)] → WM p l e 3 75 s m args below meth c D cI cZ ad A rvi (LX8_mayBeMisread_19 k51 n0 x1 x2 x3 σ) σ (F0 m 19 ls []) := by
  intro n0
  induction n0 with
  | zero => intro x1 x2 x3 σ ls hl; exact r_none
  | succ n0 ih =>
    intro x1 x2 x3 σ ls hl
    show WM p l e 3 75 s m args below meth c D cI cZ ad A rvi (BX8_mayBeMisread_19 k51 (LX8_mayBeMisread_19 k51 n0) x1 x2 x3 σ) σ (F0 m 19 ls [])
    unfold BX8_mayBeMisread_19
    refine r_iload_n C dX8_mayBeMisread_19 rfl (lv_at hl 3 rfl) ?_
    refine r_iconst (v := 4) C dX8_mayBeMisread_20 (by decide) ?_
    refine r_icmp_ge (tgt := 51) C dX8_mayBeMisread_21 (by decide) ?_ ?_
    · exact hk51 σ ls (lv_sub hl [] rfl)
    · refine r_iload_n C dX8_mayBeMisread_24 rfl (lv_at hl 3 rfl) ?_
      refine r_iload_n C dX8_mayBeMisread_25 rfl (lv_at hl 2 rfl) ?_
      refine r_icmp_eq (tgt := 45) C dX8_mayBeMisread_26 (by decide) ?_ ?_
      · refine r_iinc (v := x3 + 1) (lv' := [(3, .int (x3 + 1)), (0, .ref (ad 0)), (1, .int x1), (2, .int x2)]) C dX8_mayBeMisread_45 hl (k := 3) rfl rfl (by decide) rfl (fun ls hl => ?_)
        refine r_goto (tgt := 19) C dX8_mayBeMisread_48 (by decide) ?_
        exact ih x1 x2 (x3 + 1) σ ls (lv_sub hl [1, 2, 3, 0] rfl)
      · refine r_aload_n C dX8_mayBeMisread_29 rfl (lv_at hl 0 rfl) ?_
        refine r_aload_n C dX8_mayBeMisread_30 rfl (lv_at hl 0 rfl) ?_
        refine r_iload_n C dX8_mayBeMisread_31 rfl (lv_at hl 1 rfl) ?_
        refine r_iconst (v := 0) C dX8_mayBeMisread_32 (by decide) ?_
        refine r_iload_n C dX8_mayBeMisread_33 rfl (lv_at hl 3 rfl) ?_
        refine r_callVi (As := [.int x1, .int 0, .int x3]) (rest := [.ref (ad 0)]) C hl ml_X8_194 rc_0 (gX8_changesIf l C.inj x1 0 x3 σ) ⟨Nat.le_of_ble_eq_true rfl, Nat.le_of_ble_eq_true rfl⟩ ⟨Nat.le_of_ble_eq_true rfl, Nat.le_of_ble_eq_true rfl⟩ rfl rfl (Nat.le_of_ble_eq_true rfl) dX8_mayBeMisread_34 (fun r3 σ4 => ?_)
        refine r_callVi (As := [.int r3]) (rest := []) C hl ml_X8_288 rc_0 (gX8_allSeenIs l C.inj r3 σ4) ⟨Nat.le_of_ble_eq_true rfl, Nat.le_of_ble_eq_true rfl⟩ ⟨Nat.le_of_ble_eq_true rfl, Nat.le_of_ble_eq_true rfl⟩ rfl rfl (Nat.le_of_ble_eq_true rfl) dX8_mayBeMisread_37 (fun r5 σ6 => ?_)
        refine r_if_eq (tgt := 45) C dX8_mayBeMisread_40 (by decide) ?_ ?_
        · refine r_iinc (v := x3 + 1) (lv' := [(3, .int (x3 + 1)), (0, .ref (ad 0)), (1, .int x1), (2, .int x2)]) C dX8_mayBeMisread_45 hl (k := 3) rfl rfl (by decide) rfl (fun ls hl => ?_)
          refine r_goto (tgt := 19) C dX8_mayBeMisread_48 (by decide) ?_
          exact ih x1 x2 (x3 + 1) σ6 ls (lv_sub hl [1, 2, 3, 0] rfl)
        · refine r_iconst (v := 1) C dX8_mayBeMisread_43 (by decide) ?_
          exact r_zret C rfl (by decide) dX8_mayBeMisread_44
set_option maxRecDepth 100000 in
def fX8_mayBeMisread (x1 : Int32) (σ : Mem) : Option (Int32 × Mem) := bnd (fX4_at 4 x1 0 σ) (fun r1 σ2 => if (r1 : Int32) = 4 then some (0, σ2) else LX8_mayBeMisread_19 (fun σ7 => some (0, σ7)) 300 x1 r1 0 σ2)
set_option maxRecDepth 100000 in
set_option maxHeartbeats 4000000 in
theorem gX8_mayBeMisread (l : Launch) {D : va_G} {cI cZ : ClassId} {ad : Nat → Nat} {tT : Nat} (hi : INJ ad) (x1 : Int32) (σ : Mem) : GM l D cI cZ ad tT yX8_mayBeMisread cX8_mayBeMisread 4 (some .boolean) 3 75 rvi [.ref (ad 0), .int x1] σ (fX8_mayBeMisread x1 σ) := by
  refine gm_of (lv := [(0, .ref (ad 0)), (1, .int x1)]) (own := RX8) hi (by decide +kernel) rfl (Nat.le_of_ble_eq_true rfl) rfl ?_
  intro p e s m args below meth c A C ls hl
  unfold fX8_mayBeMisread
  refine r_aload_n C dX8_mayBeMisread_0 rfl (lv_at hl 0 rfl) ?_
  refine r_getR C fl_X8_19 lf_0_1 dX8_mayBeMisread_1 ?_
  refine r_iload_n C dX8_mayBeMisread_4 rfl (lv_at hl 1 rfl) ?_
  refine r_iconst (v := 0) C dX8_mayBeMisread_5 (by decide) ?_
  refine r_callVi (As := [.int x1, .int 0]) (rest := []) C hl ml_X8_120 rc_4 (gX4_at l C.inj 4 rdg_4 x1 0 σ) ⟨Nat.le_of_ble_eq_true rfl, Nat.le_of_ble_eq_true rfl⟩ ⟨Nat.le_of_ble_eq_true rfl, Nat.le_of_ble_eq_true rfl⟩ rfl rfl (Nat.le_of_ble_eq_true rfl) dX8_mayBeMisread_6 (fun r1 σ2 => ?_)
  refine r_istore_n (lv' := [(2, .int r1), (0, .ref (ad 0)), (1, .int x1)]) C dX8_mayBeMisread_9 rfl hl (by decide) rfl (fun ls hl => ?_)
  refine r_iload_n C dX8_mayBeMisread_10 rfl (lv_at hl 0 rfl) ?_
  refine r_iconst (v := 4) C dX8_mayBeMisread_11 (by decide) ?_
  refine r_icmp_ne (tgt := 17) C dX8_mayBeMisread_12 (by decide) ?_ ?_
  · refine r_iconst (v := 0) C dX8_mayBeMisread_17 (by decide) ?_
    refine r_istore_n (lv' := [(3, .int 0), (2, .int r1), (0, .ref (ad 0)), (1, .int x1)]) C dX8_mayBeMisread_18 rfl hl (by decide) rfl (fun ls hl => ?_)
    refine wX8_mayBeMisread_19  C _ ?_ 300 x1 r1 0 σ2 ls (lv_sub hl [2, 3, 1, 0] rfl)
    · intro σ7 ls hl
      refine r_iconst (v := 0) C dX8_mayBeMisread_51 (by decide) ?_
      exact r_zret C rfl (by decide) dX8_mayBeMisread_52
  · refine r_iconst (v := 0) C dX8_mayBeMisread_15 (by decide) ?_
    exact r_zret C rfl (by decide) dX8_mayBeMisread_16

set_option maxRecDepth 100000 in
def BX8_unseen_39 (k70 : Int32 → Mem → Option (Int32 × Mem)) (rec : Int32 → Int32 → Mem → Option (Int32 × Mem)) (x1 : Int32) (x2 : Int32) (σ : Mem) : Option (Int32 × Mem) := if (σ 4 1 : Int32) ≤ x2 then k70 x1 σ else bnd (fX8_mayBeMisread x2 σ) (fun r7 σ8 => if (r7 : Int32) = 0 then rec x1 (x2 + 1) σ8 else letv (x1 ||| ((1 : Int32) <<< (x2 &&& 31))) (fun v9 => rec v9 (x2 + 1) σ8))
def LX8_unseen_39 (k70 : Int32 → Mem → Option (Int32 × Mem)) : Nat → Int32 → Int32 → Mem → Option (Int32 × Mem)
  | 0 => fun _ _ _ => none
  | n + 1 => BX8_unseen_39 k70 (LX8_unseen_39 k70 n)
set_option maxRecDepth 100000 in
set_option maxHeartbeats 4000000 in
theorem wX8_unseen_39 {p : Program} {l : Launch} {e : Env} {s : State} {m : MethodId} {args : Array Value} {below : List Frame} {meth : Method} {c : Code} {D : va_G} {cI cZ : ClassId} {ad : Nat → Nat} {tT : Nat} {A : Nat → Prop} (C : CX p s m args meth c cX8_unseen 3 RX8 (some .int) D cI cZ ad tT A) (k70 : Int32 → Mem → Option (Int32 × Mem)) (hk70 : ∀ (x1 : Int32) (σ : Mem) (ls : Array Slot), lv_has ls 3 [(1, .int x1)] → WM p l e 5 112 s m args below meth c D cI cZ ad A rvi (k70 x1 σ) σ (F0 m 70 ls [])) :
    ∀ (n0 : Nat), ∀ (x1 : Int32) (x2 : Int32) (σ : Mem) (ls : Array Slot), lv_has ls 3 [(0, .ref (ad 0)), (1, .int x1), (2, .int x2)] → WM p l e 5 112 s m args below meth c D cI cZ ad A rvi (LX8_unseen_39 k70 n0 x1 x2 σ) σ (F0 m 39 ls []) := by
  intro n0
  induction n0 with
  | zero => intro x1 x2 σ ls hl; exact r_none
  | succ n0 ih =>
    intro x1 x2 σ ls hl
    show WM p l e 5 112 s m args below meth c D cI cZ ad A rvi (BX8_unseen_39 k70 (LX8_unseen_39 k70 n0) x1 x2 σ) σ (F0 m 39 ls [])
    unfold BX8_unseen_39
    refine r_iload_n C dX8_unseen_39 rfl (lv_at hl 2 rfl) ?_
    refine r_aload_n C dX8_unseen_40 rfl (lv_at hl 0 rfl) ?_
    refine r_getR C fl_X8_19 lf_0_1 dX8_unseen_41 ?_
    refine r_getIN C fn_X8_113 lf_4_1 dX8_unseen_44 ?_
    refine r_icmp_ge (tgt := 70) C dX8_unseen_47 (by decide) ?_ ?_
    · exact hk70 x1 σ ls (lv_sub hl [1] rfl)
    · refine r_aload_n C dX8_unseen_50 rfl (lv_at hl 0 rfl) ?_
      refine r_iload_n C dX8_unseen_51 rfl (lv_at hl 2 rfl) ?_
      refine r_callVi (As := [.int x2]) (rest := []) C hl ml_X8_234 rc_0 (gX8_mayBeMisread l C.inj x2 σ) ⟨Nat.le_of_ble_eq_true rfl, Nat.le_of_ble_eq_true rfl⟩ ⟨Nat.le_of_ble_eq_true rfl, Nat.le_of_ble_eq_true rfl⟩ rfl rfl (Nat.le_of_ble_eq_true rfl) dX8_unseen_52 (fun r7 σ8 => ?_)
      refine r_if_eq (tgt := 64) C dX8_unseen_55 (by decide) ?_ ?_
      · refine r_iinc (v := x2 + 1) (lv' := [(2, .int (x2 + 1)), (0, .ref (ad 0)), (1, .int x1)]) C dX8_unseen_64 hl (k := 2) rfl rfl (by decide) rfl (fun ls hl => ?_)
        refine r_goto (tgt := 39) C dX8_unseen_67 (by decide) ?_
        exact ih x1 (x2 + 1) σ8 ls (lv_sub hl [1, 2, 0] rfl)
      · refine r_iload_n C dX8_unseen_58 rfl (lv_at hl 1 rfl) ?_
        refine r_iconst (v := 1) C dX8_unseen_59 (by decide) ?_
        refine r_iload_n C dX8_unseen_60 rfl (lv_at hl 2 rfl) ?_
        refine r_ishl C dX8_unseen_61 ?_
        refine r_ior C dX8_unseen_62 ?_
        refine r_letv (fun v9 => ?_)
        refine r_istore_n (lv' := [(1, .int v9), (0, .ref (ad 0)), (2, .int x2)]) C dX8_unseen_63 rfl hl (by decide) rfl (fun ls hl => ?_)
        refine r_iinc (v := x2 + 1) (lv' := [(2, .int (x2 + 1)), (1, .int v9), (0, .ref (ad 0))]) C dX8_unseen_64 hl (k := 2) rfl rfl (by decide) rfl (fun ls hl => ?_)
        refine r_goto (tgt := 39) C dX8_unseen_67 (by decide) ?_
        exact ih v9 (x2 + 1) σ8 ls (lv_sub hl [2, 1, 0] rfl)
set_option maxRecDepth 100000 in
def fX8_unseen (σ : Mem) : Option (Int32 × Mem) := bnd (fX8_loadSets 0 σ) (fun r1 σ2 => bnd (fX7_grow (σ2 0 14) (σ2 4 1) σ2) (fun r3 σ4 => bnd (fX0_follow 0 σ4) (fun r5 σ6 => LX8_unseen_39 (fun x1 σ10 => some (x1, σ10)) 300 0 0 σ6)))
set_option maxRecDepth 100000 in
set_option maxHeartbeats 4000000 in
theorem gX8_unseen (l : Launch) {D : va_G} {cI cZ : ClassId} {ad : Nat → Nat} {tT : Nat} (hi : INJ ad) (σ : Mem) : GM l D cI cZ ad tT yX8_unseen cX8_unseen 3 (some .int) 5 112 rvi [.ref (ad 0)] σ (fX8_unseen σ) := by
  refine gm_of (lv := [(0, .ref (ad 0))]) (own := RX8) hi (by decide +kernel) rfl (Nat.le_of_ble_eq_true rfl) rfl ?_
  intro p e s m args below meth c A C ls hl
  unfold fX8_unseen
  refine r_aload_n C dX8_unseen_0 rfl (lv_at hl 0 rfl) ?_
  refine r_iconst (v := 0) C dX8_unseen_1 (by decide) ?_
  refine r_callVv (As := [.int 0]) (rest := []) C hl ml_X8_164 rc_0 (gX8_loadSets l C.inj 0 σ) ⟨Nat.le_of_ble_eq_true rfl, Nat.le_of_ble_eq_true rfl⟩ ⟨Nat.le_of_ble_eq_true rfl, Nat.le_of_ble_eq_true rfl⟩ rfl rfl (Nat.le_of_ble_eq_true rfl) dX8_unseen_2 (fun r1 σ2 => ?_)
  refine r_aload_n C dX8_unseen_5 rfl (lv_at hl 0 rfl) ?_
  refine r_getR C fl_X8_55 lf_0_7 dX8_unseen_6 ?_
  refine r_aload_n C dX8_unseen_9 rfl (lv_at hl 0 rfl) ?_
  refine r_getI C fl_X8_97 lf_0_14 dX8_unseen_10 ?_
  refine r_aload_n C dX8_unseen_13 rfl (lv_at hl 0 rfl) ?_
  refine r_getR C fl_X8_19 lf_0_1 dX8_unseen_14 ?_
  refine r_getIN C fn_X8_113 lf_4_1 dX8_unseen_17 ?_
  refine r_callVv (As := [.int (σ2 0 14), .int (σ2 4 1)]) (rest := []) C hl ml_X8_173 rc_25 (gX7_grow l C.inj (σ2 0 14) (σ2 4 1) σ2) ⟨Nat.le_of_ble_eq_true rfl, Nat.le_of_ble_eq_true rfl⟩ ⟨Nat.le_of_ble_eq_true rfl, Nat.le_of_ble_eq_true rfl⟩ rfl rfl (Nat.le_of_ble_eq_true rfl) dX8_unseen_20 (fun r3 σ4 => ?_)
  refine r_aload_n C dX8_unseen_23 rfl (lv_at hl 0 rfl) ?_
  refine r_getR C fl_X8_62 lf_0_8 dX8_unseen_24 ?_
  refine r_aload_n C dX8_unseen_27 rfl (lv_at hl 0 rfl) ?_
  refine r_getR C fl_X8_55 lf_0_7 dX8_unseen_28 ?_
  refine r_iconst (v := 0) C dX8_unseen_31 (by decide) ?_
  refine r_callVv (As := [.ref (ad 25), .int 0]) (rest := []) C hl ml_X8_230 rc_30 (gX0_follow l C.inj 0 σ4) ⟨Nat.le_of_ble_eq_true rfl, Nat.le_of_ble_eq_true rfl⟩ ⟨Nat.le_of_ble_eq_true rfl, Nat.le_of_ble_eq_true rfl⟩ rfl rfl (Nat.le_of_ble_eq_true rfl) dX8_unseen_32 (fun r5 σ6 => ?_)
  refine r_iconst (v := 0) C dX8_unseen_35 (by decide) ?_
  refine r_istore_n (lv' := [(1, .int 0), (0, .ref (ad 0))]) C dX8_unseen_36 rfl hl (by decide) rfl (fun ls hl => ?_)
  refine r_iconst (v := 0) C dX8_unseen_37 (by decide) ?_
  refine r_istore_n (lv' := [(2, .int 0), (1, .int 0), (0, .ref (ad 0))]) C dX8_unseen_38 rfl hl (by decide) rfl (fun ls hl => ?_)
  refine wX8_unseen_39  C _ ?_ 300 0 0 σ6 ls (lv_sub hl [2, 1, 0] rfl)
  · intro x1 σ10 ls hl
    refine r_iload_n C dX8_unseen_70 rfl (lv_at hl 0 rfl) ?_
    exact r_iret C rfl dX8_unseen_71

set_option maxRecDepth 100000 in
def fX8_keep (x1 : Int32) (σ : Mem) : Option (Int32 × Mem) := if (x1 : Int32) < 0 then some ((-1), σ) else if (x1 : Int32) ≤ 1 then if (x1 : Int32) = 0 then bnd (fX8_imageOf0 x1 σ) (fun r1 σ2 => bnd (fX4_take 16 4 σ2) (fun r3 σ4 => letm (stm σ4 15 1 (σ4 0 14)) (fun σ5 => letm (stm σ5 15 2 1) (fun σ6 => some (σ6 4 1, σ6))))) else bnd (fX8_imageOf1 x1 σ) (fun r7 σ8 => bnd (fX4_take 20 4 σ8) (fun r9 σ10 => letm (stm σ10 19 1 (σ10 0 14)) (fun σ11 => letm (stm σ11 19 2 1) (fun σ12 => some (σ12 4 1, σ12))))) else some ((-1), σ)
set_option maxRecDepth 100000 in
set_option maxHeartbeats 4000000 in
theorem gX8_keep (l : Launch) {D : va_G} {cI cZ : ClassId} {ad : Nat → Nat} {tT : Nat} (hi : INJ ad) (x1 : Int32) (σ : Mem) : GM l D cI cZ ad tT yX8_keep cX8_keep 3 (some .int) 3 65 rvi [.ref (ad 0), .int x1] σ (fX8_keep x1 σ) := by
  refine gm_of (lv := [(0, .ref (ad 0)), (1, .int x1)]) (own := RX8) hi (by decide +kernel) rfl (Nat.le_of_ble_eq_true rfl) rfl ?_
  intro p e s m args below meth c A C ls hl
  unfold fX8_keep
  refine r_iload_n C dX8_keep_0 rfl (lv_at hl 1 rfl) ?_
  refine r_if_lt (tgt := 9) C dX8_keep_1 (by decide) ?_ ?_
  · refine r_iconst (v := (-1)) C dX8_keep_9 (by decide) ?_
    exact r_iret C rfl dX8_keep_10
  · refine r_iload_n C dX8_keep_4 rfl (lv_at hl 1 rfl) ?_
    refine r_iconst (v := 1) C dX8_keep_5 (by decide) ?_
    refine r_icmp_le (tgt := 11) C dX8_keep_6 (by decide) ?_ ?_
    · refine r_aload_n C dX8_keep_11 rfl (lv_at hl 0 rfl) ?_
      refine r_iload_n C dX8_keep_12 rfl (lv_at hl 1 rfl) ?_
      refine r_split (fun _ => ?_) (fun _ => ?_)
      · refine r_callVr (As := [.int x1]) (rest := []) C hl ml_X8_237 rc_0 (gX8_imageOf0 l C.inj x1 σ) ⟨Nat.le_of_ble_eq_true rfl, Nat.le_of_ble_eq_true rfl⟩ ⟨Nat.le_of_ble_eq_true rfl, Nat.le_of_ble_eq_true rfl⟩ rfl rfl (Nat.le_of_ble_eq_true rfl) dX8_keep_13 (fun r1 σ2 => ?_)
        refine r_astore_n (lv' := [(2, .ref (ad 15)), (0, .ref (ad 0)), (1, .int x1)]) C dX8_keep_16 rfl hl (by decide) rfl (fun ls hl => ?_)
        refine r_aload_n C dX8_keep_17 rfl (lv_at hl 0 rfl) ?_
        refine r_getRN C fn_X8_241 lf_15_0 dX8_keep_18 ?_
        refine r_aload_n C dX8_keep_21 rfl (lv_at hl 1 rfl) ?_
        refine r_getR C fl_X8_19 lf_0_1 dX8_keep_22 ?_
        refine r_callVv (As := [.ref (ad 4)]) (rest := []) C hl ml_X8_93 rc_16 (gX4_take l C.inj 16 4 rdg_16 rdg_4 σ2) ⟨Nat.le_of_ble_eq_true rfl, Nat.le_of_ble_eq_true rfl⟩ ⟨Nat.le_of_ble_eq_true rfl, Nat.le_of_ble_eq_true rfl⟩ rfl rfl (Nat.le_of_ble_eq_true rfl) dX8_keep_25 (fun r3 σ4 => ?_)
        refine r_aload_n C dX8_keep_28 rfl (lv_at hl 0 rfl) ?_
        refine r_aload_n C dX8_keep_29 rfl (lv_at hl 1 rfl) ?_
        refine r_getI C fl_X8_97 lf_0_14 dX8_keep_30 ?_
        refine r_putIN C fn_X8_244 fp_X2_1 rfl rfl lf_15_1 dX8_keep_33 ?_
        refine r_letm (fun σ5 => ?_)
        refine r_aload_n C dX8_keep_36 rfl (lv_at hl 0 rfl) ?_
        refine r_iconst (v := 1) C dX8_keep_37 (by decide) ?_
        refine r_putIN C fn_X8_106 fp_X2_2 (by decide) (by decide) lf_15_2 dX8_keep_38 ?_
        refine r_letm (fun σ6 => ?_)
        refine r_aload_n C dX8_keep_41 rfl (lv_at hl 1 rfl) ?_
        refine r_getR C fl_X8_19 lf_0_1 dX8_keep_42 ?_
        refine r_getIN C fn_X8_113 lf_4_1 dX8_keep_45 ?_
        exact r_iret C rfl dX8_keep_48
      · refine r_callVr (As := [.int x1]) (rest := []) C hl ml_X8_237 rc_0 (gX8_imageOf1 l C.inj x1 σ) ⟨Nat.le_of_ble_eq_true rfl, Nat.le_of_ble_eq_true rfl⟩ ⟨Nat.le_of_ble_eq_true rfl, Nat.le_of_ble_eq_true rfl⟩ rfl rfl (Nat.le_of_ble_eq_true rfl) dX8_keep_13 (fun r7 σ8 => ?_)
        refine r_astore_n (lv' := [(2, .ref (ad 19)), (0, .ref (ad 0)), (1, .int x1)]) C dX8_keep_16 rfl hl (by decide) rfl (fun ls hl => ?_)
        refine r_aload_n C dX8_keep_17 rfl (lv_at hl 0 rfl) ?_
        refine r_getRN C fn_X8_241 lf_19_0 dX8_keep_18 ?_
        refine r_aload_n C dX8_keep_21 rfl (lv_at hl 1 rfl) ?_
        refine r_getR C fl_X8_19 lf_0_1 dX8_keep_22 ?_
        refine r_callVv (As := [.ref (ad 4)]) (rest := []) C hl ml_X8_93 rc_20 (gX4_take l C.inj 20 4 rdg_20 rdg_4 σ8) ⟨Nat.le_of_ble_eq_true rfl, Nat.le_of_ble_eq_true rfl⟩ ⟨Nat.le_of_ble_eq_true rfl, Nat.le_of_ble_eq_true rfl⟩ rfl rfl (Nat.le_of_ble_eq_true rfl) dX8_keep_25 (fun r9 σ10 => ?_)
        refine r_aload_n C dX8_keep_28 rfl (lv_at hl 0 rfl) ?_
        refine r_aload_n C dX8_keep_29 rfl (lv_at hl 1 rfl) ?_
        refine r_getI C fl_X8_97 lf_0_14 dX8_keep_30 ?_
        refine r_putIN C fn_X8_244 fp_X2_1 rfl rfl lf_19_1 dX8_keep_33 ?_
        refine r_letm (fun σ11 => ?_)
        refine r_aload_n C dX8_keep_36 rfl (lv_at hl 0 rfl) ?_
        refine r_iconst (v := 1) C dX8_keep_37 (by decide) ?_
        refine r_putIN C fn_X8_106 fp_X2_2 (by decide) (by decide) lf_19_2 dX8_keep_38 ?_
        refine r_letm (fun σ12 => ?_)
        refine r_aload_n C dX8_keep_41 rfl (lv_at hl 1 rfl) ?_
        refine r_getR C fl_X8_19 lf_0_1 dX8_keep_42 ?_
        refine r_getIN C fn_X8_113 lf_4_1 dX8_keep_45 ?_
        exact r_iret C rfl dX8_keep_48
    · refine r_iconst (v := (-1)) C dX8_keep_9 (by decide) ?_
      exact r_iret C rfl dX8_keep_10

set_option maxRecDepth 100000 in
def fX8_back (x1 : Int32) (σ : Mem) : Option (Int32 × Mem) := if (x1 : Int32) < 0 then some ((-1), σ) else if (x1 : Int32) ≤ 1 then if (x1 : Int32) = 0 then bnd (fX8_imageOf0 x1 σ) (fun r1 σ2 => if (σ2 15 2 : Int32) = 0 then some ((-2), σ2) else bnd (fX4_take 4 16 σ2) (fun r3 σ4 => letm (stm σ4 0 14 (σ4 15 1)) (fun σ5 => letm (stm σ5 10 2 0) (fun σ6 => letm (stm σ6 0 15 0) (fun σ7 => some (σ7 4 1, σ7)))))) else bnd (fX8_imageOf1 x1 σ) (fun r8 σ9 => if (σ9 19 2 : Int32) = 0 then some ((-2), σ9) else bnd (fX4_take 4 20 σ9) (fun r10 σ11 => letm (stm σ11 0 14 (σ11 19 1)) (fun σ12 => letm (stm σ12 10 2 0) (fun σ13 => letm (stm σ13 0 15 0) (fun σ14 => some (σ14 4 1, σ14)))))) else some ((-1), σ)
set_option maxRecDepth 100000 in
set_option maxHeartbeats 4000000 in
theorem gX8_back (l : Launch) {D : va_G} {cI cZ : ClassId} {ad : Nat → Nat} {tT : Nat} (hi : INJ ad) (x1 : Int32) (σ : Mem) : GM l D cI cZ ad tT yX8_back cX8_back 3 (some .int) 3 65 rvi [.ref (ad 0), .int x1] σ (fX8_back x1 σ) := by
  refine gm_of (lv := [(0, .ref (ad 0)), (1, .int x1)]) (own := RX8) hi (by decide +kernel) rfl (Nat.le_of_ble_eq_true rfl) rfl ?_
  intro p e s m args below meth c A C ls hl
  unfold fX8_back
  refine r_iload_n C dX8_back_0 rfl (lv_at hl 1 rfl) ?_
  refine r_if_lt (tgt := 9) C dX8_back_1 (by decide) ?_ ?_
  · refine r_iconst (v := (-1)) C dX8_back_9 (by decide) ?_
    exact r_iret C rfl dX8_back_10
  · refine r_iload_n C dX8_back_4 rfl (lv_at hl 1 rfl) ?_
    refine r_iconst (v := 1) C dX8_back_5 (by decide) ?_
    refine r_icmp_le (tgt := 11) C dX8_back_6 (by decide) ?_ ?_
    · refine r_aload_n C dX8_back_11 rfl (lv_at hl 0 rfl) ?_
      refine r_iload_n C dX8_back_12 rfl (lv_at hl 1 rfl) ?_
      refine r_split (fun _ => ?_) (fun _ => ?_)
      · refine r_callVr (As := [.int x1]) (rest := []) C hl ml_X8_237 rc_0 (gX8_imageOf0 l C.inj x1 σ) ⟨Nat.le_of_ble_eq_true rfl, Nat.le_of_ble_eq_true rfl⟩ ⟨Nat.le_of_ble_eq_true rfl, Nat.le_of_ble_eq_true rfl⟩ rfl rfl (Nat.le_of_ble_eq_true rfl) dX8_back_13 (fun r1 σ2 => ?_)
        refine r_astore_n (lv' := [(2, .ref (ad 15)), (0, .ref (ad 0)), (1, .int x1)]) C dX8_back_16 rfl hl (by decide) rfl (fun ls hl => ?_)
        refine r_aload_n C dX8_back_17 rfl (lv_at hl 0 rfl) ?_
        refine r_getIN C fn_X8_106 lf_15_2 dX8_back_18 ?_
        refine r_if_ne (tgt := 27) C dX8_back_21 (by decide) ?_ ?_
        · refine r_aload_n C dX8_back_27 rfl (lv_at hl 1 rfl) ?_
          refine r_getR C fl_X8_19 lf_0_1 dX8_back_28 ?_
          refine r_aload_n C dX8_back_31 rfl (lv_at hl 0 rfl) ?_
          refine r_getRN C fn_X8_241 lf_15_0 dX8_back_32 ?_
          refine r_callVv (As := [.ref (ad 16)]) (rest := []) C hl ml_X8_93 rc_4 (gX4_take l C.inj 4 16 rdg_4 rdg_16 σ2) ⟨Nat.le_of_ble_eq_true rfl, Nat.le_of_ble_eq_true rfl⟩ ⟨Nat.le_of_ble_eq_true rfl, Nat.le_of_ble_eq_true rfl⟩ rfl rfl (Nat.le_of_ble_eq_true rfl) dX8_back_35 (fun r3 σ4 => ?_)
          refine r_aload_n C dX8_back_38 rfl (lv_at hl 1 rfl) ?_
          refine r_aload_n C dX8_back_39 rfl (lv_at hl 0 rfl) ?_
          refine r_getIN C fn_X8_244 lf_15_1 dX8_back_40 ?_
          refine r_putI C fl_X8_97 fp_X8_14 rfl rfl lf_0_14 dX8_back_43 ?_
          refine r_letm (fun σ5 => ?_)
          refine r_aload_n C dX8_back_46 rfl (lv_at hl 1 rfl) ?_
          refine r_getR C fl_X8_29 lf_0_3 dX8_back_47 ?_
          refine r_iconst (v := 0) C dX8_back_50 (by decide) ?_
          refine r_putIN C fn_X8_100 fp_X1_2 rfl rfl lf_10_2 dX8_back_51 ?_
          refine r_letm (fun σ6 => ?_)
          refine r_aload_n C dX8_back_54 rfl (lv_at hl 1 rfl) ?_
          refine r_iconst (v := 0) C dX8_back_55 (by decide) ?_
          refine r_putI C fl_X8_110 fp_X8_15 (by decide) (by decide) lf_0_15 dX8_back_56 ?_
          refine r_letm (fun σ7 => ?_)
          refine r_aload_n C dX8_back_59 rfl (lv_at hl 1 rfl) ?_
          refine r_getR C fl_X8_19 lf_0_1 dX8_back_60 ?_
          refine r_getIN C fn_X8_113 lf_4_1 dX8_back_63 ?_
          exact r_iret C rfl dX8_back_66
        · refine r_bipush (v := (-2)) C dX8_back_24 (by decide) ?_
          exact r_iret C rfl dX8_back_26
      · refine r_callVr (As := [.int x1]) (rest := []) C hl ml_X8_237 rc_0 (gX8_imageOf1 l C.inj x1 σ) ⟨Nat.le_of_ble_eq_true rfl, Nat.le_of_ble_eq_true rfl⟩ ⟨Nat.le_of_ble_eq_true rfl, Nat.le_of_ble_eq_true rfl⟩ rfl rfl (Nat.le_of_ble_eq_true rfl) dX8_back_13 (fun r8 σ9 => ?_)
        refine r_astore_n (lv' := [(2, .ref (ad 19)), (0, .ref (ad 0)), (1, .int x1)]) C dX8_back_16 rfl hl (by decide) rfl (fun ls hl => ?_)
        refine r_aload_n C dX8_back_17 rfl (lv_at hl 0 rfl) ?_
        refine r_getIN C fn_X8_106 lf_19_2 dX8_back_18 ?_
        refine r_if_ne (tgt := 27) C dX8_back_21 (by decide) ?_ ?_
        · refine r_aload_n C dX8_back_27 rfl (lv_at hl 1 rfl) ?_
          refine r_getR C fl_X8_19 lf_0_1 dX8_back_28 ?_
          refine r_aload_n C dX8_back_31 rfl (lv_at hl 0 rfl) ?_
          refine r_getRN C fn_X8_241 lf_19_0 dX8_back_32 ?_
          refine r_callVv (As := [.ref (ad 20)]) (rest := []) C hl ml_X8_93 rc_4 (gX4_take l C.inj 4 20 rdg_4 rdg_20 σ9) ⟨Nat.le_of_ble_eq_true rfl, Nat.le_of_ble_eq_true rfl⟩ ⟨Nat.le_of_ble_eq_true rfl, Nat.le_of_ble_eq_true rfl⟩ rfl rfl (Nat.le_of_ble_eq_true rfl) dX8_back_35 (fun r10 σ11 => ?_)
          refine r_aload_n C dX8_back_38 rfl (lv_at hl 1 rfl) ?_
          refine r_aload_n C dX8_back_39 rfl (lv_at hl 0 rfl) ?_
          refine r_getIN C fn_X8_244 lf_19_1 dX8_back_40 ?_
          refine r_putI C fl_X8_97 fp_X8_14 rfl rfl lf_0_14 dX8_back_43 ?_
          refine r_letm (fun σ12 => ?_)
          refine r_aload_n C dX8_back_46 rfl (lv_at hl 1 rfl) ?_
          refine r_getR C fl_X8_29 lf_0_3 dX8_back_47 ?_
          refine r_iconst (v := 0) C dX8_back_50 (by decide) ?_
          refine r_putIN C fn_X8_100 fp_X1_2 rfl rfl lf_10_2 dX8_back_51 ?_
          refine r_letm (fun σ13 => ?_)
          refine r_aload_n C dX8_back_54 rfl (lv_at hl 1 rfl) ?_
          refine r_iconst (v := 0) C dX8_back_55 (by decide) ?_
          refine r_putI C fl_X8_110 fp_X8_15 (by decide) (by decide) lf_0_15 dX8_back_56 ?_
          refine r_letm (fun σ14 => ?_)
          refine r_aload_n C dX8_back_59 rfl (lv_at hl 1 rfl) ?_
          refine r_getR C fl_X8_19 lf_0_1 dX8_back_60 ?_
          refine r_getIN C fn_X8_113 lf_4_1 dX8_back_63 ?_
          exact r_iret C rfl dX8_back_66
        · refine r_bipush (v := (-2)) C dX8_back_24 (by decide) ?_
          exact r_iret C rfl dX8_back_26
    · refine r_iconst (v := (-1)) C dX8_back_9 (by decide) ?_
      exact r_iret C rfl dX8_back_10

set_option maxRecDepth 100000 in
def BX8_lostOnes_17 (k50 : Int32 → Int32 → Mem → Option (Int32 × Mem)) (rec : Int32 → Int32 → Int32 → Mem → Option (Int32 × Mem)) (x1 : Int32) (x2 : Int32) (x3 : Int32) (σ : Mem) : Option (Int32 × Mem) := if (σ 4 2 : Int32) ≤ x3 then k50 x1 x2 σ else bnd (fX4_at 4 x2 x3 σ) (fun r1 σ2 => if (r1 : Int32) = 4 then rec (x1 + 1) x2 (x3 + 1) σ2 else rec x1 x2 (x3 + 1) σ2)
def LX8_lostOnes_17 (k50 : Int32 → Int32 → Mem → Option (Int32 × Mem)) : Nat → Int32 → Int32 → Int32 → Mem → Option (Int32 × Mem)
  | 0 => fun _ _ _ _ => none
  | n + 1 => BX8_lostOnes_17 k50 (LX8_lostOnes_17 k50 n)
set_option maxRecDepth 100000 in
set_option maxHeartbeats 4000000 in
theorem wX8_lostOnes_17 {p : Program} {l : Launch} {e : Env} {s : State} {m : MethodId} {args : Array Value} {below : List Frame} {meth : Method} {c : Code} {D : va_G} {cI cZ : ClassId} {ad : Nat → Nat} {tT : Nat} {A : Nat → Prop} (C : CX p s m args meth c cX8_lostOnes 4 RX8 (some .int) D cI cZ ad tT A) (k50 : Int32 → Int32 → Mem → Option (Int32 × Mem)) (hk50 : ∀ (x1 : Int32) (x2 : Int32) (σ : Mem) (ls : Array Slot), lv_has ls 4 [(0, .ref (ad 0)), (1, .int x1), (2, .int x2)] → WM p l e 3 65 s m args below meth c D cI cZ ad A rvi (k50 x1 x2 σ) σ (F0 m 50 ls [])) :
    ∀ (n0 : Nat), ∀ (x1 : Int32) (x2 : Int32) (x3 : Int32) (σ : Mem) (ls : Array Slot), lv_has ls 4 [(0, .ref (ad 0)), (1, .int x1), (2, .int x2), (3, .int x3)] → WM p l e 3 65 s m args below meth c D cI cZ ad A rvi (LX8_lostOnes_17 k50 n0 x1 x2 x3 σ) σ (F0 m 17 ls []) := by
  intro n0
  induction n0 with
  | zero => intro x1 x2 x3 σ ls hl; exact r_none
  | succ n0 ih =>
    intro x1 x2 x3 σ ls hl
    show WM p l e 3 65 s m args below meth c D cI cZ ad A rvi (BX8_lostOnes_17 k50 (LX8_lostOnes_17 k50 n0) x1 x2 x3 σ) σ (F0 m 17 ls [])
    unfold BX8_lostOnes_17
    refine r_iload_n C dX8_lostOnes_17 rfl (lv_at hl 3 rfl) ?_
    refine r_aload_n C dX8_lostOnes_18 rfl (lv_at hl 0 rfl) ?_
    refine r_getR C fl_X8_19 lf_0_1 dX8_lostOnes_19 ?_
    refine r_getIN C fn_X8_212 lf_4_2 dX8_lostOnes_22 ?_
    refine r_icmp_ge (tgt := 50) C dX8_lostOnes_25 (by decide) ?_ ?_
    · exact hk50 x1 x2 σ ls (lv_sub hl [0, 1, 2] rfl)
    · refine r_aload_n C dX8_lostOnes_28 rfl (lv_at hl 0 rfl) ?_
      refine r_getR C fl_X8_19 lf_0_1 dX8_lostOnes_29 ?_
      refine r_iload_n C dX8_lostOnes_32 rfl (lv_at hl 2 rfl) ?_
      refine r_iload_n C dX8_lostOnes_33 rfl (lv_at hl 3 rfl) ?_
      refine r_callVi (As := [.int x2, .int x3]) (rest := []) C hl ml_X8_120 rc_4 (gX4_at l C.inj 4 rdg_4 x2 x3 σ) ⟨Nat.le_of_ble_eq_true rfl, Nat.le_of_ble_eq_true rfl⟩ ⟨Nat.le_of_ble_eq_true rfl, Nat.le_of_ble_eq_true rfl⟩ rfl rfl (Nat.le_of_ble_eq_true rfl) dX8_lostOnes_34 (fun r1 σ2 => ?_)
      refine r_iconst (v := 4) C dX8_lostOnes_37 (by decide) ?_
      refine r_icmp_ne (tgt := 44) C dX8_lostOnes_38 (by decide) ?_ ?_
      · refine r_iinc (v := x3 + 1) (lv' := [(3, .int (x3 + 1)), (0, .ref (ad 0)), (1, .int x1), (2, .int x2)]) C dX8_lostOnes_44 hl (k := 3) rfl rfl (by decide) rfl (fun ls hl => ?_)
        refine r_goto (tgt := 17) C dX8_lostOnes_47 (by decide) ?_
        exact ih x1 x2 (x3 + 1) σ2 ls (lv_sub hl [1, 2, 3, 0] rfl)
      · refine r_iinc (v := x1 + 1) (lv' := [(1, .int (x1 + 1)), (0, .ref (ad 0)), (2, .int x2), (3, .int x3)]) C dX8_lostOnes_41 hl (k := 1) rfl rfl (by decide) rfl (fun ls hl => ?_)
        refine r_iinc (v := x3 + 1) (lv' := [(3, .int (x3 + 1)), (1, .int (x1 + 1)), (0, .ref (ad 0)), (2, .int x2)]) C dX8_lostOnes_44 hl (k := 3) rfl rfl (by decide) rfl (fun ls hl => ?_)
        refine r_goto (tgt := 17) C dX8_lostOnes_47 (by decide) ?_
        exact ih (x1 + 1) x2 (x3 + 1) σ2 ls (lv_sub hl [2, 1, 3, 0] rfl)
set_option maxRecDepth 100000 in
def BX8_lostOnes_4 (k56 : Int32 → Mem → Option (Int32 × Mem)) (rec : Int32 → Int32 → Mem → Option (Int32 × Mem)) (x1 : Int32) (x2 : Int32) (σ : Mem) : Option (Int32 × Mem) := if (σ 4 1 : Int32) ≤ x2 then k56 x1 σ else LX8_lostOnes_17 (fun x1 x2 σ3 => rec x1 (x2 + 1) σ3) 300 x1 x2 0 σ
def LX8_lostOnes_4 (k56 : Int32 → Mem → Option (Int32 × Mem)) : Nat → Int32 → Int32 → Mem → Option (Int32 × Mem)
  | 0 => fun _ _ _ => none
  | n + 1 => BX8_lostOnes_4 k56 (LX8_lostOnes_4 k56 n)
set_option maxRecDepth 100000 in
set_option maxHeartbeats 4000000 in
theorem wX8_lostOnes_4 {p : Program} {l : Launch} {e : Env} {s : State} {m : MethodId} {args : Array Value} {below : List Frame} {meth : Method} {c : Code} {D : va_G} {cI cZ : ClassId} {ad : Nat → Nat} {tT : Nat} {A : Nat → Prop} (C : CX p s m args meth c cX8_lostOnes 4 RX8 (some .int) D cI cZ ad tT A) (k56 : Int32 → Mem → Option (Int32 × Mem)) (hk56 : ∀ (x1 : Int32) (σ : Mem) (ls : Array Slot), lv_has ls 4 [(1, .int x1)] → WM p l e 3 65 s m args below meth c D cI cZ ad A rvi (k56 x1 σ) σ (F0 m 56 ls [])) :
    ∀ (n0 : Nat), ∀ (x1 : Int32) (x2 : Int32) (σ : Mem) (ls : Array Slot), lv_has ls 4 [(0, .ref (ad 0)), (1, .int x1), (2, .int x2)] → WM p l e 3 65 s m args below meth c D cI cZ ad A rvi (LX8_lostOnes_4 k56 n0 x1 x2 σ) σ (F0 m 4 ls []) := by
  intro n0
  induction n0 with
  | zero => intro x1 x2 σ ls hl; exact r_none
  | succ n0 ih =>
    intro x1 x2 σ ls hl
    show WM p l e 3 65 s m args below meth c D cI cZ ad A rvi (BX8_lostOnes_4 k56 (LX8_lostOnes_4 k56 n0) x1 x2 σ) σ (F0 m 4 ls [])
    unfold BX8_lostOnes_4
    refine r_iload_n C dX8_lostOnes_4 rfl (lv_at hl 2 rfl) ?_
    refine r_aload_n C dX8_lostOnes_5 rfl (lv_at hl 0 rfl) ?_
    refine r_getR C fl_X8_19 lf_0_1 dX8_lostOnes_6 ?_
    refine r_getIN C fn_X8_113 lf_4_1 dX8_lostOnes_9 ?_
    refine r_icmp_ge (tgt := 56) C dX8_lostOnes_12 (by decide) ?_ ?_
    · exact hk56 x1 σ ls (lv_sub hl [1] rfl)
    · refine r_iconst (v := 0) C dX8_lostOnes_15 (by decide) ?_
      refine r_istore_n (lv' := [(3, .int 0), (0, .ref (ad 0)), (1, .int x1), (2, .int x2)]) C dX8_lostOnes_16 rfl hl (by decide) rfl (fun ls hl => ?_)
      refine wX8_lostOnes_17  C _ ?_ 300 x1 x2 0 σ ls (lv_sub hl [1, 2, 3, 0] rfl)
      · intro x1 x2 σ3 ls hl
        refine r_iinc (v := x2 + 1) (lv' := [(2, .int (x2 + 1)), (0, .ref (ad 0)), (1, .int x1)]) C dX8_lostOnes_50 hl (k := 2) rfl rfl (by decide) rfl (fun ls hl => ?_)
        refine r_goto (tgt := 4) C dX8_lostOnes_53 (by decide) ?_
        exact ih x1 (x2 + 1) σ3 ls (lv_sub hl [1, 2, 0] rfl)
set_option maxRecDepth 100000 in
def fX8_lostOnes (σ : Mem) : Option (Int32 × Mem) := LX8_lostOnes_4 (fun x1 σ4 => some (x1, σ4)) 300 0 0 σ
set_option maxRecDepth 100000 in
set_option maxHeartbeats 4000000 in
theorem gX8_lostOnes (l : Launch) {D : va_G} {cI cZ : ClassId} {ad : Nat → Nat} {tT : Nat} (hi : INJ ad) (σ : Mem) : GM l D cI cZ ad tT yX8_lostOnes cX8_lostOnes 4 (some .int) 3 65 rvi [.ref (ad 0)] σ (fX8_lostOnes σ) := by
  refine gm_of (lv := [(0, .ref (ad 0))]) (own := RX8) hi (by decide +kernel) rfl (Nat.le_of_ble_eq_true rfl) rfl ?_
  intro p e s m args below meth c A C ls hl
  unfold fX8_lostOnes
  refine r_iconst (v := 0) C dX8_lostOnes_0 (by decide) ?_
  refine r_istore_n (lv' := [(1, .int 0), (0, .ref (ad 0))]) C dX8_lostOnes_1 rfl hl (by decide) rfl (fun ls hl => ?_)
  refine r_iconst (v := 0) C dX8_lostOnes_2 (by decide) ?_
  refine r_istore_n (lv' := [(2, .int 0), (1, .int 0), (0, .ref (ad 0))]) C dX8_lostOnes_3 rfl hl (by decide) rfl (fun ls hl => ?_)
  refine wX8_lostOnes_4  C _ ?_ 300 0 0 σ ls (lv_sub hl [2, 1, 0] rfl)
  · intro x1 σ4 ls hl
    refine r_iload_n C dX8_lostOnes_56 rfl (lv_at hl 0 rfl) ?_
    exact r_iret C rfl dX8_lostOnes_57

set_option maxRecDepth 100000 in
def BX8_quarrels_19 (k48 : Int32 → Int32 → Mem → Option (Int32 × Mem)) (rec : Int32 → Int32 → Int32 → Mem → Option (Int32 × Mem)) (x1 : Int32) (x2 : Int32) (x3 : Int32) (σ : Mem) : Option (Int32 × Mem) := if (σ 4 2 : Int32) ≤ x3 then k48 x1 x2 σ else bnd (fX8_inQuarrel x2 x3 σ) (fun r2 σ3 => if (r2 : Int32) = 0 then rec x1 x2 (x3 + 1) σ3 else rec (x1 + 1) x2 (x3 + 1) σ3)
def LX8_quarrels_19 (k48 : Int32 → Int32 → Mem → Option (Int32 × Mem)) : Nat → Int32 → Int32 → Int32 → Mem → Option (Int32 × Mem)
  | 0 => fun _ _ _ _ => none
  | n + 1 => BX8_quarrels_19 k48 (LX8_quarrels_19 k48 n)
set_option maxRecDepth 100000 in
set_option maxHeartbeats 4000000 in
theorem wX8_quarrels_19 {p : Program} {l : Launch} {e : Env} {s : State} {m : MethodId} {args : Array Value} {below : List Frame} {meth : Method} {c : Code} {D : va_G} {cI cZ : ClassId} {ad : Nat → Nat} {tT : Nat} {A : Nat → Prop} (C : CX p s m args meth c cX8_quarrels 4 RX8 (some .int) D cI cZ ad tT A) (k48 : Int32 → Int32 → Mem → Option (Int32 × Mem)) (hk48 : ∀ (x1 : Int32) (x2 : Int32) (σ : Mem) (ls : Array Slot), lv_has ls 4 [(0, .ref (ad 0)), (1, .int x1), (2, .int x2)] → WM p l e 4 91 s m args below meth c D cI cZ ad A rvi (k48 x1 x2 σ) σ (F0 m 48 ls [])) :
    ∀ (n0 : Nat), ∀ (x1 : Int32) (x2 : Int32) (x3 : Int32) (σ : Mem) (ls : Array Slot), lv_has ls 4 [(0, .ref (ad 0)), (1, .int x1), (2, .int x2), (3, .int x3)] → WM p l e 4 91 s m args below meth c D cI cZ ad A rvi (LX8_quarrels_19 k48 n0 x1 x2 x3 σ) σ (F0 m 19 ls []) := by
  intro n0
  induction n0 with
  | zero => intro x1 x2 x3 σ ls hl; exact r_none
  | succ n0 ih =>
    intro x1 x2 x3 σ ls hl
    show WM p l e 4 91 s m args below meth c D cI cZ ad A rvi (BX8_quarrels_19 k48 (LX8_quarrels_19 k48 n0) x1 x2 x3 σ) σ (F0 m 19 ls [])
    unfold BX8_quarrels_19
    refine r_iload_n C dX8_quarrels_19 rfl (lv_at hl 3 rfl) ?_
    refine r_aload_n C dX8_quarrels_20 rfl (lv_at hl 0 rfl) ?_
    refine r_getR C fl_X8_19 lf_0_1 dX8_quarrels_21 ?_
    refine r_getIN C fn_X8_212 lf_4_2 dX8_quarrels_24 ?_
    refine r_icmp_ge (tgt := 48) C dX8_quarrels_27 (by decide) ?_ ?_
    · exact hk48 x1 x2 σ ls (lv_sub hl [0, 1, 2] rfl)
    · refine r_aload_n C dX8_quarrels_30 rfl (lv_at hl 0 rfl) ?_
      refine r_iload_n C dX8_quarrels_31 rfl (lv_at hl 2 rfl) ?_
      refine r_iload_n C dX8_quarrels_32 rfl (lv_at hl 3 rfl) ?_
      refine r_callVi (As := [.int x2, .int x3]) (rest := []) C hl ml_X8_198 rc_0 (gX8_inQuarrel l C.inj x2 x3 σ) ⟨Nat.le_of_ble_eq_true rfl, Nat.le_of_ble_eq_true rfl⟩ ⟨Nat.le_of_ble_eq_true rfl, Nat.le_of_ble_eq_true rfl⟩ rfl rfl (Nat.le_of_ble_eq_true rfl) dX8_quarrels_33 (fun r2 σ3 => ?_)
      refine r_if_eq (tgt := 42) C dX8_quarrels_36 (by decide) ?_ ?_
      · refine r_iinc (v := x3 + 1) (lv' := [(3, .int (x3 + 1)), (0, .ref (ad 0)), (1, .int x1), (2, .int x2)]) C dX8_quarrels_42 hl (k := 3) rfl rfl (by decide) rfl (fun ls hl => ?_)
        refine r_goto (tgt := 19) C dX8_quarrels_45 (by decide) ?_
        exact ih x1 x2 (x3 + 1) σ3 ls (lv_sub hl [1, 2, 3, 0] rfl)
      · refine r_iinc (v := x1 + 1) (lv' := [(1, .int (x1 + 1)), (0, .ref (ad 0)), (2, .int x2), (3, .int x3)]) C dX8_quarrels_39 hl (k := 1) rfl rfl (by decide) rfl (fun ls hl => ?_)
        refine r_iinc (v := x3 + 1) (lv' := [(3, .int (x3 + 1)), (1, .int (x1 + 1)), (0, .ref (ad 0)), (2, .int x2)]) C dX8_quarrels_42 hl (k := 3) rfl rfl (by decide) rfl (fun ls hl => ?_)
        refine r_goto (tgt := 19) C dX8_quarrels_45 (by decide) ?_
        exact ih (x1 + 1) x2 (x3 + 1) σ3 ls (lv_sub hl [2, 1, 3, 0] rfl)
set_option maxRecDepth 100000 in
def BX8_quarrels_4 (k54 : Int32 → Mem → Option (Int32 × Mem)) (rec : Int32 → Int32 → Mem → Option (Int32 × Mem)) (x1 : Int32) (x2 : Int32) (σ : Mem) : Option (Int32 × Mem) := if (σ 4 2 : Int32) ≤ x2 then k54 x1 σ else letv (x2 + 1) (fun v1 => LX8_quarrels_19 (fun x1 x2 σ4 => rec x1 (x2 + 1) σ4) 300 x1 x2 v1 σ)
def LX8_quarrels_4 (k54 : Int32 → Mem → Option (Int32 × Mem)) : Nat → Int32 → Int32 → Mem → Option (Int32 × Mem)
  | 0 => fun _ _ _ => none
  | n + 1 => BX8_quarrels_4 k54 (LX8_quarrels_4 k54 n)
set_option maxRecDepth 100000 in
set_option maxHeartbeats 4000000 in
theorem wX8_quarrels_4 {p : Program} {l : Launch} {e : Env} {s : State} {m : MethodId} {args : Array Value} {below : List Frame} {meth : Method} {c : Code} {D : va_G} {cI cZ : ClassId} {ad : Nat → Nat} {tT : Nat} {A : Nat → Prop} (C : CX p s m args meth c cX8_quarrels 4 RX8 (some .int) D cI cZ ad tT A) (k54 : Int32 → Mem → Option (Int32 × Mem)) (hk54 : ∀ (x1 : Int32) (σ : Mem) (ls : Array Slot), lv_has ls 4 [(1, .int x1)] → WM p l e 4 91 s m args below meth c D cI cZ ad A rvi (k54 x1 σ) σ (F0 m 54 ls [])) :
    ∀ (n0 : Nat), ∀ (x1 : Int32) (x2 : Int32) (σ : Mem) (ls : Array Slot), lv_has ls 4 [(0, .ref (ad 0)), (1, .int x1), (2, .int x2)] → WM p l e 4 91 s m args below meth c D cI cZ ad A rvi (LX8_quarrels_4 k54 n0 x1 x2 σ) σ (F0 m 4 ls []) := by
  intro n0
  induction n0 with
  | zero => intro x1 x2 σ ls hl; exact r_none
  | succ n0 ih =>
    intro x1 x2 σ ls hl
    show WM p l e 4 91 s m args below meth c D cI cZ ad A rvi (BX8_quarrels_4 k54 (LX8_quarrels_4 k54 n0) x1 x2 σ) σ (F0 m 4 ls [])
    unfold BX8_quarrels_4
    refine r_iload_n C dX8_quarrels_4 rfl (lv_at hl 2 rfl) ?_
    refine r_aload_n C dX8_quarrels_5 rfl (lv_at hl 0 rfl) ?_
    refine r_getR C fl_X8_19 lf_0_1 dX8_quarrels_6 ?_
    refine r_getIN C fn_X8_212 lf_4_2 dX8_quarrels_9 ?_
    refine r_icmp_ge (tgt := 54) C dX8_quarrels_12 (by decide) ?_ ?_
    · exact hk54 x1 σ ls (lv_sub hl [1] rfl)
    · refine r_iload_n C dX8_quarrels_15 rfl (lv_at hl 2 rfl) ?_
      refine r_iconst (v := 1) C dX8_quarrels_16 (by decide) ?_
      refine r_iadd C dX8_quarrels_17 ?_
      refine r_letv (fun v1 => ?_)
      refine r_istore_n (lv' := [(3, .int v1), (0, .ref (ad 0)), (1, .int x1), (2, .int x2)]) C dX8_quarrels_18 rfl hl (by decide) rfl (fun ls hl => ?_)
      refine wX8_quarrels_19  C _ ?_ 300 x1 x2 v1 σ ls (lv_sub hl [1, 2, 3, 0] rfl)
      · intro x1 x2 σ4 ls hl
        refine r_iinc (v := x2 + 1) (lv' := [(2, .int (x2 + 1)), (0, .ref (ad 0)), (1, .int x1)]) C dX8_quarrels_48 hl (k := 2) rfl rfl (by decide) rfl (fun ls hl => ?_)
        refine r_goto (tgt := 4) C dX8_quarrels_51 (by decide) ?_
        exact ih x1 (x2 + 1) σ4 ls (lv_sub hl [1, 2, 0] rfl)
set_option maxRecDepth 100000 in
def fX8_quarrels (σ : Mem) : Option (Int32 × Mem) := LX8_quarrels_4 (fun x1 σ5 => some (x1, σ5)) 300 0 0 σ
set_option maxRecDepth 100000 in
set_option maxHeartbeats 4000000 in
theorem gX8_quarrels (l : Launch) {D : va_G} {cI cZ : ClassId} {ad : Nat → Nat} {tT : Nat} (hi : INJ ad) (σ : Mem) : GM l D cI cZ ad tT yX8_quarrels cX8_quarrels 4 (some .int) 4 91 rvi [.ref (ad 0)] σ (fX8_quarrels σ) := by
  refine gm_of (lv := [(0, .ref (ad 0))]) (own := RX8) hi (by decide +kernel) rfl (Nat.le_of_ble_eq_true rfl) rfl ?_
  intro p e s m args below meth c A C ls hl
  unfold fX8_quarrels
  refine r_iconst (v := 0) C dX8_quarrels_0 (by decide) ?_
  refine r_istore_n (lv' := [(1, .int 0), (0, .ref (ad 0))]) C dX8_quarrels_1 rfl hl (by decide) rfl (fun ls hl => ?_)
  refine r_iconst (v := 0) C dX8_quarrels_2 (by decide) ?_
  refine r_istore_n (lv' := [(2, .int 0), (1, .int 0), (0, .ref (ad 0))]) C dX8_quarrels_3 rfl hl (by decide) rfl (fun ls hl => ?_)
  refine wX8_quarrels_4  C _ ?_ 300 0 0 σ ls (lv_sub hl [2, 1, 0] rfl)
  · intro x1 σ5 ls hl
    refine r_iload_n C dX8_quarrels_54 rfl (lv_at hl 0 rfl) ?_
    exact r_iret C rfl dX8_quarrels_55

set_option maxRecDepth 100000 in
def fX8_count (x1 : Int32) (σ : Mem) : Option (Int32 × Mem) := if (x1 : Int32) = 0 then some (σ 4 1, σ) else if (x1 : Int32) = 1 then some (σ 4 2, σ) else if (x1 : Int32) = 2 then bnd (fX8_treesOf (σ 4 1) σ) (fun r1 σ2 => some (r1, σ2)) else if (x1 : Int32) = 3 then some (σ 0 14, σ) else if (x1 : Int32) = 4 then bnd (fX8_edgesOf (σ 4 1) σ) (fun r3 σ4 => some (r3, σ4)) else if (x1 : Int32) = 5 then bnd (fX8_lostOnes σ) (fun r5 σ6 => some (r5, σ6)) else if (x1 : Int32) = 6 then bnd (fX8_quarrels σ) (fun r7 σ8 => some (r7, σ8)) else if (x1 : Int32) = 7 then some (σ 0 13, σ) else if (x1 : Int32) = 8 then some (σ 1 1, σ) else if (x1 : Int32) = 9 then some (σ 10 2, σ) else some ((-1), σ)
set_option maxRecDepth 100000 in
set_option maxHeartbeats 4000000 in
theorem gX8_count (l : Launch) {D : va_G} {cI cZ : ClassId} {ad : Nat → Nat} {tT : Nat} (hi : INJ ad) (x1 : Int32) (σ : Mem) : GM l D cI cZ ad tT yX8_count cX8_count 2 (some .int) 5 114 rvi [.ref (ad 0), .int x1] σ (fX8_count x1 σ) := by
  refine gm_of (lv := [(0, .ref (ad 0)), (1, .int x1)]) (own := RX8) hi (by decide +kernel) rfl (Nat.le_of_ble_eq_true rfl) rfl ?_
  intro p e s m args below meth c A C ls hl
  unfold fX8_count
  refine r_iload_n C dX8_count_0 rfl (lv_at hl 1 rfl) ?_
  refine r_split (fun c0 => ?_) (fun c0 => ?_)
  · refine r_tableIn (off := 55) (tgt := 56) C dX8_count_1 (by rw [c0]; decide) (by rw [c0]; decide) (by rw [c0]; rfl) (by decide) ?_
    refine r_aload_n C dX8_count_56 rfl (lv_at hl 0 rfl) ?_
    refine r_getR C fl_X8_19 lf_0_1 dX8_count_57 ?_
    refine r_getIN C fn_X8_113 lf_4_1 dX8_count_60 ?_
    exact r_iret C rfl dX8_count_63
  · refine r_split (fun c1 => ?_) (fun c1 => ?_)
    · refine r_tableIn (off := 63) (tgt := 64) C dX8_count_1 (by rw [c1]; decide) (by rw [c1]; decide) (by rw [c1]; rfl) (by decide) ?_
      refine r_aload_n C dX8_count_64 rfl (lv_at hl 0 rfl) ?_
      refine r_getR C fl_X8_19 lf_0_1 dX8_count_65 ?_
      refine r_getIN C fn_X8_212 lf_4_2 dX8_count_68 ?_
      exact r_iret C rfl dX8_count_71
    · refine r_split (fun c2 => ?_) (fun c2 => ?_)
      · refine r_tableIn (off := 71) (tgt := 72) C dX8_count_1 (by rw [c2]; decide) (by rw [c2]; decide) (by rw [c2]; rfl) (by decide) ?_
        refine r_aload_n C dX8_count_72 rfl (lv_at hl 0 rfl) ?_
        refine r_getR C fl_X8_19 lf_0_1 dX8_count_73 ?_
        refine r_getIN C fn_X8_113 lf_4_1 dX8_count_76 ?_
        refine r_callSi (As := [.int (σ 4 1)]) (rest := []) C hl ml_X8_182 (gX8_treesOf l C.inj (σ 4 1) σ) ⟨Nat.le_of_ble_eq_true rfl, Nat.le_of_ble_eq_true rfl⟩ ⟨Nat.le_of_ble_eq_true rfl, Nat.le_of_ble_eq_true rfl⟩ rfl rfl (Nat.le_of_ble_eq_true rfl) dX8_count_79 (fun r1 σ2 => ?_)
        exact r_iret C rfl dX8_count_82
      · refine r_split (fun c3 => ?_) (fun c3 => ?_)
        · refine r_tableIn (off := 82) (tgt := 83) C dX8_count_1 (by rw [c3]; decide) (by rw [c3]; decide) (by rw [c3]; rfl) (by decide) ?_
          refine r_aload_n C dX8_count_83 rfl (lv_at hl 0 rfl) ?_
          refine r_getI C fl_X8_97 lf_0_14 dX8_count_84 ?_
          exact r_iret C rfl dX8_count_87
        · refine r_split (fun c4 => ?_) (fun c4 => ?_)
          · refine r_tableIn (off := 87) (tgt := 88) C dX8_count_1 (by rw [c4]; decide) (by rw [c4]; decide) (by rw [c4]; rfl) (by decide) ?_
            refine r_aload_n C dX8_count_88 rfl (lv_at hl 0 rfl) ?_
            refine r_getR C fl_X8_19 lf_0_1 dX8_count_89 ?_
            refine r_getIN C fn_X8_113 lf_4_1 dX8_count_92 ?_
            refine r_callSi (As := [.int (σ 4 1)]) (rest := []) C hl ml_X8_170 (gX8_edgesOf l C.inj (σ 4 1) σ) ⟨Nat.le_of_ble_eq_true rfl, Nat.le_of_ble_eq_true rfl⟩ ⟨Nat.le_of_ble_eq_true rfl, Nat.le_of_ble_eq_true rfl⟩ rfl rfl (Nat.le_of_ble_eq_true rfl) dX8_count_95 (fun r3 σ4 => ?_)
            exact r_iret C rfl dX8_count_98
          · refine r_split (fun c5 => ?_) (fun c5 => ?_)
            · refine r_tableIn (off := 98) (tgt := 99) C dX8_count_1 (by rw [c5]; decide) (by rw [c5]; decide) (by rw [c5]; rfl) (by decide) ?_
              refine r_aload_n C dX8_count_99 rfl (lv_at hl 0 rfl) ?_
              refine r_callVi (As := []) (rest := []) C hl ml_X8_245 rc_0 (gX8_lostOnes l C.inj σ) ⟨Nat.le_of_ble_eq_true rfl, Nat.le_of_ble_eq_true rfl⟩ ⟨Nat.le_of_ble_eq_true rfl, Nat.le_of_ble_eq_true rfl⟩ rfl rfl (Nat.le_of_ble_eq_true rfl) dX8_count_100 (fun r5 σ6 => ?_)
              exact r_iret C rfl dX8_count_103
            · refine r_split (fun c6 => ?_) (fun c6 => ?_)
              · refine r_tableIn (off := 103) (tgt := 104) C dX8_count_1 (by rw [c6]; decide) (by rw [c6]; decide) (by rw [c6]; rfl) (by decide) ?_
                refine r_aload_n C dX8_count_104 rfl (lv_at hl 0 rfl) ?_
                refine r_callVi (As := []) (rest := []) C hl ml_X8_248 rc_0 (gX8_quarrels l C.inj σ) ⟨Nat.le_of_ble_eq_true rfl, Nat.le_of_ble_eq_true rfl⟩ ⟨Nat.le_of_ble_eq_true rfl, Nat.le_of_ble_eq_true rfl⟩ rfl rfl (Nat.le_of_ble_eq_true rfl) dX8_count_105 (fun r7 σ8 => ?_)
                exact r_iret C rfl dX8_count_108
              · refine r_split (fun c7 => ?_) (fun c7 => ?_)
                · refine r_tableIn (off := 108) (tgt := 109) C dX8_count_1 (by rw [c7]; decide) (by rw [c7]; decide) (by rw [c7]; rfl) (by decide) ?_
                  refine r_aload_n C dX8_count_109 rfl (lv_at hl 0 rfl) ?_
                  refine r_getI C fl_X8_103 lf_0_13 dX8_count_110 ?_
                  exact r_iret C rfl dX8_count_113
                · refine r_split (fun c8 => ?_) (fun c8 => ?_)
                  · refine r_tableIn (off := 113) (tgt := 114) C dX8_count_1 (by rw [c8]; decide) (by rw [c8]; decide) (by rw [c8]; rfl) (by decide) ?_
                    refine r_aload_n C dX8_count_114 rfl (lv_at hl 0 rfl) ?_
                    refine r_getR C fl_X8_12 lf_0_0 dX8_count_115 ?_
                    refine r_getIN C fn_X8_82 lf_1_1 dX8_count_118 ?_
                    exact r_iret C rfl dX8_count_121
                  · refine r_split (fun c9 => ?_) (fun c9 => ?_)
                    · refine r_tableIn (off := 121) (tgt := 122) C dX8_count_1 (by rw [c9]; decide) (by rw [c9]; decide) (by rw [c9]; rfl) (by decide) ?_
                      refine r_aload_n C dX8_count_122 rfl (lv_at hl 0 rfl) ?_
                      refine r_getR C fl_X8_29 lf_0_3 dX8_count_123 ?_
                      refine r_getIN C fn_X8_100 lf_10_2 dX8_count_126 ?_
                      exact r_iret C rfl dX8_count_129
                    · have q0 : (x1 : Int32).toInt ≠ 0 := ne_toInt 0 c0 rfl
                      have q1 : (x1 : Int32).toInt ≠ 1 := ne_toInt 1 c1 rfl
                      have q2 : (x1 : Int32).toInt ≠ 2 := ne_toInt 2 c2 rfl
                      have q3 : (x1 : Int32).toInt ≠ 3 := ne_toInt 3 c3 rfl
                      have q4 : (x1 : Int32).toInt ≠ 4 := ne_toInt 4 c4 rfl
                      have q5 : (x1 : Int32).toInt ≠ 5 := ne_toInt 5 c5 rfl
                      have q6 : (x1 : Int32).toInt ≠ 6 := ne_toInt 6 c6 rfl
                      have q7 : (x1 : Int32).toInt ≠ 7 := ne_toInt 7 c7 rfl
                      have q8 : (x1 : Int32).toInt ≠ 8 := ne_toInt 8 c8 rfl
                      have q9 : (x1 : Int32).toInt ≠ 9 := ne_toInt 9 c9 rfl
                      refine r_tableOut (tgt := 130) C dX8_count_1 (by omega) (by decide) ?_
                      refine r_iconst (v := (-1)) C dX8_count_130 (by decide) ?_
                      exact r_iret C rfl dX8_count_131
