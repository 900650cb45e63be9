set_option maxRecDepth 100000 in
def fX9_directed (x1 : Int32) (x2 : Int32) (σ : Mem) : Option (Int32 × Mem) := bnd (fX9_isTree x1 σ) (fun r1 σ2 => if (r1 : Int32) = 0 then some ((-1), σ2) else bnd (fX9_edges σ2) (fun r3 σ4 => bnd (fX9_in x2 0 (r3 - 1) σ4) (fun r5 σ6 => if (r5 : Int32) = 0 then some ((-1), σ6) else bnd (fX9_directedOf x1 x2 σ6) (fun r7 σ8 => some (r7, σ8)))))
set_option maxRecDepth 100000 in
set_option maxHeartbeats 4000000 in
theorem gX9_directed (l : Launch) {D : va_G} {cI cZ : ClassId} {ad : Nat → Nat} {tT : Nat} (hi : INJ ad) (x1 : Int32) (x2 : Int32) (σ : Mem) : GM l D cI cZ ad tT yX9_directed cX9_directed 3 (some .int) 4 100 rvi [.ref (ad 50), .int x1, .int x2] σ (fX9_directed x1 x2 σ) := by
  refine gm_of (lv := [(0, .ref (ad 50)), (1, .int x1), (2, .int x2)]) (own := RX9) hi (by decide +kernel) rfl (Nat.le_of_ble_eq_true rfl) rfl ?_
  intro p e s m args below meth c A C ls hl
  unfold fX9_directed
  refine r_aload_n C dX9_directed_0 rfl (lv_at hl 0 rfl) ?_
  refine r_iload_n C dX9_directed_1 rfl (lv_at hl 1 rfl) ?_
  refine r_callVi (As := [.int x1]) (rest := []) C hl ml_X9_154 rc_50 (gX9_isTree l C.inj x1 σ) ⟨Nat.le_of_ble_eq_true rfl, Nat.le_of_ble_eq_true rfl⟩ ⟨Nat.le_of_ble_eq_true rfl, Nat.le_of_ble_eq_true rfl⟩ rfl rfl (Nat.le_of_ble_eq_true rfl) dX9_directed_2 (fun r1 σ2 => ?_)
  refine r_if_eq (tgt := 31) C dX9_directed_5 (by decide) ?_ ?_
  · refine r_iconst (v := (-1)) C dX9_directed_31 (by decide) ?_
    exact r_iret C rfl dX9_directed_32
  · refine r_iload_n C dX9_directed_8 rfl (lv_at hl 2 rfl) ?_
    refine r_iconst (v := 0) C dX9_directed_9 (by decide) ?_
    refine r_aload_n C dX9_directed_10 rfl (lv_at hl 0 rfl) ?_
    refine r_callVi (As := []) (rest := [.int 0, .int x2]) C hl ml_X9_160 rc_50 (gX9_edges l C.inj σ2) ⟨Nat.le_of_ble_eq_true rfl, Nat.le_of_ble_eq_true rfl⟩ ⟨Nat.le_of_ble_eq_true rfl, Nat.le_of_ble_eq_true rfl⟩ rfl rfl (Nat.le_of_ble_eq_true rfl) dX9_directed_11 (fun r3 σ4 => ?_)
    refine r_iconst (v := 1) C dX9_directed_14 (by decide) ?_
    refine r_isub C dX9_directed_15 ?_
    refine r_callSi (As := [.int x2, .int 0, .int (r3 - 1)]) (rest := []) C hl ml_X9_50 (gX9_in l C.inj x2 0 (r3 - 1) σ4) ⟨Nat.le_of_ble_eq_true rfl, Nat.le_of_ble_eq_true rfl⟩ ⟨Nat.le_of_ble_eq_true rfl, Nat.le_of_ble_eq_true rfl⟩ rfl rfl (Nat.le_of_ble_eq_true rfl) dX9_directed_16 (fun r5 σ6 => ?_)
    refine r_if_eq (tgt := 31) C dX9_directed_19 (by decide) ?_ ?_
    · refine r_iconst (v := (-1)) C dX9_directed_31 (by decide) ?_
      exact r_iret C rfl dX9_directed_32
    · refine r_aload_n C dX9_directed_22 rfl (lv_at hl 0 rfl) ?_
      refine r_iload_n C dX9_directed_23 rfl (lv_at hl 1 rfl) ?_
      refine r_iload_n C dX9_directed_24 rfl (lv_at hl 2 rfl) ?_
      refine r_callVi (As := [.int x1, .int x2]) (rest := []) C hl ml_X9_163 rc_50 (gX9_directedOf l C.inj x1 x2 σ6) ⟨Nat.le_of_ble_eq_true rfl, Nat.le_of_ble_eq_true rfl⟩ ⟨Nat.le_of_ble_eq_true rfl, Nat.le_of_ble_eq_true rfl⟩ rfl rfl (Nat.le_of_ble_eq_true rfl) dX9_directed_25 (fun r7 σ8 => ?_)
      refine r_goto (tgt := 32) C dX9_directed_28 (by decide) ?_
      exact r_iret C rfl dX9_directed_32

set_option maxRecDepth 100000 in
def BX9_root_20 (k70 : Int32 → Mem → Option (Int32 × Mem)) (rec : Int32 → Int32 → Int32 → Int32 → Mem → Option (Int32 × Mem)) (x1 : Int32) (x2 : Int32) (x3 : Int32) (x4 : Int32) (σ : Mem) : Option (Int32 × Mem) := bnd (fX9_edges σ) (fun r3 σ4 => if (r3 : Int32) ≤ x4 then k70 x2 σ4 else bnd (fX9_directedOf x1 x4 σ4) (fun r5 σ6 => jn (fun x1 x3 x4 x5 t0 σ7 => if (x3 : Int32) ≤ x5 then rec x1 t0 x3 (x4 + 1) σ7 else rec x1 t0 x5 (x4 + 1) σ7) (fun k50 => if (x3 : Int32) ≤ r5 then k50 x1 x3 x4 r5 x2 σ6 else k50 x1 x3 x4 r5 x4 σ6)))
def LX9_root_20 (k70 : Int32 → Mem → Option (Int32 × Mem)) : Nat → Int32 → Int32 → Int32 → Int32 → Mem → Option (Int32 × Mem)
  | 0 => fun _ _ _ _ _ => none
  | n + 1 => BX9_root_20 k70 (LX9_root_20 k70 n)
set_option maxRecDepth 100000 in
set_option maxHeartbeats 4000000 in
theorem wX9_root_20 {p : Program} {l : Launch} {e : Env} {s : State} {m : MethodId} {args : Array Value} {below : List Frame} {meth : Method} {c : Code} {D : va_G} {cI cZ : ClassId} {ad : Nat → Nat} {tT : Nat} {A : Nat → Prop} (C : CX p s m args meth c cX9_root 6 RX9 (some .int) D cI cZ ad tT A) (k70 : Int32 → Mem → Option (Int32 × Mem)) (hk70 : ∀ (x2 : Int32) (σ : Mem) (ls : Array Slot), lv_has ls 6 [(2, .int x2)] → WM p l e 4 100 s m args below meth c D cI cZ ad A rvi (k70 x2 σ) σ (F0 m 70 ls [])) :
    ∀ (n0 : Nat), ∀ (x1 : Int32) (x2 : Int32) (x3 : Int32) (x4 : Int32) (σ : Mem) (ls : Array Slot), lv_has ls 6 [(0, .ref (ad 50)), (1, .int x1), (2, .int x2), (3, .int x3), (4, .int x4)] → WM p l e 4 100 s m args below meth c D cI cZ ad A rvi (LX9_root_20 k70 n0 x1 x2 x3 x4 σ) σ (F0 m 20 ls []) := by
  intro n0
  induction n0 with
  | zero => intro x1 x2 x3 x4 σ ls hl; exact r_none
  | succ n0 ih =>
    intro x1 x2 x3 x4 σ ls hl
    show WM p l e 4 100 s m args below meth c D cI cZ ad A rvi (BX9_root_20 k70 (LX9_root_20 k70 n0) x1 x2 x3 x4 σ) σ (F0 m 20 ls [])
    unfold BX9_root_20
    refine r_iload C dX9_root_20 (lv_at hl 4 rfl) ?_
    refine r_aload_n C dX9_root_22 rfl (lv_at hl 0 rfl) ?_
    refine r_callVi (As := []) (rest := [.int x4]) C hl ml_X9_160 rc_50 (gX9_edges l C.inj σ) ⟨Nat.le_of_ble_eq_true rfl, Nat.le_of_ble_eq_true rfl⟩ ⟨Nat.le_of_ble_eq_true rfl, Nat.le_of_ble_eq_true rfl⟩ rfl rfl (Nat.le_of_ble_eq_true rfl) dX9_root_23 (fun r3 σ4 => ?_)
    refine r_icmp_ge (tgt := 70) C dX9_root_26 (by decide) ?_ ?_
    · exact hk70 x2 σ4 ls (lv_sub hl [2] rfl)
    · refine r_aload_n C dX9_root_29 rfl (lv_at hl 0 rfl) ?_
      refine r_iload_n C dX9_root_30 rfl (lv_at hl 1 rfl) ?_
      refine r_iload C dX9_root_31 (lv_at hl 4 rfl) ?_
      refine r_callVi (As := [.int x1, .int x4]) (rest := []) C hl ml_X9_163 rc_50 (gX9_directedOf l C.inj x1 x4 σ4) ⟨Nat.le_of_ble_eq_true rfl, Nat.le_of_ble_eq_true rfl⟩ ⟨Nat.le_of_ble_eq_true rfl, Nat.le_of_ble_eq_true rfl⟩ rfl rfl (Nat.le_of_ble_eq_true rfl) dX9_root_33 (fun r5 σ6 => ?_)
      refine r_istore (lv' := [(5, .int r5), (0, .ref (ad 50)), (1, .int x1), (2, .int x2), (3, .int x3), (4, .int x4)]) C dX9_root_36 hl (by decide) rfl (fun ls hl => ?_)
      refine r_iload C dX9_root_38 (lv_at hl 0 rfl) ?_
      refine r_iload_n C dX9_root_40 rfl (lv_at hl 4 rfl) ?_
      refine r_jn (fun (k50 : Int32 → Int32 → Int32 → Int32 → Int32 → Mem → Option (Int32 × Mem)) => ∀ (x1 : Int32) (x3 : Int32) (x4 : Int32) (x5 : Int32) (t0 : Int32) (σ : Mem) (ls : Array Slot), lv_has ls 6 [(0, .ref (ad 50)), (1, .int x1), (3, .int x3), (4, .int x4), (5, .int x5)] → WM p l e 4 100 s m args below meth c D cI cZ ad A rvi (k50 x1 x3 x4 x5 t0 σ) σ (F0 m 50 ls [.int t0])) ?_ ?_
      · intro x1 x3 x4 x5 t0 σ7 ls hl
        refine r_istore_n (lv' := [(2, .int t0), (0, .ref (ad 50)), (1, .int x1), (3, .int x3), (4, .int x4), (5, .int x5)]) C dX9_root_50 rfl hl (by decide) rfl (fun ls hl => ?_)
        refine r_iload C dX9_root_51 (lv_at hl 5 rfl) ?_
        refine r_iload_n C dX9_root_53 rfl (lv_at hl 3 rfl) ?_
        refine r_icmp_ge (tgt := 62) C dX9_root_54 (by decide) ?_ ?_
        · refine r_iload_n C dX9_root_62 rfl (lv_at hl 3 rfl) ?_
          refine r_istore_n (lv' := [(3, .int x3), (2, .int t0), (0, .ref (ad 50)), (1, .int x1), (4, .int x4), (5, .int x5)]) C dX9_root_63 rfl hl (by decide) rfl (fun ls hl => ?_)
          refine r_iinc (v := x4 + 1) (lv' := [(4, .int (x4 + 1)), (3, .int x3), (2, .int t0), (0, .ref (ad 50)), (1, .int x1), (5, .int x5)]) C dX9_root_64 hl (k := 4) rfl rfl (by decide) rfl (fun ls hl => ?_)
          refine r_goto (tgt := 20) C dX9_root_67 (by decide) ?_
          exact ih x1 t0 x3 (x4 + 1) σ7 ls (lv_sub hl [3, 4, 2, 1, 0] rfl)
        · refine r_iload C dX9_root_57 (lv_at hl 5 rfl) ?_
          refine r_goto (tgt := 63) C dX9_root_59 (by decide) ?_
          refine r_istore_n (lv' := [(3, .int x5), (2, .int t0), (0, .ref (ad 50)), (1, .int x1), (4, .int x4), (5, .int x5)]) C dX9_root_63 rfl hl (by decide) rfl (fun ls hl => ?_)
          refine r_iinc (v := x4 + 1) (lv' := [(4, .int (x4 + 1)), (3, .int x5), (2, .int t0), (0, .ref (ad 50)), (1, .int x1), (5, .int x5)]) C dX9_root_64 hl (k := 4) rfl rfl (by decide) rfl (fun ls hl => ?_)
          refine r_goto (tgt := 20) C dX9_root_67 (by decide) ?_
          exact ih x1 t0 x5 (x4 + 1) σ7 ls (lv_sub hl [3, 4, 2, 1, 0] rfl)
      · intro k50 hk50
        refine r_icmp_ge (tgt := 49) C dX9_root_41 (by decide) ?_ ?_
        · refine r_iload_n C dX9_root_49 rfl (lv_at hl 3 rfl) ?_
          exact hk50 x1 x3 x4 r5 x2 σ6 ls (lv_sub hl [1, 2, 4, 5, 0] rfl)
        · refine r_iload C dX9_root_44 (lv_at hl 5 rfl) ?_
          refine r_goto (tgt := 50) C dX9_root_46 (by decide) ?_
          exact hk50 x1 x3 x4 r5 x4 σ6 ls (lv_sub hl [1, 2, 4, 5, 0] rfl)
set_option maxRecDepth 100000 in
def fX9_root (x1 : Int32) (σ : Mem) : Option (Int32 × Mem) := bnd (fX9_isTree x1 σ) (fun r1 σ2 => if (r1 : Int32) = 0 then some ((-1), σ2) else LX9_root_20 (fun x2 σ8 => some (x2, σ8)) 300 x1 (-9) 9999 0 σ2)
set_option maxRecDepth 100000 in
set_option maxHeartbeats 4000000 in
theorem gX9_root (l : Launch) {D : va_G} {cI cZ : ClassId} {ad : Nat → Nat} {tT : Nat} (hi : INJ ad) (x1 : Int32) (σ : Mem) : GM l D cI cZ ad tT yX9_root cX9_root 6 (some .int) 4 100 rvi [.ref (ad 50), .int x1] σ (fX9_root x1 σ) := by
  refine gm_of (lv := [(0, .ref (ad 50)), (1, .int x1)]) (own := RX9) hi (by decide +kernel) rfl (Nat.le_of_ble_eq_true rfl) rfl ?_
  intro p e s m args below meth c A C ls hl
  unfold fX9_root
  refine r_aload_n C dX9_root_0 rfl (lv_at hl 0 rfl) ?_
  refine r_iload_n C dX9_root_1 rfl (lv_at hl 1 rfl) ?_
  refine r_callVi (As := [.int x1]) (rest := []) C hl ml_X9_154 rc_50 (gX9_isTree l C.inj x1 σ) ⟨Nat.le_of_ble_eq_true rfl, Nat.le_of_ble_eq_true rfl⟩ ⟨Nat.le_of_ble_eq_true rfl, Nat.le_of_ble_eq_true rfl⟩ rfl rfl (Nat.le_of_ble_eq_true rfl) dX9_root_2 (fun r1 σ2 => ?_)
  refine r_if_ne (tgt := 10) C dX9_root_5 (by decide) ?_ ?_
  · refine r_bipush (v := (-9)) C dX9_root_10 (by decide) ?_
    refine r_istore_n (lv' := [(2, .int (-9)), (0, .ref (ad 50)), (1, .int x1)]) C dX9_root_12 rfl hl (by decide) rfl (fun ls hl => ?_)
    refine r_sipush (v := 9999) C dX9_root_13 (by decide) ?_
    refine r_istore_n (lv' := [(3, .int 9999), (2, .int (-9)), (0, .ref (ad 50)), (1, .int x1)]) C dX9_root_16 rfl hl (by decide) rfl (fun ls hl => ?_)
    refine r_iconst (v := 0) C dX9_root_17 (by decide) ?_
    refine r_istore (lv' := [(4, .int 0), (3, .int 9999), (2, .int (-9)), (0, .ref (ad 50)), (1, .int x1)]) C dX9_root_18 hl (by decide) rfl (fun ls hl => ?_)
    refine wX9_root_20  C _ ?_ 300 x1 (-9) 9999 0 σ2 ls (lv_sub hl [3, 4, 2, 1, 0] rfl)
    · intro x2 σ8 ls hl
      refine r_iload_n C dX9_root_70 rfl (lv_at hl 0 rfl) ?_
      exact r_iret C rfl dX9_root_71
  · refine r_iconst (v := (-1)) C dX9_root_8 (by decide) ?_
    exact r_iret C rfl dX9_root_9

set_option maxRecDepth 100000 in
def BX9_fewest_6 (k52 : Int32 → Mem → Option (Int32 × Mem)) (rec : Int32 → Int32 → Mem → Option (Int32 × Mem)) (x1 : Int32) (x2 : Int32) (σ : Mem) : Option (Int32 × Mem) := bnd (fX9_trees σ) (fun r1 σ2 => if (r1 : Int32) ≤ x2 then k52 x1 σ2 else bnd (fX9_changesOf x2 σ2) (fun r3 σ4 => gd 105 x2 (letm (stm σ4 62 x2.toNatClampNeg r3) (fun σ5 => gd 105 x2 (if (x1 : Int32) ≤ (σ5 62 x2.toNatClampNeg) then rec x1 (x2 + 1) σ5 else gd 105 x2 (letv (σ5 62 x2.toNatClampNeg) (fun v6 => rec v6 (x2 + 1) σ5)))))))
def LX9_fewest_6 (k52 : Int32 → Mem → Option (Int32 × Mem)) : Nat → Int32 → Int32 → Mem → Option (Int32 × Mem)
  | 0 => fun _ _ _ => none
  | n + 1 => BX9_fewest_6 k52 (LX9_fewest_6 k52 n)
set_option maxRecDepth 100000 in
set_option maxHeartbeats 4000000 in
theorem wX9_fewest_6 {p : Program} {l : Launch} {e : Env} {s : State} {m : MethodId} {args : Array Value} {below : List Frame} {meth : Method} {c : Code} {D : va_G} {cI cZ : ClassId} {ad : Nat → Nat} {tT : Nat} {A : Nat → Prop} (C : CX p s m args meth c cX9_fewest 3 RX9 (some .int) D cI cZ ad tT A) (k52 : Int32 → Mem → Option (Int32 × Mem)) (hk52 : ∀ (x1 : Int32) (σ : Mem) (ls : Array Slot), lv_has ls 3 [(1, .int x1)] → WM p l e 5 119 s m args below meth c D cI cZ ad A rvi (k52 x1 σ) σ (F0 m 52 ls [])) :
    ∀ (n0 : Nat), ∀ (x1 : Int32) (x2 : Int32) (σ : Mem) (ls : Array Slot), lv_has ls 3 [(0, .ref (ad 50)), (1, .int x1), (2, .int x2)] → WM p l e 5 119 s m args below meth c D cI cZ ad A rvi (LX9_fewest_6 k52 n0 x1 x2 σ) σ (F0 m 6 ls []) := by
  intro n0
  induction n0 with
  | zero => intro x1 x2 σ ls hl; exact r_none
  | succ n0 ih =>
    intro x1 x2 σ ls hl
    show WM p l e 5 119 s m args below meth c D cI cZ ad A rvi (BX9_fewest_6 k52 (LX9_fewest_6 k52 n0) x1 x2 σ) σ (F0 m 6 ls [])
    unfold BX9_fewest_6
    refine r_iload_n C dX9_fewest_6 rfl (lv_at hl 2 rfl) ?_
    refine r_aload_n C dX9_fewest_7 rfl (lv_at hl 0 rfl) ?_
    refine r_callVi (As := []) (rest := [.int x2]) C hl ml_X9_150 rc_50 (gX9_trees l C.inj σ) ⟨Nat.le_of_ble_eq_true rfl, Nat.le_of_ble_eq_true rfl⟩ ⟨Nat.le_of_ble_eq_true rfl, Nat.le_of_ble_eq_true rfl⟩ rfl rfl (Nat.le_of_ble_eq_true rfl) dX9_fewest_8 (fun r1 σ2 => ?_)
    refine r_icmp_ge (tgt := 52) C dX9_fewest_11 (by decide) ?_ ?_
    · exact hk52 x1 σ2 ls (lv_sub hl [1] rfl)
    · refine r_aload_n C dX9_fewest_14 rfl (lv_at hl 0 rfl) ?_
      refine r_getR C fl_X9_44 lf_50_25 dX9_fewest_15 ?_
      refine r_iload_n C dX9_fewest_18 rfl (lv_at hl 2 rfl) ?_
      refine r_aload_n C dX9_fewest_19 rfl (lv_at hl 0 rfl) ?_
      refine r_iload_n C dX9_fewest_20 rfl (lv_at hl 2 rfl) ?_
      refine r_callVi (As := [.int x2]) (rest := [.int x2, .ref (ad 62)]) C hl ml_X9_157 rc_50 (gX9_changesOf l C.inj x2 σ2) ⟨Nat.le_of_ble_eq_true rfl, Nat.le_of_ble_eq_true rfl⟩ ⟨Nat.le_of_ble_eq_true rfl, Nat.le_of_ble_eq_true rfl⟩ rfl rfl (Nat.le_of_ble_eq_true rfl) dX9_fewest_21 (fun r3 σ4 => ?_)
      refine r_iast C la_62 dX9_fewest_24 ?_
      refine r_letm (fun σ5 => ?_)
      refine r_aload_n C dX9_fewest_25 rfl (lv_at hl 0 rfl) ?_
      refine r_getR C fl_X9_44 lf_50_25 dX9_fewest_26 ?_
      refine r_iload_n C dX9_fewest_29 rfl (lv_at hl 2 rfl) ?_
      refine r_iald C la_62 dX9_fewest_30 ?_
      refine r_iload_n C dX9_fewest_31 rfl (lv_at hl 1 rfl) ?_
      refine r_icmp_ge (tgt := 44) C dX9_fewest_32 (by decide) ?_ ?_
      · refine r_iload_n C dX9_fewest_44 rfl (lv_at hl 1 rfl) ?_
        refine r_istore_n (lv' := [(1, .int x1), (0, .ref (ad 50)), (2, .int x2)]) C dX9_fewest_45 rfl hl (by decide) rfl (fun ls hl => ?_)
        refine r_iinc (v := x2 + 1) (lv' := [(2, .int (x2 + 1)), (1, .int x1), (0, .ref (ad 50))]) C dX9_fewest_46 hl (k := 2) rfl rfl (by decide) rfl (fun ls hl => ?_)
        refine r_goto (tgt := 6) C dX9_fewest_49 (by decide) ?_
        exact ih x1 (x2 + 1) σ5 ls (lv_sub hl [2, 1, 0] rfl)
      · refine r_aload_n C dX9_fewest_35 rfl (lv_at hl 0 rfl) ?_
        refine r_getR C fl_X9_44 lf_50_25 dX9_fewest_36 ?_
        refine r_iload_n C dX9_fewest_39 rfl (lv_at hl 2 rfl) ?_
        refine r_iald C la_62 dX9_fewest_40 ?_
        refine r_goto (tgt := 45) C dX9_fewest_41 (by decide) ?_
        refine r_letv (fun v6 => ?_)
        refine r_istore_n (lv' := [(1, .int v6), (0, .ref (ad 50)), (2, .int x2)]) C dX9_fewest_45 rfl hl (by decide) rfl (fun ls hl => ?_)
        refine r_iinc (v := x2 + 1) (lv' := [(2, .int (x2 + 1)), (1, .int v6), (0, .ref (ad 50))]) C dX9_fewest_46 hl (k := 2) rfl rfl (by decide) rfl (fun ls hl => ?_)
        refine r_goto (tgt := 6) C dX9_fewest_49 (by decide) ?_
        exact ih v6 (x2 + 1) σ5 ls (lv_sub hl [2, 1, 0] rfl)
set_option maxRecDepth 100000 in
def fX9_fewest (σ : Mem) : Option (Int32 × Mem) := LX9_fewest_6 (fun x1 σ7 => some (x1, σ7)) 300 9999 0 σ
set_option maxRecDepth 100000 in
set_option maxHeartbeats 4000000 in
theorem gX9_fewest (l : Launch) {D : va_G} {cI cZ : ClassId} {ad : Nat → Nat} {tT : Nat} (hi : INJ ad) (σ : Mem) : GM l D cI cZ ad tT yX9_fewest cX9_fewest 3 (some .int) 5 119 rvi [.ref (ad 50)] σ (fX9_fewest σ) := by
  refine gm_of (lv := [(0, .ref (ad 50))]) (own := RX9) hi (by decide +kernel) rfl (Nat.le_of_ble_eq_true rfl) rfl ?_
  intro p e s m args below meth c A C ls hl
  unfold fX9_fewest
  refine r_sipush (v := 9999) C dX9_fewest_0 (by decide) ?_
  refine r_istore_n (lv' := [(1, .int 9999), (0, .ref (ad 50))]) C dX9_fewest_3 rfl hl (by decide) rfl (fun ls hl => ?_)
  refine r_iconst (v := 0) C dX9_fewest_4 (by decide) ?_
  refine r_istore_n (lv' := [(2, .int 0), (1, .int 9999), (0, .ref (ad 50))]) C dX9_fewest_5 rfl hl (by decide) rfl (fun ls hl => ?_)
  refine wX9_fewest_6  C _ ?_ 300 9999 0 σ ls (lv_sub hl [2, 1, 0] rfl)
  · intro x1 σ7 ls hl
    refine r_iload_n C dX9_fewest_52 rfl (lv_at hl 0 rfl) ?_
    exact r_iret C rfl dX9_fewest_53

set_option maxRecDepth 100000 in
def BX9_rank_26 (k87 : Int32 → Int32 → Int32 → Mem → Option (Int32 × Mem)) (rec : Int32 → Int32 → Int32 → Int32 → Mem → Option (Int32 × Mem)) (x1 : Int32) (x2 : Int32) (x3 : Int32) (x4 : Int32) (σ : Mem) : Option (Int32 × Mem) := bnd (fX9_trees σ) (fun r5 σ6 => if (r5 : Int32) ≤ x4 then k87 x1 x2 x3 σ6 else gd 105 x4 (gd 105 x2 (jn (fun x1 x2 x4 t0 σ7 => letv (t0 + 1) (fun v8 => rec x1 x2 v8 (x4 + 1) σ7)) (fun k74 => if (σ6 62 x4.toNatClampNeg : Int32) < (σ6 62 x2.toNatClampNeg) then k74 x1 x2 x4 x3 σ6 else gd 105 x4 (gd 105 x2 (if (σ6 62 x4.toNatClampNeg : Int32) = (σ6 62 x2.toNatClampNeg) then if (x2 : Int32) ≤ x4 then letv (x3 + 0) (fun v10 => rec x1 x2 v10 (x4 + 1) σ6) else k74 x1 x2 x4 x3 σ6 else letv (x3 + 0) (fun v9 => rec x1 x2 v9 (x4 + 1) σ6)))))))
def LX9_rank_26 (k87 : Int32 → Int32 → Int32 → Mem → Option (Int32 × Mem)) : Nat → Int32 → Int32 → Int32 → Int32 → Mem → Option (Int32 × Mem)
  | 0 => fun _ _ _ _ _ => none
  | n + 1 => BX9_rank_26 k87 (LX9_rank_26 k87 n)
set_option maxRecDepth 100000 in
set_option maxHeartbeats 4000000 in
theorem wX9_rank_26 {p : Program} {l : Launch} {e : Env} {s : State} {m : MethodId} {args : Array Value} {below : List Frame} {meth : Method} {c : Code} {D : va_G} {cI cZ : ClassId} {ad : Nat → Nat} {tT : Nat} {A : Nat → Prop} (C : CX p s m args meth c cX9_rank 5 RX9 (some .int) D cI cZ ad tT A) (k87 : Int32 → Int32 → Int32 → Mem → Option (Int32 × Mem)) (hk87 : ∀ (x1 : Int32) (x2 : Int32) (x3 : Int32) (σ : Mem) (ls : Array Slot), lv_has ls 5 [(0, .ref (ad 50)), (1, .int x1), (2, .int x2), (3, .int x3)] → WM p l e 6 141 s m args below meth c D cI cZ ad A rvi (k87 x1 x2 x3 σ) σ (F0 m 87 ls [])) :
    ∀ (n0 : Nat), ∀ (x1 : Int32) (x2 : Int32) (x3 : Int32) (x4 : Int32) (σ : Mem) (ls : Array Slot), lv_has ls 5 [(0, .ref (ad 50)), (1, .int x1), (2, .int x2), (3, .int x3), (4, .int x4)] → WM p l e 6 141 s m args below meth c D cI cZ ad A rvi (LX9_rank_26 k87 n0 x1 x2 x3 x4 σ) σ (F0 m 26 ls []) := by
  intro n0
  induction n0 with
  | zero => intro x1 x2 x3 x4 σ ls hl; exact r_none
  | succ n0 ih =>
    intro x1 x2 x3 x4 σ ls hl
    show WM p l e 6 141 s m args below meth c D cI cZ ad A rvi (BX9_rank_26 k87 (LX9_rank_26 k87 n0) x1 x2 x3 x4 σ) σ (F0 m 26 ls [])
    unfold BX9_rank_26
    refine r_iload C dX9_rank_26 (lv_at hl 4 rfl) ?_
    refine r_aload_n C dX9_rank_28 rfl (lv_at hl 0 rfl) ?_
    refine r_callVi (As := []) (rest := [.int x4]) C hl ml_X9_150 rc_50 (gX9_trees l C.inj σ) ⟨Nat.le_of_ble_eq_true rfl, Nat.le_of_ble_eq_true rfl⟩ ⟨Nat.le_of_ble_eq_true rfl, Nat.le_of_ble_eq_true rfl⟩ rfl rfl (Nat.le_of_ble_eq_true rfl) dX9_rank_29 (fun r5 σ6 => ?_)
    refine r_icmp_ge (tgt := 87) C dX9_rank_32 (by decide) ?_ ?_
    · exact hk87 x1 x2 x3 σ6 ls (lv_sub hl [0, 1, 2, 3] rfl)
    · refine r_iload_n C dX9_rank_35 rfl (lv_at hl 3 rfl) ?_
      refine r_aload_n C dX9_rank_36 rfl (lv_at hl 0 rfl) ?_
      refine r_getR C fl_X9_44 lf_50_25 dX9_rank_37 ?_
      refine r_iload C dX9_rank_40 (lv_at hl 4 rfl) ?_
      refine r_iald C la_62 dX9_rank_42 ?_
      refine r_aload_n C dX9_rank_43 rfl (lv_at hl 0 rfl) ?_
      refine r_getR C fl_X9_44 lf_50_25 dX9_rank_44 ?_
      refine r_iload_n C dX9_rank_47 rfl (lv_at hl 2 rfl) ?_
      refine r_iald C la_62 dX9_rank_48 ?_
      refine r_jn (fun (k74 : Int32 → Int32 → Int32 → Int32 → Mem → Option (Int32 × Mem)) => ∀ (x1 : Int32) (x2 : Int32) (x4 : Int32) (t0 : Int32) (σ : Mem) (ls : Array Slot), lv_has ls 5 [(0, .ref (ad 50)), (1, .int x1), (2, .int x2), (4, .int x4)] → WM p l e 6 141 s m args below meth c D cI cZ ad A rvi (k74 x1 x2 x4 t0 σ) σ (F0 m 74 ls [.int t0])) ?_ ?_
      · intro x1 x2 x4 t0 σ7 ls hl
        refine r_iconst (v := 1) C dX9_rank_74 (by decide) ?_
        refine r_goto (tgt := 79) C dX9_rank_75 (by decide) ?_
        refine r_iadd C dX9_rank_79 ?_
        refine r_letv (fun v8 => ?_)
        refine r_istore_n (lv' := [(3, .int v8), (0, .ref (ad 50)), (1, .int x1), (2, .int x2), (4, .int x4)]) C dX9_rank_80 rfl hl (by decide) rfl (fun ls hl => ?_)
        refine r_iinc (v := x4 + 1) (lv' := [(4, .int (x4 + 1)), (3, .int v8), (0, .ref (ad 50)), (1, .int x1), (2, .int x2)]) C dX9_rank_81 hl (k := 4) rfl rfl (by decide) rfl (fun ls hl => ?_)
        refine r_goto (tgt := 26) C dX9_rank_84 (by decide) ?_
        exact ih x1 x2 v8 (x4 + 1) σ7 ls (lv_sub hl [2, 3, 4, 1, 0] rfl)
      · intro k74 hk74
        refine r_icmp_lt (tgt := 74) C dX9_rank_49 (by decide) ?_ ?_
        · exact hk74 x1 x2 x4 x3 σ6 ls (lv_sub hl [0, 1, 2, 4] rfl)
        · refine r_aload_n C dX9_rank_52 rfl (lv_at hl 0 rfl) ?_
          refine r_getR C fl_X9_44 lf_50_25 dX9_rank_53 ?_
          refine r_iload C dX9_rank_56 (lv_at hl 4 rfl) ?_
          refine r_iald C la_62 dX9_rank_58 ?_
          refine r_aload_n C dX9_rank_59 rfl (lv_at hl 0 rfl) ?_
          refine r_getR C fl_X9_44 lf_50_25 dX9_rank_60 ?_
          refine r_iload_n C dX9_rank_63 rfl (lv_at hl 2 rfl) ?_
          refine r_iald C la_62 dX9_rank_64 ?_
          refine r_icmp_ne (tgt := 78) C dX9_rank_65 (by decide) ?_ ?_
          · refine r_iconst (v := 0) C dX9_rank_78 (by decide) ?_
            refine r_iadd C dX9_rank_79 ?_
            refine r_letv (fun v9 => ?_)
            refine r_istore_n (lv' := [(3, .int v9), (0, .ref (ad 50)), (1, .int x1), (2, .int x2), (4, .int x4)]) C dX9_rank_80 rfl hl (by decide) rfl (fun ls hl => ?_)
            refine r_iinc (v := x4 + 1) (lv' := [(4, .int (x4 + 1)), (3, .int v9), (0, .ref (ad 50)), (1, .int x1), (2, .int x2)]) C dX9_rank_81 hl (k := 4) rfl rfl (by decide) rfl (fun ls hl => ?_)
            refine r_goto (tgt := 26) C dX9_rank_84 (by decide) ?_
            exact ih x1 x2 v9 (x4 + 1) σ6 ls (lv_sub hl [2, 3, 4, 1, 0] rfl)
          · refine r_iload C dX9_rank_68 (lv_at hl 4 rfl) ?_
            refine r_iload_n C dX9_rank_70 rfl (lv_at hl 2 rfl) ?_
            refine r_icmp_ge (tgt := 78) C dX9_rank_71 (by decide) ?_ ?_
            · refine r_iconst (v := 0) C dX9_rank_78 (by decide) ?_
              refine r_iadd C dX9_rank_79 ?_
              refine r_letv (fun v10 => ?_)
              refine r_istore_n (lv' := [(3, .int v10), (0, .ref (ad 50)), (1, .int x1), (2, .int x2), (4, .int x4)]) C dX9_rank_80 rfl hl (by decide) rfl (fun ls hl => ?_)
              refine r_iinc (v := x4 + 1) (lv' := [(4, .int (x4 + 1)), (3, .int v10), (0, .ref (ad 50)), (1, .int x1), (2, .int x2)]) C dX9_rank_81 hl (k := 4) rfl rfl (by decide) rfl (fun ls hl => ?_)
              refine r_goto (tgt := 26) C dX9_rank_84 (by decide) ?_
              exact ih x1 x2 v10 (x4 + 1) σ6 ls (lv_sub hl [2, 3, 4, 1, 0] rfl)
            · exact hk74 x1 x2 x4 x3 σ6 ls (lv_sub hl [0, 1, 2, 4] rfl)
set_option maxRecDepth 100000 in
def BX9_rank_13 (k100 : Mem → Option (Int32 × Mem)) (rec : Int32 → Int32 → Mem → Option (Int32 × Mem)) (x1 : Int32) (x2 : Int32) (σ : Mem) : Option (Int32 × Mem) := bnd (fX9_trees σ) (fun r3 σ4 => if (r3 : Int32) ≤ x2 then k100 σ4 else LX9_rank_26 (fun x1 x2 x3 σ11 => if (x3 : Int32) = x1 then some (x2, σ11) else rec x1 (x2 + 1) σ11) 300 x1 x2 0 0 σ4)
def LX9_rank_13 (k100 : Mem → Option (Int32 × Mem)) : Nat → Int32 → Int32 → Mem → Option (Int32 × Mem)
  | 0 => fun _ _ _ => none
  | n + 1 => BX9_rank_13 k100 (LX9_rank_13 k100 n)
set_option maxRecDepth 100000 in
set_option maxHeartbeats 4000000 in
theorem wX9_rank_13 {p : Program} {l : Launch} {e : Env} {s : State} {m : MethodId} {args : Array Value} {below : List Frame} {meth : Method} {c : Code} {D : va_G} {cI cZ : ClassId} {ad : Nat → Nat} {tT : Nat} {A : Nat → Prop} (C : CX p s m args meth c cX9_rank 5 RX9 (some .int) D cI cZ ad tT A) (k100 : Mem → Option (Int32 × Mem)) (hk100 : ∀ (σ : Mem) (ls : Array Slot), lv_has ls 5 [] → WM p l e 6 141 s m args below meth c D cI cZ ad A rvi (k100 σ) σ (F0 m 100 ls [])) :
    ∀ (n0 : Nat), ∀ (x1 : Int32) (x2 : Int32) (σ : Mem) (ls : Array Slot), lv_has ls 5 [(0, .ref (ad 50)), (1, .int x1), (2, .int x2)] → WM p l e 6 141 s m args below meth c D cI cZ ad A rvi (LX9_rank_13 k100 n0 x1 x2 σ) σ (F0 m 13 ls []) := by
  intro n0
  induction n0 with
  | zero => intro x1 x2 σ ls hl; exact r_none
  | succ n0 ih =>
    intro x1 x2 σ ls hl
    show WM p l e 6 141 s m args below meth c D cI cZ ad A rvi (BX9_rank_13 k100 (LX9_rank_13 k100 n0) x1 x2 σ) σ (F0 m 13 ls [])
    unfold BX9_rank_13
    refine r_iload_n C dX9_rank_13 rfl (lv_at hl 2 rfl) ?_
    refine r_aload_n C dX9_rank_14 rfl (lv_at hl 0 rfl) ?_
    refine r_callVi (As := []) (rest := [.int x2]) C hl ml_X9_150 rc_50 (gX9_trees l C.inj σ) ⟨Nat.le_of_ble_eq_true rfl, Nat.le_of_ble_eq_true rfl⟩ ⟨Nat.le_of_ble_eq_true rfl, Nat.le_of_ble_eq_true rfl⟩ rfl rfl (Nat.le_of_ble_eq_true rfl) dX9_rank_15 (fun r3 σ4 => ?_)
    refine r_icmp_ge (tgt := 100) C dX9_rank_18 (by decide) ?_ ?_
    · exact hk100 σ4 ls (lv_sub hl [] rfl)
    · refine r_iconst (v := 0) C dX9_rank_21 (by decide) ?_
      refine r_istore_n (lv' := [(3, .int 0), (0, .ref (ad 50)), (1, .int x1), (2, .int x2)]) C dX9_rank_22 rfl hl (by decide) rfl (fun ls hl => ?_)
      refine r_iconst (v := 0) C dX9_rank_23 (by decide) ?_
      refine r_istore (lv' := [(4, .int 0), (3, .int 0), (0, .ref (ad 50)), (1, .int x1), (2, .int x2)]) C dX9_rank_24 hl (by decide) rfl (fun ls hl => ?_)
      refine wX9_rank_26  C _ ?_ 300 x1 x2 0 0 σ4 ls (lv_sub hl [2, 3, 4, 1, 0] rfl)
      · intro x1 x2 x3 σ11 ls hl
        refine r_iload_n C dX9_rank_87 rfl (lv_at hl 3 rfl) ?_
        refine r_iload_n C dX9_rank_88 rfl (lv_at hl 1 rfl) ?_
        refine r_icmp_ne (tgt := 94) C dX9_rank_89 (by decide) ?_ ?_
        · refine r_iinc (v := x2 + 1) (lv' := [(2, .int (x2 + 1)), (0, .ref (ad 50)), (1, .int x1), (3, .int x3)]) C dX9_rank_94 hl (k := 2) rfl rfl (by decide) rfl (fun ls hl => ?_)
          refine r_goto (tgt := 13) C dX9_rank_97 (by decide) ?_
          exact ih x1 (x2 + 1) σ11 ls (lv_sub hl [1, 2, 0] rfl)
        · refine r_iload_n C dX9_rank_92 rfl (lv_at hl 2 rfl) ?_
          exact r_iret C rfl dX9_rank_93
set_option maxRecDepth 100000 in
def fX9_rank (x1 : Int32) (σ : Mem) : Option (Int32 × Mem) := if (0 : Int32) ≤ x1 then bnd (fX9_fewest σ) (fun r1 σ2 => LX9_rank_13 (fun σ12 => some ((-9), σ12)) 300 x1 0 σ2) else some ((-1), σ)
set_option maxRecDepth 100000 in
set_option maxHeartbeats 4000000 in
theorem gX9_rank (l : Launch) {D : va_G} {cI cZ : ClassId} {ad : Nat → Nat} {tT : Nat} (hi : INJ ad) (x1 : Int32) (σ : Mem) : GM l D cI cZ ad tT yX9_rank cX9_rank 5 (some .int) 6 141 rvi [.ref (ad 50), .int x1] σ (fX9_rank x1 σ) := by
  refine gm_of (lv := [(0, .ref (ad 50)), (1, .int x1)]) (own := RX9) hi (by decide +kernel) rfl (Nat.le_of_ble_eq_true rfl) rfl ?_
  intro p e s m args below meth c A C ls hl
  unfold fX9_rank
  refine r_iload_n C dX9_rank_0 rfl (lv_at hl 1 rfl) ?_
  refine r_if_ge (tgt := 6) C dX9_rank_1 (by decide) ?_ ?_
  · refine r_aload_n C dX9_rank_6 rfl (lv_at hl 0 rfl) ?_
    refine r_callVi (As := []) (rest := []) C hl ml_X9_166 rc_50 (gX9_fewest l C.inj σ) ⟨Nat.le_of_ble_eq_true rfl, Nat.le_of_ble_eq_true rfl⟩ ⟨Nat.le_of_ble_eq_true rfl, Nat.le_of_ble_eq_true rfl⟩ rfl rfl (Nat.le_of_ble_eq_true rfl) dX9_rank_7 (fun r1 σ2 => ?_)
    refine r_pop C dX9_rank_10 rfl ?_
    refine r_iconst (v := 0) C dX9_rank_11 (by decide) ?_
    refine r_istore_n (lv' := [(2, .int 0), (0, .ref (ad 50)), (1, .int x1)]) C dX9_rank_12 rfl hl (by decide) rfl (fun ls hl => ?_)
    refine wX9_rank_13  C _ ?_ 300 x1 0 σ2 ls (lv_sub hl [1, 2, 0] rfl)
    · intro σ12 ls hl
      refine r_bipush (v := (-9)) C dX9_rank_100 (by decide) ?_
      exact r_iret C rfl dX9_rank_102
  · refine r_iconst (v := (-1)) C dX9_rank_4 (by decide) ?_
    exact r_iret C rfl dX9_rank_5

set_option maxRecDepth 100000 in
def BX9_bound_17 (k44 : Int32 → Int32 → Int32 → Mem → Option (Int32 × Mem)) (rec : Int32 → Int32 → Int32 → Int32 → Mem → Option (Int32 × Mem)) (x1 : Int32) (x2 : Int32) (x3 : Int32) (x4 : Int32) (σ : Mem) : Option (Int32 × Mem) := if (σ 50 0 : Int32) ≤ x4 then k44 x1 x2 x3 σ else bnd (fX9_readingOf x4 x2 σ) (fun r1 σ2 => letv (x3 ||| ((1 : Int32) <<< (r1 &&& 31))) (fun v3 => rec x1 x2 v3 (x4 + 1) σ2))
def LX9_bound_17 (k44 : Int32 → Int32 → Int32 → Mem → Option (Int32 × Mem)) : Nat → Int32 → Int32 → Int32 → Int32 → Mem → Option (Int32 × Mem)
  | 0 => fun _ _ _ _ _ => none
  | n + 1 => BX9_bound_17 k44 (LX9_bound_17 k44 n)
set_option maxRecDepth 100000 in
set_option maxHeartbeats 4000000 in
theorem wX9_bound_17 {p : Program} {l : Launch} {e : Env} {s : State} {m : MethodId} {args : Array Value} {below : List Frame} {meth : Method} {c : Code} {D : va_G} {cI cZ : ClassId} {ad : Nat → Nat} {tT : Nat} {A : Nat → Prop} (C : CX p s m args meth c cX9_bound 6 RX9 (some .int) D cI cZ ad tT A) (k44 : Int32 → Int32 → Int32 → Mem → Option (Int32 × Mem)) (hk44 : ∀ (x1 : Int32) (x2 : Int32) (x3 : Int32) (σ : Mem) (ls : Array Slot), lv_has ls 6 [(0, .ref (ad 50)), (1, .int x1), (2, .int x2), (3, .int x3)] → WM p l e 1 22 s m args below meth c D cI cZ ad A rvi (k44 x1 x2 x3 σ) σ (F0 m 44 ls [])) :
    ∀ (n0 : Nat), ∀ (x1 : Int32) (x2 : Int32) (x3 : Int32) (x4 : Int32) (σ : Mem) (ls : Array Slot), lv_has ls 6 [(0, .ref (ad 50)), (1, .int x1), (2, .int x2), (3, .int x3), (4, .int x4)] → WM p l e 1 22 s m args below meth c D cI cZ ad A rvi (LX9_bound_17 k44 n0 x1 x2 x3 x4 σ) σ (F0 m 17 ls []) := by
  intro n0
  induction n0 with
  | zero => intro x1 x2 x3 x4 σ ls hl; exact r_none
  | succ n0 ih =>
    intro x1 x2 x3 x4 σ ls hl
    show WM p l e 1 22 s m args below meth c D cI cZ ad A rvi (BX9_bound_17 k44 (LX9_bound_17 k44 n0) x1 x2 x3 x4 σ) σ (F0 m 17 ls [])
    unfold BX9_bound_17
    refine r_iload C dX9_bound_17 (lv_at hl 4 rfl) ?_
    refine r_aload_n C dX9_bound_19 rfl (lv_at hl 0 rfl) ?_
    refine r_getI C fl_X9_86 lf_50_0 dX9_bound_20 ?_
    refine r_icmp_ge (tgt := 44) C dX9_bound_23 (by decide) ?_ ?_
    · exact hk44 x1 x2 x3 σ ls (lv_sub hl [0, 1, 2, 3] rfl)
    · refine r_iload_n C dX9_bound_26 rfl (lv_at hl 3 rfl) ?_
      refine r_iconst (v := 1) C dX9_bound_27 (by decide) ?_
      refine r_aload_n C dX9_bound_28 rfl (lv_at hl 0 rfl) ?_
      refine r_iload C dX9_bound_29 (lv_at hl 4 rfl) ?_
      refine r_iload_n C dX9_bound_31 rfl (lv_at hl 2 rfl) ?_
      refine r_callVi (As := [.int x4, .int x2]) (rest := [.int 1, .int x3]) C hl ml_X9_105 rc_50 (gX9_readingOf l C.inj x4 x2 σ) ⟨Nat.le_of_ble_eq_true rfl, Nat.le_of_ble_eq_true rfl⟩ ⟨Nat.le_of_ble_eq_true rfl, Nat.le_of_ble_eq_true rfl⟩ rfl rfl (Nat.le_of_ble_eq_true rfl) dX9_bound_32 (fun r1 σ2 => ?_)
      refine r_ishl C dX9_bound_35 ?_
      refine r_ior C dX9_bound_36 ?_
      refine r_letv (fun v3 => ?_)
      refine r_istore_n (lv' := [(3, .int v3), (0, .ref (ad 50)), (1, .int x1), (2, .int x2), (4, .int x4)]) C dX9_bound_37 rfl hl (by decide) rfl (fun ls hl => ?_)
      refine r_iinc (v := x4 + 1) (lv' := [(4, .int (x4 + 1)), (3, .int v3), (0, .ref (ad 50)), (1, .int x1), (2, .int x2)]) C dX9_bound_38 hl (k := 4) rfl rfl (by decide) rfl (fun ls hl => ?_)
      refine r_goto (tgt := 17) C dX9_bound_41 (by decide) ?_
      exact ih x1 x2 v3 (x4 + 1) σ2 ls (lv_sub hl [2, 3, 4, 1, 0] rfl)
set_option maxRecDepth 100000 in
def BX9_bound_50 (k81 : Int32 → Int32 → Int32 → Mem → Option (Int32 × Mem)) (rec : Int32 → Int32 → Int32 → Int32 → Int32 → Mem → Option (Int32 × Mem)) (x1 : Int32) (x2 : Int32) (x3 : Int32) (x4 : Int32) (x5 : Int32) (σ : Mem) : Option (Int32 × Mem) := if (4 : Int32) ≤ x5 then k81 x1 x2 x4 σ else bnd (fX9_has x3 x5 σ) (fun r5 σ6 => if (r5 : Int32) = 0 then letv (x4 + 0) (fun v7 => rec x1 x2 x3 v7 (x5 + 1) σ6) else letv (x4 + 1) (fun v8 => rec x1 x2 x3 v8 (x5 + 1) σ6))
def LX9_bound_50 (k81 : Int32 → Int32 → Int32 → Mem → Option (Int32 × Mem)) : Nat → Int32 → Int32 → Int32 → Int32 → Int32 → Mem → Option (Int32 × Mem)
  | 0 => fun _ _ _ _ _ _ => none
  | n + 1 => BX9_bound_50 k81 (LX9_bound_50 k81 n)
set_option maxRecDepth 100000 in
set_option maxHeartbeats 4000000 in
theorem wX9_bound_50 {p : Program} {l : Launch} {e : Env} {s : State} {m : MethodId} {args : Array Value} {below : List Frame} {meth : Method} {c : Code} {D : va_G} {cI cZ : ClassId} {ad : Nat → Nat} {tT : Nat} {A : Nat → Prop} (C : CX p s m args meth c cX9_bound 6 RX9 (some .int) D cI cZ ad tT A) (k81 : Int32 → Int32 → Int32 → Mem → Option (Int32 × Mem)) (hk81 : ∀ (x1 : Int32) (x2 : Int32) (x4 : Int32) (σ : Mem) (ls : Array Slot), lv_has ls 6 [(0, .ref (ad 50)), (1, .int x1), (2, .int x2), (4, .int x4)] → WM p l e 1 22 s m args below meth c D cI cZ ad A rvi (k81 x1 x2 x4 σ) σ (F0 m 81 ls [])) :
    ∀ (n0 : Nat), ∀ (x1 : Int32) (x2 : Int32) (x3 : Int32) (x4 : Int32) (x5 : Int32) (σ : Mem) (ls : Array Slot), lv_has ls 6 [(0, .ref (ad 50)), (1, .int x1), (2, .int x2), (3, .int x3), (4, .int x4), (5, .int x5)] → WM p l e 1 22 s m args below meth c D cI cZ ad A rvi (LX9_bound_50 k81 n0 x1 x2 x3 x4 x5 σ) σ (F0 m 50 ls []) := by
  intro n0
  induction n0 with
  | zero => intro x1 x2 x3 x4 x5 σ ls hl; exact r_none
  | succ n0 ih =>
    intro x1 x2 x3 x4 x5 σ ls hl
    show WM p l e 1 22 s m args below meth c D cI cZ ad A rvi (BX9_bound_50 k81 (LX9_bound_50 k81 n0) x1 x2 x3 x4 x5 σ) σ (F0 m 50 ls [])
    unfold BX9_bound_50
    refine r_iload C dX9_bound_50 (lv_at hl 5 rfl) ?_
    refine r_iconst (v := 4) C dX9_bound_52 (by decide) ?_
    refine r_icmp_ge (tgt := 81) C dX9_bound_53 (by decide) ?_ ?_
    · exact hk81 x1 x2 x4 σ ls (lv_sub hl [0, 1, 2, 4] rfl)
    · refine r_iload C dX9_bound_56 (lv_at hl 4 rfl) ?_
      refine r_iload_n C dX9_bound_58 rfl (lv_at hl 3 rfl) ?_
      refine r_iload C dX9_bound_59 (lv_at hl 5 rfl) ?_
      refine r_callSi (As := [.int x3, .int x5]) (rest := [.int x4]) C hl ml_X9_169 (gX9_has l C.inj x3 x5 σ) ⟨Nat.le_of_ble_eq_true rfl, Nat.le_of_ble_eq_true rfl⟩ ⟨Nat.le_of_ble_eq_true rfl, Nat.le_of_ble_eq_true rfl⟩ rfl rfl (Nat.le_of_ble_eq_true rfl) dX9_bound_61 (fun r5 σ6 => ?_)
      refine r_if_eq (tgt := 71) C dX9_bound_64 (by decide) ?_ ?_
      · refine r_iconst (v := 0) C dX9_bound_71 (by decide) ?_
        refine r_iadd C dX9_bound_72 ?_
        refine r_letv (fun v7 => ?_)
        refine r_istore (lv' := [(4, .int v7), (0, .ref (ad 50)), (1, .int x1), (2, .int x2), (3, .int x3), (5, .int x5)]) C dX9_bound_73 hl (by decide) rfl (fun ls hl => ?_)
        refine r_iinc (v := x5 + 1) (lv' := [(5, .int (x5 + 1)), (4, .int v7), (0, .ref (ad 50)), (1, .int x1), (2, .int x2), (3, .int x3)]) C dX9_bound_75 hl (k := 5) rfl rfl (by decide) rfl (fun ls hl => ?_)
        refine r_goto (tgt := 50) C dX9_bound_78 (by decide) ?_
        exact ih x1 x2 x3 v7 (x5 + 1) σ6 ls (lv_sub hl [2, 3, 4, 5, 1, 0] rfl)
      · refine r_iconst (v := 1) C dX9_bound_67 (by decide) ?_
        refine r_goto (tgt := 72) C dX9_bound_68 (by decide) ?_
        refine r_iadd C dX9_bound_72 ?_
        refine r_letv (fun v8 => ?_)
        refine r_istore (lv' := [(4, .int v8), (0, .ref (ad 50)), (1, .int x1), (2, .int x2), (3, .int x3), (5, .int x5)]) C dX9_bound_73 hl (by decide) rfl (fun ls hl => ?_)
        refine r_iinc (v := x5 + 1) (lv' := [(5, .int (x5 + 1)), (4, .int v8), (0, .ref (ad 50)), (1, .int x1), (2, .int x2), (3, .int x3)]) C dX9_bound_75 hl (k := 5) rfl rfl (by decide) rfl (fun ls hl => ?_)
        refine r_goto (tgt := 50) C dX9_bound_78 (by decide) ?_
        exact ih x1 x2 x3 v8 (x5 + 1) σ6 ls (lv_sub hl [2, 3, 4, 5, 1, 0] rfl)
set_option maxRecDepth 100000 in
def BX9_bound_4 (k104 : Int32 → Mem → Option (Int32 × Mem)) (rec : Int32 → Int32 → Mem → Option (Int32 × Mem)) (x1 : Int32) (x2 : Int32) (σ : Mem) : Option (Int32 × Mem) := if (σ 50 1 : Int32) ≤ x2 then k104 x1 σ else LX9_bound_17 (fun x1 x2 x3 σ4 => LX9_bound_50 (fun x1 x2 x4 σ9 => if (x4 : Int32) ≤ 1 then letv (x1 + 0) (fun v10 => rec v10 (x2 + 1) σ9) else letv (x1 + (x4 - 1)) (fun v11 => rec v11 (x2 + 1) σ9)) 300 x1 x2 x3 0 0 σ4) 300 x1 x2 0 0 σ
def LX9_bound_4 (k104 : Int32 → Mem → Option (Int32 × Mem)) : Nat → Int32 → Int32 → Mem → Option (Int32 × Mem)
  | 0 => fun _ _ _ => none
  | n + 1 => BX9_bound_4 k104 (LX9_bound_4 k104 n)
set_option maxRecDepth 100000 in
set_option maxHeartbeats 4000000 in
theorem wX9_bound_4 {p : Program} {l : Launch} {e : Env} {s : State} {m : MethodId} {args : Array Value} {below : List Frame} {meth : Method} {c : Code} {D : va_G} {cI cZ : ClassId} {ad : Nat → Nat} {tT : Nat} {A : Nat → Prop} (C : CX p s m args meth c cX9_bound 6 RX9 (some .int) D cI cZ ad tT A) (k104 : Int32 → Mem → Option (Int32 × Mem)) (hk104 : ∀ (x1 : Int32) (σ : Mem) (ls : Array Slot), lv_has ls 6 [(1, .int x1)] → WM p l e 1 22 s m args below meth c D cI cZ ad A rvi (k104 x1 σ) σ (F0 m 104 ls [])) :
    ∀ (n0 : Nat), ∀ (x1 : Int32) (x2 : Int32) (σ : Mem) (ls : Array Slot), lv_has ls 6 [(0, .ref (ad 50)), (1, .int x1), (2, .int x2)] → WM p l e 1 22 s m args below meth c D cI cZ ad A rvi (LX9_bound_4 k104 n0 x1 x2 σ) σ (F0 m 4 ls []) := by
  intro n0
  induction n0 with
  | zero => intro x1 x2 σ ls hl; exact r_none
  | succ n0 ih =>
    intro x1 x2 σ ls hl
    show WM p l e 1 22 s m args below meth c D cI cZ ad A rvi (BX9_bound_4 k104 (LX9_bound_4 k104 n0) x1 x2 σ) σ (F0 m 4 ls [])
    unfold BX9_bound_4
    refine r_iload_n C dX9_bound_4 rfl (lv_at hl 2 rfl) ?_
    refine r_aload_n C dX9_bound_5 rfl (lv_at hl 0 rfl) ?_
    refine r_getI C fl_X9_89 lf_50_1 dX9_bound_6 ?_
    refine r_icmp_ge (tgt := 104) C dX9_bound_9 (by decide) ?_ ?_
    · exact hk104 x1 σ ls (lv_sub hl [1] rfl)
    · refine r_iconst (v := 0) C dX9_bound_12 (by decide) ?_
      refine r_istore_n (lv' := [(3, .int 0), (0, .ref (ad 50)), (1, .int x1), (2, .int x2)]) C dX9_bound_13 rfl hl (by decide) rfl (fun ls hl => ?_)
      refine r_iconst (v := 0) C dX9_bound_14 (by decide) ?_
      refine r_istore (lv' := [(4, .int 0), (3, .int 0), (0, .ref (ad 50)), (1, .int x1), (2, .int x2)]) C dX9_bound_15 hl (by decide) rfl (fun ls hl => ?_)
      refine wX9_bound_17  C _ ?_ 300 x1 x2 0 0 σ ls (lv_sub hl [2, 3, 4, 1, 0] rfl)
      · intro x1 x2 x3 σ4 ls hl
        refine r_iconst (v := 0) C dX9_bound_44 (by decide) ?_
        refine r_istore (lv' := [(4, .int 0), (0, .ref (ad 50)), (1, .int x1), (2, .int x2), (3, .int x3)]) C dX9_bound_45 hl (by decide) rfl (fun ls hl => ?_)
        refine r_iconst (v := 0) C dX9_bound_47 (by decide) ?_
        refine r_istore (lv' := [(5, .int 0), (4, .int 0), (0, .ref (ad 50)), (1, .int x1), (2, .int x2), (3, .int x3)]) C dX9_bound_48 hl (by decide) rfl (fun ls hl => ?_)
        refine wX9_bound_50  C _ ?_ 300 x1 x2 x3 0 0 σ4 ls (lv_sub hl [2, 3, 4, 5, 1, 0] rfl)
        · intro x1 x2 x4 σ9 ls hl
          refine r_iload_n C dX9_bound_81 rfl (lv_at hl 1 rfl) ?_
          refine r_iload C dX9_bound_82 (lv_at hl 3 rfl) ?_
          refine r_iconst (v := 1) C dX9_bound_84 (by decide) ?_
          refine r_icmp_le (tgt := 95) C dX9_bound_85 (by decide) ?_ ?_
          · refine r_iconst (v := 0) C dX9_bound_95 (by decide) ?_
            refine r_iadd C dX9_bound_96 ?_
            refine r_letv (fun v10 => ?_)
            refine r_istore_n (lv' := [(1, .int v10), (0, .ref (ad 50)), (2, .int x2), (4, .int x4)]) C dX9_bound_97 rfl hl (by decide) rfl (fun ls hl => ?_)
            refine r_iinc (v := x2 + 1) (lv' := [(2, .int (x2 + 1)), (1, .int v10), (0, .ref (ad 50)), (4, .int x4)]) C dX9_bound_98 hl (k := 2) rfl rfl (by decide) rfl (fun ls hl => ?_)
            refine r_goto (tgt := 4) C dX9_bound_101 (by decide) ?_
            exact ih v10 (x2 + 1) σ9 ls (lv_sub hl [2, 1, 0] rfl)
          · refine r_iload C dX9_bound_88 (lv_at hl 3 rfl) ?_
            refine r_iconst (v := 1) C dX9_bound_90 (by decide) ?_
            refine r_isub C dX9_bound_91 ?_
            refine r_goto (tgt := 96) C dX9_bound_92 (by decide) ?_
            refine r_iadd C dX9_bound_96 ?_
            refine r_letv (fun v11 => ?_)
            refine r_istore_n (lv' := [(1, .int v11), (0, .ref (ad 50)), (2, .int x2), (4, .int x4)]) C dX9_bound_97 rfl hl (by decide) rfl (fun ls hl => ?_)
            refine r_iinc (v := x2 + 1) (lv' := [(2, .int (x2 + 1)), (1, .int v11), (0, .ref (ad 50)), (4, .int x4)]) C dX9_bound_98 hl (k := 2) rfl rfl (by decide) rfl (fun ls hl => ?_)
            refine r_goto (tgt := 4) C dX9_bound_101 (by decide) ?_
            exact ih v11 (x2 + 1) σ9 ls (lv_sub hl [2, 1, 0] rfl)
set_option maxRecDepth 100000 in
def fX9_bound (σ : Mem) : Option (Int32 × Mem) := LX9_bound_4 (fun x1 σ12 => some (x1, σ12)) 300 0 0 σ
set_option maxRecDepth 100000 in
set_option maxHeartbeats 4000000 in
theorem gX9_bound (l : Launch) {D : va_G} {cI cZ : ClassId} {ad : Nat → Nat} {tT : Nat} (hi : INJ ad) (σ : Mem) : GM l D cI cZ ad tT yX9_bound cX9_bound 6 (some .int) 1 22 rvi [.ref (ad 50)] σ (fX9_bound σ) := by
  refine gm_of (lv := [(0, .ref (ad 50))]) (own := RX9) hi (by decide +kernel) rfl (Nat.le_of_ble_eq_true rfl) rfl ?_
  intro p e s m args below meth c A C ls hl
  unfold fX9_bound
  refine r_iconst (v := 0) C dX9_bound_0 (by decide) ?_
  refine r_istore_n (lv' := [(1, .int 0), (0, .ref (ad 50))]) C dX9_bound_1 rfl hl (by decide) rfl (fun ls hl => ?_)
  refine r_iconst (v := 0) C dX9_bound_2 (by decide) ?_
  refine r_istore_n (lv' := [(2, .int 0), (1, .int 0), (0, .ref (ad 50))]) C dX9_bound_3 rfl hl (by decide) rfl (fun ls hl => ?_)
  refine wX9_bound_4  C _ ?_ 300 0 0 σ ls (lv_sub hl [2, 1, 0] rfl)
  · intro x1 σ12 ls hl
    refine r_iload_n C dX9_bound_104 rfl (lv_at hl 0 rfl) ?_
    exact r_iret C rfl dX9_bound_105

set_option maxRecDepth 100000 in
def BX9_best_21 (k55 : Int32 → Int32 → Int32 → Mem → Option (Int32 × Mem)) (rec : Int32 → Int32 → Int32 → Int32 → Mem → Option (Int32 × Mem)) (x1 : Int32) (x2 : Int32) (x3 : Int32) (x4 : Int32) (σ : Mem) : Option (Int32 × Mem) := bnd (fX9_trees σ) (fun r5 σ6 => if (r5 : Int32) ≤ x4 then k55 x1 x2 x3 σ6 else gd 105 x4 (if (σ6 62 x4.toNatClampNeg : Int32) = x2 then letv (x3 + 1) (fun v8 => rec x1 x2 v8 (x4 + 1) σ6) else letv (x3 + 0) (fun v7 => rec x1 x2 v7 (x4 + 1) σ6)))
def LX9_best_21 (k55 : Int32 → Int32 → Int32 → Mem → Option (Int32 × Mem)) : Nat → Int32 → Int32 → Int32 → Int32 → Mem → Option (Int32 × Mem)
  | 0 => fun _ _ _ _ _ => none
  | n + 1 => BX9_best_21 k55 (LX9_best_21 k55 n)
set_option maxRecDepth 100000 in
set_option maxHeartbeats 4000000 in
theorem wX9_best_21 {p : Program} {l : Launch} {e : Env} {s : State} {m : MethodId} {args : Array Value} {below : List Frame} {meth : Method} {c : Code} {D : va_G} {cI cZ : ClassId} {ad : Nat → Nat} {tT : Nat} {A : Nat → Prop} (C : CX p s m args meth c cX9_best 5 RX9 (some .int) D cI cZ ad tT A) (k55 : Int32 → Int32 → Int32 → Mem → Option (Int32 × Mem)) (hk55 : ∀ (x1 : Int32) (x2 : Int32) (x3 : Int32) (σ : Mem) (ls : Array Slot), lv_has ls 5 [(0, .ref (ad 50)), (1, .int x1), (2, .int x2), (3, .int x3)] → WM p l e 6 141 s m args below meth c D cI cZ ad A rvi (k55 x1 x2 x3 σ) σ (F0 m 55 ls [])) :
    ∀ (n0 : Nat), ∀ (x1 : Int32) (x2 : Int32) (x3 : Int32) (x4 : Int32) (σ : Mem) (ls : Array Slot), lv_has ls 5 [(0, .ref (ad 50)), (1, .int x1), (2, .int x2), (3, .int x3), (4, .int x4)] → WM p l e 6 141 s m args below meth c D cI cZ ad A rvi (LX9_best_21 k55 n0 x1 x2 x3 x4 σ) σ (F0 m 21 ls []) := by
  intro n0
  induction n0 with
  | zero => intro x1 x2 x3 x4 σ ls hl; exact r_none
  | succ n0 ih =>
    intro x1 x2 x3 x4 σ ls hl
    show WM p l e 6 141 s m args below meth c D cI cZ ad A rvi (BX9_best_21 k55 (LX9_best_21 k55 n0) x1 x2 x3 x4 σ) σ (F0 m 21 ls [])
    unfold BX9_best_21
    refine r_iload C dX9_best_21 (lv_at hl 4 rfl) ?_
    refine r_aload_n C dX9_best_23 rfl (lv_at hl 0 rfl) ?_
    refine r_callVi (As := []) (rest := [.int x4]) C hl ml_X9_150 rc_50 (gX9_trees l C.inj σ) ⟨Nat.le_of_ble_eq_true rfl, Nat.le_of_ble_eq_true rfl⟩ ⟨Nat.le_of_ble_eq_true rfl, Nat.le_of_ble_eq_true rfl⟩ rfl rfl (Nat.le_of_ble_eq_true rfl) dX9_best_24 (fun r5 σ6 => ?_)
    refine r_icmp_ge (tgt := 55) C dX9_best_27 (by decide) ?_ ?_
    · exact hk55 x1 x2 x3 σ6 ls (lv_sub hl [0, 1, 2, 3] rfl)
    · refine r_iload_n C dX9_best_30 rfl (lv_at hl 3 rfl) ?_
      refine r_aload_n C dX9_best_31 rfl (lv_at hl 0 rfl) ?_
      refine r_getR C fl_X9_44 lf_50_25 dX9_best_32 ?_
      refine r_iload C dX9_best_35 (lv_at hl 4 rfl) ?_
      refine r_iald C la_62 dX9_best_37 ?_
      refine r_iload_n C dX9_best_38 rfl (lv_at hl 2 rfl) ?_
      refine r_icmp_ne (tgt := 46) C dX9_best_39 (by decide) ?_ ?_
      · refine r_iconst (v := 0) C dX9_best_46 (by decide) ?_
        refine r_iadd C dX9_best_47 ?_
        refine r_letv (fun v7 => ?_)
        refine r_istore_n (lv' := [(3, .int v7), (0, .ref (ad 50)), (1, .int x1), (2, .int x2), (4, .int x4)]) C dX9_best_48 rfl hl (by decide) rfl (fun ls hl => ?_)
        refine r_iinc (v := x4 + 1) (lv' := [(4, .int (x4 + 1)), (3, .int v7), (0, .ref (ad 50)), (1, .int x1), (2, .int x2)]) C dX9_best_49 hl (k := 4) rfl rfl (by decide) rfl (fun ls hl => ?_)
        refine r_goto (tgt := 21) C dX9_best_52 (by decide) ?_
        exact ih x1 x2 v7 (x4 + 1) σ6 ls (lv_sub hl [2, 3, 4, 1, 0] rfl)
      · refine r_iconst (v := 1) C dX9_best_42 (by decide) ?_
        refine r_goto (tgt := 47) C dX9_best_43 (by decide) ?_
        refine r_iadd C dX9_best_47 ?_
        refine r_letv (fun v8 => ?_)
        refine r_istore_n (lv' := [(3, .int v8), (0, .ref (ad 50)), (1, .int x1), (2, .int x2), (4, .int x4)]) C dX9_best_48 rfl hl (by decide) rfl (fun ls hl => ?_)
        refine r_iinc (v := x4 + 1) (lv' := [(4, .int (x4 + 1)), (3, .int v8), (0, .ref (ad 50)), (1, .int x1), (2, .int x2)]) C dX9_best_49 hl (k := 4) rfl rfl (by decide) rfl (fun ls hl => ?_)
        refine r_goto (tgt := 21) C dX9_best_52 (by decide) ?_
        exact ih x1 x2 v8 (x4 + 1) σ6 ls (lv_sub hl [2, 3, 4, 1, 0] rfl)
set_option maxRecDepth 100000 in
def fX9_best (x1 : Int32) (σ : Mem) : Option (Int32 × Mem) := bnd (fX9_in x1 0 3 σ) (fun r1 σ2 => if (r1 : Int32) = 0 then some ((-1), σ2) else bnd (fX9_fewest σ2) (fun r3 σ4 => LX9_best_21 (fun x1 x2 x3 σ9 => if (x1 : Int32) = 0 then some (x2, σ9) else if (x1 : Int32) = 1 then some (x3, σ9) else if (x1 : Int32) = 2 then bnd (fX9_bound σ9) (fun r12 σ13 => some (r12, σ13)) else bnd (fX9_bound σ9) (fun r10 σ11 => if (r10 : Int32) = x2 then some (1, σ11) else some (0, σ11))) 300 x1 r3 0 0 σ4))
set_option maxRecDepth 100000 in
set_option maxHeartbeats 4000000 in
theorem gX9_best (l : Launch) {D : va_G} {cI cZ : ClassId} {ad : Nat → Nat} {tT : Nat} (hi : INJ ad) (x1 : Int32) (σ : Mem) : GM l D cI cZ ad tT yX9_best cX9_best 5 (some .int) 6 141 rvi [.ref (ad 50), .int x1] σ (fX9_best x1 σ) := by
  refine gm_of (lv := [(0, .ref (ad 50)), (1, .int x1)]) (own := RX9) hi (by decide +kernel) rfl (Nat.le_of_ble_eq_true rfl) rfl ?_
  intro p e s m args below meth c A C ls hl
  unfold fX9_best
  refine r_iload_n C dX9_best_0 rfl (lv_at hl 1 rfl) ?_
  refine r_iconst (v := 0) C dX9_best_1 (by decide) ?_
  refine r_iconst (v := 3) C dX9_best_2 (by decide) ?_
  refine r_callSi (As := [.int x1, .int 0, .int 3]) (rest := []) C hl ml_X9_50 (gX9_in l C.inj x1 0 3 σ) ⟨Nat.le_of_ble_eq_true rfl, Nat.le_of_ble_eq_true rfl⟩ ⟨Nat.le_of_ble_eq_true rfl, Nat.le_of_ble_eq_true rfl⟩ rfl rfl (Nat.le_of_ble_eq_true rfl) dX9_best_3 (fun r1 σ2 => ?_)
  refine r_if_ne (tgt := 11) C dX9_best_6 (by decide) ?_ ?_
  · refine r_aload_n C dX9_best_11 rfl (lv_at hl 0 rfl) ?_
    refine r_callVi (As := []) (rest := []) C hl ml_X9_166 rc_50 (gX9_fewest l C.inj σ2) ⟨Nat.le_of_ble_eq_true rfl, Nat.le_of_ble_eq_true rfl⟩ ⟨Nat.le_of_ble_eq_true rfl, Nat.le_of_ble_eq_true rfl⟩ rfl rfl (Nat.le_of_ble_eq_true rfl) dX9_best_12 (fun r3 σ4 => ?_)
    refine r_istore_n (lv' := [(2, .int r3), (0, .ref (ad 50)), (1, .int x1)]) C dX9_best_15 rfl hl (by decide) rfl (fun ls hl => ?_)
    refine r_iconst (v := 0) C dX9_best_16 (by decide) ?_
    refine r_istore_n (lv' := [(3, .int 0), (2, .int r3), (0, .ref (ad 50)), (1, .int x1)]) C dX9_best_17 rfl hl (by decide) rfl (fun ls hl => ?_)
    refine r_iconst (v := 0) C dX9_best_18 (by decide) ?_
    refine r_istore (lv' := [(4, .int 0), (3, .int 0), (2, .int r3), (0, .ref (ad 50)), (1, .int x1)]) C dX9_best_19 hl (by decide) rfl (fun ls hl => ?_)
    refine wX9_best_21  C _ ?_ 300 x1 r3 0 0 σ4 ls (lv_sub hl [3, 4, 2, 1, 0] rfl)
    · intro x1 x2 x3 σ9 ls hl
      refine r_iload_n C dX9_best_55 rfl (lv_at hl 1 rfl) ?_
      refine r_if_ne (tgt := 63) C dX9_best_56 (by decide) ?_ ?_
      · refine r_iload_n C dX9_best_63 rfl (lv_at hl 1 rfl) ?_
        refine r_iconst (v := 1) C dX9_best_64 (by decide) ?_
        refine r_icmp_ne (tgt := 72) C dX9_best_65 (by decide) ?_ ?_
        · refine r_iload_n C dX9_best_72 rfl (lv_at hl 1 rfl) ?_
          refine r_iconst (v := 2) C dX9_best_73 (by decide) ?_
          refine r_icmp_ne (tgt := 84) C dX9_best_74 (by decide) ?_ ?_
          · refine r_aload_n C dX9_best_84 rfl (lv_at hl 0 rfl) ?_
            refine r_callVi (As := []) (rest := []) C hl ml_X9_173 rc_50 (gX9_bound l C.inj σ9) ⟨Nat.le_of_ble_eq_true rfl, Nat.le_of_ble_eq_true rfl⟩ ⟨Nat.le_of_ble_eq_true rfl, Nat.le_of_ble_eq_true rfl⟩ rfl rfl (Nat.le_of_ble_eq_true rfl) dX9_best_85 (fun r10 σ11 => ?_)
            refine r_iload_n C dX9_best_88 rfl (lv_at hl 2 rfl) ?_
            refine r_icmp_ne (tgt := 96) C dX9_best_89 (by decide) ?_ ?_
            · refine r_iconst (v := 0) C dX9_best_96 (by decide) ?_
              exact r_iret C rfl dX9_best_97
            · refine r_iconst (v := 1) C dX9_best_92 (by decide) ?_
              refine r_goto (tgt := 97) C dX9_best_93 (by decide) ?_
              exact r_iret C rfl dX9_best_97
          · refine r_aload_n C dX9_best_77 rfl (lv_at hl 0 rfl) ?_
            refine r_callVi (As := []) (rest := []) C hl ml_X9_173 rc_50 (gX9_bound l C.inj σ9) ⟨Nat.le_of_ble_eq_true rfl, Nat.le_of_ble_eq_true rfl⟩ ⟨Nat.le_of_ble_eq_true rfl, Nat.le_of_ble_eq_true rfl⟩ rfl rfl (Nat.le_of_ble_eq_true rfl) dX9_best_78 (fun r12 σ13 => ?_)
            refine r_goto (tgt := 97) C dX9_best_81 (by decide) ?_
            exact r_iret C rfl dX9_best_97
        · refine r_iload_n C dX9_best_68 rfl (lv_at hl 3 rfl) ?_
          refine r_goto (tgt := 97) C dX9_best_69 (by decide) ?_
          exact r_iret C rfl dX9_best_97
      · refine r_iload_n C dX9_best_59 rfl (lv_at hl 2 rfl) ?_
        refine r_goto (tgt := 97) C dX9_best_60 (by decide) ?_
        exact r_iret C rfl dX9_best_97
  · refine r_iconst (v := (-1)) C dX9_best_9 (by decide) ?_
    exact r_iret C rfl dX9_best_10

set_option maxRecDepth 100000 in
def BX9_remember_2 (k34 : Mem → Option (Int32 × Mem)) (rec : Int32 → Mem → Option (Int32 × Mem)) (x1 : Int32) (σ : Mem) : Option (Int32 × Mem) := if (49 : Int32) ≤ x1 then k34 σ else gd 49 x1 (gd 490 (((49 : Int32) * (σ 50 4)) + x1) (letm (stm σ 52 (((49 : Int32) * (σ 50 4)) + x1).toNatClampNeg (σ 51 x1.toNatClampNeg)) (fun σ1 => rec (x1 + 1) σ1)))
def LX9_remember_2 (k34 : Mem → Option (Int32 × Mem)) : Nat → Int32 → Mem → Option (Int32 × Mem)
  | 0 => fun _ _ => none
  | n + 1 => BX9_remember_2 k34 (LX9_remember_2 k34 n)
set_option maxRecDepth 100000 in
set_option maxHeartbeats 4000000 in
theorem wX9_remember_2 {p : Program} {l : Launch} {e : Env} {s : State} {m : MethodId} {args : Array Value} {below : List Frame} {meth : Method} {c : Code} {D : va_G} {cI cZ : ClassId} {ad : Nat → Nat} {tT : Nat} {A : Nat → Prop} (C : CX p s m args meth c cX9_remember 2 RX9 (none) D cI cZ ad tT A) (k34 : Mem → Option (Int32 × Mem)) (hk34 : ∀ (σ : Mem) (ls : Array Slot), lv_has ls 2 [(0, .ref (ad 50))] → WM p l e 0 0 s m args below meth c D cI cZ ad A rvv (k34 σ) σ (F0 m 34 ls [])) :
    ∀ (n0 : Nat), ∀ (x1 : Int32) (σ : Mem) (ls : Array Slot), lv_has ls 2 [(0, .ref (ad 50)), (1, .int x1)] → WM p l e 0 0 s m args below meth c D cI cZ ad A rvv (LX9_remember_2 k34 n0 x1 σ) σ (F0 m 2 ls []) := by
  intro n0
  induction n0 with
  | zero => intro x1 σ ls hl; exact r_none
  | succ n0 ih =>
    intro x1 σ ls hl
    show WM p l e 0 0 s m args below meth c D cI cZ ad A rvv (BX9_remember_2 k34 (LX9_remember_2 k34 n0) x1 σ) σ (F0 m 2 ls [])
    unfold BX9_remember_2
    refine r_iload_n C dX9_remember_2 rfl (lv_at hl 1 rfl) ?_
    refine r_bipush (v := 49) C dX9_remember_3 (by decide) ?_
    refine r_icmp_ge (tgt := 34) C dX9_remember_5 (by decide) ?_ ?_
    · exact hk34 σ ls (lv_sub hl [0] rfl)
    · refine r_aload_n C dX9_remember_8 rfl (lv_at hl 0 rfl) ?_
      refine r_getR C fl_X9_13 lf_50_5 dX9_remember_9 ?_
      refine r_bipush (v := 49) C dX9_remember_12 (by decide) ?_
      refine r_aload_n C dX9_remember_14 rfl (lv_at hl 0 rfl) ?_
      refine r_getI C fl_X9_176 lf_50_4 dX9_remember_15 ?_
      refine r_imul C dX9_remember_18 ?_
      refine r_iload_n C dX9_remember_19 rfl (lv_at hl 1 rfl) ?_
      refine r_iadd C dX9_remember_20 ?_
      refine r_aload_n C dX9_remember_21 rfl (lv_at hl 0 rfl) ?_
      refine r_getR C fl_X9_7 lf_50_2 dX9_remember_22 ?_
      refine r_iload_n C dX9_remember_25 rfl (lv_at hl 1 rfl) ?_
      refine r_iald C la_51 dX9_remember_26 ?_
      refine r_iast C la_52 dX9_remember_27 ?_
      refine r_letm (fun σ1 => ?_)
      refine r_iinc (v := x1 + 1) (lv' := [(1, .int (x1 + 1)), (0, .ref (ad 50))]) C dX9_remember_28 hl (k := 1) rfl rfl (by decide) rfl (fun ls hl => ?_)
      refine r_goto (tgt := 2) C dX9_remember_31 (by decide) ?_
      exact ih (x1 + 1) σ1 ls (lv_sub hl [1, 0] rfl)
set_option maxRecDepth 100000 in
def fX9_remember (σ : Mem) : Option (Int32 × Mem) := LX9_remember_2 (fun σ2 => letm (stm σ2 50 4 (remi ((σ2 50 4) + 1) 10)) (fun σ3 => if (10 : Int32) ≤ (σ3 50 3) then letm (stm σ3 50 3 ((σ3 50 3) + 0)) (fun σ4 => some (0, σ4)) else letm (stm σ3 50 3 ((σ3 50 3) + 1)) (fun σ5 => some (0, σ5)))) 300 0 σ
set_option maxRecDepth 100000 in
set_option maxHeartbeats 4000000 in
theorem gX9_remember (l : Launch) {D : va_G} {cI cZ : ClassId} {ad : Nat → Nat} {tT : Nat} (hi : INJ ad) (σ : Mem) : GM l D cI cZ ad tT yX9_remember cX9_remember 2 (none) 0 0 rvv [.ref (ad 50)] σ (fX9_remember σ) := by
  refine gm_of (lv := [(0, .ref (ad 50))]) (own := RX9) hi (by decide +kernel) rfl (Nat.le_of_ble_eq_true rfl) rfl ?_
  intro p e s m args below meth c A C ls hl
  unfold fX9_remember
  refine r_iconst (v := 0) C dX9_remember_0 (by decide) ?_
  refine r_istore_n (lv' := [(1, .int 0), (0, .ref (ad 50))]) C dX9_remember_1 rfl hl (by decide) rfl (fun ls hl => ?_)
  refine wX9_remember_2  C _ ?_ 300 0 σ ls (lv_sub hl [1, 0] rfl)
  · intro σ2 ls hl
    refine r_aload_n C dX9_remember_34 rfl (lv_at hl 0 rfl) ?_
    refine r_aload_n C dX9_remember_35 rfl (lv_at hl 0 rfl) ?_
    refine r_getI C fl_X9_176 lf_50_4 dX9_remember_36 ?_
    refine r_iconst (v := 1) C dX9_remember_39 (by decide) ?_
    refine r_iadd C dX9_remember_40 ?_
    refine r_bipush (v := 10) C dX9_remember_41 (by decide) ?_
    refine r_irem2 C dX9_remember_43 (by decide) ?_
    refine r_putI C fl_X9_176 fp_X9_4 rfl rfl lf_50_4 dX9_remember_44 ?_
    refine r_letm (fun σ3 => ?_)
    refine r_aload_n C dX9_remember_47 rfl (lv_at hl 0 rfl) ?_
    refine r_dup C dX9_remember_48 rfl ?_
    refine r_getI C fl_X9_92 lf_50_3 dX9_remember_49 ?_
    refine r_aload_n C dX9_remember_52 rfl (lv_at hl 0 rfl) ?_
    refine r_getI C fl_X9_92 lf_50_3 dX9_remember_53 ?_
    refine r_bipush (v := 10) C dX9_remember_56 (by decide) ?_
    refine r_icmp_ge (tgt := 65) C dX9_remember_58 (by decide) ?_ ?_
    · refine r_iconst (v := 0) C dX9_remember_65 (by decide) ?_
      refine r_iadd C dX9_remember_66 ?_
      refine r_putI C fl_X9_92 fp_X9_3 rfl rfl lf_50_3 dX9_remember_67 ?_
      refine r_letm (fun σ4 => ?_)
      exact r_vret C rfl dX9_remember_70
    · refine r_iconst (v := 1) C dX9_remember_61 (by decide) ?_
      refine r_goto (tgt := 66) C dX9_remember_62 (by decide) ?_
      refine r_iadd C dX9_remember_66 ?_
      refine r_putI C fl_X9_92 fp_X9_3 rfl rfl lf_50_3 dX9_remember_67 ?_
      refine r_letm (fun σ5 => ?_)
      exact r_vret C rfl dX9_remember_70

set_option maxRecDepth 100000 in
def fX9_becomes (x1 : Int32) (x2 : Int32) (σ : Mem) : Option (Int32 × Mem) := gd 49 x1 (letv (σ 51 x1.toNatClampNeg) (fun v1 => if (v1 : Int32) = x2 then some ((-2), σ) else bnd (fX9_remember σ) (fun r2 σ3 => gd 49 x1 (letm (stm σ3 51 x1.toNatClampNeg x2) (fun σ4 => some (v1, σ4))))))
set_option maxRecDepth 100000 in
set_option maxHeartbeats 4000000 in
theorem gX9_becomes (l : Launch) {D : va_G} {cI cZ : ClassId} {ad : Nat → Nat} {tT : Nat} (hi : INJ ad) (x1 : Int32) (x2 : Int32) (σ : Mem) : GM l D cI cZ ad tT yX9_becomes cX9_becomes 4 (some .int) 1 21 rvi [.ref (ad 50), .int x1, .int x2] σ (fX9_becomes x1 x2 σ) := by
  refine gm_of (lv := [(0, .ref (ad 50)), (1, .int x1), (2, .int x2)]) (own := RX9) hi (by decide +kernel) rfl (Nat.le_of_ble_eq_true rfl) rfl ?_
  intro p e s m args below meth c A C ls hl
  unfold fX9_becomes
  refine r_aload_n C dX9_becomes_0 rfl (lv_at hl 0 rfl) ?_
  refine r_getR C fl_X9_7 lf_50_2 dX9_becomes_1 ?_
  refine r_iload_n C dX9_becomes_4 rfl (lv_at hl 1 rfl) ?_
  refine r_iald C la_51 dX9_becomes_5 ?_
  refine r_letv (fun v1 => ?_)
  refine r_istore_n (lv' := [(3, .int v1), (0, .ref (ad 50)), (1, .int x1), (2, .int x2)]) C dX9_becomes_6 rfl hl (by decide) rfl (fun ls hl => ?_)
  refine r_iload_n C dX9_becomes_7 rfl (lv_at hl 0 rfl) ?_
  refine r_iload_n C dX9_becomes_8 rfl (lv_at hl 3 rfl) ?_
  refine r_icmp_ne (tgt := 15) C dX9_becomes_9 (by decide) ?_ ?_
  · refine r_aload_n C dX9_becomes_15 rfl (lv_at hl 1 rfl) ?_
    refine r_callVv (As := []) (rest := []) C hl ml_X9_179 rc_50 (gX9_remember l C.inj σ) ⟨Nat.le_of_ble_eq_true rfl, Nat.le_of_ble_eq_true rfl⟩ ⟨Nat.le_of_ble_eq_true rfl, Nat.le_of_ble_eq_true rfl⟩ rfl rfl (Nat.le_of_ble_eq_true rfl) dX9_becomes_16 (fun r2 σ3 => ?_)
    refine r_aload_n C dX9_becomes_19 rfl (lv_at hl 1 rfl) ?_
    refine r_getR C fl_X9_7 lf_50_2 dX9_becomes_20 ?_
    refine r_iload_n C dX9_becomes_23 rfl (lv_at hl 2 rfl) ?_
    refine r_iload_n C dX9_becomes_24 rfl (lv_at hl 3 rfl) ?_
    refine r_iast C la_51 dX9_becomes_25 ?_
    refine r_letm (fun σ4 => ?_)
    refine r_iload_n C dX9_becomes_26 rfl (lv_at hl 0 rfl) ?_
    exact r_iret C rfl dX9_becomes_27
  · refine r_bipush (v := (-2)) C dX9_becomes_12 (by decide) ?_
    exact r_iret C rfl dX9_becomes_14

set_option maxRecDepth 100000 in
def fX9_reads (x1 : Int32) (x2 : Int32) (x3 : Int32) (σ : Mem) : Option (Int32 × Mem) := bnd (fX9_isCopy x1 σ) (fun r1 σ2 => if (r1 : Int32) = 0 then some ((-1), σ2) else bnd (fX9_isPlace x2 σ2) (fun r3 σ4 => if (r3 : Int32) = 0 then some ((-1), σ4) else bnd (fX9_in x3 0 4 σ4) (fun r5 σ6 => if (r5 : Int32) = 0 then some ((-1), σ6) else bnd (fX9_becomes (((8 : Int32) * x1) + x2) x3 σ6) (fun r7 σ8 => some (r7, σ8)))))
set_option maxRecDepth 100000 in
set_option maxHeartbeats 4000000 in
theorem gX9_reads (l : Launch) {D : va_G} {cI cZ : ClassId} {ad : Nat → Nat} {tT : Nat} (hi : INJ ad) (x1 : Int32) (x2 : Int32) (x3 : Int32) (σ : Mem) : GM l D cI cZ ad tT yX9_reads cX9_reads 4 (some .int) 2 44 rvi [.ref (ad 50), .int x1, .int x2, .int x3] σ (fX9_reads x1 x2 x3 σ) := by
  refine gm_of (lv := [(0, .ref (ad 50)), (1, .int x1), (2, .int x2), (3, .int x3)]) (own := RX9) hi (by decide +kernel) rfl (Nat.le_of_ble_eq_true rfl) rfl ?_
  intro p e s m args below meth c A C ls hl
  unfold fX9_reads
  refine r_aload_n C dX9_reads_0 rfl (lv_at hl 0 rfl) ?_
  refine r_iload_n C dX9_reads_1 rfl (lv_at hl 1 rfl) ?_
  refine r_callVi (As := [.int x1]) (rest := []) C hl ml_X9_98 rc_50 (gX9_isCopy l C.inj x1 σ) ⟨Nat.le_of_ble_eq_true rfl, Nat.le_of_ble_eq_true rfl⟩ ⟨Nat.le_of_ble_eq_true rfl, Nat.le_of_ble_eq_true rfl⟩ rfl rfl (Nat.le_of_ble_eq_true rfl) dX9_reads_2 (fun r1 σ2 => ?_)
  refine r_if_eq (tgt := 39) C dX9_reads_5 (by decide) ?_ ?_
  · refine r_iconst (v := (-1)) C dX9_reads_39 (by decide) ?_
    exact r_iret C rfl dX9_reads_40
  · refine r_aload_n C dX9_reads_8 rfl (lv_at hl 0 rfl) ?_
    refine r_iload_n C dX9_reads_9 rfl (lv_at hl 2 rfl) ?_
    refine r_callVi (As := [.int x2]) (rest := []) C hl ml_X9_102 rc_50 (gX9_isPlace l C.inj x2 σ2) ⟨Nat.le_of_ble_eq_true rfl, Nat.le_of_ble_eq_true rfl⟩ ⟨Nat.le_of_ble_eq_true rfl, Nat.le_of_ble_eq_true rfl⟩ rfl rfl (Nat.le_of_ble_eq_true rfl) dX9_reads_10 (fun r3 σ4 => ?_)
    refine r_if_eq (tgt := 39) C dX9_reads_13 (by decide) ?_ ?_
    · refine r_iconst (v := (-1)) C dX9_reads_39 (by decide) ?_
      exact r_iret C rfl dX9_reads_40
    · refine r_iload_n C dX9_reads_16 rfl (lv_at hl 3 rfl) ?_
      refine r_iconst (v := 0) C dX9_reads_17 (by decide) ?_
      refine r_iconst (v := 4) C dX9_reads_18 (by decide) ?_
      refine r_callSi (As := [.int x3, .int 0, .int 4]) (rest := []) C hl ml_X9_50 (gX9_in l C.inj x3 0 4 σ4) ⟨Nat.le_of_ble_eq_true rfl, Nat.le_of_ble_eq_true rfl⟩ ⟨Nat.le_of_ble_eq_true rfl, Nat.le_of_ble_eq_true rfl⟩ rfl rfl (Nat.le_of_ble_eq_true rfl) dX9_reads_19 (fun r5 σ6 => ?_)
      refine r_if_eq (tgt := 39) C dX9_reads_22 (by decide) ?_ ?_
      · refine r_iconst (v := (-1)) C dX9_reads_39 (by decide) ?_
        exact r_iret C rfl dX9_reads_40
      · refine r_aload_n C dX9_reads_25 rfl (lv_at hl 0 rfl) ?_
        refine r_bipush (v := 8) C dX9_reads_26 (by decide) ?_
        refine r_iload_n C dX9_reads_28 rfl (lv_at hl 1 rfl) ?_
        refine r_imul C dX9_reads_29 ?_
        refine r_iload_n C dX9_reads_30 rfl (lv_at hl 2 rfl) ?_
        refine r_iadd C dX9_reads_31 ?_
        refine r_iload_n C dX9_reads_32 rfl (lv_at hl 3 rfl) ?_
        refine r_callVi (As := [.int (((8 : Int32) * x1) + x2), .int x3]) (rest := []) C hl ml_X9_182 rc_50 (gX9_becomes l C.inj (((8 : Int32) * x1) + x2) x3 σ6) ⟨Nat.le_of_ble_eq_true rfl, Nat.le_of_ble_eq_true rfl⟩ ⟨Nat.le_of_ble_eq_true rfl, Nat.le_of_ble_eq_true rfl⟩ rfl rfl (Nat.le_of_ble_eq_true rfl) dX9_reads_33 (fun r7 σ8 => ?_)
        refine r_goto (tgt := 40) C dX9_reads_36 (by decide) ?_
        exact r_iret C rfl dX9_reads_40

set_option maxRecDepth 100000 in
def fX9_chooses (x1 : Int32) (σ : Mem) : Option (Int32 × Mem) := bnd (fX9_isTree x1 σ) (fun r1 σ2 => if (r1 : Int32) = 0 then some ((-1), σ2) else bnd (fX9_becomes 48 x1 σ2) (fun r3 σ4 => some (r3, σ4)))
set_option maxRecDepth 100000 in
set_option maxHeartbeats 4000000 in
theorem gX9_chooses (l : Launch) {D : va_G} {cI cZ : ClassId} {ad : Nat → Nat} {tT : Nat} (hi : INJ ad) (x1 : Int32) (σ : Mem) : GM l D cI cZ ad tT yX9_chooses cX9_chooses 2 (some .int) 2 44 rvi [.ref (ad 50), .int x1] σ (fX9_chooses x1 σ) := by
  refine gm_of (lv := [(0, .ref (ad 50)), (1, .int x1)]) (own := RX9) hi (by decide +kernel) rfl (Nat.le_of_ble_eq_true rfl) rfl ?_
  intro p e s m args below meth c A C ls hl
  unfold fX9_chooses
  refine r_aload_n C dX9_chooses_0 rfl (lv_at hl 0 rfl) ?_
  refine r_iload_n C dX9_chooses_1 rfl (lv_at hl 1 rfl) ?_
  refine r_callVi (As := [.int x1]) (rest := []) C hl ml_X9_154 rc_50 (gX9_isTree l C.inj x1 σ) ⟨Nat.le_of_ble_eq_true rfl, Nat.le_of_ble_eq_true rfl⟩ ⟨Nat.le_of_ble_eq_true rfl, Nat.le_of_ble_eq_true rfl⟩ rfl rfl (Nat.le_of_ble_eq_true rfl) dX9_chooses_2 (fun r1 σ2 => ?_)
  refine r_if_eq (tgt := 18) C dX9_chooses_5 (by decide) ?_ ?_
  · refine r_iconst (v := (-1)) C dX9_chooses_18 (by decide) ?_
    exact r_iret C rfl dX9_chooses_19
  · refine r_aload_n C dX9_chooses_8 rfl (lv_at hl 0 rfl) ?_
    refine r_bipush (v := 48) C dX9_chooses_9 (by decide) ?_
    refine r_iload_n C dX9_chooses_11 rfl (lv_at hl 1 rfl) ?_
    refine r_callVi (As := [.int 48, .int x1]) (rest := []) C hl ml_X9_182 rc_50 (gX9_becomes l C.inj 48 x1 σ2) ⟨Nat.le_of_ble_eq_true rfl, Nat.le_of_ble_eq_true rfl⟩ ⟨Nat.le_of_ble_eq_true rfl, Nat.le_of_ble_eq_true rfl⟩ rfl rfl (Nat.le_of_ble_eq_true rfl) dX9_chooses_12 (fun r3 σ4 => ?_)
    refine r_goto (tgt := 19) C dX9_chooses_15 (by decide) ?_
    exact r_iret C rfl dX9_chooses_19

set_option maxRecDepth 100000 in
def BX9_isNear_4 (k37 : Int32 → Mem → Option (Int32 × Mem)) (rec : Int32 → Int32 → Int32 → Int32 → Mem → Option (Int32 × Mem)) (x0 : Int32) (x1 : Int32) (x2 : Int32) (x3 : Int32) (σ : Mem) : Option (Int32 × Mem) := if (6 : Int32) ≤ x3 then k37 x2 σ else bnd (fX9_edgeOf x0 x3 σ) (fun r1 σ2 => bnd (fX9_edgeOf x1 x3 σ2) (fun r3 σ4 => if (r1 : Int32) = r3 then letv (x2 + 0) (fun v5 => rec x0 x1 v5 (x3 + 1) σ4) else letv (x2 + 1) (fun v6 => rec x0 x1 v6 (x3 + 1) σ4)))
def LX9_isNear_4 (k37 : Int32 → Mem → Option (Int32 × Mem)) : Nat → Int32 → Int32 → Int32 → Int32 → Mem → Option (Int32 × Mem)
  | 0 => fun _ _ _ _ _ => none
  | n + 1 => BX9_isNear_4 k37 (LX9_isNear_4 k37 n)
set_option maxRecDepth 100000 in
set_option maxHeartbeats 4000000 in
theorem wX9_isNear_4 {p : Program} {l : Launch} {e : Env} {s : State} {m : MethodId} {args : Array Value} {below : List Frame} {meth : Method} {c : Code} {D : va_G} {cI cZ : ClassId} {ad : Nat → Nat} {tT : Nat} {A : Nat → Prop} (C : CX p s m args meth c cX9_isNear 4 RX9 (some .boolean) D cI cZ ad tT A) (k37 : Int32 → Mem → Option (Int32 × Mem)) (hk37 : ∀ (x2 : Int32) (σ : Mem) (ls : Array Slot), lv_has ls 4 [(2, .int x2)] → WM p l e 1 21 s m args below meth c D cI cZ ad A rvi (k37 x2 σ) σ (F0 m 37 ls [])) :
    ∀ (n0 : Nat), ∀ (x0 : Int32) (x1 : Int32) (x2 : Int32) (x3 : Int32) (σ : Mem) (ls : Array Slot), lv_has ls 4 [(0, .int x0), (1, .int x1), (2, .int x2), (3, .int x3)] → WM p l e 1 21 s m args below meth c D cI cZ ad A rvi (LX9_isNear_4 k37 n0 x0 x1 x2 x3 σ) σ (F0 m 4 ls []) := by
  intro n0
  induction n0 with
  | zero => intro x0 x1 x2 x3 σ ls hl; exact r_none
  | succ n0 ih =>
    intro x0 x1 x2 x3 σ ls hl
    show WM p l e 1 21 s m args below meth c D cI cZ ad A rvi (BX9_isNear_4 k37 (LX9_isNear_4 k37 n0) x0 x1 x2 x3 σ) σ (F0 m 4 ls [])
    unfold BX9_isNear_4
    refine r_iload_n C dX9_isNear_4 rfl (lv_at hl 3 rfl) ?_
    refine r_bipush (v := 6) C dX9_isNear_5 (by decide) ?_
    refine r_icmp_ge (tgt := 37) C dX9_isNear_7 (by decide) ?_ ?_
    · exact hk37 x2 σ ls (lv_sub hl [2] rfl)
    · refine r_iload_n C dX9_isNear_10 rfl (lv_at hl 2 rfl) ?_
      refine r_iload_n C dX9_isNear_11 rfl (lv_at hl 0 rfl) ?_
      refine r_iload_n C dX9_isNear_12 rfl (lv_at hl 3 rfl) ?_
      refine r_callSi (As := [.int x0, .int x3]) (rest := [.int x2]) C hl ml_X9_119 (gX9_edgeOf l C.inj x0 x3 σ) ⟨Nat.le_of_ble_eq_true rfl, Nat.le_of_ble_eq_true rfl⟩ ⟨Nat.le_of_ble_eq_true rfl, Nat.le_of_ble_eq_true rfl⟩ rfl rfl (Nat.le_of_ble_eq_true rfl) dX9_isNear_13 (fun r1 σ2 => ?_)
      refine r_iload_n C dX9_isNear_16 rfl (lv_at hl 1 rfl) ?_
      refine r_iload_n C dX9_isNear_17 rfl (lv_at hl 3 rfl) ?_
      refine r_callSi (As := [.int x1, .int x3]) (rest := [.int r1, .int x2]) C hl ml_X9_119 (gX9_edgeOf l C.inj x1 x3 σ2) ⟨Nat.le_of_ble_eq_true rfl, Nat.le_of_ble_eq_true rfl⟩ ⟨Nat.le_of_ble_eq_true rfl, Nat.le_of_ble_eq_true rfl⟩ rfl rfl (Nat.le_of_ble_eq_true rfl) dX9_isNear_18 (fun r3 σ4 => ?_)
      refine r_icmp_eq (tgt := 28) C dX9_isNear_21 (by decide) ?_ ?_
      · refine r_iconst (v := 0) C dX9_isNear_28 (by decide) ?_
        refine r_iadd C dX9_isNear_29 ?_
        refine r_letv (fun v5 => ?_)
        refine r_istore_n (lv' := [(2, .int v5), (0, .int x0), (1, .int x1), (3, .int x3)]) C dX9_isNear_30 rfl hl (by decide) rfl (fun ls hl => ?_)
        refine r_iinc (v := x3 + 1) (lv' := [(3, .int (x3 + 1)), (2, .int v5), (0, .int x0), (1, .int x1)]) C dX9_isNear_31 hl (k := 3) rfl rfl (by decide) rfl (fun ls hl => ?_)
        refine r_goto (tgt := 4) C dX9_isNear_34 (by decide) ?_
        exact ih x0 x1 v5 (x3 + 1) σ4 ls (lv_sub hl [2, 3, 1, 0] rfl)
      · refine r_iconst (v := 1) C dX9_isNear_24 (by decide) ?_
        refine r_goto (tgt := 29) C dX9_isNear_25 (by decide) ?_
        refine r_iadd C dX9_isNear_29 ?_
        refine r_letv (fun v6 => ?_)
        refine r_istore_n (lv' := [(2, .int v6), (0, .int x0), (1, .int x1), (3, .int x3)]) C dX9_isNear_30 rfl hl (by decide) rfl (fun ls hl => ?_)
        refine r_iinc (v := x3 + 1) (lv' := [(3, .int (x3 + 1)), (2, .int v6), (0, .int x0), (1, .int x1)]) C dX9_isNear_31 hl (k := 3) rfl rfl (by decide) rfl (fun ls hl => ?_)
        refine r_goto (tgt := 4) C dX9_isNear_34 (by decide) ?_
        exact ih x0 x1 v6 (x3 + 1) σ4 ls (lv_sub hl [2, 3, 1, 0] rfl)
set_option maxRecDepth 100000 in
def fX9_isNear (x0 : Int32) (x1 : Int32) (σ : Mem) : Option (Int32 × Mem) := LX9_isNear_4 (fun x2 σ7 => if (2 : Int32) ≤ x2 then some (0, σ7) else some (1, σ7)) 300 x0 x1 0 3 σ
set_option maxRecDepth 100000 in
set_option maxHeartbeats 4000000 in
theorem gX9_isNear (l : Launch) {D : va_G} {cI cZ : ClassId} {ad : Nat → Nat} {tT : Nat} (hi : INJ ad) (x0 : Int32) (x1 : Int32) (σ : Mem) : GM l D cI cZ ad tT yX9_isNear cX9_isNear 4 (some .boolean) 1 21 rvi [.int x0, .int x1] σ (fX9_isNear x0 x1 σ) := by
  refine gm_of (lv := [(0, .int x0), (1, .int x1)]) (own := RX9) hi (by decide +kernel) rfl (Nat.le_of_ble_eq_true rfl) rfl ?_
  intro p e s m args below meth c A C ls hl
  unfold fX9_isNear
  refine r_iconst (v := 0) C dX9_isNear_0 (by decide) ?_
  refine r_istore_n (lv' := [(2, .int 0), (0, .int x0), (1, .int x1)]) C dX9_isNear_1 rfl hl (by decide) rfl (fun ls hl => ?_)
  refine r_iconst (v := 3) C dX9_isNear_2 (by decide) ?_
  refine r_istore_n (lv' := [(3, .int 3), (2, .int 0), (0, .int x0), (1, .int x1)]) C dX9_isNear_3 rfl hl (by decide) rfl (fun ls hl => ?_)
  refine wX9_isNear_4  C _ ?_ 300 x0 x1 0 3 σ ls (lv_sub hl [2, 3, 1, 0] rfl)
  · intro x2 σ7 ls hl
    refine r_iload_n C dX9_isNear_37 rfl (lv_at hl 0 rfl) ?_
    refine r_iconst (v := 2) C dX9_isNear_38 (by decide) ?_
    refine r_icmp_ge (tgt := 46) C dX9_isNear_39 (by decide) ?_ ?_
    · refine r_iconst (v := 0) C dX9_isNear_46 (by decide) ?_
      exact r_zret C rfl (by decide) dX9_isNear_47
    · refine r_iconst (v := 1) C dX9_isNear_42 (by decide) ?_
      refine r_goto (tgt := 47) C dX9_isNear_43 (by decide) ?_
      exact r_zret C rfl (by decide) dX9_isNear_47

set_option maxRecDepth 100000 in
def BX9_betters_16 (k82 : Int32 → Mem → Option (Int32 × Mem)) (rec : Int32 → Int32 → Int32 → Mem → Option (Int32 × Mem)) (x1 : Int32) (x2 : Int32) (x3 : Int32) (σ : Mem) : Option (Int32 × Mem) := bnd (fX9_trees σ) (fun r4 σ5 => if (r4 : Int32) ≤ x3 then k82 x1 σ5 else gd 49 48 (bnd (fX9_isNear x3 (σ5 51 (48 : Int32).toNatClampNeg) σ5) (fun r6 σ7 => jn (fun x1 x2 x3 t0 σ8 => jn (fun x2 x3 x4 t0 σ9 => if (x2 : Int32) ≤ x4 then rec t0 x2 (x3 + 1) σ9 else rec t0 x4 (x3 + 1) σ9) (fun k62 => if (x2 : Int32) ≤ t0 then k62 x2 x3 t0 x1 σ8 else k62 x2 x3 t0 x3 σ8)) (fun k49 => if (r6 : Int32) = 0 then k49 x1 x2 x3 9999 σ7 else bnd (fX9_changesOf x3 σ7) (fun r10 σ11 => k49 x1 x2 x3 r10 σ11)))))
def LX9_betters_16 (k82 : Int32 → Mem → Option (Int32 × Mem)) : Nat → Int32 → Int32 → Int32 → Mem → Option (Int32 × Mem)
  | 0 => fun _ _ _ _ => none
  | n + 1 => BX9_betters_16 k82 (LX9_betters_16 k82 n)
set_option maxRecDepth 100000 in
set_option maxHeartbeats 4000000 in
theorem wX9_betters_16 {p : Program} {l : Launch} {e : Env} {s : State} {m : MethodId} {args : Array Value} {below : List Frame} {meth : Method} {c : Code} {D : va_G} {cI cZ : ClassId} {ad : Nat → Nat} {tT : Nat} {A : Nat → Prop} (C : CX p s m args meth c cX9_betters 5 RX9 (some .int) D cI cZ ad tT A) (k82 : Int32 → Mem → Option (Int32 × Mem)) (hk82 : ∀ (x1 : Int32) (σ : Mem) (ls : Array Slot), lv_has ls 5 [(0, .ref (ad 50)), (1, .int x1)] → WM p l e 5 119 s m args below meth c D cI cZ ad A rvi (k82 x1 σ) σ (F0 m 82 ls [])) :
    ∀ (n0 : Nat), ∀ (x1 : Int32) (x2 : Int32) (x3 : Int32) (σ : Mem) (ls : Array Slot), lv_has ls 5 [(0, .ref (ad 50)), (1, .int x1), (2, .int x2), (3, .int x3)] → WM p l e 5 119 s m args below meth c D cI cZ ad A rvi (LX9_betters_16 k82 n0 x1 x2 x3 σ) σ (F0 m 16 ls []) := by
  intro n0
  induction n0 with
  | zero => intro x1 x2 x3 σ ls hl; exact r_none
  | succ n0 ih =>
    intro x1 x2 x3 σ ls hl
    show WM p l e 5 119 s m args below meth c D cI cZ ad A rvi (BX9_betters_16 k82 (LX9_betters_16 k82 n0) x1 x2 x3 σ) σ (F0 m 16 ls [])
    unfold BX9_betters_16
    refine r_iload_n C dX9_betters_16 rfl (lv_at hl 3 rfl) ?_
    refine r_aload_n C dX9_betters_17 rfl (lv_at hl 0 rfl) ?_
    refine r_callVi (As := []) (rest := [.int x3]) C hl ml_X9_150 rc_50 (gX9_trees l C.inj σ) ⟨Nat.le_of_ble_eq_true rfl, Nat.le_of_ble_eq_true rfl⟩ ⟨Nat.le_of_ble_eq_true rfl, Nat.le_of_ble_eq_true rfl⟩ rfl rfl (Nat.le_of_ble_eq_true rfl) dX9_betters_18 (fun r4 σ5 => ?_)
    refine r_icmp_ge (tgt := 82) C dX9_betters_21 (by decide) ?_ ?_
    · exact hk82 x1 σ5 ls (lv_sub hl [0, 1] rfl)
    · refine r_iload_n C dX9_betters_24 rfl (lv_at hl 3 rfl) ?_
      refine r_aload_n C dX9_betters_25 rfl (lv_at hl 0 rfl) ?_
      refine r_getR C fl_X9_7 lf_50_2 dX9_betters_26 ?_
      refine r_bipush (v := 48) C dX9_betters_29 (by decide) ?_
      refine r_iald C la_51 dX9_betters_31 ?_
      refine r_callSi (As := [.int x3, .int (σ5 51 (48 : Int32).toNatClampNeg)]) (rest := []) C hl ml_X9_185 (gX9_isNear l C.inj x3 (σ5 51 (48 : Int32).toNatClampNeg) σ5) ⟨Nat.le_of_ble_eq_true rfl, Nat.le_of_ble_eq_true rfl⟩ ⟨Nat.le_of_ble_eq_true rfl, Nat.le_of_ble_eq_true rfl⟩ rfl rfl (Nat.le_of_ble_eq_true rfl) dX9_betters_32 (fun r6 σ7 => ?_)
      refine r_jn (fun (k49 : Int32 → Int32 → Int32 → Int32 → Mem → Option (Int32 × Mem)) => ∀ (x1 : Int32) (x2 : Int32) (x3 : Int32) (t0 : Int32) (σ : Mem) (ls : Array Slot), lv_has ls 5 [(0, .ref (ad 50)), (1, .int x1), (2, .int x2), (3, .int x3)] → WM p l e 5 119 s m args below meth c D cI cZ ad A rvi (k49 x1 x2 x3 t0 σ) σ (F0 m 49 ls [.int t0])) ?_ ?_
      · intro x1 x2 x3 t0 σ8 ls hl
        refine r_istore (lv' := [(4, .int t0), (0, .ref (ad 50)), (1, .int x1), (2, .int x2), (3, .int x3)]) C dX9_betters_49 hl (by decide) rfl (fun ls hl => ?_)
        refine r_iload C dX9_betters_51 (lv_at hl 0 rfl) ?_
        refine r_iload_n C dX9_betters_53 rfl (lv_at hl 3 rfl) ?_
        refine r_jn (fun (k62 : Int32 → Int32 → Int32 → Int32 → Mem → Option (Int32 × Mem)) => ∀ (x2 : Int32) (x3 : Int32) (x4 : Int32) (t0 : Int32) (σ : Mem) (ls : Array Slot), lv_has ls 5 [(0, .ref (ad 50)), (2, .int x2), (3, .int x3), (4, .int x4)] → WM p l e 5 119 s m args below meth c D cI cZ ad A rvi (k62 x2 x3 x4 t0 σ) σ (F0 m 62 ls [.int t0])) ?_ ?_
        · intro x2 x3 x4 t0 σ9 ls hl
          refine r_istore_n (lv' := [(1, .int t0), (0, .ref (ad 50)), (2, .int x2), (3, .int x3), (4, .int x4)]) C dX9_betters_62 rfl hl (by decide) rfl (fun ls hl => ?_)
          refine r_iload C dX9_betters_63 (lv_at hl 4 rfl) ?_
          refine r_iload_n C dX9_betters_65 rfl (lv_at hl 2 rfl) ?_
          refine r_icmp_ge (tgt := 74) C dX9_betters_66 (by decide) ?_ ?_
          · refine r_iload_n C dX9_betters_74 rfl (lv_at hl 2 rfl) ?_
            refine r_istore_n (lv' := [(2, .int x2), (1, .int t0), (0, .ref (ad 50)), (3, .int x3), (4, .int x4)]) C dX9_betters_75 rfl hl (by decide) rfl (fun ls hl => ?_)
            refine r_iinc (v := x3 + 1) (lv' := [(3, .int (x3 + 1)), (2, .int x2), (1, .int t0), (0, .ref (ad 50)), (4, .int x4)]) C dX9_betters_76 hl (k := 3) rfl rfl (by decide) rfl (fun ls hl => ?_)
            refine r_goto (tgt := 16) C dX9_betters_79 (by decide) ?_
            exact ih t0 x2 (x3 + 1) σ9 ls (lv_sub hl [3, 2, 1, 0] rfl)
          · refine r_iload C dX9_betters_69 (lv_at hl 4 rfl) ?_
            refine r_goto (tgt := 75) C dX9_betters_71 (by decide) ?_
            refine r_istore_n (lv' := [(2, .int x4), (1, .int t0), (0, .ref (ad 50)), (3, .int x3), (4, .int x4)]) C dX9_betters_75 rfl hl (by decide) rfl (fun ls hl => ?_)
            refine r_iinc (v := x3 + 1) (lv' := [(3, .int (x3 + 1)), (2, .int x4), (1, .int t0), (0, .ref (ad 50)), (4, .int x4)]) C dX9_betters_76 hl (k := 3) rfl rfl (by decide) rfl (fun ls hl => ?_)
            refine r_goto (tgt := 16) C dX9_betters_79 (by decide) ?_
            exact ih t0 x4 (x3 + 1) σ9 ls (lv_sub hl [3, 2, 1, 0] rfl)
        · intro k62 hk62
          refine r_icmp_ge (tgt := 61) C dX9_betters_54 (by decide) ?_ ?_
          · refine r_iload_n C dX9_betters_61 rfl (lv_at hl 2 rfl) ?_
            exact hk62 x2 x3 t0 x1 σ8 ls (lv_sub hl [1, 3, 4, 0] rfl)
          · refine r_iload_n C dX9_betters_57 rfl (lv_at hl 4 rfl) ?_
            refine r_goto (tgt := 62) C dX9_betters_58 (by decide) ?_
            exact hk62 x2 x3 t0 x3 σ8 ls (lv_sub hl [1, 3, 4, 0] rfl)
      · intro k49 hk49
        refine r_if_eq (tgt := 46) C dX9_betters_35 (by decide) ?_ ?_
        · refine r_sipush (v := 9999) C dX9_betters_46 (by decide) ?_
          exact hk49 x1 x2 x3 9999 σ7 ls (lv_sub hl [0, 1, 2, 3] rfl)
        · refine r_aload_n C dX9_betters_38 rfl (lv_at hl 0 rfl) ?_
          refine r_iload_n C dX9_betters_39 rfl (lv_at hl 3 rfl) ?_
          refine r_callVi (As := [.int x3]) (rest := []) C hl ml_X9_157 rc_50 (gX9_changesOf l C.inj x3 σ7) ⟨Nat.le_of_ble_eq_true rfl, Nat.le_of_ble_eq_true rfl⟩ ⟨Nat.le_of_ble_eq_true rfl, Nat.le_of_ble_eq_true rfl⟩ rfl rfl (Nat.le_of_ble_eq_true rfl) dX9_betters_40 (fun r10 σ11 => ?_)
          refine r_goto (tgt := 49) C dX9_betters_43 (by decide) ?_
          exact hk49 x1 x2 x3 r10 σ11 ls (lv_sub hl [0, 1, 2, 3] rfl)
set_option maxRecDepth 100000 in
def fX9_betters (σ : Mem) : Option (Int32 × Mem) := gd 49 48 (letv (σ 51 (48 : Int32).toNatClampNeg) (fun v1 => bnd (fX9_changesOf v1 σ) (fun r2 σ3 => LX9_betters_16 (fun x1 σ12 => gd 49 48 (if (x1 : Int32) = (σ12 51 (48 : Int32).toNatClampNeg) then some ((-2), σ12) else bnd (fX9_remember σ12) (fun r13 σ14 => gd 49 48 (letm (stm σ14 51 (48 : Int32).toNatClampNeg x1) (fun σ15 => some (x1, σ15)))))) 300 v1 r2 0 σ3)))
set_option maxRecDepth 100000 in
set_option maxHeartbeats 4000000 in
theorem gX9_betters (l : Launch) {D : va_G} {cI cZ : ClassId} {ad : Nat → Nat} {tT : Nat} (hi : INJ ad) (σ : Mem) : GM l D cI cZ ad tT yX9_betters cX9_betters 5 (some .int) 5 119 rvi [.ref (ad 50)] σ (fX9_betters σ) := by
  refine gm_of (lv := [(0, .ref (ad 50))]) (own := RX9) hi (by decide +kernel) rfl (Nat.le_of_ble_eq_true rfl) rfl ?_
  intro p e s m args below meth c A C ls hl
  unfold fX9_betters
  refine r_aload_n C dX9_betters_0 rfl (lv_at hl 0 rfl) ?_
  refine r_getR C fl_X9_7 lf_50_2 dX9_betters_1 ?_
  refine r_bipush (v := 48) C dX9_betters_4 (by decide) ?_
  refine r_iald C la_51 dX9_betters_6 ?_
  refine r_letv (fun v1 => ?_)
  refine r_istore_n (lv' := [(1, .int v1), (0, .ref (ad 50))]) C dX9_betters_7 rfl hl (by decide) rfl (fun ls hl => ?_)
  refine r_aload_n C dX9_betters_8 rfl (lv_at hl 1 rfl) ?_
  refine r_iload_n C dX9_betters_9 rfl (lv_at hl 0 rfl) ?_
  refine r_callVi (As := [.int v1]) (rest := []) C hl ml_X9_157 rc_50 (gX9_changesOf l C.inj v1 σ) ⟨Nat.le_of_ble_eq_true rfl, Nat.le_of_ble_eq_true rfl⟩ ⟨Nat.le_of_ble_eq_true rfl, Nat.le_of_ble_eq_true rfl⟩ rfl rfl (Nat.le_of_ble_eq_true rfl) dX9_betters_10 (fun r2 σ3 => ?_)
  refine r_istore_n (lv' := [(2, .int r2), (1, .int v1), (0, .ref (ad 50))]) C dX9_betters_13 rfl hl (by decide) rfl (fun ls hl => ?_)
  refine r_iconst (v := 0) C dX9_betters_14 (by decide) ?_
  refine r_istore_n (lv' := [(3, .int 0), (2, .int r2), (1, .int v1), (0, .ref (ad 50))]) C dX9_betters_15 rfl hl (by decide) rfl (fun ls hl => ?_)
  refine wX9_betters_16  C _ ?_ 300 v1 r2 0 σ3 ls (lv_sub hl [3, 2, 1, 0] rfl)
  · intro x1 σ12 ls hl
    refine r_iload_n C dX9_betters_82 rfl (lv_at hl 1 rfl) ?_
    refine r_aload_n C dX9_betters_83 rfl (lv_at hl 0 rfl) ?_
    refine r_getR C fl_X9_7 lf_50_2 dX9_betters_84 ?_
    refine r_bipush (v := 48) C dX9_betters_87 (by decide) ?_
    refine r_iald C la_51 dX9_betters_89 ?_
    refine r_icmp_ne (tgt := 96) C dX9_betters_90 (by decide) ?_ ?_
    · refine r_aload_n C dX9_betters_96 rfl (lv_at hl 0 rfl) ?_
      refine r_callVv (As := []) (rest := []) C hl ml_X9_179 rc_50 (gX9_remember l C.inj σ12) ⟨Nat.le_of_ble_eq_true rfl, Nat.le_of_ble_eq_true rfl⟩ ⟨Nat.le_of_ble_eq_true rfl, Nat.le_of_ble_eq_true rfl⟩ rfl rfl (Nat.le_of_ble_eq_true rfl) dX9_betters_97 (fun r13 σ14 => ?_)
      refine r_aload_n C dX9_betters_100 rfl (lv_at hl 0 rfl) ?_
      refine r_getR C fl_X9_7 lf_50_2 dX9_betters_101 ?_
      refine r_bipush (v := 48) C dX9_betters_104 (by decide) ?_
      refine r_iload_n C dX9_betters_106 rfl (lv_at hl 1 rfl) ?_
      refine r_iast C la_51 dX9_betters_107 ?_
      refine r_letm (fun σ15 => ?_)
      refine r_iload_n C dX9_betters_108 rfl (lv_at hl 1 rfl) ?_
      exact r_iret C rfl dX9_betters_109
    · refine r_bipush (v := (-2)) C dX9_betters_93 (by decide) ?_
      exact r_iret C rfl dX9_betters_95

set_option maxRecDepth 100000 in
def BX9_undo_38 (k70 : Mem → Option (Int32 × Mem)) (rec : Int32 → Mem → Option (Int32 × Mem)) (x1 : Int32) (σ : Mem) : Option (Int32 × Mem) := if (49 : Int32) ≤ x1 then k70 σ else gd 490 (((49 : Int32) * (σ 50 4)) + x1) (gd 49 x1 (letm (stm σ 51 x1.toNatClampNeg (σ 52 (((49 : Int32) * (σ 50 4)) + x1).toNatClampNeg)) (fun σ3 => rec (x1 + 1) σ3)))
def LX9_undo_38 (k70 : Mem → Option (Int32 × Mem)) : Nat → Int32 → Mem → Option (Int32 × Mem)
  | 0 => fun _ _ => none
  | n + 1 => BX9_undo_38 k70 (LX9_undo_38 k70 n)
set_option maxRecDepth 100000 in
set_option maxHeartbeats 4000000 in
theorem wX9_undo_38 {p : Program} {l : Launch} {e : Env} {s : State} {m : MethodId} {args : Array Value} {below : List Frame} {meth : Method} {c : Code} {D : va_G} {cI cZ : ClassId} {ad : Nat → Nat} {tT : Nat} {A : Nat → Prop} (C : CX p s m args meth c cX9_undo 2 RX9 (some .int) D cI cZ ad tT A) (k70 : Mem → Option (Int32 × Mem)) (hk70 : ∀ (σ : Mem) (ls : Array Slot), lv_has ls 2 [(0, .ref (ad 50))] → WM p l e 0 0 s m args below meth c D cI cZ ad A rvi (k70 σ) σ (F0 m 70 ls [])) :
    ∀ (n0 : Nat), ∀ (x1 : Int32) (σ : Mem) (ls : Array Slot), lv_has ls 2 [(0, .ref (ad 50)), (1, .int x1)] → WM p l e 0 0 s m args below meth c D cI cZ ad A rvi (LX9_undo_38 k70 n0 x1 σ) σ (F0 m 38 ls []) := by
  intro n0
  induction n0 with
  | zero => intro x1 σ ls hl; exact r_none
  | succ n0 ih =>
    intro x1 σ ls hl
    show WM p l e 0 0 s m args below meth c D cI cZ ad A rvi (BX9_undo_38 k70 (LX9_undo_38 k70 n0) x1 σ) σ (F0 m 38 ls [])
    unfold BX9_undo_38
    refine r_iload_n C dX9_undo_38 rfl (lv_at hl 1 rfl) ?_
    refine r_bipush (v := 49) C dX9_undo_39 (by decide) ?_
    refine r_icmp_ge (tgt := 70) C dX9_undo_41 (by decide) ?_ ?_
    · exact hk70 σ ls (lv_sub hl [0] rfl)
    · refine r_aload_n C dX9_undo_44 rfl (lv_at hl 0 rfl) ?_
      refine r_getR C fl_X9_7 lf_50_2 dX9_undo_45 ?_
      refine r_iload_n C dX9_undo_48 rfl (lv_at hl 1 rfl) ?_
      refine r_aload_n C dX9_undo_49 rfl (lv_at hl 0 rfl) ?_
      refine r_getR C fl_X9_13 lf_50_5 dX9_undo_50 ?_
      refine r_bipush (v := 49) C dX9_undo_53 (by decide) ?_
      refine r_aload_n C dX9_undo_55 rfl (lv_at hl 0 rfl) ?_
      refine r_getI C fl_X9_176 lf_50_4 dX9_undo_56 ?_
      refine r_imul C dX9_undo_59 ?_
      refine r_iload_n C dX9_undo_60 rfl (lv_at hl 1 rfl) ?_
      refine r_iadd C dX9_undo_61 ?_
      refine r_iald C la_52 dX9_undo_62 ?_
      refine r_iast C la_51 dX9_undo_63 ?_
      refine r_letm (fun σ3 => ?_)
      refine r_iinc (v := x1 + 1) (lv' := [(1, .int (x1 + 1)), (0, .ref (ad 50))]) C dX9_undo_64 hl (k := 1) rfl rfl (by decide) rfl (fun ls hl => ?_)
      refine r_goto (tgt := 38) C dX9_undo_67 (by decide) ?_
      exact ih (x1 + 1) σ3 ls (lv_sub hl [1, 0] rfl)
set_option maxRecDepth 100000 in
def fX9_undo (σ : Mem) : Option (Int32 × Mem) := if (σ 50 3 : Int32) = 0 then some ((-2), σ) else letm (stm σ 50 4 (remi (((σ 50 4) + 10) - 1) 10)) (fun σ1 => letm (stm σ1 50 3 ((σ1 50 3) - 1)) (fun σ2 => LX9_undo_38 (fun σ4 => some (σ4 50 3, σ4)) 300 0 σ2))
set_option maxRecDepth 100000 in
set_option maxHeartbeats 4000000 in
theorem gX9_undo (l : Launch) {D : va_G} {cI cZ : ClassId} {ad : Nat → Nat} {tT : Nat} (hi : INJ ad) (σ : Mem) : GM l D cI cZ ad tT yX9_undo cX9_undo 2 (some .int) 0 0 rvi [.ref (ad 50)] σ (fX9_undo σ) := by
  refine gm_of (lv := [(0, .ref (ad 50))]) (own := RX9) hi (by decide +kernel) rfl (Nat.le_of_ble_eq_true rfl) rfl ?_
  intro p e s m args below meth c A C ls hl
  unfold fX9_undo
  refine r_aload_n C dX9_undo_0 rfl (lv_at hl 0 rfl) ?_
  refine r_getI C fl_X9_92 lf_50_3 dX9_undo_1 ?_
  refine r_if_ne (tgt := 10) C dX9_undo_4 (by decide) ?_ ?_
  · refine r_aload_n C dX9_undo_10 rfl (lv_at hl 0 rfl) ?_
    refine r_aload_n C dX9_undo_11 rfl (lv_at hl 0 rfl) ?_
    refine r_getI C fl_X9_176 lf_50_4 dX9_undo_12 ?_
    refine r_bipush (v := 10) C dX9_undo_15 (by decide) ?_
    refine r_iadd C dX9_undo_17 ?_
    refine r_iconst (v := 1) C dX9_undo_18 (by decide) ?_
    refine r_isub C dX9_undo_19 ?_
    refine r_bipush (v := 10) C dX9_undo_20 (by decide) ?_
    refine r_irem2 C dX9_undo_22 (by decide) ?_
    refine r_putI C fl_X9_176 fp_X9_4 rfl rfl lf_50_4 dX9_undo_23 ?_
    refine r_letm (fun σ1 => ?_)
    refine r_aload_n C dX9_undo_26 rfl (lv_at hl 0 rfl) ?_
    refine r_dup C dX9_undo_27 rfl ?_
    refine r_getI C fl_X9_92 lf_50_3 dX9_undo_28 ?_
    refine r_iconst (v := 1) C dX9_undo_31 (by decide) ?_
    refine r_isub C dX9_undo_32 ?_
    refine r_putI C fl_X9_92 fp_X9_3 rfl rfl lf_50_3 dX9_undo_33 ?_
    refine r_letm (fun σ2 => ?_)
    refine r_iconst (v := 0) C dX9_undo_36 (by decide) ?_
    refine r_istore_n (lv' := [(1, .int 0), (0, .ref (ad 50))]) C dX9_undo_37 rfl hl (by decide) rfl (fun ls hl => ?_)
    refine wX9_undo_38  C _ ?_ 300 0 σ2 ls (lv_sub hl [1, 0] rfl)
    · intro σ4 ls hl
      refine r_aload_n C dX9_undo_70 rfl (lv_at hl 0 rfl) ?_
      refine r_getI C fl_X9_92 lf_50_3 dX9_undo_71 ?_
      exact r_iret C rfl dX9_undo_74
  · refine r_bipush (v := (-2)) C dX9_undo_7 (by decide) ?_
    exact r_iret C rfl dX9_undo_9

set_option maxRecDepth 100000 in
def BX9_fitting_62 (k105 : Int32 → Int32 → Mem → Option (Int32 × Mem)) (rec : Int32 → Int32 → Int32 → Int32 → Int32 → Mem → Option (Int32 × Mem)) (x2 : Int32) (x3 : Int32) (x4 : Int32) (x5 : Int32) (x6 : Int32) (σ : Mem) : Option (Int32 × Mem) := if (4 : Int32) ≤ x6 then k105 x3 x5 σ else gd 49 x3 (letm (stm σ 51 x3.toNatClampNeg x6) (fun σ10 => bnd (fX9_changesAt x2 σ10) (fun r11 σ12 => if (r11 : Int32) = x4 then letv (x5 ||| ((1 : Int32) <<< (x6 &&& 31))) (fun v14 => rec x2 x3 x4 v14 (x6 + 1) σ12) else letv (x5 ||| 0) (fun v13 => rec x2 x3 x4 v13 (x6 + 1) σ12))))
def LX9_fitting_62 (k105 : Int32 → Int32 → Mem → Option (Int32 × Mem)) : Nat → Int32 → Int32 → Int32 → Int32 → Int32 → Mem → Option (Int32 × Mem)
  | 0 => fun _ _ _ _ _ _ => none
  | n + 1 => BX9_fitting_62 k105 (LX9_fitting_62 k105 n)
set_option maxRecDepth 100000 in
set_option maxHeartbeats 4000000 in
theorem wX9_fitting_62 {p : Program} {l : Launch} {e : Env} {s : State} {m : MethodId} {args : Array Value} {below : List Frame} {meth : Method} {c : Code} {D : va_G} {cI cZ : ClassId} {ad : Nat → Nat} {tT : Nat} {A : Nat → Prop} (C : CX p s m args meth c cX9_fitting 7 RX9 (some .int) D cI cZ ad tT A) (k105 : Int32 → Int32 → Mem → Option (Int32 × Mem)) (hk105 : ∀ (x3 : Int32) (x5 : Int32) (σ : Mem) (ls : Array Slot), lv_has ls 7 [(0, .ref (ad 50)), (3, .int x3), (5, .int x5)] → WM p l e 4 96 s m args below meth c D cI cZ ad A rvi (k105 x3 x5 σ) σ (F0 m 105 ls [])) :
    ∀ (n0 : Nat), ∀ (x2 : Int32) (x3 : Int32) (x4 : Int32) (x5 : Int32) (x6 : Int32) (σ : Mem) (ls : Array Slot), lv_has ls 7 [(0, .ref (ad 50)), (2, .int x2), (3, .int x3), (4, .int x4), (5, .int x5), (6, .int x6)] → WM p l e 4 96 s m args below meth c D cI cZ ad A rvi (LX9_fitting_62 k105 n0 x2 x3 x4 x5 x6 σ) σ (F0 m 62 ls []) := by
  intro n0
  induction n0 with
  | zero => intro x2 x3 x4 x5 x6 σ ls hl; exact r_none
  | succ n0 ih =>
    intro x2 x3 x4 x5 x6 σ ls hl
    show WM p l e 4 96 s m args below meth c D cI cZ ad A rvi (BX9_fitting_62 k105 (LX9_fitting_62 k105 n0) x2 x3 x4 x5 x6 σ) σ (F0 m 62 ls [])
    unfold BX9_fitting_62
    refine r_iload C dX9_fitting_62 (lv_at hl 5 rfl) ?_
    refine r_iconst (v := 4) C dX9_fitting_64 (by decide) ?_
    refine r_icmp_ge (tgt := 105) C dX9_fitting_65 (by decide) ?_ ?_
    · exact hk105 x3 x5 σ ls (lv_sub hl [0, 2, 4] rfl)
    · refine r_aload_n C dX9_fitting_68 rfl (lv_at hl 0 rfl) ?_
      refine r_getR C fl_X9_7 lf_50_2 dX9_fitting_69 ?_
      refine r_iload_n C dX9_fitting_72 rfl (lv_at hl 2 rfl) ?_
      refine r_iload C dX9_fitting_73 (lv_at hl 5 rfl) ?_
      refine r_iast C la_51 dX9_fitting_75 ?_
      refine r_letm (fun σ10 => ?_)
      refine r_iload C dX9_fitting_76 (lv_at hl 4 rfl) ?_
      refine r_aload_n C dX9_fitting_78 rfl (lv_at hl 0 rfl) ?_
      refine r_iload_n C dX9_fitting_79 rfl (lv_at hl 1 rfl) ?_
      refine r_callVi (As := [.int x2]) (rest := [.int x5]) C hl ml_X9_147 rc_50 (gX9_changesAt l C.inj x2 σ10) ⟨Nat.le_of_ble_eq_true rfl, Nat.le_of_ble_eq_true rfl⟩ ⟨Nat.le_of_ble_eq_true rfl, Nat.le_of_ble_eq_true rfl⟩ rfl rfl (Nat.le_of_ble_eq_true rfl) dX9_fitting_80 (fun r11 σ12 => ?_)
      refine r_iload C dX9_fitting_83 (lv_at hl 3 rfl) ?_
      refine r_icmp_ne (tgt := 95) C dX9_fitting_85 (by decide) ?_ ?_
      · refine r_iconst (v := 0) C dX9_fitting_95 (by decide) ?_
        refine r_ior C dX9_fitting_96 ?_
        refine r_letv (fun v13 => ?_)
        refine r_istore (lv' := [(5, .int v13), (0, .ref (ad 50)), (2, .int x2), (3, .int x3), (4, .int x4), (6, .int x6)]) C dX9_fitting_97 hl (by decide) rfl (fun ls hl => ?_)
        refine r_iinc (v := x6 + 1) (lv' := [(6, .int (x6 + 1)), (5, .int v13), (0, .ref (ad 50)), (2, .int x2), (3, .int x3), (4, .int x4)]) C dX9_fitting_99 hl (k := 5) rfl rfl (by decide) rfl (fun ls hl => ?_)
        refine r_goto (tgt := 62) C dX9_fitting_102 (by decide) ?_
        exact ih x2 x3 x4 v13 (x6 + 1) σ12 ls (lv_sub hl [2, 3, 4, 5, 1, 0] rfl)
      · refine r_iconst (v := 1) C dX9_fitting_88 (by decide) ?_
        refine r_iload C dX9_fitting_89 (lv_at hl 5 rfl) ?_
        refine r_ishl C dX9_fitting_91 ?_
        refine r_goto (tgt := 96) C dX9_fitting_92 (by decide) ?_
        refine r_ior C dX9_fitting_96 ?_
        refine r_letv (fun v14 => ?_)
        refine r_istore (lv' := [(5, .int v14), (0, .ref (ad 50)), (2, .int x2), (3, .int x3), (4, .int x4), (6, .int x6)]) C dX9_fitting_97 hl (by decide) rfl (fun ls hl => ?_)
        refine r_iinc (v := x6 + 1) (lv' := [(6, .int (x6 + 1)), (5, .int v14), (0, .ref (ad 50)), (2, .int x2), (3, .int x3), (4, .int x4)]) C dX9_fitting_99 hl (k := 5) rfl rfl (by decide) rfl (fun ls hl => ?_)
        refine r_goto (tgt := 62) C dX9_fitting_102 (by decide) ?_
        exact ih x2 x3 x4 v14 (x6 + 1) σ12 ls (lv_sub hl [2, 3, 4, 5, 1, 0] rfl)
set_option maxRecDepth 100000 in
def fX9_fitting (x1 : Int32) (x2 : Int32) (σ : Mem) : Option (Int32 × Mem) := bnd (fX9_isCopy x1 σ) (fun r1 σ2 => if (r1 : Int32) = 0 then some ((-1), σ2) else bnd (fX9_isPlace x2 σ2) (fun r3 σ4 => if (r3 : Int32) = 0 then some ((-1), σ4) else letv (((8 : Int32) * x1) + x2) (fun v5 => gd 49 v5 (if (σ4 51 v5.toNatClampNeg : Int32) = 4 then gd 49 48 (bnd (fX9_layTree (σ4 51 (48 : Int32).toNatClampNeg) σ4) (fun r6 σ7 => bnd (fX9_changesAt x2 σ7) (fun r8 σ9 => LX9_fitting_62 (fun x3 x5 σ15 => gd 49 x3 (letm (stm σ15 51 x3.toNatClampNeg 4) (fun σ16 => some (x5, σ16)))) 300 x2 v5 r8 0 0 σ9))) else some ((-9), σ4)))))
set_option maxRecDepth 100000 in
set_option maxHeartbeats 4000000 in
theorem gX9_fitting (l : Launch) {D : va_G} {cI cZ : ClassId} {ad : Nat → Nat} {tT : Nat} (hi : INJ ad) (x1 : Int32) (x2 : Int32) (σ : Mem) : GM l D cI cZ ad tT yX9_fitting cX9_fitting 7 (some .int) 4 96 rvi [.ref (ad 50), .int x1, .int x2] σ (fX9_fitting x1 x2 σ) := by
  refine gm_of (lv := [(0, .ref (ad 50)), (1, .int x1), (2, .int x2)]) (own := RX9) hi (by decide +kernel) rfl (Nat.le_of_ble_eq_true rfl) rfl ?_
  intro p e s m args below meth c A C ls hl
  unfold fX9_fitting
  refine r_aload_n C dX9_fitting_0 rfl (lv_at hl 0 rfl) ?_
  refine r_iload_n C dX9_fitting_1 rfl (lv_at hl 1 rfl) ?_
  refine r_callVi (As := [.int x1]) (rest := []) C hl ml_X9_98 rc_50 (gX9_isCopy l C.inj x1 σ) ⟨Nat.le_of_ble_eq_true rfl, Nat.le_of_ble_eq_true rfl⟩ ⟨Nat.le_of_ble_eq_true rfl, Nat.le_of_ble_eq_true rfl⟩ rfl rfl (Nat.le_of_ble_eq_true rfl) dX9_fitting_2 (fun r1 σ2 => ?_)
  refine r_if_eq (tgt := 16) C dX9_fitting_5 (by decide) ?_ ?_
  · refine r_iconst (v := (-1)) C dX9_fitting_16 (by decide) ?_
    exact r_iret C rfl dX9_fitting_17
  · refine r_aload_n C dX9_fitting_8 rfl (lv_at hl 0 rfl) ?_
    refine r_iload_n C dX9_fitting_9 rfl (lv_at hl 2 rfl) ?_
    refine r_callVi (As := [.int x2]) (rest := []) C hl ml_X9_102 rc_50 (gX9_isPlace l C.inj x2 σ2) ⟨Nat.le_of_ble_eq_true rfl, Nat.le_of_ble_eq_true rfl⟩ ⟨Nat.le_of_ble_eq_true rfl, Nat.le_of_ble_eq_true rfl⟩ rfl rfl (Nat.le_of_ble_eq_true rfl) dX9_fitting_10 (fun r3 σ4 => ?_)
    refine r_if_ne (tgt := 18) C dX9_fitting_13 (by decide) ?_ ?_
    · refine r_bipush (v := 8) C dX9_fitting_18 (by decide) ?_
      refine r_iload_n C dX9_fitting_20 rfl (lv_at hl 1 rfl) ?_
      refine r_imul C dX9_fitting_21 ?_
      refine r_iload_n C dX9_fitting_22 rfl (lv_at hl 2 rfl) ?_
      refine r_iadd C dX9_fitting_23 ?_
      refine r_letv (fun v5 => ?_)
      refine r_istore_n (lv' := [(3, .int v5), (0, .ref (ad 50)), (1, .int x1), (2, .int x2)]) C dX9_fitting_24 rfl hl (by decide) rfl (fun ls hl => ?_)
      refine r_aload_n C dX9_fitting_25 rfl (lv_at hl 1 rfl) ?_
      refine r_getR C fl_X9_7 lf_50_2 dX9_fitting_26 ?_
      refine r_iload_n C dX9_fitting_29 rfl (lv_at hl 0 rfl) ?_
      refine r_iald C la_51 dX9_fitting_30 ?_
      refine r_iconst (v := 4) C dX9_fitting_31 (by decide) ?_
      refine r_icmp_eq (tgt := 38) C dX9_fitting_32 (by decide) ?_ ?_
      · refine r_aload_n C dX9_fitting_38 rfl (lv_at hl 1 rfl) ?_
        refine r_aload_n C dX9_fitting_39 rfl (lv_at hl 1 rfl) ?_
        refine r_getR C fl_X9_7 lf_50_2 dX9_fitting_40 ?_
        refine r_bipush (v := 48) C dX9_fitting_43 (by decide) ?_
        refine r_iald C la_51 dX9_fitting_45 ?_
        refine r_callVv (As := [.int (σ4 51 (48 : Int32).toNatClampNeg)]) (rest := []) C hl ml_X9_144 rc_50 (gX9_layTree l C.inj (σ4 51 (48 : Int32).toNatClampNeg) σ4) ⟨Nat.le_of_ble_eq_true rfl, Nat.le_of_ble_eq_true rfl⟩ ⟨Nat.le_of_ble_eq_true rfl, Nat.le_of_ble_eq_true rfl⟩ rfl rfl (Nat.le_of_ble_eq_true rfl) dX9_fitting_46 (fun r6 σ7 => ?_)
        refine r_aload_n C dX9_fitting_49 rfl (lv_at hl 1 rfl) ?_
        refine r_iload_n C dX9_fitting_50 rfl (lv_at hl 3 rfl) ?_
        refine r_callVi (As := [.int x2]) (rest := []) C hl ml_X9_147 rc_50 (gX9_changesAt l C.inj x2 σ7) ⟨Nat.le_of_ble_eq_true rfl, Nat.le_of_ble_eq_true rfl⟩ ⟨Nat.le_of_ble_eq_true rfl, Nat.le_of_ble_eq_true rfl⟩ rfl rfl (Nat.le_of_ble_eq_true rfl) dX9_fitting_51 (fun r8 σ9 => ?_)
        refine r_istore (lv' := [(4, .int r8), (3, .int v5), (0, .ref (ad 50)), (1, .int x1), (2, .int x2)]) C dX9_fitting_54 hl (by decide) rfl (fun ls hl => ?_)
        refine r_iconst (v := 0) C dX9_fitting_56 (by decide) ?_
        refine r_istore (lv' := [(5, .int 0), (4, .int r8), (3, .int v5), (0, .ref (ad 50)), (1, .int x1), (2, .int x2)]) C dX9_fitting_57 hl (by decide) rfl (fun ls hl => ?_)
        refine r_iconst (v := 0) C dX9_fitting_59 (by decide) ?_
        refine r_istore (lv' := [(6, .int 0), (5, .int 0), (4, .int r8), (3, .int v5), (0, .ref (ad 50)), (1, .int x1), (2, .int x2)]) C dX9_fitting_60 hl (by decide) rfl (fun ls hl => ?_)
        refine wX9_fitting_62  C _ ?_ 300 x2 v5 r8 0 0 σ9 ls (lv_sub hl [4, 6, 3, 2, 1, 0] rfl)
        · intro x3 x5 σ15 ls hl
          refine r_aload_n C dX9_fitting_105 rfl (lv_at hl 0 rfl) ?_
          refine r_getR C fl_X9_7 lf_50_2 dX9_fitting_106 ?_
          refine r_iload_n C dX9_fitting_109 rfl (lv_at hl 1 rfl) ?_
          refine r_iconst (v := 4) C dX9_fitting_110 (by decide) ?_
          refine r_iast C la_51 dX9_fitting_111 ?_
          refine r_letm (fun σ16 => ?_)
          refine r_iload C dX9_fitting_112 (lv_at hl 2 rfl) ?_
          exact r_iret C rfl dX9_fitting_114
      · refine r_bipush (v := (-9)) C dX9_fitting_35 (by decide) ?_
        exact r_iret C rfl dX9_fitting_37
    · refine r_iconst (v := (-1)) C dX9_fitting_16 (by decide) ?_
      exact r_iret C rfl dX9_fitting_17

set_option maxRecDepth 100000 in
def BX9_isTold_6 (k56 : Int32 → Mem → Option (Int32 × Mem)) (rec : Int32 → Int32 → Int32 → Int32 → Int32 → Int32 → Mem → Option (Int32 × Mem)) (x1 : Int32) (x2 : Int32) (x3 : Int32) (x4 : Int32) (x5 : Int32) (x6 : Int32) (σ : Mem) : Option (Int32 × Mem) := if (σ 50 0 : Int32) ≤ x6 then k56 x5 σ else if (x5 : Int32) = 0 then bnd (fX9_readingOf x6 x1 σ) (fun r1 σ2 => if (r1 : Int32) = x2 then bnd (fX9_readingOf x6 x3 σ2) (fun r3 σ4 => if (r3 : Int32) = x4 then rec x1 x2 x3 x4 1 (x6 + 1) σ4 else rec x1 x2 x3 x4 0 (x6 + 1) σ4) else rec x1 x2 x3 x4 0 (x6 + 1) σ2) else rec x1 x2 x3 x4 1 (x6 + 1) σ
def LX9_isTold_6 (k56 : Int32 → Mem → Option (Int32 × Mem)) : Nat → Int32 → Int32 → Int32 → Int32 → Int32 → Int32 → Mem → Option (Int32 × Mem)
  | 0 => fun _ _ _ _ _ _ _ => none
  | n + 1 => BX9_isTold_6 k56 (LX9_isTold_6 k56 n)
set_option maxRecDepth 100000 in
set_option maxHeartbeats 4000000 in
theorem wX9_isTold_6 {p : Program} {l : Launch} {e : Env} {s : State} {m : MethodId} {args : Array Value} {below : List Frame} {meth : Method} {c : Code} {D : va_G} {cI cZ : ClassId} {ad : Nat → Nat} {tT : Nat} {A : Nat → Prop} (C : CX p s m args meth c cX9_isTold 7 RX9 (some .boolean) D cI cZ ad tT A) (k56 : Int32 → Mem → Option (Int32 × Mem)) (hk56 : ∀ (x5 : Int32) (σ : Mem) (ls : Array Slot), lv_has ls 7 [(5, .int x5)] → WM p l e 1 22 s m args below meth c D cI cZ ad A rvi (k56 x5 σ) σ (F0 m 56 ls [])) :
    ∀ (n0 : Nat), ∀ (x1 : Int32) (x2 : Int32) (x3 : Int32) (x4 : Int32) (x5 : Int32) (x6 : Int32) (σ : Mem) (ls : Array Slot), lv_has ls 7 [(0, .ref (ad 50)), (1, .int x1), (2, .int x2), (3, .int x3), (4, .int x4), (5, .int x5), (6, .int x6)] → WM p l e 1 22 s m args below meth c D cI cZ ad A rvi (LX9_isTold_6 k56 n0 x1 x2 x3 x4 x5 x6 σ) σ (F0 m 6 ls []) := by
  intro n0
  induction n0 with
  | zero => intro x1 x2 x3 x4 x5 x6 σ ls hl; exact r_none
  | succ n0 ih =>
    intro x1 x2 x3 x4 x5 x6 σ ls hl
    show WM p l e 1 22 s m args below meth c D cI cZ ad A rvi (BX9_isTold_6 k56 (LX9_isTold_6 k56 n0) x1 x2 x3 x4 x5 x6 σ) σ (F0 m 6 ls [])
    unfold BX9_isTold_6
    refine r_iload C dX9_isTold_6 (lv_at hl 6 rfl) ?_
    refine r_aload_n C dX9_isTold_8 rfl (lv_at hl 0 rfl) ?_
    refine r_getI C fl_X9_86 lf_50_0 dX9_isTold_9 ?_
    refine r_icmp_ge (tgt := 56) C dX9_isTold_12 (by decide) ?_ ?_
    · exact hk56 x5 σ ls (lv_sub hl [5] rfl)
    · refine r_iload C dX9_isTold_15 (lv_at hl 5 rfl) ?_
      refine r_if_ne (tgt := 43) C dX9_isTold_17 (by decide) ?_ ?_
      · refine r_iconst (v := 1) C dX9_isTold_43 (by decide) ?_
        refine r_goto (tgt := 48) C dX9_isTold_44 (by decide) ?_
        refine r_istore (lv' := [(5, .int 1), (0, .ref (ad 50)), (1, .int x1), (2, .int x2), (3, .int x3), (4, .int x4), (6, .int x6)]) C dX9_isTold_48 hl (by decide) rfl (fun ls hl => ?_)
        refine r_iinc (v := x6 + 1) (lv' := [(6, .int (x6 + 1)), (5, .int 1), (0, .ref (ad 50)), (1, .int x1), (2, .int x2), (3, .int x3), (4, .int x4)]) C dX9_isTold_50 hl (k := 6) rfl rfl (by decide) rfl (fun ls hl => ?_)
        refine r_goto (tgt := 6) C dX9_isTold_53 (by decide) ?_
        exact ih x1 x2 x3 x4 1 (x6 + 1) σ ls (lv_sub hl [2, 3, 4, 5, 6, 1, 0] rfl)
      · refine r_aload_n C dX9_isTold_20 rfl (lv_at hl 0 rfl) ?_
        refine r_iload C dX9_isTold_21 (lv_at hl 6 rfl) ?_
        refine r_iload_n C dX9_isTold_23 rfl (lv_at hl 1 rfl) ?_
        refine r_callVi (As := [.int x6, .int x1]) (rest := []) C hl ml_X9_105 rc_50 (gX9_readingOf l C.inj x6 x1 σ) ⟨Nat.le_of_ble_eq_true rfl, Nat.le_of_ble_eq_true rfl⟩ ⟨Nat.le_of_ble_eq_true rfl, Nat.le_of_ble_eq_true rfl⟩ rfl rfl (Nat.le_of_ble_eq_true rfl) dX9_isTold_24 (fun r1 σ2 => ?_)
        refine r_iload_n C dX9_isTold_27 rfl (lv_at hl 2 rfl) ?_
        refine r_icmp_ne (tgt := 47) C dX9_isTold_28 (by decide) ?_ ?_
        · refine r_iconst (v := 0) C dX9_isTold_47 (by decide) ?_
          refine r_istore (lv' := [(5, .int 0), (0, .ref (ad 50)), (1, .int x1), (2, .int x2), (3, .int x3), (4, .int x4), (6, .int x6)]) C dX9_isTold_48 hl (by decide) rfl (fun ls hl => ?_)
          refine r_iinc (v := x6 + 1) (lv' := [(6, .int (x6 + 1)), (5, .int 0), (0, .ref (ad 50)), (1, .int x1), (2, .int x2), (3, .int x3), (4, .int x4)]) C dX9_isTold_50 hl (k := 6) rfl rfl (by decide) rfl (fun ls hl => ?_)
          refine r_goto (tgt := 6) C dX9_isTold_53 (by decide) ?_
          exact ih x1 x2 x3 x4 0 (x6 + 1) σ2 ls (lv_sub hl [2, 3, 4, 5, 6, 1, 0] rfl)
        · refine r_aload_n C dX9_isTold_31 rfl (lv_at hl 0 rfl) ?_
          refine r_iload C dX9_isTold_32 (lv_at hl 6 rfl) ?_
          refine r_iload_n C dX9_isTold_34 rfl (lv_at hl 3 rfl) ?_
          refine r_callVi (As := [.int x6, .int x3]) (rest := []) C hl ml_X9_105 rc_50 (gX9_readingOf l C.inj x6 x3 σ2) ⟨Nat.le_of_ble_eq_true rfl, Nat.le_of_ble_eq_true rfl⟩ ⟨Nat.le_of_ble_eq_true rfl, Nat.le_of_ble_eq_true rfl⟩ rfl rfl (Nat.le_of_ble_eq_true rfl) dX9_isTold_35 (fun r3 σ4 => ?_)
          refine r_iload C dX9_isTold_38 (lv_at hl 4 rfl) ?_
          refine r_icmp_ne (tgt := 47) C dX9_isTold_40 (by decide) ?_ ?_
          · refine r_iconst (v := 0) C dX9_isTold_47 (by decide) ?_
            refine r_istore (lv' := [(5, .int 0), (0, .ref (ad 50)), (1, .int x1), (2, .int x2), (3, .int x3), (4, .int x4), (6, .int x6)]) C dX9_isTold_48 hl (by decide) rfl (fun ls hl => ?_)
            refine r_iinc (v := x6 + 1) (lv' := [(6, .int (x6 + 1)), (5, .int 0), (0, .ref (ad 50)), (1, .int x1), (2, .int x2), (3, .int x3), (4, .int x4)]) C dX9_isTold_50 hl (k := 6) rfl rfl (by decide) rfl (fun ls hl => ?_)
            refine r_goto (tgt := 6) C dX9_isTold_53 (by decide) ?_
            exact ih x1 x2 x3 x4 0 (x6 + 1) σ4 ls (lv_sub hl [2, 3, 4, 5, 6, 1, 0] rfl)
          · refine r_iconst (v := 1) C dX9_isTold_43 (by decide) ?_
            refine r_goto (tgt := 48) C dX9_isTold_44 (by decide) ?_
            refine r_istore (lv' := [(5, .int 1), (0, .ref (ad 50)), (1, .int x1), (2, .int x2), (3, .int x3), (4, .int x4), (6, .int x6)]) C dX9_isTold_48 hl (by decide) rfl (fun ls hl => ?_)
            refine r_iinc (v := x6 + 1) (lv' := [(6, .int (x6 + 1)), (5, .int 1), (0, .ref (ad 50)), (1, .int x1), (2, .int x2), (3, .int x3), (4, .int x4)]) C dX9_isTold_50 hl (k := 6) rfl rfl (by decide) rfl (fun ls hl => ?_)
            refine r_goto (tgt := 6) C dX9_isTold_53 (by decide) ?_
            exact ih x1 x2 x3 x4 1 (x6 + 1) σ4 ls (lv_sub hl [2, 3, 4, 5, 6, 1, 0] rfl)
set_option maxRecDepth 100000 in
def fX9_isTold (x1 : Int32) (x2 : Int32) (x3 : Int32) (x4 : Int32) (σ : Mem) : Option (Int32 × Mem) := LX9_isTold_6 (fun x5 σ5 => gb x5 (some (x5, σ5))) 300 x1 x2 x3 x4 0 0 σ
set_option maxRecDepth 100000 in
set_option maxHeartbeats 4000000 in
theorem gX9_isTold (l : Launch) {D : va_G} {cI cZ : ClassId} {ad : Nat → Nat} {tT : Nat} (hi : INJ ad) (x1 : Int32) (x2 : Int32) (x3 : Int32) (x4 : Int32) (σ : Mem) : GM l D cI cZ ad tT yX9_isTold cX9_isTold 7 (some .boolean) 1 22 rvi [.ref (ad 50), .int x1, .int x2, .int x3, .int x4] σ (fX9_isTold x1 x2 x3 x4 σ) := by
  refine gm_of (lv := [(0, .ref (ad 50)), (1, .int x1), (2, .int x2), (3, .int x3), (4, .int x4)]) (own := RX9) hi (by decide +kernel) rfl (Nat.le_of_ble_eq_true rfl) rfl ?_
  intro p e s m args below meth c A C ls hl
  unfold fX9_isTold
  refine r_iconst (v := 0) C dX9_isTold_0 (by decide) ?_
  refine r_istore (lv' := [(5, .int 0), (0, .ref (ad 50)), (1, .int x1), (2, .int x2), (3, .int x3), (4, .int x4)]) C dX9_isTold_1 hl (by decide) rfl (fun ls hl => ?_)
  refine r_iconst (v := 0) C dX9_isTold_3 (by decide) ?_
  refine r_istore (lv' := [(6, .int 0), (5, .int 0), (0, .ref (ad 50)), (1, .int x1), (2, .int x2), (3, .int x3), (4, .int x4)]) C dX9_isTold_4 hl (by decide) rfl (fun ls hl => ?_)
  refine wX9_isTold_6  C _ ?_ 300 x1 x2 x3 x4 0 0 σ ls (lv_sub hl [2, 3, 4, 5, 6, 1, 0] rfl)
  · intro x5 σ5 ls hl
    refine r_iload C dX9_isTold_56 (lv_at hl 0 rfl) ?_
    exact r_zretG C rfl dX9_isTold_58

set_option maxRecDepth 100000 in
def BX9_quarrels_5 (k125 : Int32 → Mem → Option (Int32 × Mem)) (rec : Int32 → Int32 → Int32 → Int32 → Mem → Option (Int32 × Mem)) (x1 : Int32) (x2 : Int32) (x3 : Int32) (x4 : Int32) (σ : Mem) : Option (Int32 × Mem) := if (256 : Int32) ≤ x4 then k125 x3 σ else letv (x4 / 64) (fun v1 => letv (remi (x4 / 16) 4) (fun v2 => letv (remi (x4 / 4) 4) (fun v3 => letv (remi x4 4) (fun v4 => if (x3 : Int32) = 0 then if (v2 : Int32) ≤ v1 then rec x1 x2 0 (x4 + 1) σ else if (v4 : Int32) ≤ v3 then rec x1 x2 0 (x4 + 1) σ else bnd (fX9_isTold x1 v1 x2 v3 σ) (fun r5 σ6 => if (r5 : Int32) = 0 then rec x1 x2 0 (x4 + 1) σ6 else bnd (fX9_isTold x1 v1 x2 v4 σ6) (fun r7 σ8 => if (r7 : Int32) = 0 then rec x1 x2 0 (x4 + 1) σ8 else bnd (fX9_isTold x1 v2 x2 v3 σ8) (fun r9 σ10 => if (r9 : Int32) = 0 then rec x1 x2 0 (x4 + 1) σ10 else bnd (fX9_isTold x1 v2 x2 v4 σ10) (fun r11 σ12 => if (r11 : Int32) = 0 then rec x1 x2 0 (x4 + 1) σ12 else rec x1 x2 1 (x4 + 1) σ12)))) else rec x1 x2 1 (x4 + 1) σ))))
def LX9_quarrels_5 (k125 : Int32 → Mem → Option (Int32 × Mem)) : Nat → Int32 → Int32 → Int32 → Int32 → Mem → Option (Int32 × Mem)
  | 0 => fun _ _ _ _ _ => none
  | n + 1 => BX9_quarrels_5 k125 (LX9_quarrels_5 k125 n)
set_option maxRecDepth 100000 in
set_option maxHeartbeats 4000000 in
theorem wX9_quarrels_5 {p : Program} {l : Launch} {e : Env} {s : State} {m : MethodId} {args : Array Value} {below : List Frame} {meth : Method} {c : Code} {D : va_G} {cI cZ : ClassId} {ad : Nat → Nat} {tT : Nat} {A : Nat → Prop} (C : CX p s m args meth c cX9_quarrels 9 RX9 (some .boolean) D cI cZ ad tT A) (k125 : Int32 → Mem → Option (Int32 × Mem)) (hk125 : ∀ (x3 : Int32) (σ : Mem) (ls : Array Slot), lv_has ls 9 [(3, .int x3)] → WM p l e 2 48 s m args below meth c D cI cZ ad A rvi (k125 x3 σ) σ (F0 m 125 ls [])) :
    ∀ (n0 : Nat), ∀ (x1 : Int32) (x2 : Int32) (x3 : Int32) (x4 : Int32) (σ : Mem) (ls : Array Slot), lv_has ls 9 [(0, .ref (ad 50)), (1, .int x1), (2, .int x2), (3, .int x3), (4, .int x4)] → WM p l e 2 48 s m args below meth c D cI cZ ad A rvi (LX9_quarrels_5 k125 n0 x1 x2 x3 x4 σ) σ (F0 m 5 ls []) := by
  intro n0
  induction n0 with
  | zero => intro x1 x2 x3 x4 σ ls hl; exact r_none
  | succ n0 ih =>
    intro x1 x2 x3 x4 σ ls hl
    show WM p l e 2 48 s m args below meth c D cI cZ ad A rvi (BX9_quarrels_5 k125 (LX9_quarrels_5 k125 n0) x1 x2 x3 x4 σ) σ (F0 m 5 ls [])
    unfold BX9_quarrels_5
    refine r_iload C dX9_quarrels_5 (lv_at hl 4 rfl) ?_
    refine r_sipush (v := 256) C dX9_quarrels_7 (by decide) ?_
    refine r_icmp_ge (tgt := 125) C dX9_quarrels_10 (by decide) ?_ ?_
    · exact hk125 x3 σ ls (lv_sub hl [3] rfl)
    · refine r_iload C dX9_quarrels_13 (lv_at hl 4 rfl) ?_
      refine r_bipush (v := 64) C dX9_quarrels_15 (by decide) ?_
      refine r_idiv C dX9_quarrels_17 (by decide) ?_
      refine r_letv (fun v1 => ?_)
      refine r_istore (lv' := [(5, .int v1), (0, .ref (ad 50)), (1, .int x1), (2, .int x2), (3, .int x3), (4, .int x4)]) C dX9_quarrels_18 hl (by decide) rfl (fun ls hl => ?_)
      refine r_iload C dX9_quarrels_20 (lv_at hl 5 rfl) ?_
      refine r_bipush (v := 16) C dX9_quarrels_22 (by decide) ?_
      refine r_idiv C dX9_quarrels_24 (by decide) ?_
      refine r_iconst (v := 4) C dX9_quarrels_25 (by decide) ?_
      refine r_irem2 C dX9_quarrels_26 (by decide) ?_
      refine r_letv (fun v2 => ?_)
      refine r_istore (lv' := [(6, .int v2), (5, .int v1), (0, .ref (ad 50)), (1, .int x1), (2, .int x2), (3, .int x3), (4, .int x4)]) C dX9_quarrels_27 hl (by decide) rfl (fun ls hl => ?_)
      refine r_iload C dX9_quarrels_29 (lv_at hl 6 rfl) ?_
      refine r_iconst (v := 4) C dX9_quarrels_31 (by decide) ?_
      refine r_idiv C dX9_quarrels_32 (by decide) ?_
      refine r_iconst (v := 4) C dX9_quarrels_33 (by decide) ?_
      refine r_irem2 C dX9_quarrels_34 (by decide) ?_
      refine r_letv (fun v3 => ?_)
      refine r_istore (lv' := [(7, .int v3), (6, .int v2), (5, .int v1), (0, .ref (ad 50)), (1, .int x1), (2, .int x2), (3, .int x3), (4, .int x4)]) C dX9_quarrels_35 hl (by decide) rfl (fun ls hl => ?_)
      refine r_iload C dX9_quarrels_37 (lv_at hl 7 rfl) ?_
      refine r_iconst (v := 4) C dX9_quarrels_39 (by decide) ?_
      refine r_irem2 C dX9_quarrels_40 (by decide) ?_
      refine r_letv (fun v4 => ?_)
      refine r_istore (lv' := [(8, .int v4), (7, .int v3), (6, .int v2), (5, .int v1), (0, .ref (ad 50)), (1, .int x1), (2, .int x2), (3, .int x3), (4, .int x4)]) C dX9_quarrels_41 hl (by decide) rfl (fun ls hl => ?_)
      refine r_iload_n C dX9_quarrels_43 rfl (lv_at hl 7 rfl) ?_
      refine r_if_ne (tgt := 113) C dX9_quarrels_44 (by decide) ?_ ?_
      · refine r_iconst (v := 1) C dX9_quarrels_113 (by decide) ?_
        refine r_goto (tgt := 118) C dX9_quarrels_114 (by decide) ?_
        refine r_istore_n (lv' := [(3, .int 1), (8, .int v4), (7, .int v3), (6, .int v2), (5, .int v1), (0, .ref (ad 50)), (1, .int x1), (2, .int x2), (4, .int x4)]) C dX9_quarrels_118 rfl hl (by decide) rfl (fun ls hl => ?_)
        refine r_iinc (v := x4 + 1) (lv' := [(4, .int (x4 + 1)), (3, .int 1), (8, .int v4), (7, .int v3), (6, .int v2), (5, .int v1), (0, .ref (ad 50)), (1, .int x1), (2, .int x2)]) C dX9_quarrels_119 hl (k := 8) rfl rfl (by decide) rfl (fun ls hl => ?_)
        refine r_goto (tgt := 5) C dX9_quarrels_122 (by decide) ?_
        exact ih x1 x2 1 (x4 + 1) σ ls (lv_sub hl [6, 7, 8, 1, 0] rfl)
      · refine r_iload C dX9_quarrels_47 (lv_at hl 3 rfl) ?_
        refine r_iload C dX9_quarrels_49 (lv_at hl 2 rfl) ?_
        refine r_icmp_ge (tgt := 117) C dX9_quarrels_51 (by decide) ?_ ?_
        · refine r_iconst (v := 0) C dX9_quarrels_117 (by decide) ?_
          refine r_istore_n (lv' := [(3, .int 0), (8, .int v4), (7, .int v3), (6, .int v2), (5, .int v1), (0, .ref (ad 50)), (1, .int x1), (2, .int x2), (4, .int x4)]) C dX9_quarrels_118 rfl hl (by decide) rfl (fun ls hl => ?_)
          refine r_iinc (v := x4 + 1) (lv' := [(4, .int (x4 + 1)), (3, .int 0), (8, .int v4), (7, .int v3), (6, .int v2), (5, .int v1), (0, .ref (ad 50)), (1, .int x1), (2, .int x2)]) C dX9_quarrels_119 hl (k := 8) rfl rfl (by decide) rfl (fun ls hl => ?_)
          refine r_goto (tgt := 5) C dX9_quarrels_122 (by decide) ?_
          exact ih x1 x2 0 (x4 + 1) σ ls (lv_sub hl [6, 7, 8, 1, 0] rfl)
        · refine r_iload C dX9_quarrels_54 (lv_at hl 1 rfl) ?_
          refine r_iload C dX9_quarrels_56 (lv_at hl 0 rfl) ?_
          refine r_icmp_ge (tgt := 117) C dX9_quarrels_58 (by decide) ?_ ?_
          · refine r_iconst (v := 0) C dX9_quarrels_117 (by decide) ?_
            refine r_istore_n (lv' := [(3, .int 0), (8, .int v4), (7, .int v3), (6, .int v2), (5, .int v1), (0, .ref (ad 50)), (1, .int x1), (2, .int x2), (4, .int x4)]) C dX9_quarrels_118 rfl hl (by decide) rfl (fun ls hl => ?_)
            refine r_iinc (v := x4 + 1) (lv' := [(4, .int (x4 + 1)), (3, .int 0), (8, .int v4), (7, .int v3), (6, .int v2), (5, .int v1), (0, .ref (ad 50)), (1, .int x1), (2, .int x2)]) C dX9_quarrels_119 hl (k := 8) rfl rfl (by decide) rfl (fun ls hl => ?_)
            refine r_goto (tgt := 5) C dX9_quarrels_122 (by decide) ?_
            exact ih x1 x2 0 (x4 + 1) σ ls (lv_sub hl [6, 7, 8, 1, 0] rfl)
          · refine r_aload_n C dX9_quarrels_61 rfl (lv_at hl 4 rfl) ?_
            refine r_iload_n C dX9_quarrels_62 rfl (lv_at hl 5 rfl) ?_
            refine r_iload C dX9_quarrels_63 (lv_at hl 3 rfl) ?_
            refine r_iload_n C dX9_quarrels_65 rfl (lv_at hl 6 rfl) ?_
            refine r_iload C dX9_quarrels_66 (lv_at hl 1 rfl) ?_
            refine r_callVi (As := [.int x1, .int v1, .int x2, .int v3]) (rest := []) C hl ml_X9_188 rc_50 (gX9_isTold l C.inj x1 v1 x2 v3 σ) ⟨Nat.le_of_ble_eq_true rfl, Nat.le_of_ble_eq_true rfl⟩ ⟨Nat.le_of_ble_eq_true rfl, Nat.le_of_ble_eq_true rfl⟩ rfl rfl (Nat.le_of_ble_eq_true rfl) dX9_quarrels_68 (fun r5 σ6 => ?_)
            refine r_if_eq (tgt := 117) C dX9_quarrels_71 (by decide) ?_ ?_
            · refine r_iconst (v := 0) C dX9_quarrels_117 (by decide) ?_
              refine r_istore_n (lv' := [(3, .int 0), (8, .int v4), (7, .int v3), (6, .int v2), (5, .int v1), (0, .ref (ad 50)), (1, .int x1), (2, .int x2), (4, .int x4)]) C dX9_quarrels_118 rfl hl (by decide) rfl (fun ls hl => ?_)
              refine r_iinc (v := x4 + 1) (lv' := [(4, .int (x4 + 1)), (3, .int 0), (8, .int v4), (7, .int v3), (6, .int v2), (5, .int v1), (0, .ref (ad 50)), (1, .int x1), (2, .int x2)]) C dX9_quarrels_119 hl (k := 8) rfl rfl (by decide) rfl (fun ls hl => ?_)
              refine r_goto (tgt := 5) C dX9_quarrels_122 (by decide) ?_
              exact ih x1 x2 0 (x4 + 1) σ6 ls (lv_sub hl [6, 7, 8, 1, 0] rfl)
            · refine r_aload_n C dX9_quarrels_74 rfl (lv_at hl 4 rfl) ?_
              refine r_iload_n C dX9_quarrels_75 rfl (lv_at hl 5 rfl) ?_
              refine r_iload C dX9_quarrels_76 (lv_at hl 3 rfl) ?_
              refine r_iload_n C dX9_quarrels_78 rfl (lv_at hl 6 rfl) ?_
              refine r_iload C dX9_quarrels_79 (lv_at hl 0 rfl) ?_
              refine r_callVi (As := [.int x1, .int v1, .int x2, .int v4]) (rest := []) C hl ml_X9_188 rc_50 (gX9_isTold l C.inj x1 v1 x2 v4 σ6) ⟨Nat.le_of_ble_eq_true rfl, Nat.le_of_ble_eq_true rfl⟩ ⟨Nat.le_of_ble_eq_true rfl, Nat.le_of_ble_eq_true rfl⟩ rfl rfl (Nat.le_of_ble_eq_true rfl) dX9_quarrels_81 (fun r7 σ8 => ?_)
              refine r_if_eq (tgt := 117) C dX9_quarrels_84 (by decide) ?_ ?_
              · refine r_iconst (v := 0) C dX9_quarrels_117 (by decide) ?_
                refine r_istore_n (lv' := [(3, .int 0), (8, .int v4), (7, .int v3), (6, .int v2), (5, .int v1), (0, .ref (ad 50)), (1, .int x1), (2, .int x2), (4, .int x4)]) C dX9_quarrels_118 rfl hl (by decide) rfl (fun ls hl => ?_)
                refine r_iinc (v := x4 + 1) (lv' := [(4, .int (x4 + 1)), (3, .int 0), (8, .int v4), (7, .int v3), (6, .int v2), (5, .int v1), (0, .ref (ad 50)), (1, .int x1), (2, .int x2)]) C dX9_quarrels_119 hl (k := 8) rfl rfl (by decide) rfl (fun ls hl => ?_)
                refine r_goto (tgt := 5) C dX9_quarrels_122 (by decide) ?_
                exact ih x1 x2 0 (x4 + 1) σ8 ls (lv_sub hl [6, 7, 8, 1, 0] rfl)
              · refine r_aload_n C dX9_quarrels_87 rfl (lv_at hl 4 rfl) ?_
                refine r_iload_n C dX9_quarrels_88 rfl (lv_at hl 5 rfl) ?_
                refine r_iload C dX9_quarrels_89 (lv_at hl 2 rfl) ?_
                refine r_iload_n C dX9_quarrels_91 rfl (lv_at hl 6 rfl) ?_
                refine r_iload C dX9_quarrels_92 (lv_at hl 1 rfl) ?_
                refine r_callVi (As := [.int x1, .int v2, .int x2, .int v3]) (rest := []) C hl ml_X9_188 rc_50 (gX9_isTold l C.inj x1 v2 x2 v3 σ8) ⟨Nat.le_of_ble_eq_true rfl, Nat.le_of_ble_eq_true rfl⟩ ⟨Nat.le_of_ble_eq_true rfl, Nat.le_of_ble_eq_true rfl⟩ rfl rfl (Nat.le_of_ble_eq_true rfl) dX9_quarrels_94 (fun r9 σ10 => ?_)
                refine r_if_eq (tgt := 117) C dX9_quarrels_97 (by decide) ?_ ?_
                · refine r_iconst (v := 0) C dX9_quarrels_117 (by decide) ?_
                  refine r_istore_n (lv' := [(3, .int 0), (8, .int v4), (7, .int v3), (6, .int v2), (5, .int v1), (0, .ref (ad 50)), (1, .int x1), (2, .int x2), (4, .int x4)]) C dX9_quarrels_118 rfl hl (by decide) rfl (fun ls hl => ?_)
                  refine r_iinc (v := x4 + 1) (lv' := [(4, .int (x4 + 1)), (3, .int 0), (8, .int v4), (7, .int v3), (6, .int v2), (5, .int v1), (0, .ref (ad 50)), (1, .int x1), (2, .int x2)]) C dX9_quarrels_119 hl (k := 8) rfl rfl (by decide) rfl (fun ls hl => ?_)
                  refine r_goto (tgt := 5) C dX9_quarrels_122 (by decide) ?_
                  exact ih x1 x2 0 (x4 + 1) σ10 ls (lv_sub hl [6, 7, 8, 1, 0] rfl)
                · refine r_aload_n C dX9_quarrels_100 rfl (lv_at hl 4 rfl) ?_
                  refine r_iload_n C dX9_quarrels_101 rfl (lv_at hl 5 rfl) ?_
                  refine r_iload C dX9_quarrels_102 (lv_at hl 2 rfl) ?_
                  refine r_iload_n C dX9_quarrels_104 rfl (lv_at hl 6 rfl) ?_
                  refine r_iload C dX9_quarrels_105 (lv_at hl 0 rfl) ?_
                  refine r_callVi (As := [.int x1, .int v2, .int x2, .int v4]) (rest := []) C hl ml_X9_188 rc_50 (gX9_isTold l C.inj x1 v2 x2 v4 σ10) ⟨Nat.le_of_ble_eq_true rfl, Nat.le_of_ble_eq_true rfl⟩ ⟨Nat.le_of_ble_eq_true rfl, Nat.le_of_ble_eq_true rfl⟩ rfl rfl (Nat.le_of_ble_eq_true rfl) dX9_quarrels_107 (fun r11 σ12 => ?_)
                  refine r_if_eq (tgt := 117) C dX9_quarrels_110 (by decide) ?_ ?_
                  · refine r_iconst (v := 0) C dX9_quarrels_117 (by decide) ?_
                    refine r_istore_n (lv' := [(3, .int 0), (8, .int v4), (7, .int v3), (6, .int v2), (5, .int v1), (0, .ref (ad 50)), (1, .int x1), (2, .int x2), (4, .int x4)]) C dX9_quarrels_118 rfl hl (by decide) rfl (fun ls hl => ?_)
                    refine r_iinc (v := x4 + 1) (lv' := [(4, .int (x4 + 1)), (3, .int 0), (8, .int v4), (7, .int v3), (6, .int v2), (5, .int v1), (0, .ref (ad 50)), (1, .int x1), (2, .int x2)]) C dX9_quarrels_119 hl (k := 8) rfl rfl (by decide) rfl (fun ls hl => ?_)
                    refine r_goto (tgt := 5) C dX9_quarrels_122 (by decide) ?_
                    exact ih x1 x2 0 (x4 + 1) σ12 ls (lv_sub hl [6, 7, 8, 1, 0] rfl)
                  · refine r_iconst (v := 1) C dX9_quarrels_113 (by decide) ?_
                    refine r_goto (tgt := 118) C dX9_quarrels_114 (by decide) ?_
                    refine r_istore_n (lv' := [(3, .int 1), (8, .int v4), (7, .int v3), (6, .int v2), (5, .int v1), (0, .ref (ad 50)), (1, .int x1), (2, .int x2), (4, .int x4)]) C dX9_quarrels_118 rfl hl (by decide) rfl (fun ls hl => ?_)
                    refine r_iinc (v := x4 + 1) (lv' := [(4, .int (x4 + 1)), (3, .int 1), (8, .int v4), (7, .int v3), (6, .int v2), (5, .int v1), (0, .ref (ad 50)), (1, .int x1), (2, .int x2)]) C dX9_quarrels_119 hl (k := 8) rfl rfl (by decide) rfl (fun ls hl => ?_)
                    refine r_goto (tgt := 5) C dX9_quarrels_122 (by decide) ?_
                    exact ih x1 x2 1 (x4 + 1) σ12 ls (lv_sub hl [6, 7, 8, 1, 0] rfl)
set_option maxRecDepth 100000 in
def fX9_quarrels (x1 : Int32) (x2 : Int32) (σ : Mem) : Option (Int32 × Mem) := LX9_quarrels_5 (fun x3 σ13 => gb x3 (some (x3, σ13))) 300 x1 x2 0 0 σ
set_option maxRecDepth 100000 in
set_option maxHeartbeats 4000000 in
theorem gX9_quarrels (l : Launch) {D : va_G} {cI cZ : ClassId} {ad : Nat → Nat} {tT : Nat} (hi : INJ ad) (x1 : Int32) (x2 : Int32) (σ : Mem) : GM l D cI cZ ad tT yX9_quarrels cX9_quarrels 9 (some .boolean) 2 48 rvi [.ref (ad 50), .int x1, .int x2] σ (fX9_quarrels x1 x2 σ) := by
  refine gm_of (lv := [(0, .ref (ad 50)), (1, .int x1), (2, .int x2)]) (own := RX9) hi (by decide +kernel) rfl (Nat.le_of_ble_eq_true rfl) rfl ?_
  intro p e s m args below meth c A C ls hl
  unfold fX9_quarrels
  refine r_iconst (v := 0) C dX9_quarrels_0 (by decide) ?_
  refine r_istore_n (lv' := [(3, .int 0), (0, .ref (ad 50)), (1, .int x1), (2, .int x2)]) C dX9_quarrels_1 rfl hl (by decide) rfl (fun ls hl => ?_)
  refine r_iconst (v := 0) C dX9_quarrels_2 (by decide) ?_
  refine r_istore (lv' := [(4, .int 0), (3, .int 0), (0, .ref (ad 50)), (1, .int x1), (2, .int x2)]) C dX9_quarrels_3 hl (by decide) rfl (fun ls hl => ?_)
  refine wX9_quarrels_5  C _ ?_ 300 x1 x2 0 0 σ ls (lv_sub hl [2, 3, 4, 1, 0] rfl)
  · intro x3 σ13 ls hl
    refine r_iload_n C dX9_quarrels_125 rfl (lv_at hl 0 rfl) ?_
    exact r_zretG C rfl dX9_quarrels_126

set_option maxRecDepth 100000 in
def fX9_quarrel (x1 : Int32) (x2 : Int32) (σ : Mem) : Option (Int32 × Mem) := bnd (fX9_isPlace x1 σ) (fun r1 σ2 => if (r1 : Int32) = 0 then some ((-1), σ2) else bnd (fX9_isPlace x2 σ2) (fun r3 σ4 => if (r3 : Int32) = 0 then some ((-1), σ4) else if (x1 : Int32) = x2 then some ((-1), σ4) else bnd (fX9_quarrels x1 x2 σ4) (fun r5 σ6 => if (r5 : Int32) = 0 then some (0, σ6) else some (1, σ6))))
set_option maxRecDepth 100000 in
set_option maxHeartbeats 4000000 in
theorem gX9_quarrel (l : Launch) {D : va_G} {cI cZ : ClassId} {ad : Nat → Nat} {tT : Nat} (hi : INJ ad) (x1 : Int32) (x2 : Int32) (σ : Mem) : GM l D cI cZ ad tT yX9_quarrel cX9_quarrel 3 (some .int) 3 76 rvi [.ref (ad 50), .int x1, .int x2] σ (fX9_quarrel x1 x2 σ) := by
  refine gm_of (lv := [(0, .ref (ad 50)), (1, .int x1), (2, .int x2)]) (own := RX9) hi (by decide +kernel) rfl (Nat.le_of_ble_eq_true rfl) rfl ?_
  intro p e s m args below meth c A C ls hl
  unfold fX9_quarrel
  refine r_aload_n C dX9_quarrel_0 rfl (lv_at hl 0 rfl) ?_
  refine r_iload_n C dX9_quarrel_1 rfl (lv_at hl 1 rfl) ?_
  refine r_callVi (As := [.int x1]) (rest := []) C hl ml_X9_102 rc_50 (gX9_isPlace l C.inj x1 σ) ⟨Nat.le_of_ble_eq_true rfl, Nat.le_of_ble_eq_true rfl⟩ ⟨Nat.le_of_ble_eq_true rfl, Nat.le_of_ble_eq_true rfl⟩ rfl rfl (Nat.le_of_ble_eq_true rfl) dX9_quarrel_2 (fun r1 σ2 => ?_)
  refine r_if_eq (tgt := 21) C dX9_quarrel_5 (by decide) ?_ ?_
  · refine r_iconst (v := (-1)) C dX9_quarrel_21 (by decide) ?_
    exact r_iret C rfl dX9_quarrel_22
  · refine r_aload_n C dX9_quarrel_8 rfl (lv_at hl 0 rfl) ?_
    refine r_iload_n C dX9_quarrel_9 rfl (lv_at hl 2 rfl) ?_
    refine r_callVi (As := [.int x2]) (rest := []) C hl ml_X9_102 rc_50 (gX9_isPlace l C.inj x2 σ2) ⟨Nat.le_of_ble_eq_true rfl, Nat.le_of_ble_eq_true rfl⟩ ⟨Nat.le_of_ble_eq_true rfl, Nat.le_of_ble_eq_true rfl⟩ rfl rfl (Nat.le_of_ble_eq_true rfl) dX9_quarrel_10 (fun r3 σ4 => ?_)
    refine r_if_eq (tgt := 21) C dX9_quarrel_13 (by decide) ?_ ?_
    · refine r_iconst (v := (-1)) C dX9_quarrel_21 (by decide) ?_
      exact r_iret C rfl dX9_quarrel_22
    · refine r_iload_n C dX9_quarrel_16 rfl (lv_at hl 1 rfl) ?_
      refine r_iload_n C dX9_quarrel_17 rfl (lv_at hl 2 rfl) ?_
      refine r_icmp_ne (tgt := 23) C dX9_quarrel_18 (by decide) ?_ ?_
      · refine r_aload_n C dX9_quarrel_23 rfl (lv_at hl 0 rfl) ?_
        refine r_iload_n C dX9_quarrel_24 rfl (lv_at hl 1 rfl) ?_
        refine r_iload_n C dX9_quarrel_25 rfl (lv_at hl 2 rfl) ?_
        refine r_callVi (As := [.int x1, .int x2]) (rest := []) C hl ml_X9_192 rc_50 (gX9_quarrels l C.inj x1 x2 σ4) ⟨Nat.le_of_ble_eq_true rfl, Nat.le_of_ble_eq_true rfl⟩ ⟨Nat.le_of_ble_eq_true rfl, Nat.le_of_ble_eq_true rfl⟩ rfl rfl (Nat.le_of_ble_eq_true rfl) dX9_quarrel_26 (fun r5 σ6 => ?_)
        refine r_if_eq (tgt := 36) C dX9_quarrel_29 (by decide) ?_ ?_
        · refine r_iconst (v := 0) C dX9_quarrel_36 (by decide) ?_
          exact r_iret C rfl dX9_quarrel_37
        · refine r_iconst (v := 1) C dX9_quarrel_32 (by decide) ?_
          refine r_goto (tgt := 37) C dX9_quarrel_33 (by decide) ?_
          exact r_iret C rfl dX9_quarrel_37
      · refine r_iconst (v := (-1)) C dX9_quarrel_21 (by decide) ?_
        exact r_iret C rfl dX9_quarrel_22

set_option maxRecDepth 100000 in
def BX9_shared_23 (k65 : Int32 → Int32 → Int32 → Mem → Option (Int32 × Mem)) (rec : Int32 → Int32 → Int32 → Int32 → Mem → Option (Int32 × Mem)) (x1 : Int32) (x2 : Int32) (x3 : Int32) (x4 : Int32) (σ : Mem) : Option (Int32 × Mem) := if (σ 50 0 : Int32) ≤ x4 then k65 x1 x2 x3 σ else bnd (fX9_readingOf x4 x1 σ) (fun r5 σ6 => bnd (fX9_readingOf x2 x1 σ6) (fun r7 σ8 => if (r5 : Int32) = r7 then letv (x3 ||| ((1 : Int32) <<< (x4 &&& 31))) (fun v10 => rec x1 x2 v10 (x4 + 1) σ8) else letv (x3 ||| 0) (fun v9 => rec x1 x2 v9 (x4 + 1) σ8)))
def LX9_shared_23 (k65 : Int32 → Int32 → Int32 → Mem → Option (Int32 × Mem)) : Nat → Int32 → Int32 → Int32 → Int32 → Mem → Option (Int32 × Mem)
  | 0 => fun _ _ _ _ _ => none
  | n + 1 => BX9_shared_23 k65 (LX9_shared_23 k65 n)
set_option maxRecDepth 100000 in
set_option maxHeartbeats 4000000 in
theorem wX9_shared_23 {p : Program} {l : Launch} {e : Env} {s : State} {m : MethodId} {args : Array Value} {below : List Frame} {meth : Method} {c : Code} {D : va_G} {cI cZ : ClassId} {ad : Nat → Nat} {tT : Nat} {A : Nat → Prop} (C : CX p s m args meth c cX9_shared 5 RX9 (some .int) D cI cZ ad tT A) (k65 : Int32 → Int32 → Int32 → Mem → Option (Int32 × Mem)) (hk65 : ∀ (x1 : Int32) (x2 : Int32) (x3 : Int32) (σ : Mem) (ls : Array Slot), lv_has ls 5 [(0, .ref (ad 50)), (1, .int x1), (2, .int x2), (3, .int x3)] → WM p l e 2 43 s m args below meth c D cI cZ ad A rvi (k65 x1 x2 x3 σ) σ (F0 m 65 ls [])) :
    ∀ (n0 : Nat), ∀ (x1 : Int32) (x2 : Int32) (x3 : Int32) (x4 : Int32) (σ : Mem) (ls : Array Slot), lv_has ls 5 [(0, .ref (ad 50)), (1, .int x1), (2, .int x2), (3, .int x3), (4, .int x4)] → WM p l e 2 43 s m args below meth c D cI cZ ad A rvi (LX9_shared_23 k65 n0 x1 x2 x3 x4 σ) σ (F0 m 23 ls []) := by
  intro n0
  induction n0 with
  | zero => intro x1 x2 x3 x4 σ ls hl; exact r_none
  | succ n0 ih =>
    intro x1 x2 x3 x4 σ ls hl
    show WM p l e 2 43 s m args below meth c D cI cZ ad A rvi (BX9_shared_23 k65 (LX9_shared_23 k65 n0) x1 x2 x3 x4 σ) σ (F0 m 23 ls [])
    unfold BX9_shared_23
    refine r_iload C dX9_shared_23 (lv_at hl 4 rfl) ?_
    refine r_aload_n C dX9_shared_25 rfl (lv_at hl 0 rfl) ?_
    refine r_getI C fl_X9_86 lf_50_0 dX9_shared_26 ?_
    refine r_icmp_ge (tgt := 65) C dX9_shared_29 (by decide) ?_ ?_
    · exact hk65 x1 x2 x3 σ ls (lv_sub hl [0, 1, 2, 3] rfl)
    · refine r_iload_n C dX9_shared_32 rfl (lv_at hl 3 rfl) ?_
      refine r_aload_n C dX9_shared_33 rfl (lv_at hl 0 rfl) ?_
      refine r_iload C dX9_shared_34 (lv_at hl 4 rfl) ?_
      refine r_iload_n C dX9_shared_36 rfl (lv_at hl 1 rfl) ?_
      refine r_callVi (As := [.int x4, .int x1]) (rest := [.int x3]) C hl ml_X9_105 rc_50 (gX9_readingOf l C.inj x4 x1 σ) ⟨Nat.le_of_ble_eq_true rfl, Nat.le_of_ble_eq_true rfl⟩ ⟨Nat.le_of_ble_eq_true rfl, Nat.le_of_ble_eq_true rfl⟩ rfl rfl (Nat.le_of_ble_eq_true rfl) dX9_shared_37 (fun r5 σ6 => ?_)
      refine r_aload_n C dX9_shared_40 rfl (lv_at hl 0 rfl) ?_
      refine r_iload_n C dX9_shared_41 rfl (lv_at hl 2 rfl) ?_
      refine r_iload_n C dX9_shared_42 rfl (lv_at hl 1 rfl) ?_
      refine r_callVi (As := [.int x2, .int x1]) (rest := [.int r5, .int x3]) C hl ml_X9_105 rc_50 (gX9_readingOf l C.inj x2 x1 σ6) ⟨Nat.le_of_ble_eq_true rfl, Nat.le_of_ble_eq_true rfl⟩ ⟨Nat.le_of_ble_eq_true rfl, Nat.le_of_ble_eq_true rfl⟩ rfl rfl (Nat.le_of_ble_eq_true rfl) dX9_shared_43 (fun r7 σ8 => ?_)
      refine r_icmp_ne (tgt := 56) C dX9_shared_46 (by decide) ?_ ?_
      · refine r_iconst (v := 0) C dX9_shared_56 (by decide) ?_
        refine r_ior C dX9_shared_57 ?_
        refine r_letv (fun v9 => ?_)
        refine r_istore_n (lv' := [(3, .int v9), (0, .ref (ad 50)), (1, .int x1), (2, .int x2), (4, .int x4)]) C dX9_shared_58 rfl hl (by decide) rfl (fun ls hl => ?_)
        refine r_iinc (v := x4 + 1) (lv' := [(4, .int (x4 + 1)), (3, .int v9), (0, .ref (ad 50)), (1, .int x1), (2, .int x2)]) C dX9_shared_59 hl (k := 4) rfl rfl (by decide) rfl (fun ls hl => ?_)
        refine r_goto (tgt := 23) C dX9_shared_62 (by decide) ?_
        exact ih x1 x2 v9 (x4 + 1) σ8 ls (lv_sub hl [2, 3, 4, 1, 0] rfl)
      · refine r_iconst (v := 1) C dX9_shared_49 (by decide) ?_
        refine r_iload C dX9_shared_50 (lv_at hl 4 rfl) ?_
        refine r_ishl C dX9_shared_52 ?_
        refine r_goto (tgt := 57) C dX9_shared_53 (by decide) ?_
        refine r_ior C dX9_shared_57 ?_
        refine r_letv (fun v10 => ?_)
        refine r_istore_n (lv' := [(3, .int v10), (0, .ref (ad 50)), (1, .int x1), (2, .int x2), (4, .int x4)]) C dX9_shared_58 rfl hl (by decide) rfl (fun ls hl => ?_)
        refine r_iinc (v := x4 + 1) (lv' := [(4, .int (x4 + 1)), (3, .int v10), (0, .ref (ad 50)), (1, .int x1), (2, .int x2)]) C dX9_shared_59 hl (k := 4) rfl rfl (by decide) rfl (fun ls hl => ?_)
        refine r_goto (tgt := 23) C dX9_shared_62 (by decide) ?_
        exact ih x1 x2 v10 (x4 + 1) σ8 ls (lv_sub hl [2, 3, 4, 1, 0] rfl)
set_option maxRecDepth 100000 in
def fX9_shared (x1 : Int32) (x2 : Int32) (σ : Mem) : Option (Int32 × Mem) := bnd (fX9_isPlace x1 σ) (fun r1 σ2 => if (r1 : Int32) = 0 then some ((-1), σ2) else bnd (fX9_isCopy x2 σ2) (fun r3 σ4 => if (r3 : Int32) = 0 then some ((-1), σ4) else LX9_shared_23 (fun x1 x2 x3 σ11 => bnd (fX9_readingOf x2 x1 σ11) (fun r12 σ13 => if (r12 : Int32) = 4 then some (0, σ13) else some (x3, σ13))) 300 x1 x2 0 0 σ4))
set_option maxRecDepth 100000 in
set_option maxHeartbeats 4000000 in
theorem gX9_shared (l : Launch) {D : va_G} {cI cZ : ClassId} {ad : Nat → Nat} {tT : Nat} (hi : INJ ad) (x1 : Int32) (x2 : Int32) (σ : Mem) : GM l D cI cZ ad tT yX9_shared cX9_shared 5 (some .int) 2 43 rvi [.ref (ad 50), .int x1, .int x2] σ (fX9_shared x1 x2 σ) := by
  refine gm_of (lv := [(0, .ref (ad 50)), (1, .int x1), (2, .int x2)]) (own := RX9) hi (by decide +kernel) rfl (Nat.le_of_ble_eq_true rfl) rfl ?_
  intro p e s m args below meth c A C ls hl
  unfold fX9_shared
  refine r_aload_n C dX9_shared_0 rfl (lv_at hl 0 rfl) ?_
  refine r_iload_n C dX9_shared_1 rfl (lv_at hl 1 rfl) ?_
  refine r_callVi (As := [.int x1]) (rest := []) C hl ml_X9_102 rc_50 (gX9_isPlace l C.inj x1 σ) ⟨Nat.le_of_ble_eq_true rfl, Nat.le_of_ble_eq_true rfl⟩ ⟨Nat.le_of_ble_eq_true rfl, Nat.le_of_ble_eq_true rfl⟩ rfl rfl (Nat.le_of_ble_eq_true rfl) dX9_shared_2 (fun r1 σ2 => ?_)
  refine r_if_eq (tgt := 16) C dX9_shared_5 (by decide) ?_ ?_
  · refine r_iconst (v := (-1)) C dX9_shared_16 (by decide) ?_
    exact r_iret C rfl dX9_shared_17
  · refine r_aload_n C dX9_shared_8 rfl (lv_at hl 0 rfl) ?_
    refine r_iload_n C dX9_shared_9 rfl (lv_at hl 2 rfl) ?_
    refine r_callVi (As := [.int x2]) (rest := []) C hl ml_X9_98 rc_50 (gX9_isCopy l C.inj x2 σ2) ⟨Nat.le_of_ble_eq_true rfl, Nat.le_of_ble_eq_true rfl⟩ ⟨Nat.le_of_ble_eq_true rfl, Nat.le_of_ble_eq_true rfl⟩ rfl rfl (Nat.le_of_ble_eq_true rfl) dX9_shared_10 (fun r3 σ4 => ?_)
    refine r_if_ne (tgt := 18) C dX9_shared_13 (by decide) ?_ ?_
    · refine r_iconst (v := 0) C dX9_shared_18 (by decide) ?_
      refine r_istore_n (lv' := [(3, .int 0), (0, .ref (ad 50)), (1, .int x1), (2, .int x2)]) C dX9_shared_19 rfl hl (by decide) rfl (fun ls hl => ?_)
      refine r_iconst (v := 0) C dX9_shared_20 (by decide) ?_
      refine r_istore (lv' := [(4, .int 0), (3, .int 0), (0, .ref (ad 50)), (1, .int x1), (2, .int x2)]) C dX9_shared_21 hl (by decide) rfl (fun ls hl => ?_)
      refine wX9_shared_23  C _ ?_ 300 x1 x2 0 0 σ4 ls (lv_sub hl [2, 3, 4, 1, 0] rfl)
      · intro x1 x2 x3 σ11 ls hl
        refine r_aload_n C dX9_shared_65 rfl (lv_at hl 0 rfl) ?_
        refine r_iload_n C dX9_shared_66 rfl (lv_at hl 2 rfl) ?_
        refine r_iload_n C dX9_shared_67 rfl (lv_at hl 1 rfl) ?_
        refine r_callVi (As := [.int x2, .int x1]) (rest := []) C hl ml_X9_105 rc_50 (gX9_readingOf l C.inj x2 x1 σ11) ⟨Nat.le_of_ble_eq_true rfl, Nat.le_of_ble_eq_true rfl⟩ ⟨Nat.le_of_ble_eq_true rfl, Nat.le_of_ble_eq_true rfl⟩ rfl rfl (Nat.le_of_ble_eq_true rfl) dX9_shared_68 (fun r12 σ13 => ?_)
        refine r_iconst (v := 4) C dX9_shared_71 (by decide) ?_
        refine r_icmp_ne (tgt := 79) C dX9_shared_72 (by decide) ?_ ?_
        · refine r_iload_n C dX9_shared_79 rfl (lv_at hl 3 rfl) ?_
          exact r_iret C rfl dX9_shared_80
        · refine r_iconst (v := 0) C dX9_shared_75 (by decide) ?_
          refine r_goto (tgt := 80) C dX9_shared_76 (by decide) ?_
          exact r_iret C rfl dX9_shared_80
    · refine r_iconst (v := (-1)) C dX9_shared_16 (by decide) ?_
      exact r_iret C rfl dX9_shared_17

set_option maxRecDepth 100000 in
def BX9_unlikes_6 (k66 : Int32 → Mem → Option (Int32 × Mem)) (rec : Int32 → Int32 → Int32 → Int32 → Int32 → Mem → Option (Int32 × Mem)) (x1 : Int32) (x2 : Int32) (x4 : Int32) (x5 : Int32) (x6 : Int32) (σ : Mem) : Option (Int32 × Mem) := if (x4 : Int32) ≤ x6 then k66 x5 σ else bnd (fX9_readingOf x1 x6 σ) (fun r1 σ2 => bnd (fX9_readingOf x2 x6 σ2) (fun r3 σ4 => if (r1 : Int32) = 4 then letv (x5 + 0) (fun v5 => rec x1 x2 x4 v5 (x6 + 1) σ4) else if (r3 : Int32) = 4 then letv (x5 + 0) (fun v6 => rec x1 x2 x4 v6 (x6 + 1) σ4) else if (r1 : Int32) = r3 then letv (x5 + 0) (fun v7 => rec x1 x2 x4 v7 (x6 + 1) σ4) else letv (x5 + 1) (fun v8 => rec x1 x2 x4 v8 (x6 + 1) σ4)))
def LX9_unlikes_6 (k66 : Int32 → Mem → Option (Int32 × Mem)) : Nat → Int32 → Int32 → Int32 → Int32 → Int32 → Mem → Option (Int32 × Mem)
  | 0 => fun _ _ _ _ _ _ => none
  | n + 1 => BX9_unlikes_6 k66 (LX9_unlikes_6 k66 n)
set_option maxRecDepth 100000 in
set_option maxHeartbeats 4000000 in
theorem wX9_unlikes_6 {p : Program} {l : Launch} {e : Env} {s : State} {m : MethodId} {args : Array Value} {below : List Frame} {meth : Method} {c : Code} {D : va_G} {cI cZ : ClassId} {ad : Nat → Nat} {tT : Nat} {A : Nat → Prop} (C : CX p s m args meth c cX9_unlikes 9 RX9 (some .int) D cI cZ ad tT A) (k66 : Int32 → Mem → Option (Int32 × Mem)) (hk66 : ∀ (x5 : Int32) (σ : Mem) (ls : Array Slot), lv_has ls 9 [(5, .int x5)] → WM p l e 1 22 s m args below meth c D cI cZ ad A rvi (k66 x5 σ) σ (F0 m 66 ls [])) :
    ∀ (n0 : Nat), ∀ (x1 : Int32) (x2 : Int32) (x4 : Int32) (x5 : Int32) (x6 : Int32) (σ : Mem) (ls : Array Slot), lv_has ls 9 [(0, .ref (ad 50)), (1, .int x1), (2, .int x2), (4, .int x4), (5, .int x5), (6, .int x6)] → WM p l e 1 22 s m args below meth c D cI cZ ad A rvi (LX9_unlikes_6 k66 n0 x1 x2 x4 x5 x6 σ) σ (F0 m 6 ls []) := by
  intro n0
  induction n0 with
  | zero => intro x1 x2 x4 x5 x6 σ ls hl; exact r_none
  | succ n0 ih =>
    intro x1 x2 x4 x5 x6 σ ls hl
    show WM p l e 1 22 s m args below meth c D cI cZ ad A rvi (BX9_unlikes_6 k66 (LX9_unlikes_6 k66 n0) x1 x2 x4 x5 x6 σ) σ (F0 m 6 ls [])
    unfold BX9_unlikes_6
    refine r_iload C dX9_unlikes_6 (lv_at hl 5 rfl) ?_
    refine r_iload C dX9_unlikes_8 (lv_at hl 3 rfl) ?_
    refine r_icmp_ge (tgt := 66) C dX9_unlikes_10 (by decide) ?_ ?_
    · exact hk66 x5 σ ls (lv_sub hl [4] rfl)
    · refine r_aload_n C dX9_unlikes_13 rfl (lv_at hl 0 rfl) ?_
      refine r_iload_n C dX9_unlikes_14 rfl (lv_at hl 1 rfl) ?_
      refine r_iload C dX9_unlikes_15 (lv_at hl 5 rfl) ?_
      refine r_callVi (As := [.int x1, .int x6]) (rest := []) C hl ml_X9_105 rc_50 (gX9_readingOf l C.inj x1 x6 σ) ⟨Nat.le_of_ble_eq_true rfl, Nat.le_of_ble_eq_true rfl⟩ ⟨Nat.le_of_ble_eq_true rfl, Nat.le_of_ble_eq_true rfl⟩ rfl rfl (Nat.le_of_ble_eq_true rfl) dX9_unlikes_17 (fun r1 σ2 => ?_)
      refine r_istore (lv' := [(7, .int r1), (0, .ref (ad 50)), (1, .int x1), (2, .int x2), (4, .int x4), (5, .int x5), (6, .int x6)]) C dX9_unlikes_20 hl (by decide) rfl (fun ls hl => ?_)
      refine r_aload_n C dX9_unlikes_22 rfl (lv_at hl 1 rfl) ?_
      refine r_iload_n C dX9_unlikes_23 rfl (lv_at hl 3 rfl) ?_
      refine r_iload C dX9_unlikes_24 (lv_at hl 6 rfl) ?_
      refine r_callVi (As := [.int x2, .int x6]) (rest := []) C hl ml_X9_105 rc_50 (gX9_readingOf l C.inj x2 x6 σ2) ⟨Nat.le_of_ble_eq_true rfl, Nat.le_of_ble_eq_true rfl⟩ ⟨Nat.le_of_ble_eq_true rfl, Nat.le_of_ble_eq_true rfl⟩ rfl rfl (Nat.le_of_ble_eq_true rfl) dX9_unlikes_26 (fun r3 σ4 => ?_)
      refine r_istore (lv' := [(8, .int r3), (7, .int r1), (0, .ref (ad 50)), (1, .int x1), (2, .int x2), (4, .int x4), (5, .int x5), (6, .int x6)]) C dX9_unlikes_29 hl (by decide) rfl (fun ls hl => ?_)
      refine r_iload C dX9_unlikes_31 (lv_at hl 6 rfl) ?_
      refine r_iload C dX9_unlikes_33 (lv_at hl 1 rfl) ?_
      refine r_iconst (v := 4) C dX9_unlikes_35 (by decide) ?_
      refine r_icmp_eq (tgt := 56) C dX9_unlikes_36 (by decide) ?_ ?_
      · refine r_iconst (v := 0) C dX9_unlikes_56 (by decide) ?_
        refine r_iadd C dX9_unlikes_57 ?_
        refine r_letv (fun v5 => ?_)
        refine r_istore (lv' := [(5, .int v5), (8, .int r3), (7, .int r1), (0, .ref (ad 50)), (1, .int x1), (2, .int x2), (4, .int x4), (6, .int x6)]) C dX9_unlikes_58 hl (by decide) rfl (fun ls hl => ?_)
        refine r_iinc (v := x6 + 1) (lv' := [(6, .int (x6 + 1)), (5, .int v5), (8, .int r3), (7, .int r1), (0, .ref (ad 50)), (1, .int x1), (2, .int x2), (4, .int x4)]) C dX9_unlikes_60 hl (k := 7) rfl rfl (by decide) rfl (fun ls hl => ?_)
        refine r_goto (tgt := 6) C dX9_unlikes_63 (by decide) ?_
        exact ih x1 x2 x4 v5 (x6 + 1) σ4 ls (lv_sub hl [4, 5, 6, 7, 1, 0] rfl)
      · refine r_iload C dX9_unlikes_39 (lv_at hl 0 rfl) ?_
        refine r_iconst (v := 4) C dX9_unlikes_41 (by decide) ?_
        refine r_icmp_eq (tgt := 56) C dX9_unlikes_42 (by decide) ?_ ?_
        · refine r_iconst (v := 0) C dX9_unlikes_56 (by decide) ?_
          refine r_iadd C dX9_unlikes_57 ?_
          refine r_letv (fun v6 => ?_)
          refine r_istore (lv' := [(5, .int v6), (8, .int r3), (7, .int r1), (0, .ref (ad 50)), (1, .int x1), (2, .int x2), (4, .int x4), (6, .int x6)]) C dX9_unlikes_58 hl (by decide) rfl (fun ls hl => ?_)
          refine r_iinc (v := x6 + 1) (lv' := [(6, .int (x6 + 1)), (5, .int v6), (8, .int r3), (7, .int r1), (0, .ref (ad 50)), (1, .int x1), (2, .int x2), (4, .int x4)]) C dX9_unlikes_60 hl (k := 7) rfl rfl (by decide) rfl (fun ls hl => ?_)
          refine r_goto (tgt := 6) C dX9_unlikes_63 (by decide) ?_
          exact ih x1 x2 x4 v6 (x6 + 1) σ4 ls (lv_sub hl [4, 5, 6, 7, 1, 0] rfl)
        · refine r_iload C dX9_unlikes_45 (lv_at hl 1 rfl) ?_
          refine r_iload C dX9_unlikes_47 (lv_at hl 0 rfl) ?_
          refine r_icmp_eq (tgt := 56) C dX9_unlikes_49 (by decide) ?_ ?_
          · refine r_iconst (v := 0) C dX9_unlikes_56 (by decide) ?_
            refine r_iadd C dX9_unlikes_57 ?_
            refine r_letv (fun v7 => ?_)
            refine r_istore (lv' := [(5, .int v7), (8, .int r3), (7, .int r1), (0, .ref (ad 50)), (1, .int x1), (2, .int x2), (4, .int x4), (6, .int x6)]) C dX9_unlikes_58 hl (by decide) rfl (fun ls hl => ?_)
            refine r_iinc (v := x6 + 1) (lv' := [(6, .int (x6 + 1)), (5, .int v7), (8, .int r3), (7, .int r1), (0, .ref (ad 50)), (1, .int x1), (2, .int x2), (4, .int x4)]) C dX9_unlikes_60 hl (k := 7) rfl rfl (by decide) rfl (fun ls hl => ?_)
            refine r_goto (tgt := 6) C dX9_unlikes_63 (by decide) ?_
            exact ih x1 x2 x4 v7 (x6 + 1) σ4 ls (lv_sub hl [4, 5, 6, 7, 1, 0] rfl)
          · refine r_iconst (v := 1) C dX9_unlikes_52 (by decide) ?_
            refine r_goto (tgt := 57) C dX9_unlikes_53 (by decide) ?_
            refine r_iadd C dX9_unlikes_57 ?_
            refine r_letv (fun v8 => ?_)
            refine r_istore (lv' := [(5, .int v8), (8, .int r3), (7, .int r1), (0, .ref (ad 50)), (1, .int x1), (2, .int x2), (4, .int x4), (6, .int x6)]) C dX9_unlikes_58 hl (by decide) rfl (fun ls hl => ?_)
            refine r_iinc (v := x6 + 1) (lv' := [(6, .int (x6 + 1)), (5, .int v8), (8, .int r3), (7, .int r1), (0, .ref (ad 50)), (1, .int x1), (2, .int x2), (4, .int x4)]) C dX9_unlikes_60 hl (k := 7) rfl rfl (by decide) rfl (fun ls hl => ?_)
            refine r_goto (tgt := 6) C dX9_unlikes_63 (by decide) ?_
            exact ih x1 x2 x4 v8 (x6 + 1) σ4 ls (lv_sub hl [4, 5, 6, 7, 1, 0] rfl)
set_option maxRecDepth 100000 in
def fX9_unlikes (x1 : Int32) (x2 : Int32) (x3 : Int32) (x4 : Int32) (σ : Mem) : Option (Int32 × Mem) := LX9_unlikes_6 (fun x5 σ9 => some (x5, σ9)) 300 x1 x2 x4 0 x3 σ
set_option maxRecDepth 100000 in
set_option maxHeartbeats 4000000 in
theorem gX9_unlikes (l : Launch) {D : va_G} {cI cZ : ClassId} {ad : Nat → Nat} {tT : Nat} (hi : INJ ad) (x1 : Int32) (x2 : Int32) (x3 : Int32) (x4 : Int32) (σ : Mem) : GM l D cI cZ ad tT yX9_unlikes cX9_unlikes 9 (some .int) 1 22 rvi [.ref (ad 50), .int x1, .int x2, .int x3, .int x4] σ (fX9_unlikes x1 x2 x3 x4 σ) := by
  refine gm_of (lv := [(0, .ref (ad 50)), (1, .int x1), (2, .int x2), (3, .int x3), (4, .int x4)]) (own := RX9) hi (by decide +kernel) rfl (Nat.le_of_ble_eq_true rfl) rfl ?_
  intro p e s m args below meth c A C ls hl
  unfold fX9_unlikes
  refine r_iconst (v := 0) C dX9_unlikes_0 (by decide) ?_
  refine r_istore (lv' := [(5, .int 0), (0, .ref (ad 50)), (1, .int x1), (2, .int x2), (3, .int x3), (4, .int x4)]) C dX9_unlikes_1 hl (by decide) rfl (fun ls hl => ?_)
  refine r_iload_n C dX9_unlikes_3 rfl (lv_at hl 4 rfl) ?_
  refine r_istore (lv' := [(6, .int x3), (5, .int 0), (0, .ref (ad 50)), (1, .int x1), (2, .int x2), (3, .int x3), (4, .int x4)]) C dX9_unlikes_4 hl (by decide) rfl (fun ls hl => ?_)
  refine wX9_unlikes_6  C _ ?_ 300 x1 x2 x4 0 x3 σ ls (lv_sub hl [2, 3, 4, 6, 1, 0] rfl)
  · intro x5 σ9 ls hl
    refine r_iload C dX9_unlikes_66 (lv_at hl 0 rfl) ?_
    exact r_iret C rfl dX9_unlikes_68

set_option maxRecDepth 100000 in
def BX9_mixed_114 (k196 : Int32 → Int32 → Int32 → Int32 → Mem → Option (Int32 × Mem)) (rec : Int32 → Int32 → Int32 → Int32 → Int32 → Mem → Option (Int32 × Mem)) (x1 : Int32) (x2 : Int32) (x4 : Int32) (x6 : Int32) (x7 : Int32) (σ : Mem) : Option (Int32 × Mem) := if (σ 50 1 : Int32) ≤ x7 then k196 x1 x2 x4 x6 σ else if (x6 : Int32) = x4 then k196 x1 x2 x4 x6 σ else if (x6 : Int32) = x1 then k196 x1 x2 x4 x6 σ else bnd (fX9_unlikes x1 x4 0 x7 σ) (fun r10 σ11 => bnd (fX9_unlikes x1 x6 x7 (σ11 50 1) σ11) (fun r12 σ13 => letv (r10 + r12) (fun v14 => gd 5 0 (if (σ13 63 (0 : Int32).toNatClampNeg : Int32) ≤ v14 then rec x1 x2 x4 x6 (x7 + 1) σ13 else gd 5 0 (letm (stm σ13 63 (0 : Int32).toNatClampNeg v14) (fun σ15 => gd 5 1 (letm (stm σ15 63 (1 : Int32).toNatClampNeg x4) (fun σ16 => gd 5 2 (letm (stm σ16 63 (2 : Int32).toNatClampNeg x6) (fun σ17 => gd 5 3 (letm (stm σ17 63 (3 : Int32).toNatClampNeg x7) (fun σ18 => rec x1 x2 x4 x6 (x7 + 1) σ18))))))))))))
def LX9_mixed_114 (k196 : Int32 → Int32 → Int32 → Int32 → Mem → Option (Int32 × Mem)) : Nat → Int32 → Int32 → Int32 → Int32 → Int32 → Mem → Option (Int32 × Mem)
  | 0 => fun _ _ _ _ _ _ => none
  | n + 1 => BX9_mixed_114 k196 (LX9_mixed_114 k196 n)
set_option maxRecDepth 100000 in
set_option maxHeartbeats 4000000 in
theorem wX9_mixed_114 {p : Program} {l : Launch} {e : Env} {s : State} {m : MethodId} {args : Array Value} {below : List Frame} {meth : Method} {c : Code} {D : va_G} {cI cZ : ClassId} {ad : Nat → Nat} {tT : Nat} {A : Nat → Prop} (C : CX p s m args meth c cX9_mixed 9 RX9 (some .int) D cI cZ ad tT A) (k196 : Int32 → Int32 → Int32 → Int32 → Mem → Option (Int32 × Mem)) (hk196 : ∀ (x1 : Int32) (x2 : Int32) (x4 : Int32) (x6 : Int32) (σ : Mem) (ls : Array Slot), lv_has ls 9 [(0, .ref (ad 50)), (1, .int x1), (2, .int x2), (3, .ref (ad 63)), (4, .int x4), (6, .int x6)] → WM p l e 2 50 s m args below meth c D cI cZ ad A rvi (k196 x1 x2 x4 x6 σ) σ (F0 m 196 ls [])) :
    ∀ (n0 : Nat), ∀ (x1 : Int32) (x2 : Int32) (x4 : Int32) (x6 : Int32) (x7 : Int32) (σ : Mem) (ls : Array Slot), lv_has ls 9 [(0, .ref (ad 50)), (1, .int x1), (2, .int x2), (3, .ref (ad 63)), (4, .int x4), (6, .int x6), (7, .int x7)] → WM p l e 2 50 s m args below meth c D cI cZ ad A rvi (LX9_mixed_114 k196 n0 x1 x2 x4 x6 x7 σ) σ (F0 m 114 ls []) := by
  intro n0
  induction n0 with
  | zero => intro x1 x2 x4 x6 x7 σ ls hl; exact r_none
  | succ n0 ih =>
    intro x1 x2 x4 x6 x7 σ ls hl
    show WM p l e 2 50 s m args below meth c D cI cZ ad A rvi (BX9_mixed_114 k196 (LX9_mixed_114 k196 n0) x1 x2 x4 x6 x7 σ) σ (F0 m 114 ls [])
    unfold BX9_mixed_114
    refine r_iload C dX9_mixed_114 (lv_at hl 6 rfl) ?_
    refine r_aload_n C dX9_mixed_116 rfl (lv_at hl 0 rfl) ?_
    refine r_getI C fl_X9_89 lf_50_1 dX9_mixed_117 ?_
    refine r_icmp_ge (tgt := 196) C dX9_mixed_120 (by decide) ?_ ?_
    · exact hk196 x1 x2 x4 x6 σ ls (lv_sub hl [0, 1, 2, 3, 4, 5] rfl)
    · refine r_iload C dX9_mixed_123 (lv_at hl 5 rfl) ?_
      refine r_iload C dX9_mixed_125 (lv_at hl 4 rfl) ?_
      refine r_icmp_eq (tgt := 196) C dX9_mixed_127 (by decide) ?_ ?_
      · exact hk196 x1 x2 x4 x6 σ ls (lv_sub hl [0, 1, 2, 3, 4, 5] rfl)
      · refine r_iload C dX9_mixed_130 (lv_at hl 5 rfl) ?_
        refine r_iload_n C dX9_mixed_132 rfl (lv_at hl 1 rfl) ?_
        refine r_icmp_eq (tgt := 196) C dX9_mixed_133 (by decide) ?_ ?_
        · exact hk196 x1 x2 x4 x6 σ ls (lv_sub hl [0, 1, 2, 3, 4, 5] rfl)
        · refine r_aload_n C dX9_mixed_136 rfl (lv_at hl 0 rfl) ?_
          refine r_iload_n C dX9_mixed_137 rfl (lv_at hl 1 rfl) ?_
          refine r_iload C dX9_mixed_138 (lv_at hl 4 rfl) ?_
          refine r_iconst (v := 0) C dX9_mixed_140 (by decide) ?_
          refine r_iload C dX9_mixed_141 (lv_at hl 6 rfl) ?_
          refine r_callVi (As := [.int x1, .int x4, .int 0, .int x7]) (rest := []) C hl ml_X9_195 rc_50 (gX9_unlikes l C.inj x1 x4 0 x7 σ) ⟨Nat.le_of_ble_eq_true rfl, Nat.le_of_ble_eq_true rfl⟩ ⟨Nat.le_of_ble_eq_true rfl, Nat.le_of_ble_eq_true rfl⟩ rfl rfl (Nat.le_of_ble_eq_true rfl) dX9_mixed_143 (fun r10 σ11 => ?_)
          refine r_aload_n C dX9_mixed_146 rfl (lv_at hl 0 rfl) ?_
          refine r_iload_n C dX9_mixed_147 rfl (lv_at hl 1 rfl) ?_
          refine r_iload C dX9_mixed_148 (lv_at hl 5 rfl) ?_
          refine r_iload C dX9_mixed_150 (lv_at hl 6 rfl) ?_
          refine r_aload_n C dX9_mixed_152 rfl (lv_at hl 0 rfl) ?_
          refine r_getI C fl_X9_89 lf_50_1 dX9_mixed_153 ?_
          refine r_callVi (As := [.int x1, .int x6, .int x7, .int (σ11 50 1)]) (rest := [.int r10]) C hl ml_X9_195 rc_50 (gX9_unlikes l C.inj x1 x6 x7 (σ11 50 1) σ11) ⟨Nat.le_of_ble_eq_true rfl, Nat.le_of_ble_eq_true rfl⟩ ⟨Nat.le_of_ble_eq_true rfl, Nat.le_of_ble_eq_true rfl⟩ rfl rfl (Nat.le_of_ble_eq_true rfl) dX9_mixed_156 (fun r12 σ13 => ?_)
          refine r_iadd C dX9_mixed_159 ?_
          refine r_letv (fun v14 => ?_)
          refine r_istore (lv' := [(8, .int v14), (0, .ref (ad 50)), (1, .int x1), (2, .int x2), (3, .ref (ad 63)), (4, .int x4), (6, .int x6), (7, .int x7)]) C dX9_mixed_160 hl (by decide) rfl (fun ls hl => ?_)
          refine r_iload C dX9_mixed_162 (lv_at hl 0 rfl) ?_
          refine r_aload_n C dX9_mixed_164 rfl (lv_at hl 4 rfl) ?_
          refine r_iconst (v := 0) C dX9_mixed_165 (by decide) ?_
          refine r_iald C la_63 dX9_mixed_166 ?_
          refine r_icmp_ge (tgt := 190) C dX9_mixed_167 (by decide) ?_ ?_
          · refine r_iinc (v := x7 + 1) (lv' := [(7, .int (x7 + 1)), (8, .int v14), (0, .ref (ad 50)), (1, .int x1), (2, .int x2), (3, .ref (ad 63)), (4, .int x4), (6, .int x6)]) C dX9_mixed_190 hl (k := 7) rfl rfl (by decide) rfl (fun ls hl => ?_)
            refine r_goto (tgt := 114) C dX9_mixed_193 (by decide) ?_
            exact ih x1 x2 x4 x6 (x7 + 1) σ13 ls (lv_sub hl [2, 3, 4, 5, 6, 7, 0] rfl)
          · refine r_aload_n C dX9_mixed_170 rfl (lv_at hl 4 rfl) ?_
            refine r_iconst (v := 0) C dX9_mixed_171 (by decide) ?_
            refine r_iload C dX9_mixed_172 (lv_at hl 0 rfl) ?_
            refine r_iast C la_63 dX9_mixed_174 ?_
            refine r_letm (fun σ15 => ?_)
            refine r_aload_n C dX9_mixed_175 rfl (lv_at hl 4 rfl) ?_
            refine r_iconst (v := 1) C dX9_mixed_176 (by decide) ?_
            refine r_iload C dX9_mixed_177 (lv_at hl 5 rfl) ?_
            refine r_iast C la_63 dX9_mixed_179 ?_
            refine r_letm (fun σ16 => ?_)
            refine r_aload_n C dX9_mixed_180 rfl (lv_at hl 4 rfl) ?_
            refine r_iconst (v := 2) C dX9_mixed_181 (by decide) ?_
            refine r_iload C dX9_mixed_182 (lv_at hl 6 rfl) ?_
            refine r_iast C la_63 dX9_mixed_184 ?_
            refine r_letm (fun σ17 => ?_)
            refine r_aload_n C dX9_mixed_185 rfl (lv_at hl 4 rfl) ?_
            refine r_iconst (v := 3) C dX9_mixed_186 (by decide) ?_
            refine r_iload C dX9_mixed_187 (lv_at hl 7 rfl) ?_
            refine r_iast C la_63 dX9_mixed_189 ?_
            refine r_letm (fun σ18 => ?_)
            refine r_iinc (v := x7 + 1) (lv' := [(7, .int (x7 + 1)), (8, .int v14), (0, .ref (ad 50)), (1, .int x1), (2, .int x2), (3, .ref (ad 63)), (4, .int x4), (6, .int x6)]) C dX9_mixed_190 hl (k := 7) rfl rfl (by decide) rfl (fun ls hl => ?_)
            refine r_goto (tgt := 114) C dX9_mixed_193 (by decide) ?_
            exact ih x1 x2 x4 x6 (x7 + 1) σ18 ls (lv_sub hl [2, 3, 4, 5, 6, 7, 0] rfl)
set_option maxRecDepth 100000 in
def BX9_mixed_96 (k202 : Int32 → Int32 → Int32 → Mem → Option (Int32 × Mem)) (rec : Int32 → Int32 → Int32 → Int32 → Mem → Option (Int32 × Mem)) (x1 : Int32) (x2 : Int32) (x4 : Int32) (x6 : Int32) (σ : Mem) : Option (Int32 × Mem) := if (σ 50 0 : Int32) ≤ x6 then k202 x1 x2 x4 σ else if (x4 : Int32) = x1 then k202 x1 x2 x4 σ else LX9_mixed_114 (fun x1 x2 x4 x6 σ19 => rec x1 x2 x4 (x6 + 1) σ19) 300 x1 x2 x4 x6 1 σ
def LX9_mixed_96 (k202 : Int32 → Int32 → Int32 → Mem → Option (Int32 × Mem)) : Nat → Int32 → Int32 → Int32 → Int32 → Mem → Option (Int32 × Mem)
  | 0 => fun _ _ _ _ _ => none
  | n + 1 => BX9_mixed_96 k202 (LX9_mixed_96 k202 n)
set_option maxRecDepth 100000 in
set_option maxHeartbeats 4000000 in
theorem wX9_mixed_96 {p : Program} {l : Launch} {e : Env} {s : State} {m : MethodId} {args : Array Value} {below : List Frame} {meth : Method} {c : Code} {D : va_G} {cI cZ : ClassId} {ad : Nat → Nat} {tT : Nat} {A : Nat → Prop} (C : CX p s m args meth c cX9_mixed 9 RX9 (some .int) D cI cZ ad tT A) (k202 : Int32 → Int32 → Int32 → Mem → Option (Int32 × Mem)) (hk202 : ∀ (x1 : Int32) (x2 : Int32) (x4 : Int32) (σ : Mem) (ls : Array Slot), lv_has ls 9 [(0, .ref (ad 50)), (1, .int x1), (2, .int x2), (3, .ref (ad 63)), (4, .int x4)] → WM p l e 2 50 s m args below meth c D cI cZ ad A rvi (k202 x1 x2 x4 σ) σ (F0 m 202 ls [])) :
    ∀ (n0 : Nat), ∀ (x1 : Int32) (x2 : Int32) (x4 : Int32) (x6 : Int32) (σ : Mem) (ls : Array Slot), lv_has ls 9 [(0, .ref (ad 50)), (1, .int x1), (2, .int x2), (3, .ref (ad 63)), (4, .int x4), (6, .int x6)] → WM p l e 2 50 s m args below meth c D cI cZ ad A rvi (LX9_mixed_96 k202 n0 x1 x2 x4 x6 σ) σ (F0 m 96 ls []) := by
  intro n0
  induction n0 with
  | zero => intro x1 x2 x4 x6 σ ls hl; exact r_none
  | succ n0 ih =>
    intro x1 x2 x4 x6 σ ls hl
    show WM p l e 2 50 s m args below meth c D cI cZ ad A rvi (BX9_mixed_96 k202 (LX9_mixed_96 k202 n0) x1 x2 x4 x6 σ) σ (F0 m 96 ls [])
    unfold BX9_mixed_96
    refine r_iload C dX9_mixed_96 (lv_at hl 5 rfl) ?_
    refine r_aload_n C dX9_mixed_98 rfl (lv_at hl 0 rfl) ?_
    refine r_getI C fl_X9_86 lf_50_0 dX9_mixed_99 ?_
    refine r_icmp_ge (tgt := 202) C dX9_mixed_102 (by decide) ?_ ?_
    · exact hk202 x1 x2 x4 σ ls (lv_sub hl [0, 1, 2, 3, 4] rfl)
    · refine r_iload C dX9_mixed_105 (lv_at hl 4 rfl) ?_
      refine r_iload_n C dX9_mixed_107 rfl (lv_at hl 1 rfl) ?_
      refine r_icmp_eq (tgt := 202) C dX9_mixed_108 (by decide) ?_ ?_
      · exact hk202 x1 x2 x4 σ ls (lv_sub hl [0, 1, 2, 3, 4] rfl)
      · refine r_iconst (v := 1) C dX9_mixed_111 (by decide) ?_
        refine r_istore (lv' := [(7, .int 1), (0, .ref (ad 50)), (1, .int x1), (2, .int x2), (3, .ref (ad 63)), (4, .int x4), (6, .int x6)]) C dX9_mixed_112 hl (by decide) rfl (fun ls hl => ?_)
        refine wX9_mixed_114  C _ ?_ 300 x1 x2 x4 x6 1 σ ls (lv_sub hl [1, 2, 3, 4, 5, 6, 0] rfl)
        · intro x1 x2 x4 x6 σ19 ls hl
          refine r_iinc (v := x6 + 1) (lv' := [(6, .int (x6 + 1)), (0, .ref (ad 50)), (1, .int x1), (2, .int x2), (3, .ref (ad 63)), (4, .int x4)]) C dX9_mixed_196 hl (k := 5) rfl rfl (by decide) rfl (fun ls hl => ?_)
          refine r_goto (tgt := 96) C dX9_mixed_199 (by decide) ?_
          exact ih x1 x2 x4 (x6 + 1) σ19 ls (lv_sub hl [1, 2, 3, 4, 5, 0] rfl)
set_option maxRecDepth 100000 in
def BX9_mixed_39 (k208 : Int32 → Mem → Option (Int32 × Mem)) (rec : Int32 → Int32 → Int32 → Mem → Option (Int32 × Mem)) (x1 : Int32) (x2 : Int32) (x4 : Int32) (σ : Mem) : Option (Int32 × Mem) := if (σ 50 0 : Int32) ≤ x4 then k208 x2 σ else jn (fun x1 x2 x4 t0 σ7 => gd 5 4 (jn (fun x1 x2 x4 t0 t1 σ8 => gd 5 t0 (letm (stm σ8 63 t0.toNatClampNeg t1) (fun σ9 => LX9_mixed_96 (fun x1 x2 x4 σ20 => rec x1 x2 (x4 + 1) σ20) 300 x1 x2 x4 0 σ9))) (fun k92 => if (σ7 63 (4 : Int32).toNatClampNeg : Int32) ≤ t0 then gd 5 4 (k92 x1 x2 x4 4 (σ7 63 (4 : Int32).toNatClampNeg) σ7) else k92 x1 x2 x4 4 t0 σ7))) (fun k72 => if (x4 : Int32) = x1 then k72 x1 x2 x4 9999 σ else bnd (fX9_unlikes x1 x4 0 (σ 50 1) σ) (fun r21 σ22 => k72 x1 x2 x4 r21 σ22))
def LX9_mixed_39 (k208 : Int32 → Mem → Option (Int32 × Mem)) : Nat → Int32 → Int32 → Int32 → Mem → Option (Int32 × Mem)
  | 0 => fun _ _ _ _ => none
  | n + 1 => BX9_mixed_39 k208 (LX9_mixed_39 k208 n)
set_option maxRecDepth 100000 in
set_option maxHeartbeats 4000000 in
theorem wX9_mixed_39 {p : Program} {l : Launch} {e : Env} {s : State} {m : MethodId} {args : Array Value} {below : List Frame} {meth : Method} {c : Code} {D : va_G} {cI cZ : ClassId} {ad : Nat → Nat} {tT : Nat} {A : Nat → Prop} (C : CX p s m args meth c cX9_mixed 9 RX9 (some .int) D cI cZ ad tT A) (k208 : Int32 → Mem → Option (Int32 × Mem)) (hk208 : ∀ (x2 : Int32) (σ : Mem) (ls : Array Slot), lv_has ls 9 [(2, .int x2), (3, .ref (ad 63))] → WM p l e 2 50 s m args below meth c D cI cZ ad A rvi (k208 x2 σ) σ (F0 m 208 ls [])) :
    ∀ (n0 : Nat), ∀ (x1 : Int32) (x2 : Int32) (x4 : Int32) (σ : Mem) (ls : Array Slot), lv_has ls 9 [(0, .ref (ad 50)), (1, .int x1), (2, .int x2), (3, .ref (ad 63)), (4, .int x4)] → WM p l e 2 50 s m args below meth c D cI cZ ad A rvi (LX9_mixed_39 k208 n0 x1 x2 x4 σ) σ (F0 m 39 ls []) := by
  intro n0
  induction n0 with
  | zero => intro x1 x2 x4 σ ls hl; exact r_none
  | succ n0 ih =>
    intro x1 x2 x4 σ ls hl
    show WM p l e 2 50 s m args below meth c D cI cZ ad A rvi (BX9_mixed_39 k208 (LX9_mixed_39 k208 n0) x1 x2 x4 σ) σ (F0 m 39 ls [])
    unfold BX9_mixed_39
    refine r_iload C dX9_mixed_39 (lv_at hl 4 rfl) ?_
    refine r_aload_n C dX9_mixed_41 rfl (lv_at hl 0 rfl) ?_
    refine r_getI C fl_X9_86 lf_50_0 dX9_mixed_42 ?_
    refine r_icmp_ge (tgt := 208) C dX9_mixed_45 (by decide) ?_ ?_
    · exact hk208 x2 σ ls (lv_sub hl [2, 3] rfl)
    · refine r_iload C dX9_mixed_48 (lv_at hl 4 rfl) ?_
      refine r_iload_n C dX9_mixed_50 rfl (lv_at hl 1 rfl) ?_
      refine r_jn (fun (k72 : Int32 → Int32 → Int32 → Int32 → Mem → Option (Int32 × Mem)) => ∀ (x1 : Int32) (x2 : Int32) (x4 : Int32) (t0 : Int32) (σ : Mem) (ls : Array Slot), lv_has ls 9 [(0, .ref (ad 50)), (1, .int x1), (2, .int x2), (3, .ref (ad 63)), (4, .int x4)] → WM p l e 2 50 s m args below meth c D cI cZ ad A rvi (k72 x1 x2 x4 t0 σ) σ (F0 m 72 ls [.int t0])) ?_ ?_
      · intro x1 x2 x4 t0 σ7 ls hl
        refine r_istore (lv' := [(5, .int t0), (0, .ref (ad 50)), (1, .int x1), (2, .int x2), (3, .ref (ad 63)), (4, .int x4)]) C dX9_mixed_72 hl (by decide) rfl (fun ls hl => ?_)
        refine r_aload_n C dX9_mixed_74 rfl (lv_at hl 4 rfl) ?_
        refine r_iconst (v := 4) C dX9_mixed_75 (by decide) ?_
        refine r_iload C dX9_mixed_76 (lv_at hl 0 rfl) ?_
        refine r_aload_n C dX9_mixed_78 rfl (lv_at hl 4 rfl) ?_
        refine r_iconst (v := 4) C dX9_mixed_79 (by decide) ?_
        refine r_iald C la_63 dX9_mixed_80 ?_
        refine r_jn (fun (k92 : Int32 → Int32 → Int32 → Int32 → Int32 → Mem → Option (Int32 × Mem)) => ∀ (x1 : Int32) (x2 : Int32) (x4 : Int32) (t0 : Int32) (t1 : Int32) (σ : Mem) (ls : Array Slot), lv_has ls 9 [(0, .ref (ad 50)), (1, .int x1), (2, .int x2), (3, .ref (ad 63)), (4, .int x4)] → WM p l e 2 50 s m args below meth c D cI cZ ad A rvi (k92 x1 x2 x4 t0 t1 σ) σ (F0 m 92 ls [.int t1, .int t0, .ref (ad 63)])) ?_ ?_
        · intro x1 x2 x4 t0 t1 σ8 ls hl
          refine r_iast C la_63 dX9_mixed_92 ?_
          refine r_letm (fun σ9 => ?_)
          refine r_iconst (v := 0) C dX9_mixed_93 (by decide) ?_
          refine r_istore (lv' := [(6, .int 0), (0, .ref (ad 50)), (1, .int x1), (2, .int x2), (3, .ref (ad 63)), (4, .int x4)]) C dX9_mixed_94 hl (by decide) rfl (fun ls hl => ?_)
          refine wX9_mixed_96  C _ ?_ 300 x1 x2 x4 0 σ9 ls (lv_sub hl [1, 2, 3, 4, 5, 0] rfl)
          · intro x1 x2 x4 σ20 ls hl
            refine r_iinc (v := x4 + 1) (lv' := [(4, .int (x4 + 1)), (0, .ref (ad 50)), (1, .int x1), (2, .int x2), (3, .ref (ad 63))]) C dX9_mixed_202 hl (k := 4) rfl rfl (by decide) rfl (fun ls hl => ?_)
            refine r_goto (tgt := 39) C dX9_mixed_205 (by decide) ?_
            exact ih x1 x2 (x4 + 1) σ20 ls (lv_sub hl [1, 2, 3, 4, 0] rfl)
        · intro k92 hk92
          refine r_icmp_ge (tgt := 89) C dX9_mixed_81 (by decide) ?_ ?_
          · refine r_aload_n C dX9_mixed_89 rfl (lv_at hl 4 rfl) ?_
            refine r_iconst (v := 4) C dX9_mixed_90 (by decide) ?_
            refine r_iald C la_63 dX9_mixed_91 ?_
            exact hk92 x1 x2 x4 4 (σ7 63 (4 : Int32).toNatClampNeg) σ7 ls (lv_sub hl [1, 2, 3, 4, 5] rfl)
          · refine r_iload C dX9_mixed_84 (lv_at hl 0 rfl) ?_
            refine r_goto (tgt := 92) C dX9_mixed_86 (by decide) ?_
            exact hk92 x1 x2 x4 4 t0 σ7 ls (lv_sub hl [1, 2, 3, 4, 5] rfl)
      · intro k72 hk72
        refine r_icmp_ne (tgt := 60) C dX9_mixed_51 (by decide) ?_ ?_
        · refine r_aload_n C dX9_mixed_60 rfl (lv_at hl 0 rfl) ?_
          refine r_iload_n C dX9_mixed_61 rfl (lv_at hl 1 rfl) ?_
          refine r_iload C dX9_mixed_62 (lv_at hl 4 rfl) ?_
          refine r_iconst (v := 0) C dX9_mixed_64 (by decide) ?_
          refine r_aload_n C dX9_mixed_65 rfl (lv_at hl 0 rfl) ?_
          refine r_getI C fl_X9_89 lf_50_1 dX9_mixed_66 ?_
          refine r_callVi (As := [.int x1, .int x4, .int 0, .int (σ 50 1)]) (rest := []) C hl ml_X9_195 rc_50 (gX9_unlikes l C.inj x1 x4 0 (σ 50 1) σ) ⟨Nat.le_of_ble_eq_true rfl, Nat.le_of_ble_eq_true rfl⟩ ⟨Nat.le_of_ble_eq_true rfl, Nat.le_of_ble_eq_true rfl⟩ rfl rfl (Nat.le_of_ble_eq_true rfl) dX9_mixed_69 (fun r21 σ22 => ?_)
          exact hk72 x1 x2 x4 r21 σ22 ls (lv_sub hl [0, 1, 2, 3, 4] rfl)
        · refine r_sipush (v := 9999) C dX9_mixed_54 (by decide) ?_
          refine r_goto (tgt := 72) C dX9_mixed_57 (by decide) ?_
          exact hk72 x1 x2 x4 9999 σ ls (lv_sub hl [0, 1, 2, 3, 4] rfl)
set_option maxRecDepth 100000 in
def fX9_mixed (x1 : Int32) (x2 : Int32) (σ : Mem) : Option (Int32 × Mem) := bnd (fX9_isCopy x1 σ) (fun r1 σ2 => if (r1 : Int32) = 0 then some ((-1), σ2) else bnd (fX9_in x2 0 4 σ2) (fun r3 σ4 => if (r3 : Int32) = 0 then some ((-1), σ4) else gd 5 0 (letm (stm σ4 63 (0 : Int32).toNatClampNeg 9999) (fun σ5 => gd 5 4 (letm (stm σ5 63 (4 : Int32).toNatClampNeg 9999) (fun σ6 => LX9_mixed_39 (fun x2 σ23 => jn (fun x2 t0 σ24 => gd 5 t0 (if (σ24 63 t0.toNatClampNeg : Int32) = 9999 then some ((-9), σ24) else gd 5 x2 (some (σ24 63 x2.toNatClampNeg, σ24)))) (fun k219 => if (x2 : Int32) = 4 then k219 x2 4 σ23 else k219 x2 0 σ23)) 300 x1 x2 0 σ6))))))
set_option maxRecDepth 100000 in
set_option maxHeartbeats 4000000 in
theorem gX9_mixed (l : Launch) {D : va_G} {cI cZ : ClassId} {ad : Nat → Nat} {tT : Nat} (hi : INJ ad) (x1 : Int32) (x2 : Int32) (σ : Mem) : GM l D cI cZ ad tT yX9_mixed cX9_mixed 9 (some .int) 2 50 rvi [.ref (ad 50), .int x1, .int x2] σ (fX9_mixed x1 x2 σ) := by
  refine gm_of (lv := [(0, .ref (ad 50)), (1, .int x1), (2, .int x2)]) (own := RX9) hi (by decide +kernel) rfl (Nat.le_of_ble_eq_true rfl) rfl ?_
  intro p e s m args below meth c A C ls hl
  unfold fX9_mixed
  refine r_aload_n C dX9_mixed_0 rfl (lv_at hl 0 rfl) ?_
  refine r_iload_n C dX9_mixed_1 rfl (lv_at hl 1 rfl) ?_
  refine r_callVi (As := [.int x1]) (rest := []) C hl ml_X9_98 rc_50 (gX9_isCopy l C.inj x1 σ) ⟨Nat.le_of_ble_eq_true rfl, Nat.le_of_ble_eq_true rfl⟩ ⟨Nat.le_of_ble_eq_true rfl, Nat.le_of_ble_eq_true rfl⟩ rfl rfl (Nat.le_of_ble_eq_true rfl) dX9_mixed_2 (fun r1 σ2 => ?_)
  refine r_if_eq (tgt := 17) C dX9_mixed_5 (by decide) ?_ ?_
  · refine r_iconst (v := (-1)) C dX9_mixed_17 (by decide) ?_
    exact r_iret C rfl dX9_mixed_18
  · refine r_iload_n C dX9_mixed_8 rfl (lv_at hl 2 rfl) ?_
    refine r_iconst (v := 0) C dX9_mixed_9 (by decide) ?_
    refine r_iconst (v := 4) C dX9_mixed_10 (by decide) ?_
    refine r_callSi (As := [.int x2, .int 0, .int 4]) (rest := []) C hl ml_X9_50 (gX9_in l C.inj x2 0 4 σ2) ⟨Nat.le_of_ble_eq_true rfl, Nat.le_of_ble_eq_true rfl⟩ ⟨Nat.le_of_ble_eq_true rfl, Nat.le_of_ble_eq_true rfl⟩ rfl rfl (Nat.le_of_ble_eq_true rfl) dX9_mixed_11 (fun r3 σ4 => ?_)
    refine r_if_ne (tgt := 19) C dX9_mixed_14 (by decide) ?_ ?_
    · refine r_aload_n C dX9_mixed_19 rfl (lv_at hl 0 rfl) ?_
      refine r_getR C fl_X9_47 lf_50_26 dX9_mixed_20 ?_
      refine r_astore_n (lv' := [(3, .ref (ad 63)), (0, .ref (ad 50)), (1, .int x1), (2, .int x2)]) C dX9_mixed_23 rfl hl (by decide) rfl (fun ls hl => ?_)
      refine r_aload_n C dX9_mixed_24 rfl (lv_at hl 0 rfl) ?_
      refine r_iconst (v := 0) C dX9_mixed_25 (by decide) ?_
      refine r_sipush (v := 9999) C dX9_mixed_26 (by decide) ?_
      refine r_iast C la_63 dX9_mixed_29 ?_
      refine r_letm (fun σ5 => ?_)
      refine r_aload_n C dX9_mixed_30 rfl (lv_at hl 0 rfl) ?_
      refine r_iconst (v := 4) C dX9_mixed_31 (by decide) ?_
      refine r_sipush (v := 9999) C dX9_mixed_32 (by decide) ?_
      refine r_iast C la_63 dX9_mixed_35 ?_
      refine r_letm (fun σ6 => ?_)
      refine r_iconst (v := 0) C dX9_mixed_36 (by decide) ?_
      refine r_istore (lv' := [(4, .int 0), (3, .ref (ad 63)), (0, .ref (ad 50)), (1, .int x1), (2, .int x2)]) C dX9_mixed_37 hl (by decide) rfl (fun ls hl => ?_)
      refine wX9_mixed_39  C _ ?_ 300 x1 x2 0 σ6 ls (lv_sub hl [2, 3, 4, 1, 0] rfl)
      · intro x2 σ23 ls hl
        refine r_aload_n C dX9_mixed_208 rfl (lv_at hl 1 rfl) ?_
        refine r_iload_n C dX9_mixed_209 rfl (lv_at hl 0 rfl) ?_
        refine r_iconst (v := 4) C dX9_mixed_210 (by decide) ?_
        refine r_jn (fun (k219 : Int32 → Int32 → Mem → Option (Int32 × Mem)) => ∀ (x2 : Int32) (t0 : Int32) (σ : Mem) (ls : Array Slot), lv_has ls 9 [(2, .int x2), (3, .ref (ad 63))] → WM p l e 2 50 s m args below meth c D cI cZ ad A rvi (k219 x2 t0 σ) σ (F0 m 219 ls [.int t0, .ref (ad 63)])) ?_ ?_
        · intro x2 t0 σ24 ls hl
          refine r_iald C la_63 dX9_mixed_219 ?_
          refine r_sipush (v := 9999) C dX9_mixed_220 (by decide) ?_
          refine r_icmp_ne (tgt := 231) C dX9_mixed_223 (by decide) ?_ ?_
          · refine r_aload_n C dX9_mixed_231 rfl (lv_at hl 1 rfl) ?_
            refine r_iload_n C dX9_mixed_232 rfl (lv_at hl 0 rfl) ?_
            refine r_iald C la_63 dX9_mixed_233 ?_
            exact r_iret C rfl dX9_mixed_234
          · refine r_bipush (v := (-9)) C dX9_mixed_226 (by decide) ?_
            refine r_goto (tgt := 234) C dX9_mixed_228 (by decide) ?_
            exact r_iret C rfl dX9_mixed_234
        · intro k219 hk219
          refine r_icmp_ne (tgt := 218) C dX9_mixed_211 (by decide) ?_ ?_
          · refine r_iconst (v := 0) C dX9_mixed_218 (by decide) ?_
            exact hk219 x2 0 σ23 ls (lv_sub hl [0, 1] rfl)
          · refine r_iconst (v := 4) C dX9_mixed_214 (by decide) ?_
            refine r_goto (tgt := 219) C dX9_mixed_215 (by decide) ?_
            exact hk219 x2 4 σ23 ls (lv_sub hl [0, 1] rfl)
    · refine r_iconst (v := (-1)) C dX9_mixed_17 (by decide) ?_
      exact r_iret C rfl dX9_mixed_18

set_option maxRecDepth 100000 in
def fX9_sees (x1 : Int32) (σ : Mem) : Option (Int32 × Mem) := bnd (fX9_in x1 0 6 σ) (fun r1 σ2 => if (r1 : Int32) = 0 then some ((-1), σ2) else if (σ2 50 6 : Int32) = 6 then some ((-3), σ2) else gd 6 (σ2 50 6) (letm (stm σ2 53 (σ2 50 6).toNatClampNeg x1) (fun σ3 => letm (stm σ3 50 6 ((σ3 50 6) + 1)) (fun σ4 => some (σ4 50 6, σ4)))))
set_option maxRecDepth 100000 in
set_option maxHeartbeats 4000000 in
theorem gX9_sees (l : Launch) {D : va_G} {cI cZ : ClassId} {ad : Nat → Nat} {tT : Nat} (hi : INJ ad) (x1 : Int32) (σ : Mem) : GM l D cI cZ ad tT yX9_sees cX9_sees 2 (some .int) 1 22 rvi [.ref (ad 50), .int x1] σ (fX9_sees x1 σ) := by
  refine gm_of (lv := [(0, .ref (ad 50)), (1, .int x1)]) (own := RX9) hi (by decide +kernel) rfl (Nat.le_of_ble_eq_true rfl) rfl ?_
  intro p e s m args below meth c A C ls hl
  unfold fX9_sees
  refine r_iload_n C dX9_sees_0 rfl (lv_at hl 1 rfl) ?_
  refine r_iconst (v := 0) C dX9_sees_1 (by decide) ?_
  refine r_bipush (v := 6) C dX9_sees_2 (by decide) ?_
  refine r_callSi (As := [.int x1, .int 0, .int 6]) (rest := []) C hl ml_X9_50 (gX9_in l C.inj x1 0 6 σ) ⟨Nat.le_of_ble_eq_true rfl, Nat.le_of_ble_eq_true rfl⟩ ⟨Nat.le_of_ble_eq_true rfl, Nat.le_of_ble_eq_true rfl⟩ rfl rfl (Nat.le_of_ble_eq_true rfl) dX9_sees_4 (fun r1 σ2 => ?_)
  refine r_if_ne (tgt := 12) C dX9_sees_7 (by decide) ?_ ?_
  · refine r_aload_n C dX9_sees_12 rfl (lv_at hl 0 rfl) ?_
    refine r_getI C fl_X9_95 lf_50_6 dX9_sees_13 ?_
    refine r_bipush (v := 6) C dX9_sees_16 (by decide) ?_
    refine r_icmp_ne (tgt := 24) C dX9_sees_18 (by decide) ?_ ?_
    · refine r_aload_n C dX9_sees_24 rfl (lv_at hl 0 rfl) ?_
      refine r_getR C fl_X9_16 lf_50_7 dX9_sees_25 ?_
      refine r_aload_n C dX9_sees_28 rfl (lv_at hl 0 rfl) ?_
      refine r_getI C fl_X9_95 lf_50_6 dX9_sees_29 ?_
      refine r_iload_n C dX9_sees_32 rfl (lv_at hl 1 rfl) ?_
      refine r_iast C la_53 dX9_sees_33 ?_
      refine r_letm (fun σ3 => ?_)
      refine r_aload_n C dX9_sees_34 rfl (lv_at hl 0 rfl) ?_
      refine r_dup C dX9_sees_35 rfl ?_
      refine r_getI C fl_X9_95 lf_50_6 dX9_sees_36 ?_
      refine r_iconst (v := 1) C dX9_sees_39 (by decide) ?_
      refine r_iadd C dX9_sees_40 ?_
      refine r_putI C fl_X9_95 fp_X9_6 rfl rfl lf_50_6 dX9_sees_41 ?_
      refine r_letm (fun σ4 => ?_)
      refine r_aload_n C dX9_sees_44 rfl (lv_at hl 0 rfl) ?_
      refine r_getI C fl_X9_95 lf_50_6 dX9_sees_45 ?_
      exact r_iret C rfl dX9_sees_48
    · refine r_bipush (v := (-3)) C dX9_sees_21 (by decide) ?_
      exact r_iret C rfl dX9_sees_23
  · refine r_iconst (v := (-1)) C dX9_sees_10 (by decide) ?_
    exact r_iret C rfl dX9_sees_11

set_option maxRecDepth 100000 in
def fX9_forget (σ : Mem) : Option (Int32 × Mem) := letv (σ 50 6) (fun v1 => letm (stm σ 50 6 0) (fun σ2 => some (v1, σ2)))
set_option maxRecDepth 100000 in
set_option maxHeartbeats 4000000 in
theorem gX9_forget (l : Launch) {D : va_G} {cI cZ : ClassId} {ad : Nat → Nat} {tT : Nat} (hi : INJ ad) (σ : Mem) : GM l D cI cZ ad tT yX9_forget cX9_forget 2 (some .int) 0 0 rvi [.ref (ad 50)] σ (fX9_forget σ) := by
  refine gm_of (lv := [(0, .ref (ad 50))]) (own := RX9) hi (by decide +kernel) rfl (Nat.le_of_ble_eq_true rfl) rfl ?_
  intro p e s m args below meth c A C ls hl
  unfold fX9_forget
  refine r_aload_n C dX9_forget_0 rfl (lv_at hl 0 rfl) ?_
  refine r_getI C fl_X9_95 lf_50_6 dX9_forget_1 ?_
  refine r_letv (fun v1 => ?_)
  refine r_istore_n (lv' := [(1, .int v1), (0, .ref (ad 50))]) C dX9_forget_4 rfl hl (by decide) rfl (fun ls hl => ?_)
  refine r_aload_n C dX9_forget_5 rfl (lv_at hl 1 rfl) ?_
  refine r_iconst (v := 0) C dX9_forget_6 (by decide) ?_
  refine r_putI C fl_X9_95 fp_X9_6 rfl rfl lf_50_6 dX9_forget_7 ?_
  refine r_letm (fun σ2 => ?_)
  refine r_iload_n C dX9_forget_10 rfl (lv_at hl 0 rfl) ?_
  exact r_iret C rfl dX9_forget_11

set_option maxRecDepth 100000 in
def BX9_isSeen_4 (k38 : Int32 → Mem → Option (Int32 × Mem)) (rec : Int32 → Int32 → Int32 → Mem → Option (Int32 × Mem)) (x1 : Int32) (x2 : Int32) (x3 : Int32) (σ : Mem) : Option (Int32 × Mem) := if (σ 50 6 : Int32) ≤ x3 then k38 x2 σ else if (x2 : Int32) = 0 then rec x1 0 (x3 + 1) σ else gd 6 x3 (if (σ 53 x3.toNatClampNeg : Int32) = x1 then rec x1 1 (x3 + 1) σ else rec x1 0 (x3 + 1) σ)
def LX9_isSeen_4 (k38 : Int32 → Mem → Option (Int32 × Mem)) : Nat → Int32 → Int32 → Int32 → Mem → Option (Int32 × Mem)
  | 0 => fun _ _ _ _ => none
  | n + 1 => BX9_isSeen_4 k38 (LX9_isSeen_4 k38 n)
set_option maxRecDepth 100000 in
set_option maxHeartbeats 4000000 in
theorem wX9_isSeen_4 {p : Program} {l : Launch} {e : Env} {s : State} {m : MethodId} {args : Array Value} {below : List Frame} {meth : Method} {c : Code} {D : va_G} {cI cZ : ClassId} {ad : Nat → Nat} {tT : Nat} {A : Nat → Prop} (C : CX p s m args meth c cX9_isSeen 4 RX9 (some .boolean) D cI cZ ad tT A) (k38 : Int32 → Mem → Option (Int32 × Mem)) (hk38 : ∀ (x2 : Int32) (σ : Mem) (ls : Array Slot), lv_has ls 4 [(2, .int x2)] → WM p l e 0 0 s m args below meth c D cI cZ ad A rvi (k38 x2 σ) σ (F0 m 38 ls [])) :
    ∀ (n0 : Nat), ∀ (x1 : Int32) (x2 : Int32) (x3 : Int32) (σ : Mem) (ls : Array Slot), lv_has ls 4 [(0, .ref (ad 50)), (1, .int x1), (2, .int x2), (3, .int x3)] → WM p l e 0 0 s m args below meth c D cI cZ ad A rvi (LX9_isSeen_4 k38 n0 x1 x2 x3 σ) σ (F0 m 4 ls []) := by
  intro n0
  induction n0 with
  | zero => intro x1 x2 x3 σ ls hl; exact r_none
  | succ n0 ih =>
    intro x1 x2 x3 σ ls hl
    show WM p l e 0 0 s m args below meth c D cI cZ ad A rvi (BX9_isSeen_4 k38 (LX9_isSeen_4 k38 n0) x1 x2 x3 σ) σ (F0 m 4 ls [])
    unfold BX9_isSeen_4
    refine r_iload_n C dX9_isSeen_4 rfl (lv_at hl 3 rfl) ?_
    refine r_aload_n C dX9_isSeen_5 rfl (lv_at hl 0 rfl) ?_
    refine r_getI C fl_X9_95 lf_50_6 dX9_isSeen_6 ?_
    refine r_icmp_ge (tgt := 38) C dX9_isSeen_9 (by decide) ?_ ?_
    · exact hk38 x2 σ ls (lv_sub hl [2] rfl)
    · refine r_iload_n C dX9_isSeen_12 rfl (lv_at hl 2 rfl) ?_
      refine r_if_eq (tgt := 30) C dX9_isSeen_13 (by decide) ?_ ?_
      · refine r_iconst (v := 0) C dX9_isSeen_30 (by decide) ?_
        refine r_istore_n (lv' := [(2, .int 0), (0, .ref (ad 50)), (1, .int x1), (3, .int x3)]) C dX9_isSeen_31 rfl hl (by decide) rfl (fun ls hl => ?_)
        refine r_iinc (v := x3 + 1) (lv' := [(3, .int (x3 + 1)), (2, .int 0), (0, .ref (ad 50)), (1, .int x1)]) C dX9_isSeen_32 hl (k := 3) rfl rfl (by decide) rfl (fun ls hl => ?_)
        refine r_goto (tgt := 4) C dX9_isSeen_35 (by decide) ?_
        exact ih x1 0 (x3 + 1) σ ls (lv_sub hl [2, 3, 1, 0] rfl)
      · refine r_aload_n C dX9_isSeen_16 rfl (lv_at hl 0 rfl) ?_
        refine r_getR C fl_X9_16 lf_50_7 dX9_isSeen_17 ?_
        refine r_iload_n C dX9_isSeen_20 rfl (lv_at hl 3 rfl) ?_
        refine r_iald C la_53 dX9_isSeen_21 ?_
        refine r_iload_n C dX9_isSeen_22 rfl (lv_at hl 1 rfl) ?_
        refine r_icmp_ne (tgt := 30) C dX9_isSeen_23 (by decide) ?_ ?_
        · refine r_iconst (v := 0) C dX9_isSeen_30 (by decide) ?_
          refine r_istore_n (lv' := [(2, .int 0), (0, .ref (ad 50)), (1, .int x1), (3, .int x3)]) C dX9_isSeen_31 rfl hl (by decide) rfl (fun ls hl => ?_)
          refine r_iinc (v := x3 + 1) (lv' := [(3, .int (x3 + 1)), (2, .int 0), (0, .ref (ad 50)), (1, .int x1)]) C dX9_isSeen_32 hl (k := 3) rfl rfl (by decide) rfl (fun ls hl => ?_)
          refine r_goto (tgt := 4) C dX9_isSeen_35 (by decide) ?_
          exact ih x1 0 (x3 + 1) σ ls (lv_sub hl [2, 3, 1, 0] rfl)
        · refine r_iconst (v := 1) C dX9_isSeen_26 (by decide) ?_
          refine r_goto (tgt := 31) C dX9_isSeen_27 (by decide) ?_
          refine r_istore_n (lv' := [(2, .int 1), (0, .ref (ad 50)), (1, .int x1), (3, .int x3)]) C dX9_isSeen_31 rfl hl (by decide) rfl (fun ls hl => ?_)
          refine r_iinc (v := x3 + 1) (lv' := [(3, .int (x3 + 1)), (2, .int 1), (0, .ref (ad 50)), (1, .int x1)]) C dX9_isSeen_32 hl (k := 3) rfl rfl (by decide) rfl (fun ls hl => ?_)
          refine r_goto (tgt := 4) C dX9_isSeen_35 (by decide) ?_
          exact ih x1 1 (x3 + 1) σ ls (lv_sub hl [2, 3, 1, 0] rfl)
set_option maxRecDepth 100000 in
def fX9_isSeen (x1 : Int32) (σ : Mem) : Option (Int32 × Mem) := LX9_isSeen_4 (fun x2 σ1 => gb x2 (some (x2, σ1))) 300 x1 1 0 σ
set_option maxRecDepth 100000 in
set_option maxHeartbeats 4000000 in
theorem gX9_isSeen (l : Launch) {D : va_G} {cI cZ : ClassId} {ad : Nat → Nat} {tT : Nat} (hi : INJ ad) (x1 : Int32) (σ : Mem) : GM l D cI cZ ad tT yX9_isSeen cX9_isSeen 4 (some .boolean) 0 0 rvi [.ref (ad 50), .int x1] σ (fX9_isSeen x1 σ) := by
  refine gm_of (lv := [(0, .ref (ad 50)), (1, .int x1)]) (own := RX9) hi (by decide +kernel) rfl (Nat.le_of_ble_eq_true rfl) rfl ?_
  intro p e s m args below meth c A C ls hl
  unfold fX9_isSeen
  refine r_iconst (v := 1) C dX9_isSeen_0 (by decide) ?_
  refine r_istore_n (lv' := [(2, .int 1), (0, .ref (ad 50)), (1, .int x1)]) C dX9_isSeen_1 rfl hl (by decide) rfl (fun ls hl => ?_)
  refine r_iconst (v := 0) C dX9_isSeen_2 (by decide) ?_
  refine r_istore_n (lv' := [(3, .int 0), (2, .int 1), (0, .ref (ad 50)), (1, .int x1)]) C dX9_isSeen_3 rfl hl (by decide) rfl (fun ls hl => ?_)
  refine wX9_isSeen_4  C _ ?_ 300 x1 1 0 σ ls (lv_sub hl [2, 3, 1, 0] rfl)
  · intro x2 σ1 ls hl
    refine r_iload_n C dX9_isSeen_38 rfl (lv_at hl 0 rfl) ?_
    exact r_zretG C rfl dX9_isSeen_39

set_option maxRecDepth 100000 in
def BX9_unseen_36 (k92 : Int32 → Int32 → Int32 → Mem → Option (Int32 × Mem)) (rec : Int32 → Int32 → Int32 → Int32 → Mem → Option (Int32 × Mem)) (x1 : Int32) (x2 : Int32) (x3 : Int32) (x4 : Int32) (σ : Mem) : Option (Int32 × Mem) := if (4 : Int32) ≤ x4 then k92 x1 x2 x3 σ else if (x3 : Int32) = 4 then k92 x1 x2 x3 σ else gd 49 ((8 : Int32) * x2) (letm (stm σ 51 ((8 : Int32) * x2).toNatClampNeg x4) (fun σ4 => if (x4 : Int32) = x3 then letv (x1 ||| 0) (fun v5 => rec v5 x2 x3 (x4 + 1) σ4) else bnd (fX9_changesAt 0 σ4) (fun r6 σ7 => bnd (fX9_isSeen r6 σ7) (fun r8 σ9 => if (r8 : Int32) = 0 then letv (x1 ||| 0) (fun v10 => rec v10 x2 x3 (x4 + 1) σ9) else letv (x1 ||| ((1 : Int32) <<< (x2 &&& 31))) (fun v11 => rec v11 x2 x3 (x4 + 1) σ9)))))
def LX9_unseen_36 (k92 : Int32 → Int32 → Int32 → Mem → Option (Int32 × Mem)) : Nat → Int32 → Int32 → Int32 → Int32 → Mem → Option (Int32 × Mem)
  | 0 => fun _ _ _ _ _ => none
  | n + 1 => BX9_unseen_36 k92 (LX9_unseen_36 k92 n)
set_option maxRecDepth 100000 in
set_option maxHeartbeats 4000000 in
theorem wX9_unseen_36 {p : Program} {l : Launch} {e : Env} {s : State} {m : MethodId} {args : Array Value} {below : List Frame} {meth : Method} {c : Code} {D : va_G} {cI cZ : ClassId} {ad : Nat → Nat} {tT : Nat} {A : Nat → Prop} (C : CX p s m args meth c cX9_unseen 5 RX9 (some .int) D cI cZ ad tT A) (k92 : Int32 → Int32 → Int32 → Mem → Option (Int32 × Mem)) (hk92 : ∀ (x1 : Int32) (x2 : Int32) (x3 : Int32) (σ : Mem) (ls : Array Slot), lv_has ls 5 [(0, .ref (ad 50)), (1, .int x1), (2, .int x2), (3, .int x3)] → WM p l e 4 96 s m args below meth c D cI cZ ad A rvi (k92 x1 x2 x3 σ) σ (F0 m 92 ls [])) :
    ∀ (n0 : Nat), ∀ (x1 : Int32) (x2 : Int32) (x3 : Int32) (x4 : Int32) (σ : Mem) (ls : Array Slot), lv_has ls 5 [(0, .ref (ad 50)), (1, .int x1), (2, .int x2), (3, .int x3), (4, .int x4)] → WM p l e 4 96 s m args below meth c D cI cZ ad A rvi (LX9_unseen_36 k92 n0 x1 x2 x3 x4 σ) σ (F0 m 36 ls []) := by
  intro n0
  induction n0 with
  | zero => intro x1 x2 x3 x4 σ ls hl; exact r_none
  | succ n0 ih =>
    intro x1 x2 x3 x4 σ ls hl
    show WM p l e 4 96 s m args below meth c D cI cZ ad A rvi (BX9_unseen_36 k92 (LX9_unseen_36 k92 n0) x1 x2 x3 x4 σ) σ (F0 m 36 ls [])
    unfold BX9_unseen_36
    refine r_iload C dX9_unseen_36 (lv_at hl 4 rfl) ?_
    refine r_iconst (v := 4) C dX9_unseen_38 (by decide) ?_
    refine r_icmp_ge (tgt := 92) C dX9_unseen_39 (by decide) ?_ ?_
    · exact hk92 x1 x2 x3 σ ls (lv_sub hl [0, 1, 2, 3] rfl)
    · refine r_iload_n C dX9_unseen_42 rfl (lv_at hl 3 rfl) ?_
      refine r_iconst (v := 4) C dX9_unseen_43 (by decide) ?_
      refine r_icmp_eq (tgt := 92) C dX9_unseen_44 (by decide) ?_ ?_
      · exact hk92 x1 x2 x3 σ ls (lv_sub hl [0, 1, 2, 3] rfl)
      · refine r_aload_n C dX9_unseen_47 rfl (lv_at hl 0 rfl) ?_
        refine r_getR C fl_X9_7 lf_50_2 dX9_unseen_48 ?_
        refine r_bipush (v := 8) C dX9_unseen_51 (by decide) ?_
        refine r_iload_n C dX9_unseen_53 rfl (lv_at hl 2 rfl) ?_
        refine r_imul C dX9_unseen_54 ?_
        refine r_iload C dX9_unseen_55 (lv_at hl 4 rfl) ?_
        refine r_iast C la_51 dX9_unseen_57 ?_
        refine r_letm (fun σ4 => ?_)
        refine r_iload_n C dX9_unseen_58 rfl (lv_at hl 1 rfl) ?_
        refine r_iload C dX9_unseen_59 (lv_at hl 4 rfl) ?_
        refine r_iload_n C dX9_unseen_61 rfl (lv_at hl 3 rfl) ?_
        refine r_icmp_eq (tgt := 83) C dX9_unseen_62 (by decide) ?_ ?_
        · refine r_iconst (v := 0) C dX9_unseen_83 (by decide) ?_
          refine r_ior C dX9_unseen_84 ?_
          refine r_letv (fun v5 => ?_)
          refine r_istore_n (lv' := [(1, .int v5), (0, .ref (ad 50)), (2, .int x2), (3, .int x3), (4, .int x4)]) C dX9_unseen_85 rfl hl (by decide) rfl (fun ls hl => ?_)
          refine r_iinc (v := x4 + 1) (lv' := [(4, .int (x4 + 1)), (1, .int v5), (0, .ref (ad 50)), (2, .int x2), (3, .int x3)]) C dX9_unseen_86 hl (k := 4) rfl rfl (by decide) rfl (fun ls hl => ?_)
          refine r_goto (tgt := 36) C dX9_unseen_89 (by decide) ?_
          exact ih v5 x2 x3 (x4 + 1) σ4 ls (lv_sub hl [2, 1, 3, 4, 0] rfl)
        · refine r_aload_n C dX9_unseen_65 rfl (lv_at hl 0 rfl) ?_
          refine r_aload_n C dX9_unseen_66 rfl (lv_at hl 0 rfl) ?_
          refine r_iconst (v := 0) C dX9_unseen_67 (by decide) ?_
          refine r_callVi (As := [.int 0]) (rest := [.ref (ad 50), .int x1]) C hl ml_X9_147 rc_50 (gX9_changesAt l C.inj 0 σ4) ⟨Nat.le_of_ble_eq_true rfl, Nat.le_of_ble_eq_true rfl⟩ ⟨Nat.le_of_ble_eq_true rfl, Nat.le_of_ble_eq_true rfl⟩ rfl rfl (Nat.le_of_ble_eq_true rfl) dX9_unseen_68 (fun r6 σ7 => ?_)
          refine r_callVi (As := [.int r6]) (rest := [.int x1]) C hl ml_X9_199 rc_50 (gX9_isSeen l C.inj r6 σ7) ⟨Nat.le_of_ble_eq_true rfl, Nat.le_of_ble_eq_true rfl⟩ ⟨Nat.le_of_ble_eq_true rfl, Nat.le_of_ble_eq_true rfl⟩ rfl rfl (Nat.le_of_ble_eq_true rfl) dX9_unseen_71 (fun r8 σ9 => ?_)
          refine r_if_eq (tgt := 83) C dX9_unseen_74 (by decide) ?_ ?_
          · refine r_iconst (v := 0) C dX9_unseen_83 (by decide) ?_
            refine r_ior C dX9_unseen_84 ?_
            refine r_letv (fun v10 => ?_)
            refine r_istore_n (lv' := [(1, .int v10), (0, .ref (ad 50)), (2, .int x2), (3, .int x3), (4, .int x4)]) C dX9_unseen_85 rfl hl (by decide) rfl (fun ls hl => ?_)
            refine r_iinc (v := x4 + 1) (lv' := [(4, .int (x4 + 1)), (1, .int v10), (0, .ref (ad 50)), (2, .int x2), (3, .int x3)]) C dX9_unseen_86 hl (k := 4) rfl rfl (by decide) rfl (fun ls hl => ?_)
            refine r_goto (tgt := 36) C dX9_unseen_89 (by decide) ?_
            exact ih v10 x2 x3 (x4 + 1) σ9 ls (lv_sub hl [2, 1, 3, 4, 0] rfl)
          · refine r_iconst (v := 1) C dX9_unseen_77 (by decide) ?_
            refine r_iload_n C dX9_unseen_78 rfl (lv_at hl 2 rfl) ?_
            refine r_ishl C dX9_unseen_79 ?_
            refine r_goto (tgt := 84) C dX9_unseen_80 (by decide) ?_
            refine r_ior C dX9_unseen_84 ?_
            refine r_letv (fun v11 => ?_)
            refine r_istore_n (lv' := [(1, .int v11), (0, .ref (ad 50)), (2, .int x2), (3, .int x3), (4, .int x4)]) C dX9_unseen_85 rfl hl (by decide) rfl (fun ls hl => ?_)
            refine r_iinc (v := x4 + 1) (lv' := [(4, .int (x4 + 1)), (1, .int v11), (0, .ref (ad 50)), (2, .int x2), (3, .int x3)]) C dX9_unseen_86 hl (k := 4) rfl rfl (by decide) rfl (fun ls hl => ?_)
            refine r_goto (tgt := 36) C dX9_unseen_89 (by decide) ?_
            exact ih v11 x2 x3 (x4 + 1) σ9 ls (lv_sub hl [2, 1, 3, 4, 0] rfl)
set_option maxRecDepth 100000 in
def BX9_unseen_15 (k108 : Int32 → Mem → Option (Int32 × Mem)) (rec : Int32 → Int32 → Mem → Option (Int32 × Mem)) (x1 : Int32) (x2 : Int32) (σ : Mem) : Option (Int32 × Mem) := if (σ 50 0 : Int32) ≤ x2 then k108 x1 σ else gd 49 ((8 : Int32) * x2) (letv (σ 51 ((8 : Int32) * x2).toNatClampNeg) (fun v3 => LX9_unseen_36 (fun x1 x2 x3 σ12 => gd 49 ((8 : Int32) * x2) (letm (stm σ12 51 ((8 : Int32) * x2).toNatClampNeg x3) (fun σ13 => rec x1 (x2 + 1) σ13))) 300 x1 x2 v3 0 σ))
def LX9_unseen_15 (k108 : Int32 → Mem → Option (Int32 × Mem)) : Nat → Int32 → Int32 → Mem → Option (Int32 × Mem)
  | 0 => fun _ _ _ => none
  | n + 1 => BX9_unseen_15 k108 (LX9_unseen_15 k108 n)
set_option maxRecDepth 100000 in
set_option maxHeartbeats 4000000 in
theorem wX9_unseen_15 {p : Program} {l : Launch} {e : Env} {s : State} {m : MethodId} {args : Array Value} {below : List Frame} {meth : Method} {c : Code} {D : va_G} {cI cZ : ClassId} {ad : Nat → Nat} {tT : Nat} {A : Nat → Prop} (C : CX p s m args meth c cX9_unseen 5 RX9 (some .int) D cI cZ ad tT A) (k108 : Int32 → Mem → Option (Int32 × Mem)) (hk108 : ∀ (x1 : Int32) (σ : Mem) (ls : Array Slot), lv_has ls 5 [(1, .int x1)] → WM p l e 4 96 s m args below meth c D cI cZ ad A rvi (k108 x1 σ) σ (F0 m 108 ls [])) :
    ∀ (n0 : Nat), ∀ (x1 : Int32) (x2 : Int32) (σ : Mem) (ls : Array Slot), lv_has ls 5 [(0, .ref (ad 50)), (1, .int x1), (2, .int x2)] → WM p l e 4 96 s m args below meth c D cI cZ ad A rvi (LX9_unseen_15 k108 n0 x1 x2 σ) σ (F0 m 15 ls []) := by
  intro n0
  induction n0 with
  | zero => intro x1 x2 σ ls hl; exact r_none
  | succ n0 ih =>
    intro x1 x2 σ ls hl
    show WM p l e 4 96 s m args below meth c D cI cZ ad A rvi (BX9_unseen_15 k108 (LX9_unseen_15 k108 n0) x1 x2 σ) σ (F0 m 15 ls [])
    unfold BX9_unseen_15
    refine r_iload_n C dX9_unseen_15 rfl (lv_at hl 2 rfl) ?_
    refine r_aload_n C dX9_unseen_16 rfl (lv_at hl 0 rfl) ?_
    refine r_getI C fl_X9_86 lf_50_0 dX9_unseen_17 ?_
    refine r_icmp_ge (tgt := 108) C dX9_unseen_20 (by decide) ?_ ?_
    · exact hk108 x1 σ ls (lv_sub hl [1] rfl)
    · refine r_aload_n C dX9_unseen_23 rfl (lv_at hl 0 rfl) ?_
      refine r_getR C fl_X9_7 lf_50_2 dX9_unseen_24 ?_
      refine r_bipush (v := 8) C dX9_unseen_27 (by decide) ?_
      refine r_iload_n C dX9_unseen_29 rfl (lv_at hl 2 rfl) ?_
      refine r_imul C dX9_unseen_30 ?_
      refine r_iald C la_51 dX9_unseen_31 ?_
      refine r_letv (fun v3 => ?_)
      refine r_istore_n (lv' := [(3, .int v3), (0, .ref (ad 50)), (1, .int x1), (2, .int x2)]) C dX9_unseen_32 rfl hl (by decide) rfl (fun ls hl => ?_)
      refine r_iconst (v := 0) C dX9_unseen_33 (by decide) ?_
      refine r_istore (lv' := [(4, .int 0), (3, .int v3), (0, .ref (ad 50)), (1, .int x1), (2, .int x2)]) C dX9_unseen_34 hl (by decide) rfl (fun ls hl => ?_)
      refine wX9_unseen_36  C _ ?_ 300 x1 x2 v3 0 σ ls (lv_sub hl [2, 3, 4, 1, 0] rfl)
      · intro x1 x2 x3 σ12 ls hl
        refine r_aload_n C dX9_unseen_92 rfl (lv_at hl 0 rfl) ?_
        refine r_getR C fl_X9_7 lf_50_2 dX9_unseen_93 ?_
        refine r_bipush (v := 8) C dX9_unseen_96 (by decide) ?_
        refine r_iload_n C dX9_unseen_98 rfl (lv_at hl 2 rfl) ?_
        refine r_imul C dX9_unseen_99 ?_
        refine r_iload_n C dX9_unseen_100 rfl (lv_at hl 3 rfl) ?_
        refine r_iast C la_51 dX9_unseen_101 ?_
        refine r_letm (fun σ13 => ?_)
        refine r_iinc (v := x2 + 1) (lv' := [(2, .int (x2 + 1)), (0, .ref (ad 50)), (1, .int x1), (3, .int x3)]) C dX9_unseen_102 hl (k := 2) rfl rfl (by decide) rfl (fun ls hl => ?_)
        refine r_goto (tgt := 15) C dX9_unseen_105 (by decide) ?_
        exact ih x1 (x2 + 1) σ13 ls (lv_sub hl [1, 2, 0] rfl)
set_option maxRecDepth 100000 in
def fX9_unseen (σ : Mem) : Option (Int32 × Mem) := gd 49 48 (bnd (fX9_layTree (σ 51 (48 : Int32).toNatClampNeg) σ) (fun r1 σ2 => LX9_unseen_15 (fun x1 σ14 => some (x1, σ14)) 300 0 0 σ2))
set_option maxRecDepth 100000 in
set_option maxHeartbeats 4000000 in
theorem gX9_unseen (l : Launch) {D : va_G} {cI cZ : ClassId} {ad : Nat → Nat} {tT : Nat} (hi : INJ ad) (σ : Mem) : GM l D cI cZ ad tT yX9_unseen cX9_unseen 5 (some .int) 4 96 rvi [.ref (ad 50)] σ (fX9_unseen σ) := by
  refine gm_of (lv := [(0, .ref (ad 50))]) (own := RX9) hi (by decide +kernel) rfl (Nat.le_of_ble_eq_true rfl) rfl ?_
  intro p e s m args below meth c A C ls hl
  unfold fX9_unseen
  refine r_aload_n C dX9_unseen_0 rfl (lv_at hl 0 rfl) ?_
  refine r_aload_n C dX9_unseen_1 rfl (lv_at hl 0 rfl) ?_
  refine r_getR C fl_X9_7 lf_50_2 dX9_unseen_2 ?_
  refine r_bipush (v := 48) C dX9_unseen_5 (by decide) ?_
  refine r_iald C la_51 dX9_unseen_7 ?_
  refine r_callVv (As := [.int (σ 51 (48 : Int32).toNatClampNeg)]) (rest := []) C hl ml_X9_144 rc_50 (gX9_layTree l C.inj (σ 51 (48 : Int32).toNatClampNeg) σ) ⟨Nat.le_of_ble_eq_true rfl, Nat.le_of_ble_eq_true rfl⟩ ⟨Nat.le_of_ble_eq_true rfl, Nat.le_of_ble_eq_true rfl⟩ rfl rfl (Nat.le_of_ble_eq_true rfl) dX9_unseen_8 (fun r1 σ2 => ?_)
  refine r_iconst (v := 0) C dX9_unseen_11 (by decide) ?_
  refine r_istore_n (lv' := [(1, .int 0), (0, .ref (ad 50))]) C dX9_unseen_12 rfl hl (by decide) rfl (fun ls hl => ?_)
  refine r_iconst (v := 0) C dX9_unseen_13 (by decide) ?_
  refine r_istore_n (lv' := [(2, .int 0), (1, .int 0), (0, .ref (ad 50))]) C dX9_unseen_14 rfl hl (by decide) rfl (fun ls hl => ?_)
  refine wX9_unseen_15  C _ ?_ 300 0 0 σ2 ls (lv_sub hl [2, 1, 0] rfl)
  · intro x1 σ14 ls hl
    refine r_iload_n C dX9_unseen_108 rfl (lv_at hl 0 rfl) ?_
    exact r_iret C rfl dX9_unseen_109

set_option maxRecDepth 100000 in
def BX9_keep_20 (k49 : Mem → Option (Int32 × Mem)) (rec : Int32 → Int32 → Mem → Option (Int32 × Mem)) (x1 : Int32) (x2 : Int32) (σ : Mem) : Option (Int32 × Mem) := if (49 : Int32) ≤ x2 then k49 σ else gd 49 x2 (gd 98 (((49 : Int32) * x1) + x2) (letm (stm σ 55 (((49 : Int32) * x1) + x2).toNatClampNeg (σ 51 x2.toNatClampNeg)) (fun σ4 => rec x1 (x2 + 1) σ4)))
def LX9_keep_20 (k49 : Mem → Option (Int32 × Mem)) : Nat → Int32 → Int32 → Mem → Option (Int32 × Mem)
  | 0 => fun _ _ _ => none
  | n + 1 => BX9_keep_20 k49 (LX9_keep_20 k49 n)
set_option maxRecDepth 100000 in
set_option maxHeartbeats 4000000 in
theorem wX9_keep_20 {p : Program} {l : Launch} {e : Env} {s : State} {m : MethodId} {args : Array Value} {below : List Frame} {meth : Method} {c : Code} {D : va_G} {cI cZ : ClassId} {ad : Nat → Nat} {tT : Nat} {A : Nat → Prop} (C : CX p s m args meth c cX9_keep 3 RX9 (some .int) D cI cZ ad tT A) (k49 : Mem → Option (Int32 × Mem)) (hk49 : ∀ (σ : Mem) (ls : Array Slot), lv_has ls 3 [(0, .ref (ad 50))] → WM p l e 1 22 s m args below meth c D cI cZ ad A rvi (k49 σ) σ (F0 m 49 ls [])) :
    ∀ (n0 : Nat), ∀ (x1 : Int32) (x2 : Int32) (σ : Mem) (ls : Array Slot), lv_has ls 3 [(0, .ref (ad 50)), (1, .int x1), (2, .int x2)] → WM p l e 1 22 s m args below meth c D cI cZ ad A rvi (LX9_keep_20 k49 n0 x1 x2 σ) σ (F0 m 20 ls []) := by
  intro n0
  induction n0 with
  | zero => intro x1 x2 σ ls hl; exact r_none
  | succ n0 ih =>
    intro x1 x2 σ ls hl
    show WM p l e 1 22 s m args below meth c D cI cZ ad A rvi (BX9_keep_20 k49 (LX9_keep_20 k49 n0) x1 x2 σ) σ (F0 m 20 ls [])
    unfold BX9_keep_20
    refine r_iload_n C dX9_keep_20 rfl (lv_at hl 2 rfl) ?_
    refine r_bipush (v := 49) C dX9_keep_21 (by decide) ?_
    refine r_icmp_ge (tgt := 49) C dX9_keep_23 (by decide) ?_ ?_
    · exact hk49 σ ls (lv_sub hl [0] rfl)
    · refine r_aload_n C dX9_keep_26 rfl (lv_at hl 0 rfl) ?_
      refine r_getR C fl_X9_23 lf_50_9 dX9_keep_27 ?_
      refine r_bipush (v := 49) C dX9_keep_30 (by decide) ?_
      refine r_iload_n C dX9_keep_32 rfl (lv_at hl 1 rfl) ?_
      refine r_imul C dX9_keep_33 ?_
      refine r_iload_n C dX9_keep_34 rfl (lv_at hl 2 rfl) ?_
      refine r_iadd C dX9_keep_35 ?_
      refine r_aload_n C dX9_keep_36 rfl (lv_at hl 0 rfl) ?_
      refine r_getR C fl_X9_7 lf_50_2 dX9_keep_37 ?_
      refine r_iload_n C dX9_keep_40 rfl (lv_at hl 2 rfl) ?_
      refine r_iald C la_51 dX9_keep_41 ?_
      refine r_iast C la_55 dX9_keep_42 ?_
      refine r_letm (fun σ4 => ?_)
      refine r_iinc (v := x2 + 1) (lv' := [(2, .int (x2 + 1)), (0, .ref (ad 50)), (1, .int x1)]) C dX9_keep_43 hl (k := 2) rfl rfl (by decide) rfl (fun ls hl => ?_)
      refine r_goto (tgt := 20) C dX9_keep_46 (by decide) ?_
      exact ih x1 (x2 + 1) σ4 ls (lv_sub hl [1, 2, 0] rfl)
set_option maxRecDepth 100000 in
def fX9_keep (x1 : Int32) (σ : Mem) : Option (Int32 × Mem) := bnd (fX9_in x1 0 1 σ) (fun r1 σ2 => if (r1 : Int32) = 0 then some ((-1), σ2) else gd 2 x1 (letm (stm σ2 54 x1.toNatClampNeg 1) (fun σ3 => LX9_keep_20 (fun σ5 => some (σ5 50 0, σ5)) 300 x1 0 σ3)))
set_option maxRecDepth 100000 in
set_option maxHeartbeats 4000000 in
theorem gX9_keep (l : Launch) {D : va_G} {cI cZ : ClassId} {ad : Nat → Nat} {tT : Nat} (hi : INJ ad) (x1 : Int32) (σ : Mem) : GM l D cI cZ ad tT yX9_keep cX9_keep 3 (some .int) 1 22 rvi [.ref (ad 50), .int x1] σ (fX9_keep x1 σ) := by
  refine gm_of (lv := [(0, .ref (ad 50)), (1, .int x1)]) (own := RX9) hi (by decide +kernel) rfl (Nat.le_of_ble_eq_true rfl) rfl ?_
  intro p e s m args below meth c A C ls hl
  unfold fX9_keep
  refine r_iload_n C dX9_keep_0 rfl (lv_at hl 1 rfl) ?_
  refine r_iconst (v := 0) C dX9_keep_1 (by decide) ?_
  refine r_iconst (v := 1) C dX9_keep_2 (by decide) ?_
  refine r_callSi (As := [.int x1, .int 0, .int 1]) (rest := []) C hl ml_X9_50 (gX9_in l C.inj x1 0 1 σ) ⟨Nat.le_of_ble_eq_true rfl, Nat.le_of_ble_eq_true rfl⟩ ⟨Nat.le_of_ble_eq_true rfl, Nat.le_of_ble_eq_true rfl⟩ rfl rfl (Nat.le_of_ble_eq_true rfl) dX9_keep_3 (fun r1 σ2 => ?_)
  refine r_if_ne (tgt := 11) C dX9_keep_6 (by decide) ?_ ?_
  · refine r_aload_n C dX9_keep_11 rfl (lv_at hl 0 rfl) ?_
    refine r_getR C fl_X9_19 lf_50_8 dX9_keep_12 ?_
    refine r_iload_n C dX9_keep_15 rfl (lv_at hl 1 rfl) ?_
    refine r_iconst (v := 1) C dX9_keep_16 (by decide) ?_
    refine r_zast C la_54 (by decide) dX9_keep_17 ?_
    refine r_letm (fun σ3 => ?_)
    refine r_iconst (v := 0) C dX9_keep_18 (by decide) ?_
    refine r_istore_n (lv' := [(2, .int 0), (0, .ref (ad 50)), (1, .int x1)]) C dX9_keep_19 rfl hl (by decide) rfl (fun ls hl => ?_)
    refine wX9_keep_20  C _ ?_ 300 x1 0 σ3 ls (lv_sub hl [1, 2, 0] rfl)
    · intro σ5 ls hl
      refine r_aload_n C dX9_keep_49 rfl (lv_at hl 0 rfl) ?_
      refine r_getI C fl_X9_86 lf_50_0 dX9_keep_50 ?_
      exact r_iret C rfl dX9_keep_53
  · refine r_iconst (v := (-1)) C dX9_keep_9 (by decide) ?_
    exact r_iret C rfl dX9_keep_10

set_option maxRecDepth 100000 in
def BX9_back_25 (k54 : Mem → Option (Int32 × Mem)) (rec : Int32 → Int32 → Mem → Option (Int32 × Mem)) (x1 : Int32) (x2 : Int32) (σ : Mem) : Option (Int32 × Mem) := if (49 : Int32) ≤ x2 then k54 σ else gd 98 (((49 : Int32) * x1) + x2) (gd 49 x2 (letm (stm σ 51 x2.toNatClampNeg (σ 55 (((49 : Int32) * x1) + x2).toNatClampNeg)) (fun σ3 => rec x1 (x2 + 1) σ3)))
def LX9_back_25 (k54 : Mem → Option (Int32 × Mem)) : Nat → Int32 → Int32 → Mem → Option (Int32 × Mem)
  | 0 => fun _ _ _ => none
  | n + 1 => BX9_back_25 k54 (LX9_back_25 k54 n)
set_option maxRecDepth 100000 in
set_option maxHeartbeats 4000000 in
theorem wX9_back_25 {p : Program} {l : Launch} {e : Env} {s : State} {m : MethodId} {args : Array Value} {below : List Frame} {meth : Method} {c : Code} {D : va_G} {cI cZ : ClassId} {ad : Nat → Nat} {tT : Nat} {A : Nat → Prop} (C : CX p s m args meth c cX9_back 3 RX9 (some .int) D cI cZ ad tT A) (k54 : Mem → Option (Int32 × Mem)) (hk54 : ∀ (σ : Mem) (ls : Array Slot), lv_has ls 3 [(0, .ref (ad 50))] → WM p l e 1 22 s m args below meth c D cI cZ ad A rvi (k54 σ) σ (F0 m 54 ls [])) :
    ∀ (n0 : Nat), ∀ (x1 : Int32) (x2 : Int32) (σ : Mem) (ls : Array Slot), lv_has ls 3 [(0, .ref (ad 50)), (1, .int x1), (2, .int x2)] → WM p l e 1 22 s m args below meth c D cI cZ ad A rvi (LX9_back_25 k54 n0 x1 x2 σ) σ (F0 m 25 ls []) := by
  intro n0
  induction n0 with
  | zero => intro x1 x2 σ ls hl; exact r_none
  | succ n0 ih =>
    intro x1 x2 σ ls hl
    show WM p l e 1 22 s m args below meth c D cI cZ ad A rvi (BX9_back_25 k54 (LX9_back_25 k54 n0) x1 x2 σ) σ (F0 m 25 ls [])
    unfold BX9_back_25
    refine r_iload_n C dX9_back_25 rfl (lv_at hl 2 rfl) ?_
    refine r_bipush (v := 49) C dX9_back_26 (by decide) ?_
    refine r_icmp_ge (tgt := 54) C dX9_back_28 (by decide) ?_ ?_
    · exact hk54 σ ls (lv_sub hl [0] rfl)
    · refine r_aload_n C dX9_back_31 rfl (lv_at hl 0 rfl) ?_
      refine r_getR C fl_X9_7 lf_50_2 dX9_back_32 ?_
      refine r_iload_n C dX9_back_35 rfl (lv_at hl 2 rfl) ?_
      refine r_aload_n C dX9_back_36 rfl (lv_at hl 0 rfl) ?_
      refine r_getR C fl_X9_23 lf_50_9 dX9_back_37 ?_
      refine r_bipush (v := 49) C dX9_back_40 (by decide) ?_
      refine r_iload_n C dX9_back_42 rfl (lv_at hl 1 rfl) ?_
      refine r_imul C dX9_back_43 ?_
      refine r_iload_n C dX9_back_44 rfl (lv_at hl 2 rfl) ?_
      refine r_iadd C dX9_back_45 ?_
      refine r_iald C la_55 dX9_back_46 ?_
      refine r_iast C la_51 dX9_back_47 ?_
      refine r_letm (fun σ3 => ?_)
      refine r_iinc (v := x2 + 1) (lv' := [(2, .int (x2 + 1)), (0, .ref (ad 50)), (1, .int x1)]) C dX9_back_48 hl (k := 2) rfl rfl (by decide) rfl (fun ls hl => ?_)
      refine r_goto (tgt := 25) C dX9_back_51 (by decide) ?_
      exact ih x1 (x2 + 1) σ3 ls (lv_sub hl [1, 2, 0] rfl)
set_option maxRecDepth 100000 in
def fX9_back (x1 : Int32) (σ : Mem) : Option (Int32 × Mem) := bnd (fX9_in x1 0 1 σ) (fun r1 σ2 => if (r1 : Int32) = 0 then some ((-1), σ2) else gd 2 x1 (if (σ2 54 x1.toNatClampNeg : Int32) = 0 then some ((-2), σ2) else LX9_back_25 (fun σ4 => letm (stm σ4 50 3 0) (fun σ5 => some (σ5 50 0, σ5))) 300 x1 0 σ2))
set_option maxRecDepth 100000 in
set_option maxHeartbeats 4000000 in
theorem gX9_back (l : Launch) {D : va_G} {cI cZ : ClassId} {ad : Nat → Nat} {tT : Nat} (hi : INJ ad) (x1 : Int32) (σ : Mem) : GM l D cI cZ ad tT yX9_back cX9_back 3 (some .int) 1 22 rvi [.ref (ad 50), .int x1] σ (fX9_back x1 σ) := by
  refine gm_of (lv := [(0, .ref (ad 50)), (1, .int x1)]) (own := RX9) hi (by decide +kernel) rfl (Nat.le_of_ble_eq_true rfl) rfl ?_
  intro p e s m args below meth c A C ls hl
  unfold fX9_back
  refine r_iload_n C dX9_back_0 rfl (lv_at hl 1 rfl) ?_
  refine r_iconst (v := 0) C dX9_back_1 (by decide) ?_
  refine r_iconst (v := 1) C dX9_back_2 (by decide) ?_
  refine r_callSi (As := [.int x1, .int 0, .int 1]) (rest := []) C hl ml_X9_50 (gX9_in l C.inj x1 0 1 σ) ⟨Nat.le_of_ble_eq_true rfl, Nat.le_of_ble_eq_true rfl⟩ ⟨Nat.le_of_ble_eq_true rfl, Nat.le_of_ble_eq_true rfl⟩ rfl rfl (Nat.le_of_ble_eq_true rfl) dX9_back_3 (fun r1 σ2 => ?_)
  refine r_if_ne (tgt := 11) C dX9_back_6 (by decide) ?_ ?_
  · refine r_aload_n C dX9_back_11 rfl (lv_at hl 0 rfl) ?_
    refine r_getR C fl_X9_19 lf_50_8 dX9_back_12 ?_
    refine r_iload_n C dX9_back_15 rfl (lv_at hl 1 rfl) ?_
    refine r_zald C la_54 dX9_back_16 ?_
    refine r_if_ne (tgt := 23) C dX9_back_17 (by decide) ?_ ?_
    · refine r_iconst (v := 0) C dX9_back_23 (by decide) ?_
      refine r_istore_n (lv' := [(2, .int 0), (0, .ref (ad 50)), (1, .int x1)]) C dX9_back_24 rfl hl (by decide) rfl (fun ls hl => ?_)
      refine wX9_back_25  C _ ?_ 300 x1 0 σ2 ls (lv_sub hl [1, 2, 0] rfl)
      · intro σ4 ls hl
        refine r_aload_n C dX9_back_54 rfl (lv_at hl 0 rfl) ?_
        refine r_iconst (v := 0) C dX9_back_55 (by decide) ?_
        refine r_putI C fl_X9_92 fp_X9_3 rfl rfl lf_50_3 dX9_back_56 ?_
        refine r_letm (fun σ5 => ?_)
        refine r_aload_n C dX9_back_59 rfl (lv_at hl 0 rfl) ?_
        refine r_getI C fl_X9_86 lf_50_0 dX9_back_60 ?_
        exact r_iret C rfl dX9_back_63
    · refine r_bipush (v := (-2)) C dX9_back_20 (by decide) ?_
      exact r_iret C rfl dX9_back_22
  · refine r_iconst (v := (-1)) C dX9_back_9 (by decide) ?_
    exact r_iret C rfl dX9_back_10

set_option maxRecDepth 100000 in
def BX9_ofAll_15 (k54 : Int32 → Int32 → Int32 → Mem → Option (Int32 × Mem)) (rec : Int32 → Int32 → Int32 → Int32 → Mem → Option (Int32 × Mem)) (x1 : Int32) (x2 : Int32) (x3 : Int32) (x4 : Int32) (σ : Mem) : Option (Int32 × Mem) := if (σ 50 0 : Int32) ≤ x4 then k54 x1 x2 x3 σ else if (x1 : Int32) = 5 then bnd (fX9_readingOf x4 x3 σ) (fun r1 σ2 => if (r1 : Int32) = 4 then letv (x2 + 1) (fun v4 => rec x1 v4 x3 (x4 + 1) σ2) else letv (x2 + 0) (fun v3 => rec x1 v3 x3 (x4 + 1) σ2)) else k54 x1 x2 x3 σ
def LX9_ofAll_15 (k54 : Int32 → Int32 → Int32 → Mem → Option (Int32 × Mem)) : Nat → Int32 → Int32 → Int32 → Int32 → Mem → Option (Int32 × Mem)
  | 0 => fun _ _ _ _ _ => none
  | n + 1 => BX9_ofAll_15 k54 (LX9_ofAll_15 k54 n)
set_option maxRecDepth 100000 in
set_option maxHeartbeats 4000000 in
theorem wX9_ofAll_15 {p : Program} {l : Launch} {e : Env} {s : State} {m : MethodId} {args : Array Value} {below : List Frame} {meth : Method} {c : Code} {D : va_G} {cI cZ : ClassId} {ad : Nat → Nat} {tT : Nat} {A : Nat → Prop} (C : CX p s m args meth c cX9_ofAll 5 RX9 (some .int) D cI cZ ad tT A) (k54 : Int32 → Int32 → Int32 → Mem → Option (Int32 × Mem)) (hk54 : ∀ (x1 : Int32) (x2 : Int32) (x3 : Int32) (σ : Mem) (ls : Array Slot), lv_has ls 5 [(0, .ref (ad 50)), (1, .int x1), (2, .int x2), (3, .int x3)] → WM p l e 3 76 s m args below meth c D cI cZ ad A rvi (k54 x1 x2 x3 σ) σ (F0 m 54 ls [])) :
    ∀ (n0 : Nat), ∀ (x1 : Int32) (x2 : Int32) (x3 : Int32) (x4 : Int32) (σ : Mem) (ls : Array Slot), lv_has ls 5 [(0, .ref (ad 50)), (1, .int x1), (2, .int x2), (3, .int x3), (4, .int x4)] → WM p l e 3 76 s m args below meth c D cI cZ ad A rvi (LX9_ofAll_15 k54 n0 x1 x2 x3 x4 σ) σ (F0 m 15 ls []) := by
  intro n0
  induction n0 with
  | zero => intro x1 x2 x3 x4 σ ls hl; exact r_none
  | succ n0 ih =>
    intro x1 x2 x3 x4 σ ls hl
    show WM p l e 3 76 s m args below meth c D cI cZ ad A rvi (BX9_ofAll_15 k54 (LX9_ofAll_15 k54 n0) x1 x2 x3 x4 σ) σ (F0 m 15 ls [])
    unfold BX9_ofAll_15
    refine r_iload C dX9_ofAll_15 (lv_at hl 4 rfl) ?_
    refine r_aload_n C dX9_ofAll_17 rfl (lv_at hl 0 rfl) ?_
    refine r_getI C fl_X9_86 lf_50_0 dX9_ofAll_18 ?_
    refine r_icmp_ge (tgt := 54) C dX9_ofAll_21 (by decide) ?_ ?_
    · exact hk54 x1 x2 x3 σ ls (lv_sub hl [0, 1, 2, 3] rfl)
    · refine r_iload_n C dX9_ofAll_24 rfl (lv_at hl 1 rfl) ?_
      refine r_iconst (v := 5) C dX9_ofAll_25 (by decide) ?_
      refine r_icmp_ne (tgt := 54) C dX9_ofAll_26 (by decide) ?_ ?_
      · exact hk54 x1 x2 x3 σ ls (lv_sub hl [0, 1, 2, 3] rfl)
      · refine r_iload_n C dX9_ofAll_29 rfl (lv_at hl 2 rfl) ?_
        refine r_aload_n C dX9_ofAll_30 rfl (lv_at hl 0 rfl) ?_
        refine r_iload C dX9_ofAll_31 (lv_at hl 4 rfl) ?_
        refine r_iload_n C dX9_ofAll_33 rfl (lv_at hl 3 rfl) ?_
        refine r_callVi (As := [.int x4, .int x3]) (rest := [.int x2]) C hl ml_X9_105 rc_50 (gX9_readingOf l C.inj x4 x3 σ) ⟨Nat.le_of_ble_eq_true rfl, Nat.le_of_ble_eq_true rfl⟩ ⟨Nat.le_of_ble_eq_true rfl, Nat.le_of_ble_eq_true rfl⟩ rfl rfl (Nat.le_of_ble_eq_true rfl) dX9_ofAll_34 (fun r1 σ2 => ?_)
        refine r_iconst (v := 4) C dX9_ofAll_37 (by decide) ?_
        refine r_icmp_ne (tgt := 45) C dX9_ofAll_38 (by decide) ?_ ?_
        · refine r_iconst (v := 0) C dX9_ofAll_45 (by decide) ?_
          refine r_iadd C dX9_ofAll_46 ?_
          refine r_letv (fun v3 => ?_)
          refine r_istore_n (lv' := [(2, .int v3), (0, .ref (ad 50)), (1, .int x1), (3, .int x3), (4, .int x4)]) C dX9_ofAll_47 rfl hl (by decide) rfl (fun ls hl => ?_)
          refine r_iinc (v := x4 + 1) (lv' := [(4, .int (x4 + 1)), (2, .int v3), (0, .ref (ad 50)), (1, .int x1), (3, .int x3)]) C dX9_ofAll_48 hl (k := 4) rfl rfl (by decide) rfl (fun ls hl => ?_)
          refine r_goto (tgt := 15) C dX9_ofAll_51 (by decide) ?_
          exact ih x1 v3 x3 (x4 + 1) σ2 ls (lv_sub hl [2, 3, 1, 4, 0] rfl)
        · refine r_iconst (v := 1) C dX9_ofAll_41 (by decide) ?_
          refine r_goto (tgt := 46) C dX9_ofAll_42 (by decide) ?_
          refine r_iadd C dX9_ofAll_46 ?_
          refine r_letv (fun v4 => ?_)
          refine r_istore_n (lv' := [(2, .int v4), (0, .ref (ad 50)), (1, .int x1), (3, .int x3), (4, .int x4)]) C dX9_ofAll_47 rfl hl (by decide) rfl (fun ls hl => ?_)
          refine r_iinc (v := x4 + 1) (lv' := [(4, .int (x4 + 1)), (2, .int v4), (0, .ref (ad 50)), (1, .int x1), (3, .int x3)]) C dX9_ofAll_48 hl (k := 4) rfl rfl (by decide) rfl (fun ls hl => ?_)
          refine r_goto (tgt := 15) C dX9_ofAll_51 (by decide) ?_
          exact ih x1 v4 x3 (x4 + 1) σ2 ls (lv_sub hl [2, 3, 1, 4, 0] rfl)
set_option maxRecDepth 100000 in
def BX9_ofAll_57 (k93 : Int32 → Int32 → Int32 → Mem → Option (Int32 × Mem)) (rec : Int32 → Int32 → Int32 → Int32 → Mem → Option (Int32 × Mem)) (x1 : Int32) (x2 : Int32) (x3 : Int32) (x4 : Int32) (σ : Mem) : Option (Int32 × Mem) := if (x3 : Int32) ≤ x4 then k93 x1 x2 x3 σ else if (x1 : Int32) = 6 then bnd (fX9_quarrels x3 x4 σ) (fun r6 σ7 => if (r6 : Int32) = 0 then letv (x2 + 0) (fun v8 => rec x1 v8 x3 (x4 + 1) σ7) else letv (x2 + 1) (fun v9 => rec x1 v9 x3 (x4 + 1) σ7)) else k93 x1 x2 x3 σ
def LX9_ofAll_57 (k93 : Int32 → Int32 → Int32 → Mem → Option (Int32 × Mem)) : Nat → Int32 → Int32 → Int32 → Int32 → Mem → Option (Int32 × Mem)
  | 0 => fun _ _ _ _ _ => none
  | n + 1 => BX9_ofAll_57 k93 (LX9_ofAll_57 k93 n)
set_option maxRecDepth 100000 in
set_option maxHeartbeats 4000000 in
theorem wX9_ofAll_57 {p : Program} {l : Launch} {e : Env} {s : State} {m : MethodId} {args : Array Value} {below : List Frame} {meth : Method} {c : Code} {D : va_G} {cI cZ : ClassId} {ad : Nat → Nat} {tT : Nat} {A : Nat → Prop} (C : CX p s m args meth c cX9_ofAll 5 RX9 (some .int) D cI cZ ad tT A) (k93 : Int32 → Int32 → Int32 → Mem → Option (Int32 × Mem)) (hk93 : ∀ (x1 : Int32) (x2 : Int32) (x3 : Int32) (σ : Mem) (ls : Array Slot), lv_has ls 5 [(0, .ref (ad 50)), (1, .int x1), (2, .int x2), (3, .int x3)] → WM p l e 3 76 s m args below meth c D cI cZ ad A rvi (k93 x1 x2 x3 σ) σ (F0 m 93 ls [])) :
    ∀ (n0 : Nat), ∀ (x1 : Int32) (x2 : Int32) (x3 : Int32) (x4 : Int32) (σ : Mem) (ls : Array Slot), lv_has ls 5 [(0, .ref (ad 50)), (1, .int x1), (2, .int x2), (3, .int x3), (4, .int x4)] → WM p l e 3 76 s m args below meth c D cI cZ ad A rvi (LX9_ofAll_57 k93 n0 x1 x2 x3 x4 σ) σ (F0 m 57 ls []) := by
  intro n0
  induction n0 with
  | zero => intro x1 x2 x3 x4 σ ls hl; exact r_none
  | succ n0 ih =>
    intro x1 x2 x3 x4 σ ls hl
    show WM p l e 3 76 s m args below meth c D cI cZ ad A rvi (BX9_ofAll_57 k93 (LX9_ofAll_57 k93 n0) x1 x2 x3 x4 σ) σ (F0 m 57 ls [])
    unfold BX9_ofAll_57
    refine r_iload C dX9_ofAll_57 (lv_at hl 4 rfl) ?_
    refine r_iload_n C dX9_ofAll_59 rfl (lv_at hl 3 rfl) ?_
    refine r_icmp_ge (tgt := 93) C dX9_ofAll_60 (by decide) ?_ ?_
    · exact hk93 x1 x2 x3 σ ls (lv_sub hl [0, 1, 2, 3] rfl)
    · refine r_iload_n C dX9_ofAll_63 rfl (lv_at hl 1 rfl) ?_
      refine r_bipush (v := 6) C dX9_ofAll_64 (by decide) ?_
      refine r_icmp_ne (tgt := 93) C dX9_ofAll_66 (by decide) ?_ ?_
      · exact hk93 x1 x2 x3 σ ls (lv_sub hl [0, 1, 2, 3] rfl)
      · refine r_iload_n C dX9_ofAll_69 rfl (lv_at hl 2 rfl) ?_
        refine r_aload_n C dX9_ofAll_70 rfl (lv_at hl 0 rfl) ?_
        refine r_iload_n C dX9_ofAll_71 rfl (lv_at hl 3 rfl) ?_
        refine r_iload C dX9_ofAll_72 (lv_at hl 4 rfl) ?_
        refine r_callVi (As := [.int x3, .int x4]) (rest := [.int x2]) C hl ml_X9_192 rc_50 (gX9_quarrels l C.inj x3 x4 σ) ⟨Nat.le_of_ble_eq_true rfl, Nat.le_of_ble_eq_true rfl⟩ ⟨Nat.le_of_ble_eq_true rfl, Nat.le_of_ble_eq_true rfl⟩ rfl rfl (Nat.le_of_ble_eq_true rfl) dX9_ofAll_74 (fun r6 σ7 => ?_)
        refine r_if_eq (tgt := 84) C dX9_ofAll_77 (by decide) ?_ ?_
        · refine r_iconst (v := 0) C dX9_ofAll_84 (by decide) ?_
          refine r_iadd C dX9_ofAll_85 ?_
          refine r_letv (fun v8 => ?_)
          refine r_istore_n (lv' := [(2, .int v8), (0, .ref (ad 50)), (1, .int x1), (3, .int x3), (4, .int x4)]) C dX9_ofAll_86 rfl hl (by decide) rfl (fun ls hl => ?_)
          refine r_iinc (v := x4 + 1) (lv' := [(4, .int (x4 + 1)), (2, .int v8), (0, .ref (ad 50)), (1, .int x1), (3, .int x3)]) C dX9_ofAll_87 hl (k := 4) rfl rfl (by decide) rfl (fun ls hl => ?_)
          refine r_goto (tgt := 57) C dX9_ofAll_90 (by decide) ?_
          exact ih x1 v8 x3 (x4 + 1) σ7 ls (lv_sub hl [2, 3, 1, 4, 0] rfl)
        · refine r_iconst (v := 1) C dX9_ofAll_80 (by decide) ?_
          refine r_goto (tgt := 85) C dX9_ofAll_81 (by decide) ?_
          refine r_iadd C dX9_ofAll_85 ?_
          refine r_letv (fun v9 => ?_)
          refine r_istore_n (lv' := [(2, .int v9), (0, .ref (ad 50)), (1, .int x1), (3, .int x3), (4, .int x4)]) C dX9_ofAll_86 rfl hl (by decide) rfl (fun ls hl => ?_)
          refine r_iinc (v := x4 + 1) (lv' := [(4, .int (x4 + 1)), (2, .int v9), (0, .ref (ad 50)), (1, .int x1), (3, .int x3)]) C dX9_ofAll_87 hl (k := 4) rfl rfl (by decide) rfl (fun ls hl => ?_)
          refine r_goto (tgt := 57) C dX9_ofAll_90 (by decide) ?_
          exact ih x1 v9 x3 (x4 + 1) σ7 ls (lv_sub hl [2, 3, 1, 4, 0] rfl)
set_option maxRecDepth 100000 in
def BX9_ofAll_4 (k99 : Int32 → Mem → Option (Int32 × Mem)) (rec : Int32 → Int32 → Int32 → Mem → Option (Int32 × Mem)) (x1 : Int32) (x2 : Int32) (x3 : Int32) (σ : Mem) : Option (Int32 × Mem) := if (σ 50 1 : Int32) ≤ x3 then k99 x2 σ else LX9_ofAll_15 (fun x1 x2 x3 σ5 => LX9_ofAll_57 (fun x1 x2 x3 σ10 => rec x1 x2 (x3 + 1) σ10) 300 x1 x2 x3 0 σ5) 300 x1 x2 x3 0 σ
def LX9_ofAll_4 (k99 : Int32 → Mem → Option (Int32 × Mem)) : Nat → Int32 → Int32 → Int32 → Mem → Option (Int32 × Mem)
  | 0 => fun _ _ _ _ => none
  | n + 1 => BX9_ofAll_4 k99 (LX9_ofAll_4 k99 n)
set_option maxRecDepth 100000 in
set_option maxHeartbeats 4000000 in
theorem wX9_ofAll_4 {p : Program} {l : Launch} {e : Env} {s : State} {m : MethodId} {args : Array Value} {below : List Frame} {meth : Method} {c : Code} {D : va_G} {cI cZ : ClassId} {ad : Nat → Nat} {tT : Nat} {A : Nat → Prop} (C : CX p s m args meth c cX9_ofAll 5 RX9 (some .int) D cI cZ ad tT A) (k99 : Int32 → Mem → Option (Int32 × Mem)) (hk99 : ∀ (x2 : Int32) (σ : Mem) (ls : Array Slot), lv_has ls 5 [(2, .int x2)] → WM p l e 3 76 s m args below meth c D cI cZ ad A rvi (k99 x2 σ) σ (F0 m 99 ls [])) :
    ∀ (n0 : Nat), ∀ (x1 : Int32) (x2 : Int32) (x3 : Int32) (σ : Mem) (ls : Array Slot), lv_has ls 5 [(0, .ref (ad 50)), (1, .int x1), (2, .int x2), (3, .int x3)] → WM p l e 3 76 s m args below meth c D cI cZ ad A rvi (LX9_ofAll_4 k99 n0 x1 x2 x3 σ) σ (F0 m 4 ls []) := by
  intro n0
  induction n0 with
  | zero => intro x1 x2 x3 σ ls hl; exact r_none
  | succ n0 ih =>
    intro x1 x2 x3 σ ls hl
    show WM p l e 3 76 s m args below meth c D cI cZ ad A rvi (BX9_ofAll_4 k99 (LX9_ofAll_4 k99 n0) x1 x2 x3 σ) σ (F0 m 4 ls [])
    unfold BX9_ofAll_4
    refine r_iload_n C dX9_ofAll_4 rfl (lv_at hl 3 rfl) ?_
    refine r_aload_n C dX9_ofAll_5 rfl (lv_at hl 0 rfl) ?_
    refine r_getI C fl_X9_89 lf_50_1 dX9_ofAll_6 ?_
    refine r_icmp_ge (tgt := 99) C dX9_ofAll_9 (by decide) ?_ ?_
    · exact hk99 x2 σ ls (lv_sub hl [2] rfl)
    · refine r_iconst (v := 0) C dX9_ofAll_12 (by decide) ?_
      refine r_istore (lv' := [(4, .int 0), (0, .ref (ad 50)), (1, .int x1), (2, .int x2), (3, .int x3)]) C dX9_ofAll_13 hl (by decide) rfl (fun ls hl => ?_)
      refine wX9_ofAll_15  C _ ?_ 300 x1 x2 x3 0 σ ls (lv_sub hl [1, 2, 3, 4, 0] rfl)
      · intro x1 x2 x3 σ5 ls hl
        refine r_iconst (v := 0) C dX9_ofAll_54 (by decide) ?_
        refine r_istore (lv' := [(4, .int 0), (0, .ref (ad 50)), (1, .int x1), (2, .int x2), (3, .int x3)]) C dX9_ofAll_55 hl (by decide) rfl (fun ls hl => ?_)
        refine wX9_ofAll_57  C _ ?_ 300 x1 x2 x3 0 σ5 ls (lv_sub hl [1, 2, 3, 4, 0] rfl)
        · intro x1 x2 x3 σ10 ls hl
          refine r_iinc (v := x3 + 1) (lv' := [(3, .int (x3 + 1)), (0, .ref (ad 50)), (1, .int x1), (2, .int x2)]) C dX9_ofAll_93 hl (k := 3) rfl rfl (by decide) rfl (fun ls hl => ?_)
          refine r_goto (tgt := 4) C dX9_ofAll_96 (by decide) ?_
          exact ih x1 x2 (x3 + 1) σ10 ls (lv_sub hl [1, 2, 3, 0] rfl)
set_option maxRecDepth 100000 in
def fX9_ofAll (x1 : Int32) (σ : Mem) : Option (Int32 × Mem) := LX9_ofAll_4 (fun x2 σ11 => some (x2, σ11)) 300 x1 0 0 σ
set_option maxRecDepth 100000 in
set_option maxHeartbeats 4000000 in
theorem gX9_ofAll (l : Launch) {D : va_G} {cI cZ : ClassId} {ad : Nat → Nat} {tT : Nat} (hi : INJ ad) (x1 : Int32) (σ : Mem) : GM l D cI cZ ad tT yX9_ofAll cX9_ofAll 5 (some .int) 3 76 rvi [.ref (ad 50), .int x1] σ (fX9_ofAll x1 σ) := by
  refine gm_of (lv := [(0, .ref (ad 50)), (1, .int x1)]) (own := RX9) hi (by decide +kernel) rfl (Nat.le_of_ble_eq_true rfl) rfl ?_
  intro p e s m args below meth c A C ls hl
  unfold fX9_ofAll
  refine r_iconst (v := 0) C dX9_ofAll_0 (by decide) ?_
  refine r_istore_n (lv' := [(2, .int 0), (0, .ref (ad 50)), (1, .int x1)]) C dX9_ofAll_1 rfl hl (by decide) rfl (fun ls hl => ?_)
  refine r_iconst (v := 0) C dX9_ofAll_2 (by decide) ?_
  refine r_istore_n (lv' := [(3, .int 0), (2, .int 0), (0, .ref (ad 50)), (1, .int x1)]) C dX9_ofAll_3 rfl hl (by decide) rfl (fun ls hl => ?_)
  refine wX9_ofAll_4  C _ ?_ 300 x1 0 0 σ ls (lv_sub hl [2, 3, 1, 0] rfl)
  · intro x2 σ11 ls hl
    refine r_iload_n C dX9_ofAll_99 rfl (lv_at hl 0 rfl) ?_
    exact r_iret C rfl dX9_ofAll_100

set_option maxRecDepth 100000 in
def fX9_count (x1 : Int32) (σ : Mem) : Option (Int32 × Mem) := if (x1 : Int32) = 0 then some (σ 50 0, σ) else if (x1 : Int32) = 1 then some (σ 50 1, σ) else if (x1 : Int32) = 2 then bnd (fX9_trees σ) (fun r1 σ2 => some (r1, σ2)) else if (x1 : Int32) = 3 then gd 49 48 (some (σ 51 (48 : Int32).toNatClampNeg, σ)) else if (x1 : Int32) = 4 then bnd (fX9_edges σ) (fun r3 σ4 => some (r3, σ4)) else if (x1 : Int32) = 5 then bnd (fX9_ofAll x1 σ) (fun r5 σ6 => some (r5, σ6)) else if (x1 : Int32) = 6 then bnd (fX9_ofAll x1 σ) (fun r7 σ8 => some (r7, σ8)) else if (x1 : Int32) = 7 then some (σ 50 6, σ) else if (x1 : Int32) = 8 then some (σ 50 10, σ) else if (x1 : Int32) = 9 then some (σ 50 3, σ) else some ((-1), σ)
set_option maxRecDepth 100000 in
set_option maxHeartbeats 4000000 in
theorem gX9_count (l : Launch) {D : va_G} {cI cZ : ClassId} {ad : Nat → Nat} {tT : Nat} (hi : INJ ad) (x1 : Int32) (σ : Mem) : GM l D cI cZ ad tT yX9_count cX9_count 2 (some .int) 4 100 rvi [.ref (ad 50), .int x1] σ (fX9_count x1 σ) := by
  refine gm_of (lv := [(0, .ref (ad 50)), (1, .int x1)]) (own := RX9) hi (by decide +kernel) rfl (Nat.le_of_ble_eq_true rfl) rfl ?_
  intro p e s m args below meth c A C ls hl
  unfold fX9_count
  refine r_iload_n C dX9_count_0 rfl (lv_at hl 1 rfl) ?_
  refine r_split (fun c0 => ?_) (fun c0 => ?_)
  · refine r_tableIn (off := 55) (tgt := 56) C dX9_count_1 (by rw [c0]; decide) (by rw [c0]; decide) (by rw [c0]; rfl) (by decide) ?_
    refine r_aload_n C dX9_count_56 rfl (lv_at hl 0 rfl) ?_
    refine r_getI C fl_X9_86 lf_50_0 dX9_count_57 ?_
    exact r_iret C rfl dX9_count_60
  · refine r_split (fun c1 => ?_) (fun c1 => ?_)
    · refine r_tableIn (off := 60) (tgt := 61) C dX9_count_1 (by rw [c1]; decide) (by rw [c1]; decide) (by rw [c1]; rfl) (by decide) ?_
      refine r_aload_n C dX9_count_61 rfl (lv_at hl 0 rfl) ?_
      refine r_getI C fl_X9_89 lf_50_1 dX9_count_62 ?_
      exact r_iret C rfl dX9_count_65
    · refine r_split (fun c2 => ?_) (fun c2 => ?_)
      · refine r_tableIn (off := 65) (tgt := 66) C dX9_count_1 (by rw [c2]; decide) (by rw [c2]; decide) (by rw [c2]; rfl) (by decide) ?_
        refine r_aload_n C dX9_count_66 rfl (lv_at hl 0 rfl) ?_
        refine r_callVi (As := []) (rest := []) C hl ml_X9_150 rc_50 (gX9_trees l C.inj σ) ⟨Nat.le_of_ble_eq_true rfl, Nat.le_of_ble_eq_true rfl⟩ ⟨Nat.le_of_ble_eq_true rfl, Nat.le_of_ble_eq_true rfl⟩ rfl rfl (Nat.le_of_ble_eq_true rfl) dX9_count_67 (fun r1 σ2 => ?_)
        exact r_iret C rfl dX9_count_70
      · refine r_split (fun c3 => ?_) (fun c3 => ?_)
        · refine r_tableIn (off := 70) (tgt := 71) C dX9_count_1 (by rw [c3]; decide) (by rw [c3]; decide) (by rw [c3]; rfl) (by decide) ?_
          refine r_aload_n C dX9_count_71 rfl (lv_at hl 0 rfl) ?_
          refine r_getR C fl_X9_7 lf_50_2 dX9_count_72 ?_
          refine r_bipush (v := 48) C dX9_count_75 (by decide) ?_
          refine r_iald C la_51 dX9_count_77 ?_
          exact r_iret C rfl dX9_count_78
        · refine r_split (fun c4 => ?_) (fun c4 => ?_)
          · refine r_tableIn (off := 78) (tgt := 79) C dX9_count_1 (by rw [c4]; decide) (by rw [c4]; decide) (by rw [c4]; rfl) (by decide) ?_
            refine r_aload_n C dX9_count_79 rfl (lv_at hl 0 rfl) ?_
            refine r_callVi (As := []) (rest := []) C hl ml_X9_160 rc_50 (gX9_edges l C.inj σ) ⟨Nat.le_of_ble_eq_true rfl, Nat.le_of_ble_eq_true rfl⟩ ⟨Nat.le_of_ble_eq_true rfl, Nat.le_of_ble_eq_true rfl⟩ rfl rfl (Nat.le_of_ble_eq_true rfl) dX9_count_80 (fun r3 σ4 => ?_)
            exact r_iret C rfl dX9_count_83
          · refine r_split (fun c5 => ?_) (fun c5 => ?_)
            · refine r_tableIn (off := 83) (tgt := 84) C dX9_count_1 (by rw [c5]; decide) (by rw [c5]; decide) (by rw [c5]; rfl) (by decide) ?_
              refine r_aload_n C dX9_count_84 rfl (lv_at hl 0 rfl) ?_
              refine r_iload_n C dX9_count_85 rfl (lv_at hl 1 rfl) ?_
              refine r_callVi (As := [.int x1]) (rest := []) C hl ml_X9_202 rc_50 (gX9_ofAll l C.inj x1 σ) ⟨Nat.le_of_ble_eq_true rfl, Nat.le_of_ble_eq_true rfl⟩ ⟨Nat.le_of_ble_eq_true rfl, Nat.le_of_ble_eq_true rfl⟩ rfl rfl (Nat.le_of_ble_eq_true rfl) dX9_count_86 (fun r5 σ6 => ?_)
              exact r_iret C rfl dX9_count_89
            · refine r_split (fun c6 => ?_) (fun c6 => ?_)
              · refine r_tableIn (off := 83) (tgt := 84) C dX9_count_1 (by rw [c6]; decide) (by rw [c6]; decide) (by rw [c6]; rfl) (by decide) ?_
                refine r_aload_n C dX9_count_84 rfl (lv_at hl 0 rfl) ?_
                refine r_iload_n C dX9_count_85 rfl (lv_at hl 1 rfl) ?_
                refine r_callVi (As := [.int x1]) (rest := []) C hl ml_X9_202 rc_50 (gX9_ofAll l C.inj x1 σ) ⟨Nat.le_of_ble_eq_true rfl, Nat.le_of_ble_eq_true rfl⟩ ⟨Nat.le_of_ble_eq_true rfl, Nat.le_of_ble_eq_true rfl⟩ rfl rfl (Nat.le_of_ble_eq_true rfl) dX9_count_86 (fun r7 σ8 => ?_)
                exact r_iret C rfl dX9_count_89
              · refine r_split (fun c7 => ?_) (fun c7 => ?_)
                · refine r_tableIn (off := 89) (tgt := 90) C dX9_count_1 (by rw [c7]; decide) (by rw [c7]; decide) (by rw [c7]; rfl) (by decide) ?_
                  refine r_aload_n C dX9_count_90 rfl (lv_at hl 0 rfl) ?_
                  refine r_getI C fl_X9_95 lf_50_6 dX9_count_91 ?_
                  exact r_iret C rfl dX9_count_94
                · refine r_split (fun c8 => ?_) (fun c8 => ?_)
                  · refine r_tableIn (off := 94) (tgt := 95) C dX9_count_1 (by rw [c8]; decide) (by rw [c8]; decide) (by rw [c8]; rfl) (by decide) ?_
                    refine r_aload_n C dX9_count_95 rfl (lv_at hl 0 rfl) ?_
                    refine r_getI C fl_X9_54 lf_50_10 dX9_count_96 ?_
                    exact r_iret C rfl dX9_count_99
                  · refine r_split (fun c9 => ?_) (fun c9 => ?_)
                    · refine r_tableIn (off := 99) (tgt := 100) C dX9_count_1 (by rw [c9]; decide) (by rw [c9]; decide) (by rw [c9]; rfl) (by decide) ?_
                      refine r_aload_n C dX9_count_100 rfl (lv_at hl 0 rfl) ?_
                      refine r_getI C fl_X9_92 lf_50_3 dX9_count_101 ?_
                      exact r_iret C rfl dX9_count_104
                    · have q0 : (x1 : Int32).toInt ≠ 0 := ne_toInt 0 c0 rfl
                      have q1 : (x1 : Int32).toInt ≠ 1 := ne_toInt 1 c1 rfl
                      have q2 : (x1 : Int32).toInt ≠ 2 := ne_toInt 2 c2 rfl
                      have q3 : (x1 : Int32).toInt ≠ 3 := ne_toInt 3 c3 rfl
                      have q4 : (x1 : Int32).toInt ≠ 4 := ne_toInt 4 c4 rfl
                      have q5 : (x1 : Int32).toInt ≠ 5 := ne_toInt 5 c5 rfl
                      have q6 : (x1 : Int32).toInt ≠ 6 := ne_toInt 6 c6 rfl
                      have q7 : (x1 : Int32).toInt ≠ 7 := ne_toInt 7 c7 rfl
                      have q8 : (x1 : Int32).toInt ≠ 8 := ne_toInt 8 c8 rfl
                      have q9 : (x1 : Int32).toInt ≠ 9 := ne_toInt 9 c9 rfl
                      refine r_tableOut (tgt := 105) C dX9_count_1 (by omega) (by decide) ?_
                      refine r_iconst (v := (-1)) C dX9_count_105 (by decide) ?_
                      exact r_iret C rfl dX9_count_106
