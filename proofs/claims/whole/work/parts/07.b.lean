set_option maxRecDepth 100000 in
def fX0_append (x1 : Int32) (x2 : Int32) (σ : Mem) : Option (Int32 × Mem) := bnd (fX5_put 31 11 (σ 30 5) x1 σ) (fun r1 σ2 => bnd (fX5_put 33 11 (σ2 30 5) x2 σ2) (fun r3 σ4 => letm (stm σ4 30 5 ((σ4 30 5) + 1)) (fun σ5 => some (0, σ5))))
set_option maxRecDepth 100000 in
set_option maxHeartbeats 4000000 in
theorem gX0_append (l : Launch) {D : va_G} {cI cZ : ClassId} {ad : Nat → Nat} {tT : Nat} (hi : INJ ad) (x1 : Int32) (x2 : Int32) (σ : Mem) : GM l D cI cZ ad tT yX0_append cX0_append 3 (none) 1 22 rvv [.ref (ad 30), .int x1, .int x2] σ (fX0_append x1 x2 σ) := by
  refine gm_of (lv := [(0, .ref (ad 30)), (1, .int x1), (2, .int x2)]) (own := RX0) hi (by decide +kernel) rfl (Nat.le_of_ble_eq_true rfl) rfl ?_
  intro p e s m args below meth c A C ls hl
  unfold fX0_append
  refine r_aload_n C dX0_append_0 rfl (lv_at hl 0 rfl) ?_
  refine r_getR C fl_X0_14 lf_30_0 dX0_append_1 ?_
  refine r_aload_n C dX0_append_4 rfl (lv_at hl 0 rfl) ?_
  refine r_getI C fl_X0_32 lf_30_5 dX0_append_5 ?_
  refine r_iload_n C dX0_append_8 rfl (lv_at hl 1 rfl) ?_
  refine r_callVv (As := [.int (σ 30 5), .int x1]) (rest := []) C hl ml_X0_45 rc_31 (gX5_put l C.inj 31 11 row_31 (σ 30 5) x1 σ) ⟨Nat.le_of_ble_eq_true rfl, Nat.le_of_ble_eq_true rfl⟩ ⟨Nat.le_of_ble_eq_true rfl, Nat.le_of_ble_eq_true rfl⟩ rfl rfl (Nat.le_of_ble_eq_true rfl) dX0_append_9 (fun r1 σ2 => ?_)
  refine r_aload_n C dX0_append_12 rfl (lv_at hl 0 rfl) ?_
  refine r_getR C fl_X0_20 lf_30_1 dX0_append_13 ?_
  refine r_aload_n C dX0_append_16 rfl (lv_at hl 0 rfl) ?_
  refine r_getI C fl_X0_32 lf_30_5 dX0_append_17 ?_
  refine r_iload_n C dX0_append_20 rfl (lv_at hl 2 rfl) ?_
  refine r_callVv (As := [.int (σ2 30 5), .int x2]) (rest := []) C hl ml_X0_45 rc_33 (gX5_put l C.inj 33 11 row_33 (σ2 30 5) x2 σ2) ⟨Nat.le_of_ble_eq_true rfl, Nat.le_of_ble_eq_true rfl⟩ ⟨Nat.le_of_ble_eq_true rfl, Nat.le_of_ble_eq_true rfl⟩ rfl rfl (Nat.le_of_ble_eq_true rfl) dX0_append_21 (fun r3 σ4 => ?_)
  refine r_aload_n C dX0_append_24 rfl (lv_at hl 0 rfl) ?_
  refine r_dup C dX0_append_25 rfl ?_
  refine r_getI C fl_X0_32 lf_30_5 dX0_append_26 ?_
  refine r_iconst (v := 1) C dX0_append_29 (by decide) ?_
  refine r_iadd C dX0_append_30 ?_
  refine r_putI C fl_X0_32 fp_X0_5 rfl rfl lf_30_5 dX0_append_31 ?_
  refine r_letm (fun σ5 => ?_)
  exact r_vret C rfl dX0_append_34

set_option maxRecDepth 100000 in
def BX0_appendBelow_3 (k86 : Mem → Option (Int32 × Mem)) (rec : Int32 → Int32 → Int32 → Mem → Option (Int32 × Mem)) (x2 : Int32) (x3 : Int32) (x4 : Int32) (σ : Mem) : Option (Int32 × Mem) := if (σ 25 2 : Int32) ≤ x4 then k86 σ else if (x4 : Int32) = x3 then rec x2 x3 (x4 + 1) σ else bnd (fX5_at 26 9 x4 σ) (fun r1 σ2 => if (r1 : Int32) = x2 then bnd (fX5_at 28 9 x4 σ2) (fun r9 σ10 => bnd (fX0_append r9 x4 σ10) (fun r11 σ12 => rec x2 x3 (x4 + 1) σ12)) else bnd (fX5_at 28 9 x4 σ2) (fun r3 σ4 => if (r3 : Int32) = x2 then bnd (fX5_at 26 9 x4 σ4) (fun r5 σ6 => bnd (fX0_append r5 x4 σ6) (fun r7 σ8 => rec x2 x3 (x4 + 1) σ8)) else rec x2 x3 (x4 + 1) σ4))
def LX0_appendBelow_3 (k86 : Mem → Option (Int32 × Mem)) : Nat → Int32 → Int32 → Int32 → Mem → Option (Int32 × Mem)
  | 0 => fun _ _ _ _ => none
  | n + 1 => BX0_appendBelow_3 k86 (LX0_appendBelow_3 k86 n)
set_option maxRecDepth 100000 in
set_option maxHeartbeats 4000000 in
theorem wX0_appendBelow_3 {p : Program} {l : Launch} {e : Env} {s : State} {m : MethodId} {args : Array Value} {below : List Frame} {meth : Method} {c : Code} {D : va_G} {cI cZ : ClassId} {ad : Nat → Nat} {tT : Nat} {A : Nat → Prop} (C : CX p s m args meth c cX0_appendBelow 5 RX0 (none) D cI cZ ad tT A) (k86 : Mem → Option (Int32 × Mem)) (hk86 : ∀ (σ : Mem) (ls : Array Slot), lv_has ls 5 [] → WM p l e 2 44 s m args below meth c D cI cZ ad A rvv (k86 σ) σ (F0 m 86 ls [])) :
    ∀ (n0 : Nat), ∀ (x2 : Int32) (x3 : Int32) (x4 : Int32) (σ : Mem) (ls : Array Slot), lv_has ls 5 [(0, .ref (ad 30)), (1, .ref (ad 25)), (2, .int x2), (3, .int x3), (4, .int x4)] → WM p l e 2 44 s m args below meth c D cI cZ ad A rvv (LX0_appendBelow_3 k86 n0 x2 x3 x4 σ) σ (F0 m 3 ls []) := by
  intro n0
  induction n0 with
  | zero => intro x2 x3 x4 σ ls hl; exact r_none
  | succ n0 ih =>
    intro x2 x3 x4 σ ls hl
    show WM p l e 2 44 s m args below meth c D cI cZ ad A rvv (BX0_appendBelow_3 k86 (LX0_appendBelow_3 k86 n0) x2 x3 x4 σ) σ (F0 m 3 ls [])
    unfold BX0_appendBelow_3
    refine r_iload C dX0_appendBelow_3 (lv_at hl 4 rfl) ?_
    refine r_aload_n C dX0_appendBelow_5 rfl (lv_at hl 1 rfl) ?_
    refine r_getIN C fn_X0_36 lf_25_2 dX0_appendBelow_6 ?_
    refine r_icmp_ge (tgt := 86) C dX0_appendBelow_9 (by decide) ?_ ?_
    · exact hk86 σ ls (lv_sub hl [] rfl)
    · refine r_iload C dX0_appendBelow_12 (lv_at hl 4 rfl) ?_
      refine r_iload_n C dX0_appendBelow_14 rfl (lv_at hl 3 rfl) ?_
      refine r_icmp_ne (tgt := 21) C dX0_appendBelow_15 (by decide) ?_ ?_
      · refine r_aload_n C dX0_appendBelow_21 rfl (lv_at hl 1 rfl) ?_
        refine r_getRN C fn_X0_48 lf_25_0 dX0_appendBelow_22 ?_
        refine r_iload C dX0_appendBelow_25 (lv_at hl 4 rfl) ?_
        refine r_callVi (As := [.int x4]) (rest := []) C hl ml_X0_51 rc_26 (gX5_at l C.inj 26 9 row_26 x4 σ) ⟨Nat.le_of_ble_eq_true rfl, Nat.le_of_ble_eq_true rfl⟩ ⟨Nat.le_of_ble_eq_true rfl, Nat.le_of_ble_eq_true rfl⟩ rfl rfl (Nat.le_of_ble_eq_true rfl) dX0_appendBelow_27 (fun r1 σ2 => ?_)
        refine r_iload_n C dX0_appendBelow_30 rfl (lv_at hl 2 rfl) ?_
        refine r_icmp_ne (tgt := 52) C dX0_appendBelow_31 (by decide) ?_ ?_
        · refine r_aload_n C dX0_appendBelow_52 rfl (lv_at hl 1 rfl) ?_
          refine r_getRN C fn_X0_55 lf_25_1 dX0_appendBelow_53 ?_
          refine r_iload C dX0_appendBelow_56 (lv_at hl 4 rfl) ?_
          refine r_callVi (As := [.int x4]) (rest := []) C hl ml_X0_51 rc_28 (gX5_at l C.inj 28 9 row_28 x4 σ2) ⟨Nat.le_of_ble_eq_true rfl, Nat.le_of_ble_eq_true rfl⟩ ⟨Nat.le_of_ble_eq_true rfl, Nat.le_of_ble_eq_true rfl⟩ rfl rfl (Nat.le_of_ble_eq_true rfl) dX0_appendBelow_58 (fun r3 σ4 => ?_)
          refine r_iload_n C dX0_appendBelow_61 rfl (lv_at hl 2 rfl) ?_
          refine r_icmp_ne (tgt := 80) C dX0_appendBelow_62 (by decide) ?_ ?_
          · refine r_iinc (v := x4 + 1) (lv' := [(4, .int (x4 + 1)), (0, .ref (ad 30)), (1, .ref (ad 25)), (2, .int x2), (3, .int x3)]) C dX0_appendBelow_80 hl (k := 4) rfl rfl (by decide) rfl (fun ls hl => ?_)
            refine r_goto (tgt := 3) C dX0_appendBelow_83 (by decide) ?_
            exact ih x2 x3 (x4 + 1) σ4 ls (lv_sub hl [1, 2, 3, 4, 0] rfl)
          · refine r_aload_n C dX0_appendBelow_65 rfl (lv_at hl 0 rfl) ?_
            refine r_aload_n C dX0_appendBelow_66 rfl (lv_at hl 1 rfl) ?_
            refine r_getRN C fn_X0_48 lf_25_0 dX0_appendBelow_67 ?_
            refine r_iload C dX0_appendBelow_70 (lv_at hl 4 rfl) ?_
            refine r_callVi (As := [.int x4]) (rest := [.ref (ad 30)]) C hl ml_X0_51 rc_26 (gX5_at l C.inj 26 9 row_26 x4 σ4) ⟨Nat.le_of_ble_eq_true rfl, Nat.le_of_ble_eq_true rfl⟩ ⟨Nat.le_of_ble_eq_true rfl, Nat.le_of_ble_eq_true rfl⟩ rfl rfl (Nat.le_of_ble_eq_true rfl) dX0_appendBelow_72 (fun r5 σ6 => ?_)
            refine r_iload C dX0_appendBelow_75 (lv_at hl 4 rfl) ?_
            refine r_callVv (As := [.int r5, .int x4]) (rest := []) C hl ml_X0_41 rc_30 (gX0_append l C.inj r5 x4 σ6) ⟨Nat.le_of_ble_eq_true rfl, Nat.le_of_ble_eq_true rfl⟩ ⟨Nat.le_of_ble_eq_true rfl, Nat.le_of_ble_eq_true rfl⟩ rfl rfl (Nat.le_of_ble_eq_true rfl) dX0_appendBelow_77 (fun r7 σ8 => ?_)
            refine r_iinc (v := x4 + 1) (lv' := [(4, .int (x4 + 1)), (0, .ref (ad 30)), (1, .ref (ad 25)), (2, .int x2), (3, .int x3)]) C dX0_appendBelow_80 hl (k := 4) rfl rfl (by decide) rfl (fun ls hl => ?_)
            refine r_goto (tgt := 3) C dX0_appendBelow_83 (by decide) ?_
            exact ih x2 x3 (x4 + 1) σ8 ls (lv_sub hl [1, 2, 3, 4, 0] rfl)
        · refine r_aload_n C dX0_appendBelow_34 rfl (lv_at hl 0 rfl) ?_
          refine r_aload_n C dX0_appendBelow_35 rfl (lv_at hl 1 rfl) ?_
          refine r_getRN C fn_X0_55 lf_25_1 dX0_appendBelow_36 ?_
          refine r_iload C dX0_appendBelow_39 (lv_at hl 4 rfl) ?_
          refine r_callVi (As := [.int x4]) (rest := [.ref (ad 30)]) C hl ml_X0_51 rc_28 (gX5_at l C.inj 28 9 row_28 x4 σ2) ⟨Nat.le_of_ble_eq_true rfl, Nat.le_of_ble_eq_true rfl⟩ ⟨Nat.le_of_ble_eq_true rfl, Nat.le_of_ble_eq_true rfl⟩ rfl rfl (Nat.le_of_ble_eq_true rfl) dX0_appendBelow_41 (fun r9 σ10 => ?_)
          refine r_iload C dX0_appendBelow_44 (lv_at hl 4 rfl) ?_
          refine r_callVv (As := [.int r9, .int x4]) (rest := []) C hl ml_X0_41 rc_30 (gX0_append l C.inj r9 x4 σ10) ⟨Nat.le_of_ble_eq_true rfl, Nat.le_of_ble_eq_true rfl⟩ ⟨Nat.le_of_ble_eq_true rfl, Nat.le_of_ble_eq_true rfl⟩ rfl rfl (Nat.le_of_ble_eq_true rfl) dX0_appendBelow_46 (fun r11 σ12 => ?_)
          refine r_goto (tgt := 80) C dX0_appendBelow_49 (by decide) ?_
          refine r_iinc (v := x4 + 1) (lv' := [(4, .int (x4 + 1)), (0, .ref (ad 30)), (1, .ref (ad 25)), (2, .int x2), (3, .int x3)]) C dX0_appendBelow_80 hl (k := 4) rfl rfl (by decide) rfl (fun ls hl => ?_)
          refine r_goto (tgt := 3) C dX0_appendBelow_83 (by decide) ?_
          exact ih x2 x3 (x4 + 1) σ12 ls (lv_sub hl [1, 2, 3, 4, 0] rfl)
      · refine r_goto (tgt := 80) C dX0_appendBelow_18 (by decide) ?_
        refine r_iinc (v := x4 + 1) (lv' := [(4, .int (x4 + 1)), (0, .ref (ad 30)), (1, .ref (ad 25)), (2, .int x2), (3, .int x3)]) C dX0_appendBelow_80 hl (k := 4) rfl rfl (by decide) rfl (fun ls hl => ?_)
        refine r_goto (tgt := 3) C dX0_appendBelow_83 (by decide) ?_
        exact ih x2 x3 (x4 + 1) σ ls (lv_sub hl [1, 2, 3, 4, 0] rfl)
set_option maxRecDepth 100000 in
def fX0_appendBelow (x2 : Int32) (x3 : Int32) (σ : Mem) : Option (Int32 × Mem) := LX0_appendBelow_3 (fun σ13 => some (0, σ13)) 300 x2 x3 0 σ
set_option maxRecDepth 100000 in
set_option maxHeartbeats 4000000 in
theorem gX0_appendBelow (l : Launch) {D : va_G} {cI cZ : ClassId} {ad : Nat → Nat} {tT : Nat} (hi : INJ ad) (x2 : Int32) (x3 : Int32) (σ : Mem) : GM l D cI cZ ad tT yX0_appendBelow cX0_appendBelow 5 (none) 2 44 rvv [.ref (ad 30), .ref (ad 25), .int x2, .int x3] σ (fX0_appendBelow x2 x3 σ) := by
  refine gm_of (lv := [(0, .ref (ad 30)), (1, .ref (ad 25)), (2, .int x2), (3, .int x3)]) (own := RX0) hi (by decide +kernel) rfl (Nat.le_of_ble_eq_true rfl) rfl ?_
  intro p e s m args below meth c A C ls hl
  unfold fX0_appendBelow
  refine r_iconst (v := 0) C dX0_appendBelow_0 (by decide) ?_
  refine r_istore (lv' := [(4, .int 0), (0, .ref (ad 30)), (1, .ref (ad 25)), (2, .int x2), (3, .int x3)]) C dX0_appendBelow_1 hl (by decide) rfl (fun ls hl => ?_)
  refine wX0_appendBelow_3  C _ ?_ 300 x2 x3 0 σ ls (lv_sub hl [1, 2, 3, 4, 0] rfl)
  · intro σ13 ls hl
    exact r_vret C rfl dX0_appendBelow_86

set_option maxRecDepth 100000 in
def BX0_follow_65 (k131 : Mem → Option (Int32 × Mem)) (rec : Int32 → Mem → Option (Int32 × Mem)) (x3 : Int32) (σ : Mem) : Option (Int32 × Mem) := if (σ 30 5 : Int32) ≤ x3 then k131 σ else if (11 : Int32) ≤ x3 then k131 σ else bnd (fX5_at 31 11 x3 σ) (fun r14 σ15 => if (r14 : Int32) < 6 then rec (x3 + 1) σ15 else bnd (fX5_put 35 11 x3 (σ15 30 5) σ15) (fun r16 σ17 => bnd (fX5_at 31 11 x3 σ17) (fun r18 σ19 => bnd (fX5_at 33 11 x3 σ19) (fun r20 σ21 => bnd (fX0_appendBelow r18 r20 σ21) (fun r22 σ23 => rec (x3 + 1) σ23)))))
def LX0_follow_65 (k131 : Mem → Option (Int32 × Mem)) : Nat → Int32 → Mem → Option (Int32 × Mem)
  | 0 => fun _ _ => none
  | n + 1 => BX0_follow_65 k131 (LX0_follow_65 k131 n)
set_option maxRecDepth 100000 in
set_option maxHeartbeats 4000000 in
theorem wX0_follow_65 {p : Program} {l : Launch} {e : Env} {s : State} {m : MethodId} {args : Array Value} {below : List Frame} {meth : Method} {c : Code} {D : va_G} {cI cZ : ClassId} {ad : Nat → Nat} {tT : Nat} {A : Nat → Prop} (C : CX p s m args meth c cX0_follow 4 RX0 (none) D cI cZ ad tT A) (k131 : Mem → Option (Int32 × Mem)) (hk131 : ∀ (σ : Mem) (ls : Array Slot), lv_has ls 4 [] → WM p l e 3 68 s m args below meth c D cI cZ ad A rvv (k131 σ) σ (F0 m 131 ls [])) :
    ∀ (n0 : Nat), ∀ (x3 : Int32) (σ : Mem) (ls : Array Slot), lv_has ls 4 [(0, .ref (ad 30)), (1, .ref (ad 25)), (3, .int x3)] → WM p l e 3 68 s m args below meth c D cI cZ ad A rvv (LX0_follow_65 k131 n0 x3 σ) σ (F0 m 65 ls []) := by
  intro n0
  induction n0 with
  | zero => intro x3 σ ls hl; exact r_none
  | succ n0 ih =>
    intro x3 σ ls hl
    show WM p l e 3 68 s m args below meth c D cI cZ ad A rvv (BX0_follow_65 k131 (LX0_follow_65 k131 n0) x3 σ) σ (F0 m 65 ls [])
    unfold BX0_follow_65
    refine r_iload_n C dX0_follow_65 rfl (lv_at hl 2 rfl) ?_
    refine r_aload_n C dX0_follow_66 rfl (lv_at hl 0 rfl) ?_
    refine r_getI C fl_X0_32 lf_30_5 dX0_follow_67 ?_
    refine r_icmp_ge (tgt := 131) C dX0_follow_70 (by decide) ?_ ?_
    · exact hk131 σ ls (lv_sub hl [] rfl)
    · refine r_iload_n C dX0_follow_73 rfl (lv_at hl 2 rfl) ?_
      refine r_bipush (v := 11) C dX0_follow_74 (by decide) ?_
      refine r_icmp_ge (tgt := 131) C dX0_follow_76 (by decide) ?_ ?_
      · exact hk131 σ ls (lv_sub hl [] rfl)
      · refine r_aload_n C dX0_follow_79 rfl (lv_at hl 0 rfl) ?_
        refine r_getR C fl_X0_14 lf_30_0 dX0_follow_80 ?_
        refine r_iload_n C dX0_follow_83 rfl (lv_at hl 2 rfl) ?_
        refine r_callVi (As := [.int x3]) (rest := []) C hl ml_X0_51 rc_31 (gX5_at l C.inj 31 11 row_31 x3 σ) ⟨Nat.le_of_ble_eq_true rfl, Nat.le_of_ble_eq_true rfl⟩ ⟨Nat.le_of_ble_eq_true rfl, Nat.le_of_ble_eq_true rfl⟩ rfl rfl (Nat.le_of_ble_eq_true rfl) dX0_follow_84 (fun r14 σ15 => ?_)
        refine r_bipush (v := 6) C dX0_follow_87 (by decide) ?_
        refine r_icmp_lt (tgt := 125) C dX0_follow_89 (by decide) ?_ ?_
        · refine r_iinc (v := x3 + 1) (lv' := [(3, .int (x3 + 1)), (0, .ref (ad 30)), (1, .ref (ad 25))]) C dX0_follow_125 hl (k := 2) rfl rfl (by decide) rfl (fun ls hl => ?_)
          refine r_goto (tgt := 65) C dX0_follow_128 (by decide) ?_
          exact ih (x3 + 1) σ15 ls (lv_sub hl [1, 2, 0] rfl)
        · refine r_aload_n C dX0_follow_92 rfl (lv_at hl 0 rfl) ?_
          refine r_getR C fl_X0_23 lf_30_2 dX0_follow_93 ?_
          refine r_iload_n C dX0_follow_96 rfl (lv_at hl 2 rfl) ?_
          refine r_aload_n C dX0_follow_97 rfl (lv_at hl 0 rfl) ?_
          refine r_getI C fl_X0_32 lf_30_5 dX0_follow_98 ?_
          refine r_callVv (As := [.int x3, .int (σ15 30 5)]) (rest := []) C hl ml_X0_45 rc_35 (gX5_put l C.inj 35 11 row_35 x3 (σ15 30 5) σ15) ⟨Nat.le_of_ble_eq_true rfl, Nat.le_of_ble_eq_true rfl⟩ ⟨Nat.le_of_ble_eq_true rfl, Nat.le_of_ble_eq_true rfl⟩ rfl rfl (Nat.le_of_ble_eq_true rfl) dX0_follow_101 (fun r16 σ17 => ?_)
          refine r_aload_n C dX0_follow_104 rfl (lv_at hl 0 rfl) ?_
          refine r_aload_n C dX0_follow_105 rfl (lv_at hl 1 rfl) ?_
          refine r_aload_n C dX0_follow_106 rfl (lv_at hl 0 rfl) ?_
          refine r_getR C fl_X0_14 lf_30_0 dX0_follow_107 ?_
          refine r_iload_n C dX0_follow_110 rfl (lv_at hl 2 rfl) ?_
          refine r_callVi (As := [.int x3]) (rest := [.ref (ad 25), .ref (ad 30)]) C hl ml_X0_51 rc_31 (gX5_at l C.inj 31 11 row_31 x3 σ17) ⟨Nat.le_of_ble_eq_true rfl, Nat.le_of_ble_eq_true rfl⟩ ⟨Nat.le_of_ble_eq_true rfl, Nat.le_of_ble_eq_true rfl⟩ rfl rfl (Nat.le_of_ble_eq_true rfl) dX0_follow_111 (fun r18 σ19 => ?_)
          refine r_aload_n C dX0_follow_114 rfl (lv_at hl 0 rfl) ?_
          refine r_getR C fl_X0_20 lf_30_1 dX0_follow_115 ?_
          refine r_iload_n C dX0_follow_118 rfl (lv_at hl 2 rfl) ?_
          refine r_callVi (As := [.int x3]) (rest := [.int r18, .ref (ad 25), .ref (ad 30)]) C hl ml_X0_51 rc_33 (gX5_at l C.inj 33 11 row_33 x3 σ19) ⟨Nat.le_of_ble_eq_true rfl, Nat.le_of_ble_eq_true rfl⟩ ⟨Nat.le_of_ble_eq_true rfl, Nat.le_of_ble_eq_true rfl⟩ rfl rfl (Nat.le_of_ble_eq_true rfl) dX0_follow_119 (fun r20 σ21 => ?_)
          refine r_callVv (As := [.ref (ad 25), .int r18, .int r20]) (rest := []) C hl ml_X0_58 rc_30 (gX0_appendBelow l C.inj r18 r20 σ21) ⟨Nat.le_of_ble_eq_true rfl, Nat.le_of_ble_eq_true rfl⟩ ⟨Nat.le_of_ble_eq_true rfl, Nat.le_of_ble_eq_true rfl⟩ rfl rfl (Nat.le_of_ble_eq_true rfl) dX0_follow_122 (fun r22 σ23 => ?_)
          refine r_iinc (v := x3 + 1) (lv' := [(3, .int (x3 + 1)), (0, .ref (ad 30)), (1, .ref (ad 25))]) C dX0_follow_125 hl (k := 2) rfl rfl (by decide) rfl (fun ls hl => ?_)
          refine r_goto (tgt := 65) C dX0_follow_128 (by decide) ?_
          exact ih (x3 + 1) σ23 ls (lv_sub hl [1, 2, 0] rfl)
set_option maxRecDepth 100000 in
def fX0_follow (x2 : Int32) (σ : Mem) : Option (Int32 × Mem) := letm (stm σ 30 5 0) (fun σ1 => if (x2 : Int32) < 0 then some (0, σ1) else if (x2 : Int32) < (σ1 25 2) then bnd (fX0_append 10 x2 σ1) (fun r2 σ3 => bnd (fX5_put 35 11 0 (σ3 30 5) σ3) (fun r4 σ5 => bnd (fX5_at 26 9 x2 σ5) (fun r6 σ7 => bnd (fX0_append r6 x2 σ7) (fun r8 σ9 => bnd (fX5_at 28 9 x2 σ9) (fun r10 σ11 => bnd (fX0_append r10 x2 σ11) (fun r12 σ13 => LX0_follow_65 (fun σ24 => some (0, σ24)) 300 1 σ13)))))) else some (0, σ1))
set_option maxRecDepth 100000 in
set_option maxHeartbeats 4000000 in
theorem gX0_follow (l : Launch) {D : va_G} {cI cZ : ClassId} {ad : Nat → Nat} {tT : Nat} (hi : INJ ad) (x2 : Int32) (σ : Mem) : GM l D cI cZ ad tT yX0_follow cX0_follow 4 (none) 3 68 rvv [.ref (ad 30), .ref (ad 25), .int x2] σ (fX0_follow x2 σ) := by
  refine gm_of (lv := [(0, .ref (ad 30)), (1, .ref (ad 25)), (2, .int x2)]) (own := RX0) hi (by decide +kernel) rfl (Nat.le_of_ble_eq_true rfl) rfl ?_
  intro p e s m args below meth c A C ls hl
  unfold fX0_follow
  refine r_aload_n C dX0_follow_0 rfl (lv_at hl 0 rfl) ?_
  refine r_iconst (v := 0) C dX0_follow_1 (by decide) ?_
  refine r_putI C fl_X0_32 fp_X0_5 rfl rfl lf_30_5 dX0_follow_2 ?_
  refine r_letm (fun σ1 => ?_)
  refine r_iload_n C dX0_follow_5 rfl (lv_at hl 2 rfl) ?_
  refine r_if_lt (tgt := 17) C dX0_follow_6 (by decide) ?_ ?_
  · exact r_vret C rfl dX0_follow_17
  · refine r_iload_n C dX0_follow_9 rfl (lv_at hl 2 rfl) ?_
    refine r_aload_n C dX0_follow_10 rfl (lv_at hl 1 rfl) ?_
    refine r_getIN C fn_X0_36 lf_25_2 dX0_follow_11 ?_
    refine r_icmp_lt (tgt := 18) C dX0_follow_14 (by decide) ?_ ?_
    · refine r_aload_n C dX0_follow_18 rfl (lv_at hl 0 rfl) ?_
      refine r_bipush (v := 10) C dX0_follow_19 (by decide) ?_
      refine r_iload_n C dX0_follow_21 rfl (lv_at hl 2 rfl) ?_
      refine r_callVv (As := [.int 10, .int x2]) (rest := []) C hl ml_X0_41 rc_30 (gX0_append l C.inj 10 x2 σ1) ⟨Nat.le_of_ble_eq_true rfl, Nat.le_of_ble_eq_true rfl⟩ ⟨Nat.le_of_ble_eq_true rfl, Nat.le_of_ble_eq_true rfl⟩ rfl rfl (Nat.le_of_ble_eq_true rfl) dX0_follow_22 (fun r2 σ3 => ?_)
      refine r_aload_n C dX0_follow_25 rfl (lv_at hl 0 rfl) ?_
      refine r_getR C fl_X0_23 lf_30_2 dX0_follow_26 ?_
      refine r_iconst (v := 0) C dX0_follow_29 (by decide) ?_
      refine r_aload_n C dX0_follow_30 rfl (lv_at hl 0 rfl) ?_
      refine r_getI C fl_X0_32 lf_30_5 dX0_follow_31 ?_
      refine r_callVv (As := [.int 0, .int (σ3 30 5)]) (rest := []) C hl ml_X0_45 rc_35 (gX5_put l C.inj 35 11 row_35 0 (σ3 30 5) σ3) ⟨Nat.le_of_ble_eq_true rfl, Nat.le_of_ble_eq_true rfl⟩ ⟨Nat.le_of_ble_eq_true rfl, Nat.le_of_ble_eq_true rfl⟩ rfl rfl (Nat.le_of_ble_eq_true rfl) dX0_follow_34 (fun r4 σ5 => ?_)
      refine r_aload_n C dX0_follow_37 rfl (lv_at hl 0 rfl) ?_
      refine r_aload_n C dX0_follow_38 rfl (lv_at hl 1 rfl) ?_
      refine r_getRN C fn_X0_48 lf_25_0 dX0_follow_39 ?_
      refine r_iload_n C dX0_follow_42 rfl (lv_at hl 2 rfl) ?_
      refine r_callVi (As := [.int x2]) (rest := [.ref (ad 30)]) C hl ml_X0_51 rc_26 (gX5_at l C.inj 26 9 row_26 x2 σ5) ⟨Nat.le_of_ble_eq_true rfl, Nat.le_of_ble_eq_true rfl⟩ ⟨Nat.le_of_ble_eq_true rfl, Nat.le_of_ble_eq_true rfl⟩ rfl rfl (Nat.le_of_ble_eq_true rfl) dX0_follow_43 (fun r6 σ7 => ?_)
      refine r_iload_n C dX0_follow_46 rfl (lv_at hl 2 rfl) ?_
      refine r_callVv (As := [.int r6, .int x2]) (rest := []) C hl ml_X0_41 rc_30 (gX0_append l C.inj r6 x2 σ7) ⟨Nat.le_of_ble_eq_true rfl, Nat.le_of_ble_eq_true rfl⟩ ⟨Nat.le_of_ble_eq_true rfl, Nat.le_of_ble_eq_true rfl⟩ rfl rfl (Nat.le_of_ble_eq_true rfl) dX0_follow_47 (fun r8 σ9 => ?_)
      refine r_aload_n C dX0_follow_50 rfl (lv_at hl 0 rfl) ?_
      refine r_aload_n C dX0_follow_51 rfl (lv_at hl 1 rfl) ?_
      refine r_getRN C fn_X0_55 lf_25_1 dX0_follow_52 ?_
      refine r_iload_n C dX0_follow_55 rfl (lv_at hl 2 rfl) ?_
      refine r_callVi (As := [.int x2]) (rest := [.ref (ad 30)]) C hl ml_X0_51 rc_28 (gX5_at l C.inj 28 9 row_28 x2 σ9) ⟨Nat.le_of_ble_eq_true rfl, Nat.le_of_ble_eq_true rfl⟩ ⟨Nat.le_of_ble_eq_true rfl, Nat.le_of_ble_eq_true rfl⟩ rfl rfl (Nat.le_of_ble_eq_true rfl) dX0_follow_56 (fun r10 σ11 => ?_)
      refine r_iload_n C dX0_follow_59 rfl (lv_at hl 2 rfl) ?_
      refine r_callVv (As := [.int r10, .int x2]) (rest := []) C hl ml_X0_41 rc_30 (gX0_append l C.inj r10 x2 σ11) ⟨Nat.le_of_ble_eq_true rfl, Nat.le_of_ble_eq_true rfl⟩ ⟨Nat.le_of_ble_eq_true rfl, Nat.le_of_ble_eq_true rfl⟩ rfl rfl (Nat.le_of_ble_eq_true rfl) dX0_follow_60 (fun r12 σ13 => ?_)
      refine r_iconst (v := 1) C dX0_follow_63 (by decide) ?_
      refine r_istore_n (lv' := [(3, .int 1), (0, .ref (ad 30)), (1, .ref (ad 25)), (2, .int x2)]) C dX0_follow_64 rfl hl (by decide) rfl (fun ls hl => ?_)
      refine wX0_follow_65  C _ ?_ 300 1 σ13 ls (lv_sub hl [1, 2, 0] rfl)
      · intro σ24 ls hl
        exact r_vret C rfl dX0_follow_131
    · exact r_vret C rfl dX0_follow_17

set_option maxRecDepth 100000 in
def fX0_emptyPlaces (x0 : Int32) (σ : Mem) : Option (Int32 × Mem) := letv (x0 ||| (ush x0 1)) (fun v1 => letv (v1 ||| (ush v1 2)) (fun v2 => some ((v2 ^^^ (-1)) &&& 286331153, σ)))
set_option maxRecDepth 100000 in
set_option maxHeartbeats 4000000 in
theorem gX0_emptyPlaces (l : Launch) {D : va_G} {cI cZ : ClassId} {ad : Nat → Nat} {tT : Nat} (hi : INJ ad) (x0 : Int32) (σ : Mem) : GM l D cI cZ ad tT yX0_emptyPlaces cX0_emptyPlaces 3 (some .int) 0 0 rvi [.int x0] σ (fX0_emptyPlaces x0 σ) := by
  refine gm_of (lv := [(0, .int x0)]) (own := RX0) hi (by decide +kernel) rfl (Nat.le_of_ble_eq_true rfl) rfl ?_
  intro p e s m args below meth c A C ls hl
  unfold fX0_emptyPlaces
  refine r_iload_n C dX0_emptyPlaces_0 rfl (lv_at hl 0 rfl) ?_
  refine r_iload_n C dX0_emptyPlaces_1 rfl (lv_at hl 0 rfl) ?_
  refine r_iconst (v := 1) C dX0_emptyPlaces_2 (by decide) ?_
  refine r_iushr2 C dX0_emptyPlaces_3 ?_
  refine r_ior C dX0_emptyPlaces_4 ?_
  refine r_letv (fun v1 => ?_)
  refine r_istore_n (lv' := [(1, .int v1), (0, .int x0)]) C dX0_emptyPlaces_5 rfl hl (by decide) rfl (fun ls hl => ?_)
  refine r_iload_n C dX0_emptyPlaces_6 rfl (lv_at hl 0 rfl) ?_
  refine r_iload_n C dX0_emptyPlaces_7 rfl (lv_at hl 0 rfl) ?_
  refine r_iconst (v := 2) C dX0_emptyPlaces_8 (by decide) ?_
  refine r_iushr2 C dX0_emptyPlaces_9 ?_
  refine r_ior C dX0_emptyPlaces_10 ?_
  refine r_letv (fun v2 => ?_)
  refine r_istore_n (lv' := [(2, .int v2), (1, .int v1), (0, .int x0)]) C dX0_emptyPlaces_11 rfl hl (by decide) rfl (fun ls hl => ?_)
  refine r_iload_n C dX0_emptyPlaces_12 rfl (lv_at hl 0 rfl) ?_
  refine r_iconst (v := (-1)) C dX0_emptyPlaces_13 (by decide) ?_
  refine r_ixor C dX0_emptyPlaces_14 ?_
  refine r_ldc (v := 286331153) C (uw_mk 473 (by decide +kernel) rfl) dX0_emptyPlaces_15 ?_
  refine r_iand C dX0_emptyPlaces_17 ?_
  exact r_iret C rfl dX0_emptyPlaces_18

set_option maxRecDepth 100000 in
def fJ6_bitCount_0f7a4 (x0 : Int32) (σ : Mem) : Option (Int32 × Mem) := letv (x0 - ((ush x0 1) &&& 1431655765)) (fun v1 => letv ((v1 &&& 858993459) + ((ush v1 2) &&& 858993459)) (fun v2 => letv ((v2 + (ush v2 4)) &&& 252645135) (fun v3 => letv (v3 + (ush v3 8)) (fun v4 => letv (v4 + (ush v4 16)) (fun v5 => some (v5 &&& 63, σ))))))
set_option maxRecDepth 100000 in
set_option maxHeartbeats 4000000 in
theorem gJ6_bitCount_0f7a4 (l : Launch) {D : va_G} {cI cZ : ClassId} {ad : Nat → Nat} {tT : Nat} (hi : INJ ad) (x0 : Int32) (σ : Mem) : GM l D cI cZ ad tT yJ6_bitCount_0f7a4 cJ6_bitCount_0f7a4 1 (some .int) 0 0 rvi [.int x0] σ (fJ6_bitCount_0f7a4 x0 σ) := by
  refine gm_of (lv := [(0, .int x0)]) (own := RJ6) hi (by decide +kernel) rfl (Nat.le_of_ble_eq_true rfl) rfl ?_
  intro p e s m args below meth c A C ls hl
  unfold fJ6_bitCount_0f7a4
  refine r_iload_n C dJ6_bitCount_0f7a4_0 rfl (lv_at hl 0 rfl) ?_
  refine r_iload_n C dJ6_bitCount_0f7a4_1 rfl (lv_at hl 0 rfl) ?_
  refine r_iconst (v := 1) C dJ6_bitCount_0f7a4_2 (by decide) ?_
  refine r_iushr2 C dJ6_bitCount_0f7a4_3 ?_
  refine r_ldcw (v := 1431655765) C (uw_mk 477 (by decide +kernel) rfl) dJ6_bitCount_0f7a4_4 ?_
  refine r_iand C dJ6_bitCount_0f7a4_7 ?_
  refine r_isub C dJ6_bitCount_0f7a4_8 ?_
  refine r_letv (fun v1 => ?_)
  refine r_istore_n (lv' := [(0, .int v1)]) C dJ6_bitCount_0f7a4_9 rfl hl (by decide) rfl (fun ls hl => ?_)
  refine r_iload_n C dJ6_bitCount_0f7a4_10 rfl (lv_at hl 0 rfl) ?_
  refine r_ldcw (v := 858993459) C (uw_mk 478 (by decide +kernel) rfl) dJ6_bitCount_0f7a4_11 ?_
  refine r_iand C dJ6_bitCount_0f7a4_14 ?_
  refine r_iload_n C dJ6_bitCount_0f7a4_15 rfl (lv_at hl 0 rfl) ?_
  refine r_iconst (v := 2) C dJ6_bitCount_0f7a4_16 (by decide) ?_
  refine r_iushr2 C dJ6_bitCount_0f7a4_17 ?_
  refine r_ldcw (v := 858993459) C (uw_mk 478 (by decide +kernel) rfl) dJ6_bitCount_0f7a4_18 ?_
  refine r_iand C dJ6_bitCount_0f7a4_21 ?_
  refine r_iadd C dJ6_bitCount_0f7a4_22 ?_
  refine r_letv (fun v2 => ?_)
  refine r_istore_n (lv' := [(0, .int v2)]) C dJ6_bitCount_0f7a4_23 rfl hl (by decide) rfl (fun ls hl => ?_)
  refine r_iload_n C dJ6_bitCount_0f7a4_24 rfl (lv_at hl 0 rfl) ?_
  refine r_iload_n C dJ6_bitCount_0f7a4_25 rfl (lv_at hl 0 rfl) ?_
  refine r_iconst (v := 4) C dJ6_bitCount_0f7a4_26 (by decide) ?_
  refine r_iushr2 C dJ6_bitCount_0f7a4_27 ?_
  refine r_iadd C dJ6_bitCount_0f7a4_28 ?_
  refine r_ldcw (v := 252645135) C (uw_mk 479 (by decide +kernel) rfl) dJ6_bitCount_0f7a4_29 ?_
  refine r_iand C dJ6_bitCount_0f7a4_32 ?_
  refine r_letv (fun v3 => ?_)
  refine r_istore_n (lv' := [(0, .int v3)]) C dJ6_bitCount_0f7a4_33 rfl hl (by decide) rfl (fun ls hl => ?_)
  refine r_iload_n C dJ6_bitCount_0f7a4_34 rfl (lv_at hl 0 rfl) ?_
  refine r_iload_n C dJ6_bitCount_0f7a4_35 rfl (lv_at hl 0 rfl) ?_
  refine r_bipush (v := 8) C dJ6_bitCount_0f7a4_36 (by decide) ?_
  refine r_iushr2 C dJ6_bitCount_0f7a4_38 ?_
  refine r_iadd C dJ6_bitCount_0f7a4_39 ?_
  refine r_letv (fun v4 => ?_)
  refine r_istore_n (lv' := [(0, .int v4)]) C dJ6_bitCount_0f7a4_40 rfl hl (by decide) rfl (fun ls hl => ?_)
  refine r_iload_n C dJ6_bitCount_0f7a4_41 rfl (lv_at hl 0 rfl) ?_
  refine r_iload_n C dJ6_bitCount_0f7a4_42 rfl (lv_at hl 0 rfl) ?_
  refine r_bipush (v := 16) C dJ6_bitCount_0f7a4_43 (by decide) ?_
  refine r_iushr2 C dJ6_bitCount_0f7a4_45 ?_
  refine r_iadd C dJ6_bitCount_0f7a4_46 ?_
  refine r_letv (fun v5 => ?_)
  refine r_istore_n (lv' := [(0, .int v5)]) C dJ6_bitCount_0f7a4_47 rfl hl (by decide) rfl (fun ls hl => ?_)
  refine r_iload_n C dJ6_bitCount_0f7a4_48 rfl (lv_at hl 0 rfl) ?_
  refine r_bipush (v := 63) C dJ6_bitCount_0f7a4_49 (by decide) ?_
  refine r_iand C dJ6_bitCount_0f7a4_51 ?_
  exact r_iret C rfl dJ6_bitCount_0f7a4_52

set_option maxRecDepth 100000 in
def BX0_changesOver_9 (k133 : Int32 → Mem → Option (Int32 × Mem)) (rec : Int32 → Int32 → Mem → Option (Int32 × Mem)) (x2 : Int32) (x3 : Int32) (σ : Mem) : Option (Int32 × Mem) := if (x3 : Int32) < 0 then k133 x2 σ else bnd (fX5_at 31 11 x3 σ) (fun r2 σ3 => if (6 : Int32) ≤ r2 then bnd (fX5_at 35 11 x3 σ3) (fun r4 σ5 => bnd (fX5_at 37 11 r4 σ5) (fun r6 σ7 => bnd (fX5_at 35 11 x3 σ7) (fun r8 σ9 => bnd (fX5_at 37 11 (r8 + 1) σ9) (fun r10 σ11 => letv (r6 &&& r10) (fun v12 => bnd (fX0_emptyPlaces v12 σ11) (fun r13 σ14 => bnd (fJ6_bitCount_0f7a4 r13 σ14) (fun r15 σ16 => letv (x2 + r15) (fun v17 => bnd (fX5_put 37 11 x3 (v12 ||| ((r6 ||| r10) &&& (r13 * 15))) σ16) (fun r18 σ19 => rec v17 (x3 + (-1)) σ19))))))))) else bnd (fX5_at 41 6 r2 σ3) (fun r20 σ21 => bnd (fX5_put 37 11 x3 r20 σ21) (fun r22 σ23 => rec x2 (x3 + (-1)) σ23)))
def LX0_changesOver_9 (k133 : Int32 → Mem → Option (Int32 × Mem)) : Nat → Int32 → Int32 → Mem → Option (Int32 × Mem)
  | 0 => fun _ _ _ => none
  | n + 1 => BX0_changesOver_9 k133 (LX0_changesOver_9 k133 n)
set_option maxRecDepth 100000 in
set_option maxHeartbeats 4000000 in
theorem wX0_changesOver_9 {p : Program} {l : Launch} {e : Env} {s : State} {m : MethodId} {args : Array Value} {below : List Frame} {meth : Method} {c : Code} {D : va_G} {cI cZ : ClassId} {ad : Nat → Nat} {tT : Nat} {A : Nat → Prop} (C : CX p s m args meth c cX0_changesOver 9 RX0 (some .int) D cI cZ ad tT A) (k133 : Int32 → Mem → Option (Int32 × Mem)) (hk133 : ∀ (x2 : Int32) (σ : Mem) (ls : Array Slot), lv_has ls 9 [(2, .int x2)] → WM p l e 1 22 s m args below meth c D cI cZ ad A rvi (k133 x2 σ) σ (F0 m 133 ls [])) :
    ∀ (n0 : Nat), ∀ (x2 : Int32) (x3 : Int32) (σ : Mem) (ls : Array Slot), lv_has ls 9 [(0, .ref (ad 30)), (1, .ref (ad 41)), (2, .int x2), (3, .int x3)] → WM p l e 1 22 s m args below meth c D cI cZ ad A rvi (LX0_changesOver_9 k133 n0 x2 x3 σ) σ (F0 m 9 ls []) := by
  intro n0
  induction n0 with
  | zero => intro x2 x3 σ ls hl; exact r_none
  | succ n0 ih =>
    intro x2 x3 σ ls hl
    show WM p l e 1 22 s m args below meth c D cI cZ ad A rvi (BX0_changesOver_9 k133 (LX0_changesOver_9 k133 n0) x2 x3 σ) σ (F0 m 9 ls [])
    unfold BX0_changesOver_9
    refine r_iload_n C dX0_changesOver_9 rfl (lv_at hl 3 rfl) ?_
    refine r_if_lt (tgt := 133) C dX0_changesOver_10 (by decide) ?_ ?_
    · exact hk133 x2 σ ls (lv_sub hl [2] rfl)
    · refine r_aload_n C dX0_changesOver_13 rfl (lv_at hl 0 rfl) ?_
      refine r_getR C fl_X0_14 lf_30_0 dX0_changesOver_14 ?_
      refine r_iload_n C dX0_changesOver_17 rfl (lv_at hl 3 rfl) ?_
      refine r_callVi (As := [.int x3]) (rest := []) C hl ml_X0_51 rc_31 (gX5_at l C.inj 31 11 row_31 x3 σ) ⟨Nat.le_of_ble_eq_true rfl, Nat.le_of_ble_eq_true rfl⟩ ⟨Nat.le_of_ble_eq_true rfl, Nat.le_of_ble_eq_true rfl⟩ rfl rfl (Nat.le_of_ble_eq_true rfl) dX0_changesOver_18 (fun r2 σ3 => ?_)
      refine r_istore (lv' := [(4, .int r2), (0, .ref (ad 30)), (1, .ref (ad 41)), (2, .int x2), (3, .int x3)]) C dX0_changesOver_21 hl (by decide) rfl (fun ls hl => ?_)
      refine r_iload C dX0_changesOver_23 (lv_at hl 0 rfl) ?_
      refine r_bipush (v := 6) C dX0_changesOver_25 (by decide) ?_
      refine r_icmp_ge (tgt := 47) C dX0_changesOver_27 (by decide) ?_ ?_
      · refine r_aload_n C dX0_changesOver_47 rfl (lv_at hl 1 rfl) ?_
        refine r_getR C fl_X0_26 lf_30_3 dX0_changesOver_48 ?_
        refine r_aload_n C dX0_changesOver_51 rfl (lv_at hl 1 rfl) ?_
        refine r_getR C fl_X0_23 lf_30_2 dX0_changesOver_52 ?_
        refine r_iload_n C dX0_changesOver_55 rfl (lv_at hl 4 rfl) ?_
        refine r_callVi (As := [.int x3]) (rest := [.ref (ad 37)]) C hl ml_X0_51 rc_35 (gX5_at l C.inj 35 11 row_35 x3 σ3) ⟨Nat.le_of_ble_eq_true rfl, Nat.le_of_ble_eq_true rfl⟩ ⟨Nat.le_of_ble_eq_true rfl, Nat.le_of_ble_eq_true rfl⟩ rfl rfl (Nat.le_of_ble_eq_true rfl) dX0_changesOver_56 (fun r4 σ5 => ?_)
        refine r_callVi (As := [.int r4]) (rest := []) C hl ml_X0_51 rc_37 (gX5_at l C.inj 37 11 row_37 r4 σ5) ⟨Nat.le_of_ble_eq_true rfl, Nat.le_of_ble_eq_true rfl⟩ ⟨Nat.le_of_ble_eq_true rfl, Nat.le_of_ble_eq_true rfl⟩ rfl rfl (Nat.le_of_ble_eq_true rfl) dX0_changesOver_59 (fun r6 σ7 => ?_)
        refine r_istore (lv' := [(5, .int r6), (4, .int r2), (0, .ref (ad 30)), (1, .ref (ad 41)), (2, .int x2), (3, .int x3)]) C dX0_changesOver_62 hl (by decide) rfl (fun ls hl => ?_)
        refine r_aload_n C dX0_changesOver_64 rfl (lv_at hl 2 rfl) ?_
        refine r_getR C fl_X0_26 lf_30_3 dX0_changesOver_65 ?_
        refine r_aload_n C dX0_changesOver_68 rfl (lv_at hl 2 rfl) ?_
        refine r_getR C fl_X0_23 lf_30_2 dX0_changesOver_69 ?_
        refine r_iload_n C dX0_changesOver_72 rfl (lv_at hl 5 rfl) ?_
        refine r_callVi (As := [.int x3]) (rest := [.ref (ad 37)]) C hl ml_X0_51 rc_35 (gX5_at l C.inj 35 11 row_35 x3 σ7) ⟨Nat.le_of_ble_eq_true rfl, Nat.le_of_ble_eq_true rfl⟩ ⟨Nat.le_of_ble_eq_true rfl, Nat.le_of_ble_eq_true rfl⟩ rfl rfl (Nat.le_of_ble_eq_true rfl) dX0_changesOver_73 (fun r8 σ9 => ?_)
        refine r_iconst (v := 1) C dX0_changesOver_76 (by decide) ?_
        refine r_iadd C dX0_changesOver_77 ?_
        refine r_callVi (As := [.int (r8 + 1)]) (rest := []) C hl ml_X0_51 rc_37 (gX5_at l C.inj 37 11 row_37 (r8 + 1) σ9) ⟨Nat.le_of_ble_eq_true rfl, Nat.le_of_ble_eq_true rfl⟩ ⟨Nat.le_of_ble_eq_true rfl, Nat.le_of_ble_eq_true rfl⟩ rfl rfl (Nat.le_of_ble_eq_true rfl) dX0_changesOver_78 (fun r10 σ11 => ?_)
        refine r_istore (lv' := [(6, .int r10), (5, .int r6), (4, .int r2), (0, .ref (ad 30)), (1, .ref (ad 41)), (2, .int x2), (3, .int x3)]) C dX0_changesOver_81 hl (by decide) rfl (fun ls hl => ?_)
        refine r_iload C dX0_changesOver_83 (lv_at hl 1 rfl) ?_
        refine r_iload C dX0_changesOver_85 (lv_at hl 0 rfl) ?_
        refine r_iand C dX0_changesOver_87 ?_
        refine r_letv (fun v12 => ?_)
        refine r_istore (lv' := [(7, .int v12), (6, .int r10), (5, .int r6), (4, .int r2), (0, .ref (ad 30)), (1, .ref (ad 41)), (2, .int x2), (3, .int x3)]) C dX0_changesOver_88 hl (by decide) rfl (fun ls hl => ?_)
        refine r_iload C dX0_changesOver_90 (lv_at hl 0 rfl) ?_
        refine r_callSi (As := [.int v12]) (rest := []) C hl ml_X0_62 (gX0_emptyPlaces l C.inj v12 σ11) ⟨Nat.le_of_ble_eq_true rfl, Nat.le_of_ble_eq_true rfl⟩ ⟨Nat.le_of_ble_eq_true rfl, Nat.le_of_ble_eq_true rfl⟩ rfl rfl (Nat.le_of_ble_eq_true rfl) dX0_changesOver_92 (fun r13 σ14 => ?_)
        refine r_istore (lv' := [(8, .int r13), (7, .int v12), (6, .int r10), (5, .int r6), (4, .int r2), (0, .ref (ad 30)), (1, .ref (ad 41)), (2, .int x2), (3, .int x3)]) C dX0_changesOver_95 hl (by decide) rfl (fun ls hl => ?_)
        refine r_iload_n C dX0_changesOver_97 rfl (lv_at hl 7 rfl) ?_
        refine r_iload C dX0_changesOver_98 (lv_at hl 0 rfl) ?_
        refine r_callSi (As := [.int r13]) (rest := [.int x2]) C hl ml_X0_65 (gJ6_bitCount_0f7a4 l C.inj r13 σ14) ⟨Nat.le_of_ble_eq_true rfl, Nat.le_of_ble_eq_true rfl⟩ ⟨Nat.le_of_ble_eq_true rfl, Nat.le_of_ble_eq_true rfl⟩ rfl rfl (Nat.le_of_ble_eq_true rfl) dX0_changesOver_100 (fun r15 σ16 => ?_)
        refine r_iadd C dX0_changesOver_103 ?_
        refine r_letv (fun v17 => ?_)
        refine r_istore_n (lv' := [(2, .int v17), (8, .int r13), (7, .int v12), (6, .int r10), (5, .int r6), (4, .int r2), (0, .ref (ad 30)), (1, .ref (ad 41)), (3, .int x3)]) C dX0_changesOver_104 rfl hl (by decide) rfl (fun ls hl => ?_)
        refine r_aload_n C dX0_changesOver_105 rfl (lv_at hl 6 rfl) ?_
        refine r_getR C fl_X0_26 lf_30_3 dX0_changesOver_106 ?_
        refine r_iload_n C dX0_changesOver_109 rfl (lv_at hl 8 rfl) ?_
        refine r_iload C dX0_changesOver_110 (lv_at hl 2 rfl) ?_
        refine r_iload C dX0_changesOver_112 (lv_at hl 4 rfl) ?_
        refine r_iload C dX0_changesOver_114 (lv_at hl 3 rfl) ?_
        refine r_ior C dX0_changesOver_116 ?_
        refine r_iload C dX0_changesOver_117 (lv_at hl 1 rfl) ?_
        refine r_bipush (v := 15) C dX0_changesOver_119 (by decide) ?_
        refine r_imul C dX0_changesOver_121 ?_
        refine r_iand C dX0_changesOver_122 ?_
        refine r_ior C dX0_changesOver_123 ?_
        refine r_callVv (As := [.int x3, .int (v12 ||| ((r6 ||| r10) &&& (r13 * 15)))]) (rest := []) C hl ml_X0_45 rc_37 (gX5_put l C.inj 37 11 row_37 x3 (v12 ||| ((r6 ||| r10) &&& (r13 * 15))) σ16) ⟨Nat.le_of_ble_eq_true rfl, Nat.le_of_ble_eq_true rfl⟩ ⟨Nat.le_of_ble_eq_true rfl, Nat.le_of_ble_eq_true rfl⟩ rfl rfl (Nat.le_of_ble_eq_true rfl) dX0_changesOver_124 (fun r18 σ19 => ?_)
        refine r_iinc (v := x3 + (-1)) (lv' := [(3, .int (x3 + (-1))), (2, .int v17), (8, .int r13), (7, .int v12), (6, .int r10), (5, .int r6), (4, .int r2), (0, .ref (ad 30)), (1, .ref (ad 41))]) C dX0_changesOver_127 hl (k := 8) rfl rfl (by decide) rfl (fun ls hl => ?_)
        refine r_goto (tgt := 9) C dX0_changesOver_130 (by decide) ?_
        exact ih v17 (x3 + (-1)) σ19 ls (lv_sub hl [7, 8, 1, 0] rfl)
      · refine r_aload_n C dX0_changesOver_30 rfl (lv_at hl 1 rfl) ?_
        refine r_getR C fl_X0_26 lf_30_3 dX0_changesOver_31 ?_
        refine r_iload_n C dX0_changesOver_34 rfl (lv_at hl 4 rfl) ?_
        refine r_aload_n C dX0_changesOver_35 rfl (lv_at hl 2 rfl) ?_
        refine r_iload C dX0_changesOver_36 (lv_at hl 0 rfl) ?_
        refine r_callVi (As := [.int r2]) (rest := [.int x3, .ref (ad 37)]) C hl ml_X0_51 rc_41 (gX5_at l C.inj 41 6 row_41 r2 σ3) ⟨Nat.le_of_ble_eq_true rfl, Nat.le_of_ble_eq_true rfl⟩ ⟨Nat.le_of_ble_eq_true rfl, Nat.le_of_ble_eq_true rfl⟩ rfl rfl (Nat.le_of_ble_eq_true rfl) dX0_changesOver_38 (fun r20 σ21 => ?_)
        refine r_callVv (As := [.int x3, .int r20]) (rest := []) C hl ml_X0_45 rc_37 (gX5_put l C.inj 37 11 row_37 x3 r20 σ21) ⟨Nat.le_of_ble_eq_true rfl, Nat.le_of_ble_eq_true rfl⟩ ⟨Nat.le_of_ble_eq_true rfl, Nat.le_of_ble_eq_true rfl⟩ rfl rfl (Nat.le_of_ble_eq_true rfl) dX0_changesOver_41 (fun r22 σ23 => ?_)
        refine r_goto (tgt := 127) C dX0_changesOver_44 (by decide) ?_
        refine r_iinc (v := x3 + (-1)) (lv' := [(3, .int (x3 + (-1))), (4, .int r2), (0, .ref (ad 30)), (1, .ref (ad 41)), (2, .int x2)]) C dX0_changesOver_127 hl (k := 4) rfl rfl (by decide) rfl (fun ls hl => ?_)
        refine r_goto (tgt := 9) C dX0_changesOver_130 (by decide) ?_
        exact ih x2 (x3 + (-1)) σ23 ls (lv_sub hl [2, 3, 4, 0] rfl)
set_option maxRecDepth 100000 in
def fX0_changesOver (σ : Mem) : Option (Int32 × Mem) := letv ((σ 30 5) - 1) (fun v1 => LX0_changesOver_9 (fun x2 σ24 => some (x2, σ24)) 300 0 v1 σ)
set_option maxRecDepth 100000 in
set_option maxHeartbeats 4000000 in
theorem gX0_changesOver (l : Launch) {D : va_G} {cI cZ : ClassId} {ad : Nat → Nat} {tT : Nat} (hi : INJ ad) (σ : Mem) : GM l D cI cZ ad tT yX0_changesOver cX0_changesOver 9 (some .int) 1 22 rvi [.ref (ad 30), .ref (ad 41)] σ (fX0_changesOver σ) := by
  refine gm_of (lv := [(0, .ref (ad 30)), (1, .ref (ad 41))]) (own := RX0) hi (by decide +kernel) rfl (Nat.le_of_ble_eq_true rfl) rfl ?_
  intro p e s m args below meth c A C ls hl
  unfold fX0_changesOver
  refine r_iconst (v := 0) C dX0_changesOver_0 (by decide) ?_
  refine r_istore_n (lv' := [(2, .int 0), (0, .ref (ad 30)), (1, .ref (ad 41))]) C dX0_changesOver_1 rfl hl (by decide) rfl (fun ls hl => ?_)
  refine r_aload_n C dX0_changesOver_2 rfl (lv_at hl 1 rfl) ?_
  refine r_getI C fl_X0_32 lf_30_5 dX0_changesOver_3 ?_
  refine r_iconst (v := 1) C dX0_changesOver_6 (by decide) ?_
  refine r_isub C dX0_changesOver_7 ?_
  refine r_letv (fun v1 => ?_)
  refine r_istore_n (lv' := [(3, .int v1), (2, .int 0), (0, .ref (ad 30)), (1, .ref (ad 41))]) C dX0_changesOver_8 rfl hl (by decide) rfl (fun ls hl => ?_)
  refine wX0_changesOver_9  C _ ?_ 300 0 v1 σ ls (lv_sub hl [2, 3, 1, 0] rfl)
  · intro x2 σ24 ls hl
    refine r_iload_n C dX0_changesOver_133 rfl (lv_at hl 0 rfl) ?_
    exact r_iret C rfl dX0_changesOver_134

set_option maxRecDepth 100000 in
def BX0_costDown_7 (k63 : Int32 → Mem → Option (Int32 × Mem)) (rec : Int32 → Int32 → Int32 → Int32 → Mem → Option (Int32 × Mem)) (x1 : Int32) (x2 : Int32) (x3 : Int32) (x4 : Int32) (σ : Mem) : Option (Int32 × Mem) := if (4 : Int32) ≤ x4 then k63 x3 σ else jn (fun x1 x2 x3 x4 t0 σ1 => bnd (fX5_at 39 44 ((x1 * 4) + x4) σ1) (fun r2 σ3 => letv (mn x3 (r2 + t0)) (fun v4 => rec x1 x2 v4 (x4 + 1) σ3))) (fun k34 => if (x4 : Int32) = x2 then k34 x1 x2 x3 x4 0 σ else if (x4 : Int32) ≤ x2 then k34 x1 x2 x3 x4 2 σ else k34 x1 x2 x3 x4 1 σ)
def LX0_costDown_7 (k63 : Int32 → Mem → Option (Int32 × Mem)) : Nat → Int32 → Int32 → Int32 → Int32 → Mem → Option (Int32 × Mem)
  | 0 => fun _ _ _ _ _ => none
  | n + 1 => BX0_costDown_7 k63 (LX0_costDown_7 k63 n)
set_option maxRecDepth 100000 in
set_option maxHeartbeats 4000000 in
theorem wX0_costDown_7 {p : Program} {l : Launch} {e : Env} {s : State} {m : MethodId} {args : Array Value} {below : List Frame} {meth : Method} {c : Code} {D : va_G} {cI cZ : ClassId} {ad : Nat → Nat} {tT : Nat} {A : Nat → Prop} (C : CX p s m args meth c cX0_costDown 6 RX0 (some .int) D cI cZ ad tT A) (k63 : Int32 → Mem → Option (Int32 × Mem)) (hk63 : ∀ (x3 : Int32) (σ : Mem) (ls : Array Slot), lv_has ls 6 [(3, .int x3)] → WM p l e 1 21 s m args below meth c D cI cZ ad A rvi (k63 x3 σ) σ (F0 m 63 ls [])) :
    ∀ (n0 : Nat), ∀ (x1 : Int32) (x2 : Int32) (x3 : Int32) (x4 : Int32) (σ : Mem) (ls : Array Slot), lv_has ls 6 [(0, .ref (ad 30)), (1, .int x1), (2, .int x2), (3, .int x3), (4, .int x4)] → WM p l e 1 21 s m args below meth c D cI cZ ad A rvi (LX0_costDown_7 k63 n0 x1 x2 x3 x4 σ) σ (F0 m 7 ls []) := by
  intro n0
  induction n0 with
  | zero => intro x1 x2 x3 x4 σ ls hl; exact r_none
  | succ n0 ih =>
    intro x1 x2 x3 x4 σ ls hl
    show WM p l e 1 21 s m args below meth c D cI cZ ad A rvi (BX0_costDown_7 k63 (LX0_costDown_7 k63 n0) x1 x2 x3 x4 σ) σ (F0 m 7 ls [])
    unfold BX0_costDown_7
    refine r_iload C dX0_costDown_7 (lv_at hl 4 rfl) ?_
    refine r_iconst (v := 4) C dX0_costDown_9 (by decide) ?_
    refine r_icmp_ge (tgt := 63) C dX0_costDown_10 (by decide) ?_ ?_
    · exact hk63 x3 σ ls (lv_sub hl [3] rfl)
    · refine r_iload C dX0_costDown_13 (lv_at hl 4 rfl) ?_
      refine r_iload_n C dX0_costDown_15 rfl (lv_at hl 2 rfl) ?_
      refine r_jn (fun (k34 : Int32 → Int32 → Int32 → Int32 → Int32 → Mem → Option (Int32 × Mem)) => ∀ (x1 : Int32) (x2 : Int32) (x3 : Int32) (x4 : Int32) (t0 : Int32) (σ : Mem) (ls : Array Slot), lv_has ls 6 [(0, .ref (ad 30)), (1, .int x1), (2, .int x2), (3, .int x3), (4, .int x4)] → WM p l e 1 21 s m args below meth c D cI cZ ad A rvi (k34 x1 x2 x3 x4 t0 σ) σ (F0 m 34 ls [.int t0])) ?_ ?_
      · intro x1 x2 x3 x4 t0 σ1 ls hl
        refine r_istore (lv' := [(5, .int t0), (0, .ref (ad 30)), (1, .int x1), (2, .int x2), (3, .int x3), (4, .int x4)]) C dX0_costDown_34 hl (by decide) rfl (fun ls hl => ?_)
        refine r_iload_n C dX0_costDown_36 rfl (lv_at hl 4 rfl) ?_
        refine r_aload_n C dX0_costDown_37 rfl (lv_at hl 1 rfl) ?_
        refine r_getR C fl_X0_29 lf_30_4 dX0_costDown_38 ?_
        refine r_iload_n C dX0_costDown_41 rfl (lv_at hl 2 rfl) ?_
        refine r_iconst (v := 4) C dX0_costDown_42 (by decide) ?_
        refine r_imul C dX0_costDown_43 ?_
        refine r_iload C dX0_costDown_44 (lv_at hl 5 rfl) ?_
        refine r_iadd C dX0_costDown_46 ?_
        refine r_callVi (As := [.int ((x1 * 4) + x4)]) (rest := [.int x3]) C hl ml_X0_51 rc_39 (gX5_at l C.inj 39 44 row_39 ((x1 * 4) + x4) σ1) ⟨Nat.le_of_ble_eq_true rfl, Nat.le_of_ble_eq_true rfl⟩ ⟨Nat.le_of_ble_eq_true rfl, Nat.le_of_ble_eq_true rfl⟩ rfl rfl (Nat.le_of_ble_eq_true rfl) dX0_costDown_47 (fun r2 σ3 => ?_)
        refine r_iload C dX0_costDown_50 (lv_at hl 0 rfl) ?_
        refine r_iadd C dX0_costDown_52 ?_
        refine r_mmin2 C hl ml_X0_75 ⟨Nat.le_of_ble_eq_true rfl, Nat.le_of_ble_eq_true rfl, Nat.le_of_ble_eq_true rfl, Nat.le_of_ble_eq_true rfl⟩ dX0_costDown_53 ?_
        refine r_letv (fun v4 => ?_)
        refine r_istore_n (lv' := [(3, .int v4), (5, .int t0), (0, .ref (ad 30)), (1, .int x1), (2, .int x2), (4, .int x4)]) C dX0_costDown_56 rfl hl (by decide) rfl (fun ls hl => ?_)
        refine r_iinc (v := x4 + 1) (lv' := [(4, .int (x4 + 1)), (3, .int v4), (5, .int t0), (0, .ref (ad 30)), (1, .int x1), (2, .int x2)]) C dX0_costDown_57 hl (k := 5) rfl rfl (by decide) rfl (fun ls hl => ?_)
        refine r_goto (tgt := 7) C dX0_costDown_60 (by decide) ?_
        exact ih x1 x2 v4 (x4 + 1) σ3 ls (lv_sub hl [3, 4, 5, 1, 0] rfl)
      · intro k34 hk34
        refine r_icmp_ne (tgt := 23) C dX0_costDown_16 (by decide) ?_ ?_
        · refine r_iload C dX0_costDown_23 (lv_at hl 4 rfl) ?_
          refine r_iload_n C dX0_costDown_25 rfl (lv_at hl 2 rfl) ?_
          refine r_icmp_le (tgt := 33) C dX0_costDown_26 (by decide) ?_ ?_
          · refine r_iconst (v := 2) C dX0_costDown_33 (by decide) ?_
            exact hk34 x1 x2 x3 x4 2 σ ls (lv_sub hl [0, 1, 2, 3, 4] rfl)
          · refine r_iconst (v := 1) C dX0_costDown_29 (by decide) ?_
            refine r_goto (tgt := 34) C dX0_costDown_30 (by decide) ?_
            exact hk34 x1 x2 x3 x4 1 σ ls (lv_sub hl [0, 1, 2, 3, 4] rfl)
        · refine r_iconst (v := 0) C dX0_costDown_19 (by decide) ?_
          refine r_goto (tgt := 34) C dX0_costDown_20 (by decide) ?_
          exact hk34 x1 x2 x3 x4 0 σ ls (lv_sub hl [0, 1, 2, 3, 4] rfl)
set_option maxRecDepth 100000 in
def fX0_costDown (x1 : Int32) (x2 : Int32) (σ : Mem) : Option (Int32 × Mem) := LX0_costDown_7 (fun x3 σ5 => some (x3, σ5)) 300 x1 x2 1000 0 σ
set_option maxRecDepth 100000 in
set_option maxHeartbeats 4000000 in
theorem gX0_costDown (l : Launch) {D : va_G} {cI cZ : ClassId} {ad : Nat → Nat} {tT : Nat} (hi : INJ ad) (x1 : Int32) (x2 : Int32) (σ : Mem) : GM l D cI cZ ad tT yX0_costDown cX0_costDown 6 (some .int) 1 21 rvi [.ref (ad 30), .int x1, .int x2] σ (fX0_costDown x1 x2 σ) := by
  refine gm_of (lv := [(0, .ref (ad 30)), (1, .int x1), (2, .int x2)]) (own := RX0) hi (by decide +kernel) rfl (Nat.le_of_ble_eq_true rfl) rfl ?_
  intro p e s m args below meth c A C ls hl
  unfold fX0_costDown
  refine r_sipush (v := 1000) C dX0_costDown_0 (by decide) ?_
  refine r_istore_n (lv' := [(3, .int 1000), (0, .ref (ad 30)), (1, .int x1), (2, .int x2)]) C dX0_costDown_3 rfl hl (by decide) rfl (fun ls hl => ?_)
  refine r_iconst (v := 0) C dX0_costDown_4 (by decide) ?_
  refine r_istore (lv' := [(4, .int 0), (3, .int 1000), (0, .ref (ad 30)), (1, .int x1), (2, .int x2)]) C dX0_costDown_5 hl (by decide) rfl (fun ls hl => ?_)
  refine wX0_costDown_7  C _ ?_ 300 x1 x2 1000 0 σ ls (lv_sub hl [2, 3, 4, 1, 0] rfl)
  · intro x3 σ5 ls hl
    refine r_iload_n C dX0_costDown_63 rfl (lv_at hl 0 rfl) ?_
    exact r_iret C rfl dX0_costDown_64

set_option maxRecDepth 100000 in
def fX0_costOf (x1 : Int32) (x2 : Int32) (x3 : Int32) (σ : Mem) : Option (Int32 × Mem) := bnd (fX5_at 31 11 x1 σ) (fun r1 σ2 => if (6 : Int32) ≤ r1 then bnd (fX5_at 35 11 x1 σ2) (fun r3 σ4 => bnd (fX0_costDown r3 x2 σ4) (fun r5 σ6 => bnd (fX5_at 35 11 x1 σ6) (fun r7 σ8 => bnd (fX0_costDown (r7 + 1) x2 σ8) (fun r9 σ10 => some (r5 + r9, σ10))))) else bnd (fX5_at 41 6 r1 σ2) (fun r11 σ12 => bnd (fX8_bitOf x3 x2 σ12) (fun r13 σ14 => if (r11 &&& r13 : Int32) = 0 then some (1000, σ14) else some (0, σ14))))
set_option maxRecDepth 100000 in
set_option maxHeartbeats 4000000 in
theorem gX0_costOf (l : Launch) {D : va_G} {cI cZ : ClassId} {ad : Nat → Nat} {tT : Nat} (hi : INJ ad) (x1 : Int32) (x2 : Int32) (x3 : Int32) (σ : Mem) : GM l D cI cZ ad tT yX0_costOf cX0_costOf 6 (some .int) 2 46 rvi [.ref (ad 30), .int x1, .int x2, .int x3, .ref (ad 41)] σ (fX0_costOf x1 x2 x3 σ) := by
  refine gm_of (lv := [(0, .ref (ad 30)), (1, .int x1), (2, .int x2), (3, .int x3), (4, .ref (ad 41))]) (own := RX0) hi (by decide +kernel) rfl (Nat.le_of_ble_eq_true rfl) rfl ?_
  intro p e s m args below meth c A C ls hl
  unfold fX0_costOf
  refine r_aload_n C dX0_costOf_0 rfl (lv_at hl 0 rfl) ?_
  refine r_getR C fl_X0_14 lf_30_0 dX0_costOf_1 ?_
  refine r_iload_n C dX0_costOf_4 rfl (lv_at hl 1 rfl) ?_
  refine r_callVi (As := [.int x1]) (rest := []) C hl ml_X0_51 rc_31 (gX5_at l C.inj 31 11 row_31 x1 σ) ⟨Nat.le_of_ble_eq_true rfl, Nat.le_of_ble_eq_true rfl⟩ ⟨Nat.le_of_ble_eq_true rfl, Nat.le_of_ble_eq_true rfl⟩ rfl rfl (Nat.le_of_ble_eq_true rfl) dX0_costOf_5 (fun r1 σ2 => ?_)
  refine r_istore (lv' := [(5, .int r1), (0, .ref (ad 30)), (1, .int x1), (2, .int x2), (3, .int x3), (4, .ref (ad 41))]) C dX0_costOf_8 hl (by decide) rfl (fun ls hl => ?_)
  refine r_iload C dX0_costOf_10 (lv_at hl 0 rfl) ?_
  refine r_bipush (v := 6) C dX0_costOf_12 (by decide) ?_
  refine r_icmp_ge (tgt := 41) C dX0_costOf_14 (by decide) ?_ ?_
  · refine r_aload_n C dX0_costOf_41 rfl (lv_at hl 1 rfl) ?_
    refine r_aload_n C dX0_costOf_42 rfl (lv_at hl 1 rfl) ?_
    refine r_getR C fl_X0_23 lf_30_2 dX0_costOf_43 ?_
    refine r_iload_n C dX0_costOf_46 rfl (lv_at hl 2 rfl) ?_
    refine r_callVi (As := [.int x1]) (rest := [.ref (ad 30)]) C hl ml_X0_51 rc_35 (gX5_at l C.inj 35 11 row_35 x1 σ2) ⟨Nat.le_of_ble_eq_true rfl, Nat.le_of_ble_eq_true rfl⟩ ⟨Nat.le_of_ble_eq_true rfl, Nat.le_of_ble_eq_true rfl⟩ rfl rfl (Nat.le_of_ble_eq_true rfl) dX0_costOf_47 (fun r3 σ4 => ?_)
    refine r_iload_n C dX0_costOf_50 rfl (lv_at hl 3 rfl) ?_
    refine r_callVi (As := [.int r3, .int x2]) (rest := []) C hl ml_X0_84 rc_30 (gX0_costDown l C.inj r3 x2 σ4) ⟨Nat.le_of_ble_eq_true rfl, Nat.le_of_ble_eq_true rfl⟩ ⟨Nat.le_of_ble_eq_true rfl, Nat.le_of_ble_eq_true rfl⟩ rfl rfl (Nat.le_of_ble_eq_true rfl) dX0_costOf_51 (fun r5 σ6 => ?_)
    refine r_aload_n C dX0_costOf_54 rfl (lv_at hl 1 rfl) ?_
    refine r_aload_n C dX0_costOf_55 rfl (lv_at hl 1 rfl) ?_
    refine r_getR C fl_X0_23 lf_30_2 dX0_costOf_56 ?_
    refine r_iload_n C dX0_costOf_59 rfl (lv_at hl 2 rfl) ?_
    refine r_callVi (As := [.int x1]) (rest := [.ref (ad 30), .int r5]) C hl ml_X0_51 rc_35 (gX5_at l C.inj 35 11 row_35 x1 σ6) ⟨Nat.le_of_ble_eq_true rfl, Nat.le_of_ble_eq_true rfl⟩ ⟨Nat.le_of_ble_eq_true rfl, Nat.le_of_ble_eq_true rfl⟩ rfl rfl (Nat.le_of_ble_eq_true rfl) dX0_costOf_60 (fun r7 σ8 => ?_)
    refine r_iconst (v := 1) C dX0_costOf_63 (by decide) ?_
    refine r_iadd C dX0_costOf_64 ?_
    refine r_iload_n C dX0_costOf_65 rfl (lv_at hl 3 rfl) ?_
    refine r_callVi (As := [.int (r7 + 1), .int x2]) (rest := [.int r5]) C hl ml_X0_84 rc_30 (gX0_costDown l C.inj (r7 + 1) x2 σ8) ⟨Nat.le_of_ble_eq_true rfl, Nat.le_of_ble_eq_true rfl⟩ ⟨Nat.le_of_ble_eq_true rfl, Nat.le_of_ble_eq_true rfl⟩ rfl rfl (Nat.le_of_ble_eq_true rfl) dX0_costOf_66 (fun r9 σ10 => ?_)
    refine r_iadd C dX0_costOf_69 ?_
    exact r_iret C rfl dX0_costOf_70
  · refine r_aload C dX0_costOf_17 (lv_at hl 5 rfl) ?_
    refine r_iload C dX0_costOf_19 (lv_at hl 0 rfl) ?_
    refine r_callVi (As := [.int r1]) (rest := []) C hl ml_X0_51 rc_41 (gX5_at l C.inj 41 6 row_41 r1 σ2) ⟨Nat.le_of_ble_eq_true rfl, Nat.le_of_ble_eq_true rfl⟩ ⟨Nat.le_of_ble_eq_true rfl, Nat.le_of_ble_eq_true rfl⟩ rfl rfl (Nat.le_of_ble_eq_true rfl) dX0_costOf_21 (fun r11 σ12 => ?_)
    refine r_iload_n C dX0_costOf_24 rfl (lv_at hl 4 rfl) ?_
    refine r_iload_n C dX0_costOf_25 rfl (lv_at hl 3 rfl) ?_
    refine r_callNi (As := [.int x3, .int x2]) (rest := [.int r11]) C hl ml_X0_81 (gX8_bitOf l C.inj x3 x2 σ12) ⟨Nat.le_of_ble_eq_true rfl, Nat.le_of_ble_eq_true rfl⟩ ⟨Nat.le_of_ble_eq_true rfl, Nat.le_of_ble_eq_true rfl⟩ rfl rfl (Nat.le_of_ble_eq_true rfl) dX0_costOf_26 (fun r13 σ14 => ?_)
    refine r_iand C dX0_costOf_29 ?_
    refine r_if_eq (tgt := 37) C dX0_costOf_30 (by decide) ?_ ?_
    · refine r_sipush (v := 1000) C dX0_costOf_37 (by decide) ?_
      exact r_iret C rfl dX0_costOf_40
    · refine r_iconst (v := 0) C dX0_costOf_33 (by decide) ?_
      refine r_goto (tgt := 40) C dX0_costOf_34 (by decide) ?_
      exact r_iret C rfl dX0_costOf_40

set_option maxRecDepth 100000 in
def BX0_costAt_14 (k48 : Int32 → Int32 → Mem → Option (Int32 × Mem)) (rec : Int32 → Int32 → Int32 → Mem → Option (Int32 × Mem)) (x1 : Int32) (x3 : Int32) (x4 : Int32) (σ : Mem) : Option (Int32 × Mem) := if (4 : Int32) ≤ x4 then k48 x1 x3 σ else bnd (fX0_costOf x3 x4 x1 σ) (fun r2 σ3 => bnd (fX5_put 39 44 ((x3 * 4) + x4) r2 σ3) (fun r4 σ5 => rec x1 x3 (x4 + 1) σ5))
def LX0_costAt_14 (k48 : Int32 → Int32 → Mem → Option (Int32 × Mem)) : Nat → Int32 → Int32 → Int32 → Mem → Option (Int32 × Mem)
  | 0 => fun _ _ _ _ => none
  | n + 1 => BX0_costAt_14 k48 (LX0_costAt_14 k48 n)
set_option maxRecDepth 100000 in
set_option maxHeartbeats 4000000 in
theorem wX0_costAt_14 {p : Program} {l : Launch} {e : Env} {s : State} {m : MethodId} {args : Array Value} {below : List Frame} {meth : Method} {c : Code} {D : va_G} {cI cZ : ClassId} {ad : Nat → Nat} {tT : Nat} {A : Nat → Prop} (C : CX p s m args meth c cX0_costAt 5 RX0 (some .int) D cI cZ ad tT A) (k48 : Int32 → Int32 → Mem → Option (Int32 × Mem)) (hk48 : ∀ (x1 : Int32) (x3 : Int32) (σ : Mem) (ls : Array Slot), lv_has ls 5 [(0, .ref (ad 30)), (1, .int x1), (2, .ref (ad 41)), (3, .int x3)] → WM p l e 3 71 s m args below meth c D cI cZ ad A rvi (k48 x1 x3 σ) σ (F0 m 48 ls [])) :
    ∀ (n0 : Nat), ∀ (x1 : Int32) (x3 : Int32) (x4 : Int32) (σ : Mem) (ls : Array Slot), lv_has ls 5 [(0, .ref (ad 30)), (1, .int x1), (2, .ref (ad 41)), (3, .int x3), (4, .int x4)] → WM p l e 3 71 s m args below meth c D cI cZ ad A rvi (LX0_costAt_14 k48 n0 x1 x3 x4 σ) σ (F0 m 14 ls []) := by
  intro n0
  induction n0 with
  | zero => intro x1 x3 x4 σ ls hl; exact r_none
  | succ n0 ih =>
    intro x1 x3 x4 σ ls hl
    show WM p l e 3 71 s m args below meth c D cI cZ ad A rvi (BX0_costAt_14 k48 (LX0_costAt_14 k48 n0) x1 x3 x4 σ) σ (F0 m 14 ls [])
    unfold BX0_costAt_14
    refine r_iload C dX0_costAt_14 (lv_at hl 4 rfl) ?_
    refine r_iconst (v := 4) C dX0_costAt_16 (by decide) ?_
    refine r_icmp_ge (tgt := 48) C dX0_costAt_17 (by decide) ?_ ?_
    · exact hk48 x1 x3 σ ls (lv_sub hl [0, 1, 2, 3] rfl)
    · refine r_aload_n C dX0_costAt_20 rfl (lv_at hl 0 rfl) ?_
      refine r_getR C fl_X0_29 lf_30_4 dX0_costAt_21 ?_
      refine r_iload_n C dX0_costAt_24 rfl (lv_at hl 3 rfl) ?_
      refine r_iconst (v := 4) C dX0_costAt_25 (by decide) ?_
      refine r_imul C dX0_costAt_26 ?_
      refine r_iload C dX0_costAt_27 (lv_at hl 4 rfl) ?_
      refine r_iadd C dX0_costAt_29 ?_
      refine r_aload_n C dX0_costAt_30 rfl (lv_at hl 0 rfl) ?_
      refine r_iload_n C dX0_costAt_31 rfl (lv_at hl 3 rfl) ?_
      refine r_iload C dX0_costAt_32 (lv_at hl 4 rfl) ?_
      refine r_iload_n C dX0_costAt_34 rfl (lv_at hl 1 rfl) ?_
      refine r_aload_n C dX0_costAt_35 rfl (lv_at hl 2 rfl) ?_
      refine r_callVi (As := [.int x3, .int x4, .int x1, .ref (ad 41)]) (rest := [.int ((x3 * 4) + x4), .ref (ad 39)]) C hl ml_X0_71 rc_30 (gX0_costOf l C.inj x3 x4 x1 σ) ⟨Nat.le_of_ble_eq_true rfl, Nat.le_of_ble_eq_true rfl⟩ ⟨Nat.le_of_ble_eq_true rfl, Nat.le_of_ble_eq_true rfl⟩ rfl rfl (Nat.le_of_ble_eq_true rfl) dX0_costAt_36 (fun r2 σ3 => ?_)
      refine r_callVv (As := [.int ((x3 * 4) + x4), .int r2]) (rest := []) C hl ml_X0_45 rc_39 (gX5_put l C.inj 39 44 row_39 ((x3 * 4) + x4) r2 σ3) ⟨Nat.le_of_ble_eq_true rfl, Nat.le_of_ble_eq_true rfl⟩ ⟨Nat.le_of_ble_eq_true rfl, Nat.le_of_ble_eq_true rfl⟩ rfl rfl (Nat.le_of_ble_eq_true rfl) dX0_costAt_39 (fun r4 σ5 => ?_)
      refine r_iinc (v := x4 + 1) (lv' := [(4, .int (x4 + 1)), (0, .ref (ad 30)), (1, .int x1), (2, .ref (ad 41)), (3, .int x3)]) C dX0_costAt_42 hl (k := 4) rfl rfl (by decide) rfl (fun ls hl => ?_)
      refine r_goto (tgt := 14) C dX0_costAt_45 (by decide) ?_
      exact ih x1 x3 (x4 + 1) σ5 ls (lv_sub hl [1, 2, 3, 4, 0] rfl)
set_option maxRecDepth 100000 in
def BX0_costAt_7 (k54 : Mem → Option (Int32 × Mem)) (rec : Int32 → Int32 → Mem → Option (Int32 × Mem)) (x1 : Int32) (x3 : Int32) (σ : Mem) : Option (Int32 × Mem) := if (x3 : Int32) < 0 then k54 σ else LX0_costAt_14 (fun x1 x3 σ6 => rec x1 (x3 + (-1)) σ6) 300 x1 x3 0 σ
def LX0_costAt_7 (k54 : Mem → Option (Int32 × Mem)) : Nat → Int32 → Int32 → Mem → Option (Int32 × Mem)
  | 0 => fun _ _ _ => none
  | n + 1 => BX0_costAt_7 k54 (LX0_costAt_7 k54 n)
set_option maxRecDepth 100000 in
set_option maxHeartbeats 4000000 in
theorem wX0_costAt_7 {p : Program} {l : Launch} {e : Env} {s : State} {m : MethodId} {args : Array Value} {below : List Frame} {meth : Method} {c : Code} {D : va_G} {cI cZ : ClassId} {ad : Nat → Nat} {tT : Nat} {A : Nat → Prop} (C : CX p s m args meth c cX0_costAt 5 RX0 (some .int) D cI cZ ad tT A) (k54 : Mem → Option (Int32 × Mem)) (hk54 : ∀ (σ : Mem) (ls : Array Slot), lv_has ls 5 [(0, .ref (ad 30))] → WM p l e 3 71 s m args below meth c D cI cZ ad A rvi (k54 σ) σ (F0 m 54 ls [])) :
    ∀ (n0 : Nat), ∀ (x1 : Int32) (x3 : Int32) (σ : Mem) (ls : Array Slot), lv_has ls 5 [(0, .ref (ad 30)), (1, .int x1), (2, .ref (ad 41)), (3, .int x3)] → WM p l e 3 71 s m args below meth c D cI cZ ad A rvi (LX0_costAt_7 k54 n0 x1 x3 σ) σ (F0 m 7 ls []) := by
  intro n0
  induction n0 with
  | zero => intro x1 x3 σ ls hl; exact r_none
  | succ n0 ih =>
    intro x1 x3 σ ls hl
    show WM p l e 3 71 s m args below meth c D cI cZ ad A rvi (BX0_costAt_7 k54 (LX0_costAt_7 k54 n0) x1 x3 σ) σ (F0 m 7 ls [])
    unfold BX0_costAt_7
    refine r_iload_n C dX0_costAt_7 rfl (lv_at hl 3 rfl) ?_
    refine r_if_lt (tgt := 54) C dX0_costAt_8 (by decide) ?_ ?_
    · exact hk54 σ ls (lv_sub hl [0] rfl)
    · refine r_iconst (v := 0) C dX0_costAt_11 (by decide) ?_
      refine r_istore (lv' := [(4, .int 0), (0, .ref (ad 30)), (1, .int x1), (2, .ref (ad 41)), (3, .int x3)]) C dX0_costAt_12 hl (by decide) rfl (fun ls hl => ?_)
      refine wX0_costAt_14  C _ ?_ 300 x1 x3 0 σ ls (lv_sub hl [1, 2, 3, 4, 0] rfl)
      · intro x1 x3 σ6 ls hl
        refine r_iinc (v := x3 + (-1)) (lv' := [(3, .int (x3 + (-1))), (0, .ref (ad 30)), (1, .int x1), (2, .ref (ad 41))]) C dX0_costAt_48 hl (k := 3) rfl rfl (by decide) rfl (fun ls hl => ?_)
        refine r_goto (tgt := 7) C dX0_costAt_51 (by decide) ?_
        exact ih x1 (x3 + (-1)) σ6 ls (lv_sub hl [1, 2, 3, 0] rfl)
set_option maxRecDepth 100000 in
def BX0_costAt_61 (k87 : Int32 → Mem → Option (Int32 × Mem)) (rec : Int32 → Int32 → Mem → Option (Int32 × Mem)) (x3 : Int32) (x4 : Int32) (σ : Mem) : Option (Int32 × Mem) := if (4 : Int32) ≤ x4 then k87 x3 σ else bnd (fX5_at 39 44 x4 σ) (fun r8 σ9 => letv (mn x3 r8) (fun v10 => rec v10 (x4 + 1) σ9))
def LX0_costAt_61 (k87 : Int32 → Mem → Option (Int32 × Mem)) : Nat → Int32 → Int32 → Mem → Option (Int32 × Mem)
  | 0 => fun _ _ _ => none
  | n + 1 => BX0_costAt_61 k87 (LX0_costAt_61 k87 n)
set_option maxRecDepth 100000 in
set_option maxHeartbeats 4000000 in
theorem wX0_costAt_61 {p : Program} {l : Launch} {e : Env} {s : State} {m : MethodId} {args : Array Value} {below : List Frame} {meth : Method} {c : Code} {D : va_G} {cI cZ : ClassId} {ad : Nat → Nat} {tT : Nat} {A : Nat → Prop} (C : CX p s m args meth c cX0_costAt 5 RX0 (some .int) D cI cZ ad tT A) (k87 : Int32 → Mem → Option (Int32 × Mem)) (hk87 : ∀ (x3 : Int32) (σ : Mem) (ls : Array Slot), lv_has ls 5 [(3, .int x3)] → WM p l e 3 71 s m args below meth c D cI cZ ad A rvi (k87 x3 σ) σ (F0 m 87 ls [])) :
    ∀ (n0 : Nat), ∀ (x3 : Int32) (x4 : Int32) (σ : Mem) (ls : Array Slot), lv_has ls 5 [(0, .ref (ad 30)), (3, .int x3), (4, .int x4)] → WM p l e 3 71 s m args below meth c D cI cZ ad A rvi (LX0_costAt_61 k87 n0 x3 x4 σ) σ (F0 m 61 ls []) := by
  intro n0
  induction n0 with
  | zero => intro x3 x4 σ ls hl; exact r_none
  | succ n0 ih =>
    intro x3 x4 σ ls hl
    show WM p l e 3 71 s m args below meth c D cI cZ ad A rvi (BX0_costAt_61 k87 (LX0_costAt_61 k87 n0) x3 x4 σ) σ (F0 m 61 ls [])
    unfold BX0_costAt_61
    refine r_iload C dX0_costAt_61 (lv_at hl 2 rfl) ?_
    refine r_iconst (v := 4) C dX0_costAt_63 (by decide) ?_
    refine r_icmp_ge (tgt := 87) C dX0_costAt_64 (by decide) ?_ ?_
    · exact hk87 x3 σ ls (lv_sub hl [1] rfl)
    · refine r_iload_n C dX0_costAt_67 rfl (lv_at hl 1 rfl) ?_
      refine r_aload_n C dX0_costAt_68 rfl (lv_at hl 0 rfl) ?_
      refine r_getR C fl_X0_29 lf_30_4 dX0_costAt_69 ?_
      refine r_iload C dX0_costAt_72 (lv_at hl 2 rfl) ?_
      refine r_callVi (As := [.int x4]) (rest := [.int x3]) C hl ml_X0_51 rc_39 (gX5_at l C.inj 39 44 row_39 x4 σ) ⟨Nat.le_of_ble_eq_true rfl, Nat.le_of_ble_eq_true rfl⟩ ⟨Nat.le_of_ble_eq_true rfl, Nat.le_of_ble_eq_true rfl⟩ rfl rfl (Nat.le_of_ble_eq_true rfl) dX0_costAt_74 (fun r8 σ9 => ?_)
      refine r_mmin2 C hl ml_X0_75 ⟨Nat.le_of_ble_eq_true rfl, Nat.le_of_ble_eq_true rfl, Nat.le_of_ble_eq_true rfl, Nat.le_of_ble_eq_true rfl⟩ dX0_costAt_77 ?_
      refine r_letv (fun v10 => ?_)
      refine r_istore_n (lv' := [(3, .int v10), (0, .ref (ad 30)), (4, .int x4)]) C dX0_costAt_80 rfl hl (by decide) rfl (fun ls hl => ?_)
      refine r_iinc (v := x4 + 1) (lv' := [(4, .int (x4 + 1)), (3, .int v10), (0, .ref (ad 30))]) C dX0_costAt_81 hl (k := 2) rfl rfl (by decide) rfl (fun ls hl => ?_)
      refine r_goto (tgt := 61) C dX0_costAt_84 (by decide) ?_
      exact ih v10 (x4 + 1) σ9 ls (lv_sub hl [2, 1, 0] rfl)
set_option maxRecDepth 100000 in
def fX0_costAt (x1 : Int32) (σ : Mem) : Option (Int32 × Mem) := letv ((σ 30 5) - 1) (fun v1 => LX0_costAt_7 (fun σ7 => LX0_costAt_61 (fun x3 σ11 => some (x3, σ11)) 300 1000 0 σ7) 300 x1 v1 σ)
set_option maxRecDepth 100000 in
set_option maxHeartbeats 4000000 in
theorem gX0_costAt (l : Launch) {D : va_G} {cI cZ : ClassId} {ad : Nat → Nat} {tT : Nat} (hi : INJ ad) (x1 : Int32) (σ : Mem) : GM l D cI cZ ad tT yX0_costAt cX0_costAt 5 (some .int) 3 71 rvi [.ref (ad 30), .int x1, .ref (ad 41)] σ (fX0_costAt x1 σ) := by
  refine gm_of (lv := [(0, .ref (ad 30)), (1, .int x1), (2, .ref (ad 41))]) (own := RX0) hi (by decide +kernel) rfl (Nat.le_of_ble_eq_true rfl) rfl ?_
  intro p e s m args below meth c A C ls hl
  unfold fX0_costAt
  refine r_aload_n C dX0_costAt_0 rfl (lv_at hl 0 rfl) ?_
  refine r_getI C fl_X0_32 lf_30_5 dX0_costAt_1 ?_
  refine r_iconst (v := 1) C dX0_costAt_4 (by decide) ?_
  refine r_isub C dX0_costAt_5 ?_
  refine r_letv (fun v1 => ?_)
  refine r_istore_n (lv' := [(3, .int v1), (0, .ref (ad 30)), (1, .int x1), (2, .ref (ad 41))]) C dX0_costAt_6 rfl hl (by decide) rfl (fun ls hl => ?_)
  refine wX0_costAt_7  C _ ?_ 300 x1 v1 σ ls (lv_sub hl [1, 2, 3, 0] rfl)
  · intro σ7 ls hl
    refine r_sipush (v := 1000) C dX0_costAt_54 (by decide) ?_
    refine r_istore_n (lv' := [(3, .int 1000), (0, .ref (ad 30))]) C dX0_costAt_57 rfl hl (by decide) rfl (fun ls hl => ?_)
    refine r_iconst (v := 0) C dX0_costAt_58 (by decide) ?_
    refine r_istore (lv' := [(4, .int 0), (3, .int 1000), (0, .ref (ad 30))]) C dX0_costAt_59 hl (by decide) rfl (fun ls hl => ?_)
    refine wX0_costAt_61  C _ ?_ 300 1000 0 σ7 ls (lv_sub hl [2, 1, 0] rfl)
    · intro x3 σ11 ls hl
      refine r_iload_n C dX0_costAt_87 rfl (lv_at hl 0 rfl) ?_
      exact r_iret C rfl dX0_costAt_88

set_option maxRecDepth 100000 in
def BX3_compare_16 (k77 : Int32 → Int32 → Int32 → Mem → Option (Int32 × Mem)) (rec : Int32 → Int32 → Int32 → Int32 → Mem → Option (Int32 × Mem)) (x2 : Int32) (x3 : Int32) (x4 : Int32) (x5 : Int32) (σ : Mem) : Option (Int32 × Mem) := if (σ 4 2 : Int32) ≤ x5 then k77 x2 x3 x4 σ else bnd (fX4_at 4 x2 x5 σ) (fun r1 σ2 => bnd (fX4_at 4 x3 x5 σ2) (fun r3 σ4 => if (r1 : Int32) = 4 then rec x2 x3 x4 (x5 + 1) σ4 else if (r3 : Int32) = 4 then rec x2 x3 x4 (x5 + 1) σ4 else if (r1 : Int32) = r3 then rec x2 x3 x4 (x5 + 1) σ4 else letv (x4 ||| ((1 : Int32) <<< (x5 &&& 31))) (fun v5 => rec x2 x3 v5 (x5 + 1) σ4)))
def LX3_compare_16 (k77 : Int32 → Int32 → Int32 → Mem → Option (Int32 × Mem)) : Nat → Int32 → Int32 → Int32 → Int32 → Mem → Option (Int32 × Mem)
  | 0 => fun _ _ _ _ _ => none
  | n + 1 => BX3_compare_16 k77 (LX3_compare_16 k77 n)
set_option maxRecDepth 100000 in
set_option maxHeartbeats 4000000 in
theorem wX3_compare_16 {p : Program} {l : Launch} {e : Env} {s : State} {m : MethodId} {args : Array Value} {below : List Frame} {meth : Method} {c : Code} {D : va_G} {cI cZ : ClassId} {ad : Nat → Nat} {tT : Nat} {A : Nat → Prop} (C : CX p s m args meth c cX3_compare 8 RX3 (none) D cI cZ ad tT A) (k77 : Int32 → Int32 → Int32 → Mem → Option (Int32 × Mem)) (hk77 : ∀ (x2 : Int32) (x3 : Int32) (x4 : Int32) (σ : Mem) (ls : Array Slot), lv_has ls 8 [(0, .ref (ad 47)), (1, .ref (ad 4)), (2, .int x2), (3, .int x3), (4, .int x4)] → WM p l e 3 65 s m args below meth c D cI cZ ad A rvv (k77 x2 x3 x4 σ) σ (F0 m 77 ls [])) :
    ∀ (n0 : Nat), ∀ (x2 : Int32) (x3 : Int32) (x4 : Int32) (x5 : Int32) (σ : Mem) (ls : Array Slot), lv_has ls 8 [(0, .ref (ad 47)), (1, .ref (ad 4)), (2, .int x2), (3, .int x3), (4, .int x4), (5, .int x5)] → WM p l e 3 65 s m args below meth c D cI cZ ad A rvv (LX3_compare_16 k77 n0 x2 x3 x4 x5 σ) σ (F0 m 16 ls []) := by
  intro n0
  induction n0 with
  | zero => intro x2 x3 x4 x5 σ ls hl; exact r_none
  | succ n0 ih =>
    intro x2 x3 x4 x5 σ ls hl
    show WM p l e 3 65 s m args below meth c D cI cZ ad A rvv (BX3_compare_16 k77 (LX3_compare_16 k77 n0) x2 x3 x4 x5 σ) σ (F0 m 16 ls [])
    unfold BX3_compare_16
    refine r_iload C dX3_compare_16 (lv_at hl 5 rfl) ?_
    refine r_aload_n C dX3_compare_18 rfl (lv_at hl 1 rfl) ?_
    refine r_getIN C fn_X3_26 lf_4_2 dX3_compare_19 ?_
    refine r_icmp_ge (tgt := 77) C dX3_compare_22 (by decide) ?_ ?_
    · exact hk77 x2 x3 x4 σ ls (lv_sub hl [0, 1, 2, 3, 4] rfl)
    · refine r_aload_n C dX3_compare_25 rfl (lv_at hl 1 rfl) ?_
      refine r_iload_n C dX3_compare_26 rfl (lv_at hl 2 rfl) ?_
      refine r_iload C dX3_compare_27 (lv_at hl 5 rfl) ?_
      refine r_callVi (As := [.int x2, .int x5]) (rest := []) C hl ml_X3_29 rc_4 (gX4_at l C.inj 4 rdg_4 x2 x5 σ) ⟨Nat.le_of_ble_eq_true rfl, Nat.le_of_ble_eq_true rfl⟩ ⟨Nat.le_of_ble_eq_true rfl, Nat.le_of_ble_eq_true rfl⟩ rfl rfl (Nat.le_of_ble_eq_true rfl) dX3_compare_29 (fun r1 σ2 => ?_)
      refine r_istore (lv' := [(6, .int r1), (0, .ref (ad 47)), (1, .ref (ad 4)), (2, .int x2), (3, .int x3), (4, .int x4), (5, .int x5)]) C dX3_compare_32 hl (by decide) rfl (fun ls hl => ?_)
      refine r_aload_n C dX3_compare_34 rfl (lv_at hl 2 rfl) ?_
      refine r_iload_n C dX3_compare_35 rfl (lv_at hl 4 rfl) ?_
      refine r_iload C dX3_compare_36 (lv_at hl 6 rfl) ?_
      refine r_callVi (As := [.int x3, .int x5]) (rest := []) C hl ml_X3_29 rc_4 (gX4_at l C.inj 4 rdg_4 x3 x5 σ2) ⟨Nat.le_of_ble_eq_true rfl, Nat.le_of_ble_eq_true rfl⟩ ⟨Nat.le_of_ble_eq_true rfl, Nat.le_of_ble_eq_true rfl⟩ rfl rfl (Nat.le_of_ble_eq_true rfl) dX3_compare_38 (fun r3 σ4 => ?_)
      refine r_istore (lv' := [(7, .int r3), (6, .int r1), (0, .ref (ad 47)), (1, .ref (ad 4)), (2, .int x2), (3, .int x3), (4, .int x4), (5, .int x5)]) C dX3_compare_41 hl (by decide) rfl (fun ls hl => ?_)
      refine r_iload C dX3_compare_43 (lv_at hl 1 rfl) ?_
      refine r_iconst (v := 4) C dX3_compare_45 (by decide) ?_
      refine r_icmp_eq (tgt := 71) C dX3_compare_46 (by decide) ?_ ?_
      · refine r_iinc (v := x5 + 1) (lv' := [(5, .int (x5 + 1)), (7, .int r3), (6, .int r1), (0, .ref (ad 47)), (1, .ref (ad 4)), (2, .int x2), (3, .int x3), (4, .int x4)]) C dX3_compare_71 hl (k := 7) rfl rfl (by decide) rfl (fun ls hl => ?_)
        refine r_goto (tgt := 16) C dX3_compare_74 (by decide) ?_
        exact ih x2 x3 x4 (x5 + 1) σ4 ls (lv_sub hl [3, 4, 5, 6, 7, 0] rfl)
      · refine r_iload C dX3_compare_49 (lv_at hl 0 rfl) ?_
        refine r_iconst (v := 4) C dX3_compare_51 (by decide) ?_
        refine r_icmp_eq (tgt := 71) C dX3_compare_52 (by decide) ?_ ?_
        · refine r_iinc (v := x5 + 1) (lv' := [(5, .int (x5 + 1)), (7, .int r3), (6, .int r1), (0, .ref (ad 47)), (1, .ref (ad 4)), (2, .int x2), (3, .int x3), (4, .int x4)]) C dX3_compare_71 hl (k := 7) rfl rfl (by decide) rfl (fun ls hl => ?_)
          refine r_goto (tgt := 16) C dX3_compare_74 (by decide) ?_
          exact ih x2 x3 x4 (x5 + 1) σ4 ls (lv_sub hl [3, 4, 5, 6, 7, 0] rfl)
        · refine r_iload C dX3_compare_55 (lv_at hl 1 rfl) ?_
          refine r_iload C dX3_compare_57 (lv_at hl 0 rfl) ?_
          refine r_icmp_eq (tgt := 71) C dX3_compare_59 (by decide) ?_ ?_
          · refine r_iinc (v := x5 + 1) (lv' := [(5, .int (x5 + 1)), (7, .int r3), (6, .int r1), (0, .ref (ad 47)), (1, .ref (ad 4)), (2, .int x2), (3, .int x3), (4, .int x4)]) C dX3_compare_71 hl (k := 7) rfl rfl (by decide) rfl (fun ls hl => ?_)
            refine r_goto (tgt := 16) C dX3_compare_74 (by decide) ?_
            exact ih x2 x3 x4 (x5 + 1) σ4 ls (lv_sub hl [3, 4, 5, 6, 7, 0] rfl)
          · refine r_iload C dX3_compare_62 (lv_at hl 6 rfl) ?_
            refine r_iconst (v := 1) C dX3_compare_64 (by decide) ?_
            refine r_iload C dX3_compare_65 (lv_at hl 7 rfl) ?_
            refine r_ishl C dX3_compare_67 ?_
            refine r_ior C dX3_compare_68 ?_
            refine r_letv (fun v5 => ?_)
            refine r_istore (lv' := [(4, .int v5), (7, .int r3), (6, .int r1), (0, .ref (ad 47)), (1, .ref (ad 4)), (2, .int x2), (3, .int x3), (5, .int x5)]) C dX3_compare_69 hl (by decide) rfl (fun ls hl => ?_)
            refine r_iinc (v := x5 + 1) (lv' := [(5, .int (x5 + 1)), (4, .int v5), (7, .int r3), (6, .int r1), (0, .ref (ad 47)), (1, .ref (ad 4)), (2, .int x2), (3, .int x3)]) C dX3_compare_71 hl (k := 7) rfl rfl (by decide) rfl (fun ls hl => ?_)
            refine r_goto (tgt := 16) C dX3_compare_74 (by decide) ?_
            exact ih x2 x3 v5 (x5 + 1) σ4 ls (lv_sub hl [4, 5, 6, 7, 1, 0] rfl)
set_option maxRecDepth 100000 in
def BX3_compare_2 (k93 : Mem → Option (Int32 × Mem)) (rec : Int32 → Int32 → Mem → Option (Int32 × Mem)) (x2 : Int32) (x3 : Int32) (σ : Mem) : Option (Int32 × Mem) := if (σ 4 1 : Int32) ≤ x3 then k93 σ else LX3_compare_16 (fun x2 x3 x4 σ6 => bnd (fX5_put 48 6 x3 x4 σ6) (fun r7 σ8 => rec x2 (x3 + 1) σ8)) 300 x2 x3 0 0 σ
def LX3_compare_2 (k93 : Mem → Option (Int32 × Mem)) : Nat → Int32 → Int32 → Mem → Option (Int32 × Mem)
  | 0 => fun _ _ _ => none
  | n + 1 => BX3_compare_2 k93 (LX3_compare_2 k93 n)
set_option maxRecDepth 100000 in
set_option maxHeartbeats 4000000 in
theorem wX3_compare_2 {p : Program} {l : Launch} {e : Env} {s : State} {m : MethodId} {args : Array Value} {below : List Frame} {meth : Method} {c : Code} {D : va_G} {cI cZ : ClassId} {ad : Nat → Nat} {tT : Nat} {A : Nat → Prop} (C : CX p s m args meth c cX3_compare 8 RX3 (none) D cI cZ ad tT A) (k93 : Mem → Option (Int32 × Mem)) (hk93 : ∀ (σ : Mem) (ls : Array Slot), lv_has ls 8 [] → WM p l e 3 65 s m args below meth c D cI cZ ad A rvv (k93 σ) σ (F0 m 93 ls [])) :
    ∀ (n0 : Nat), ∀ (x2 : Int32) (x3 : Int32) (σ : Mem) (ls : Array Slot), lv_has ls 8 [(0, .ref (ad 47)), (1, .ref (ad 4)), (2, .int x2), (3, .int x3)] → WM p l e 3 65 s m args below meth c D cI cZ ad A rvv (LX3_compare_2 k93 n0 x2 x3 σ) σ (F0 m 2 ls []) := by
  intro n0
  induction n0 with
  | zero => intro x2 x3 σ ls hl; exact r_none
  | succ n0 ih =>
    intro x2 x3 σ ls hl
    show WM p l e 3 65 s m args below meth c D cI cZ ad A rvv (BX3_compare_2 k93 (LX3_compare_2 k93 n0) x2 x3 σ) σ (F0 m 2 ls [])
    unfold BX3_compare_2
    refine r_iload_n C dX3_compare_2 rfl (lv_at hl 3 rfl) ?_
    refine r_aload_n C dX3_compare_3 rfl (lv_at hl 1 rfl) ?_
    refine r_getIN C fn_X3_20 lf_4_1 dX3_compare_4 ?_
    refine r_icmp_ge (tgt := 93) C dX3_compare_7 (by decide) ?_ ?_
    · exact hk93 σ ls (lv_sub hl [] rfl)
    · refine r_iconst (v := 0) C dX3_compare_10 (by decide) ?_
      refine r_istore (lv' := [(4, .int 0), (0, .ref (ad 47)), (1, .ref (ad 4)), (2, .int x2), (3, .int x3)]) C dX3_compare_11 hl (by decide) rfl (fun ls hl => ?_)
      refine r_iconst (v := 0) C dX3_compare_13 (by decide) ?_
      refine r_istore (lv' := [(5, .int 0), (4, .int 0), (0, .ref (ad 47)), (1, .ref (ad 4)), (2, .int x2), (3, .int x3)]) C dX3_compare_14 hl (by decide) rfl (fun ls hl => ?_)
      refine wX3_compare_16  C _ ?_ 300 x2 x3 0 0 σ ls (lv_sub hl [2, 3, 4, 5, 1, 0] rfl)
      · intro x2 x3 x4 σ6 ls hl
        refine r_aload_n C dX3_compare_77 rfl (lv_at hl 0 rfl) ?_
        refine r_getR C fl_X3_14 lf_47_0 dX3_compare_78 ?_
        refine r_iload_n C dX3_compare_81 rfl (lv_at hl 3 rfl) ?_
        refine r_iload C dX3_compare_82 (lv_at hl 4 rfl) ?_
        refine r_callVv (As := [.int x3, .int x4]) (rest := []) C hl ml_X3_33 rc_48 (gX5_put l C.inj 48 6 row_48 x3 x4 σ6) ⟨Nat.le_of_ble_eq_true rfl, Nat.le_of_ble_eq_true rfl⟩ ⟨Nat.le_of_ble_eq_true rfl, Nat.le_of_ble_eq_true rfl⟩ rfl rfl (Nat.le_of_ble_eq_true rfl) dX3_compare_84 (fun r7 σ8 => ?_)
        refine r_iinc (v := x3 + 1) (lv' := [(3, .int (x3 + 1)), (0, .ref (ad 47)), (1, .ref (ad 4)), (2, .int x2), (4, .int x4)]) C dX3_compare_87 hl (k := 3) rfl rfl (by decide) rfl (fun ls hl => ?_)
        refine r_goto (tgt := 2) C dX3_compare_90 (by decide) ?_
        exact ih x2 (x3 + 1) σ8 ls (lv_sub hl [1, 2, 3, 0] rfl)
set_option maxRecDepth 100000 in
def fX3_compare (x2 : Int32) (σ : Mem) : Option (Int32 × Mem) := LX3_compare_2 (fun σ9 => some (0, σ9)) 300 x2 0 σ
set_option maxRecDepth 100000 in
set_option maxHeartbeats 4000000 in
theorem gX3_compare (l : Launch) {D : va_G} {cI cZ : ClassId} {ad : Nat → Nat} {tT : Nat} (hi : INJ ad) (x2 : Int32) (σ : Mem) : GM l D cI cZ ad tT yX3_compare cX3_compare 8 (none) 3 65 rvv [.ref (ad 47), .ref (ad 4), .int x2] σ (fX3_compare x2 σ) := by
  refine gm_of (lv := [(0, .ref (ad 47)), (1, .ref (ad 4)), (2, .int x2)]) (own := RX3) hi (by decide +kernel) rfl (Nat.le_of_ble_eq_true rfl) rfl ?_
  intro p e s m args below meth c A C ls hl
  unfold fX3_compare
  refine r_iconst (v := 0) C dX3_compare_0 (by decide) ?_
  refine r_istore_n (lv' := [(3, .int 0), (0, .ref (ad 47)), (1, .ref (ad 4)), (2, .int x2)]) C dX3_compare_1 rfl hl (by decide) rfl (fun ls hl => ?_)
  refine wX3_compare_2  C _ ?_ 300 x2 0 σ ls (lv_sub hl [1, 2, 3, 0] rfl)
  · intro σ9 ls hl
    exact r_vret C rfl dX3_compare_93

set_option maxRecDepth 100000 in
def BX3_plain_6 (k44 : Int32 → Mem → Option (Int32 × Mem)) (rec : Int32 → Int32 → Int32 → Mem → Option (Int32 × Mem)) (x2 : Int32) (x3 : Int32) (x4 : Int32) (σ : Mem) : Option (Int32 × Mem) := if (σ 4 1 : Int32) ≤ x4 then k44 x3 σ else if (x4 : Int32) = x2 then rec x2 x3 (x4 + 1) σ else bnd (fX5_at 48 6 x4 σ) (fun r1 σ2 => bnd (fJ6_bitCount_0f7a4 r1 σ2) (fun r3 σ4 => letv (mn x3 r3) (fun v5 => rec x2 v5 (x4 + 1) σ4)))
def LX3_plain_6 (k44 : Int32 → Mem → Option (Int32 × Mem)) : Nat → Int32 → Int32 → Int32 → Mem → Option (Int32 × Mem)
  | 0 => fun _ _ _ _ => none
  | n + 1 => BX3_plain_6 k44 (LX3_plain_6 k44 n)
set_option maxRecDepth 100000 in
set_option maxHeartbeats 4000000 in
theorem wX3_plain_6 {p : Program} {l : Launch} {e : Env} {s : State} {m : MethodId} {args : Array Value} {below : List Frame} {meth : Method} {c : Code} {D : va_G} {cI cZ : ClassId} {ad : Nat → Nat} {tT : Nat} {A : Nat → Prop} (C : CX p s m args meth c cX3_plain 5 RX3 (some .int) D cI cZ ad tT A) (k44 : Int32 → Mem → Option (Int32 × Mem)) (hk44 : ∀ (x3 : Int32) (σ : Mem) (ls : Array Slot), lv_has ls 5 [(3, .int x3)] → WM p l e 1 21 s m args below meth c D cI cZ ad A rvi (k44 x3 σ) σ (F0 m 44 ls [])) :
    ∀ (n0 : Nat), ∀ (x2 : Int32) (x3 : Int32) (x4 : Int32) (σ : Mem) (ls : Array Slot), lv_has ls 5 [(0, .ref (ad 47)), (1, .ref (ad 4)), (2, .int x2), (3, .int x3), (4, .int x4)] → WM p l e 1 21 s m args below meth c D cI cZ ad A rvi (LX3_plain_6 k44 n0 x2 x3 x4 σ) σ (F0 m 6 ls []) := by
  intro n0
  induction n0 with
  | zero => intro x2 x3 x4 σ ls hl; exact r_none
  | succ n0 ih =>
    intro x2 x3 x4 σ ls hl
    show WM p l e 1 21 s m args below meth c D cI cZ ad A rvi (BX3_plain_6 k44 (LX3_plain_6 k44 n0) x2 x3 x4 σ) σ (F0 m 6 ls [])
    unfold BX3_plain_6
    refine r_iload C dX3_plain_6 (lv_at hl 4 rfl) ?_
    refine r_aload_n C dX3_plain_8 rfl (lv_at hl 1 rfl) ?_
    refine r_getIN C fn_X3_20 lf_4_1 dX3_plain_9 ?_
    refine r_icmp_ge (tgt := 44) C dX3_plain_12 (by decide) ?_ ?_
    · exact hk44 x3 σ ls (lv_sub hl [3] rfl)
    · refine r_iload C dX3_plain_15 (lv_at hl 4 rfl) ?_
      refine r_iload_n C dX3_plain_17 rfl (lv_at hl 2 rfl) ?_
      refine r_icmp_eq (tgt := 38) C dX3_plain_18 (by decide) ?_ ?_
      · refine r_iinc (v := x4 + 1) (lv' := [(4, .int (x4 + 1)), (0, .ref (ad 47)), (1, .ref (ad 4)), (2, .int x2), (3, .int x3)]) C dX3_plain_38 hl (k := 4) rfl rfl (by decide) rfl (fun ls hl => ?_)
        refine r_goto (tgt := 6) C dX3_plain_41 (by decide) ?_
        exact ih x2 x3 (x4 + 1) σ ls (lv_sub hl [1, 2, 3, 4, 0] rfl)
      · refine r_iload_n C dX3_plain_21 rfl (lv_at hl 3 rfl) ?_
        refine r_aload_n C dX3_plain_22 rfl (lv_at hl 0 rfl) ?_
        refine r_getR C fl_X3_14 lf_47_0 dX3_plain_23 ?_
        refine r_iload C dX3_plain_26 (lv_at hl 4 rfl) ?_
        refine r_callVi (As := [.int x4]) (rest := [.int x3]) C hl ml_X3_37 rc_48 (gX5_at l C.inj 48 6 row_48 x4 σ) ⟨Nat.le_of_ble_eq_true rfl, Nat.le_of_ble_eq_true rfl⟩ ⟨Nat.le_of_ble_eq_true rfl, Nat.le_of_ble_eq_true rfl⟩ rfl rfl (Nat.le_of_ble_eq_true rfl) dX3_plain_28 (fun r1 σ2 => ?_)
        refine r_callSi (As := [.int r1]) (rest := [.int x3]) C hl ml_X3_40 (gJ6_bitCount_0f7a4 l C.inj r1 σ2) ⟨Nat.le_of_ble_eq_true rfl, Nat.le_of_ble_eq_true rfl⟩ ⟨Nat.le_of_ble_eq_true rfl, Nat.le_of_ble_eq_true rfl⟩ rfl rfl (Nat.le_of_ble_eq_true rfl) dX3_plain_31 (fun r3 σ4 => ?_)
        refine r_mmin2 C hl ml_X3_45 ⟨Nat.le_of_ble_eq_true rfl, Nat.le_of_ble_eq_true rfl, Nat.le_of_ble_eq_true rfl, Nat.le_of_ble_eq_true rfl⟩ dX3_plain_34 ?_
        refine r_letv (fun v5 => ?_)
        refine r_istore_n (lv' := [(3, .int v5), (0, .ref (ad 47)), (1, .ref (ad 4)), (2, .int x2), (4, .int x4)]) C dX3_plain_37 rfl hl (by decide) rfl (fun ls hl => ?_)
        refine r_iinc (v := x4 + 1) (lv' := [(4, .int (x4 + 1)), (3, .int v5), (0, .ref (ad 47)), (1, .ref (ad 4)), (2, .int x2)]) C dX3_plain_38 hl (k := 4) rfl rfl (by decide) rfl (fun ls hl => ?_)
        refine r_goto (tgt := 6) C dX3_plain_41 (by decide) ?_
        exact ih x2 v5 (x4 + 1) σ4 ls (lv_sub hl [2, 3, 4, 1, 0] rfl)
set_option maxRecDepth 100000 in
def fX3_plain (x2 : Int32) (σ : Mem) : Option (Int32 × Mem) := LX3_plain_6 (fun x3 σ6 => some (x3, σ6)) 300 x2 8 0 σ
set_option maxRecDepth 100000 in
set_option maxHeartbeats 4000000 in
theorem gX3_plain (l : Launch) {D : va_G} {cI cZ : ClassId} {ad : Nat → Nat} {tT : Nat} (hi : INJ ad) (x2 : Int32) (σ : Mem) : GM l D cI cZ ad tT yX3_plain cX3_plain 5 (some .int) 1 21 rvi [.ref (ad 47), .ref (ad 4), .int x2] σ (fX3_plain x2 σ) := by
  refine gm_of (lv := [(0, .ref (ad 47)), (1, .ref (ad 4)), (2, .int x2)]) (own := RX3) hi (by decide +kernel) rfl (Nat.le_of_ble_eq_true rfl) rfl ?_
  intro p e s m args below meth c A C ls hl
  unfold fX3_plain
  refine r_bipush (v := 8) C dX3_plain_0 (by decide) ?_
  refine r_istore_n (lv' := [(3, .int 8), (0, .ref (ad 47)), (1, .ref (ad 4)), (2, .int x2)]) C dX3_plain_2 rfl hl (by decide) rfl (fun ls hl => ?_)
  refine r_iconst (v := 0) C dX3_plain_3 (by decide) ?_
  refine r_istore (lv' := [(4, .int 0), (3, .int 8), (0, .ref (ad 47)), (1, .ref (ad 4)), (2, .int x2)]) C dX3_plain_4 hl (by decide) rfl (fun ls hl => ?_)
  refine wX3_plain_6  C _ ?_ 300 x2 8 0 σ ls (lv_sub hl [2, 3, 4, 1, 0] rfl)
  · intro x3 σ6 ls hl
    refine r_iload_n C dX3_plain_44 rfl (lv_at hl 0 rfl) ?_
    exact r_iret C rfl dX3_plain_45

set_option maxRecDepth 100000 in
def BX3_tryTwo_3 (k87 : Mem → Option (Int32 × Mem)) (rec : Int32 → Int32 → Int32 → Int32 → Mem → Option (Int32 × Mem)) (x1 : Int32) (x2 : Int32) (x3 : Int32) (x4 : Int32) (σ : Mem) : Option (Int32 × Mem) := if (x3 : Int32) ≤ x4 then k87 σ else letv (((1 : Int32) <<< (x4 &&& 31)) - 1) (fun v1 => bnd (fX5_at 48 6 x1 σ) (fun r2 σ3 => bnd (fJ6_bitCount_0f7a4 (r2 &&& v1) σ3) (fun r4 σ5 => bnd (fX5_at 48 6 x2 σ5) (fun r6 σ7 => bnd (fJ6_bitCount_0f7a4 (r6 &&& (v1 ^^^ (-1))) σ7) (fun r8 σ9 => letv (r4 + r8) (fun v10 => if (σ9 47 1 : Int32) ≤ v10 then rec x1 x2 x3 (x4 + 1) σ9 else letm (stm σ9 47 1 v10) (fun σ11 => letm (stm σ11 47 2 x1) (fun σ12 => letm (stm σ12 47 3 x2) (fun σ13 => letm (stm σ13 47 4 x4) (fun σ14 => rec x1 x2 x3 (x4 + 1) σ14))))))))))
def LX3_tryTwo_3 (k87 : Mem → Option (Int32 × Mem)) : Nat → Int32 → Int32 → Int32 → Int32 → Mem → Option (Int32 × Mem)
  | 0 => fun _ _ _ _ _ => none
  | n + 1 => BX3_tryTwo_3 k87 (LX3_tryTwo_3 k87 n)
set_option maxRecDepth 100000 in
set_option maxHeartbeats 4000000 in
theorem wX3_tryTwo_3 {p : Program} {l : Launch} {e : Env} {s : State} {m : MethodId} {args : Array Value} {below : List Frame} {meth : Method} {c : Code} {D : va_G} {cI cZ : ClassId} {ad : Nat → Nat} {tT : Nat} {A : Nat → Prop} (C : CX p s m args meth c cX3_tryTwo 7 RX3 (none) D cI cZ ad tT A) (k87 : Mem → Option (Int32 × Mem)) (hk87 : ∀ (σ : Mem) (ls : Array Slot), lv_has ls 7 [] → WM p l e 1 21 s m args below meth c D cI cZ ad A rvv (k87 σ) σ (F0 m 87 ls [])) :
    ∀ (n0 : Nat), ∀ (x1 : Int32) (x2 : Int32) (x3 : Int32) (x4 : Int32) (σ : Mem) (ls : Array Slot), lv_has ls 7 [(0, .ref (ad 47)), (1, .int x1), (2, .int x2), (3, .int x3), (4, .int x4)] → WM p l e 1 21 s m args below meth c D cI cZ ad A rvv (LX3_tryTwo_3 k87 n0 x1 x2 x3 x4 σ) σ (F0 m 3 ls []) := by
  intro n0
  induction n0 with
  | zero => intro x1 x2 x3 x4 σ ls hl; exact r_none
  | succ n0 ih =>
    intro x1 x2 x3 x4 σ ls hl
    show WM p l e 1 21 s m args below meth c D cI cZ ad A rvv (BX3_tryTwo_3 k87 (LX3_tryTwo_3 k87 n0) x1 x2 x3 x4 σ) σ (F0 m 3 ls [])
    unfold BX3_tryTwo_3
    refine r_iload C dX3_tryTwo_3 (lv_at hl 4 rfl) ?_
    refine r_iload_n C dX3_tryTwo_5 rfl (lv_at hl 3 rfl) ?_
    refine r_icmp_ge (tgt := 87) C dX3_tryTwo_6 (by decide) ?_ ?_
    · exact hk87 σ ls (lv_sub hl [] rfl)
    · refine r_iconst (v := 1) C dX3_tryTwo_9 (by decide) ?_
      refine r_iload C dX3_tryTwo_10 (lv_at hl 4 rfl) ?_
      refine r_ishl C dX3_tryTwo_12 ?_
      refine r_iconst (v := 1) C dX3_tryTwo_13 (by decide) ?_
      refine r_isub C dX3_tryTwo_14 ?_
      refine r_letv (fun v1 => ?_)
      refine r_istore (lv' := [(5, .int v1), (0, .ref (ad 47)), (1, .int x1), (2, .int x2), (3, .int x3), (4, .int x4)]) C dX3_tryTwo_15 hl (by decide) rfl (fun ls hl => ?_)
      refine r_aload_n C dX3_tryTwo_17 rfl (lv_at hl 1 rfl) ?_
      refine r_getR C fl_X3_14 lf_47_0 dX3_tryTwo_18 ?_
      refine r_iload_n C dX3_tryTwo_21 rfl (lv_at hl 2 rfl) ?_
      refine r_callVi (As := [.int x1]) (rest := []) C hl ml_X3_37 rc_48 (gX5_at l C.inj 48 6 row_48 x1 σ) ⟨Nat.le_of_ble_eq_true rfl, Nat.le_of_ble_eq_true rfl⟩ ⟨Nat.le_of_ble_eq_true rfl, Nat.le_of_ble_eq_true rfl⟩ rfl rfl (Nat.le_of_ble_eq_true rfl) dX3_tryTwo_22 (fun r2 σ3 => ?_)
      refine r_iload C dX3_tryTwo_25 (lv_at hl 0 rfl) ?_
      refine r_iand C dX3_tryTwo_27 ?_
      refine r_callSi (As := [.int (r2 &&& v1)]) (rest := []) C hl ml_X3_40 (gJ6_bitCount_0f7a4 l C.inj (r2 &&& v1) σ3) ⟨Nat.le_of_ble_eq_true rfl, Nat.le_of_ble_eq_true rfl⟩ ⟨Nat.le_of_ble_eq_true rfl, Nat.le_of_ble_eq_true rfl⟩ rfl rfl (Nat.le_of_ble_eq_true rfl) dX3_tryTwo_28 (fun r4 σ5 => ?_)
      refine r_aload_n C dX3_tryTwo_31 rfl (lv_at hl 1 rfl) ?_
      refine r_getR C fl_X3_14 lf_47_0 dX3_tryTwo_32 ?_
      refine r_iload_n C dX3_tryTwo_35 rfl (lv_at hl 3 rfl) ?_
      refine r_callVi (As := [.int x2]) (rest := [.int r4]) C hl ml_X3_37 rc_48 (gX5_at l C.inj 48 6 row_48 x2 σ5) ⟨Nat.le_of_ble_eq_true rfl, Nat.le_of_ble_eq_true rfl⟩ ⟨Nat.le_of_ble_eq_true rfl, Nat.le_of_ble_eq_true rfl⟩ rfl rfl (Nat.le_of_ble_eq_true rfl) dX3_tryTwo_36 (fun r6 σ7 => ?_)
      refine r_iload C dX3_tryTwo_39 (lv_at hl 0 rfl) ?_
      refine r_iconst (v := (-1)) C dX3_tryTwo_41 (by decide) ?_
      refine r_ixor C dX3_tryTwo_42 ?_
      refine r_iand C dX3_tryTwo_43 ?_
      refine r_callSi (As := [.int (r6 &&& (v1 ^^^ (-1)))]) (rest := [.int r4]) C hl ml_X3_40 (gJ6_bitCount_0f7a4 l C.inj (r6 &&& (v1 ^^^ (-1))) σ7) ⟨Nat.le_of_ble_eq_true rfl, Nat.le_of_ble_eq_true rfl⟩ ⟨Nat.le_of_ble_eq_true rfl, Nat.le_of_ble_eq_true rfl⟩ rfl rfl (Nat.le_of_ble_eq_true rfl) dX3_tryTwo_44 (fun r8 σ9 => ?_)
      refine r_iadd C dX3_tryTwo_47 ?_
      refine r_letv (fun v10 => ?_)
      refine r_istore (lv' := [(6, .int v10), (5, .int v1), (0, .ref (ad 47)), (1, .int x1), (2, .int x2), (3, .int x3), (4, .int x4)]) C dX3_tryTwo_48 hl (by decide) rfl (fun ls hl => ?_)
      refine r_iload C dX3_tryTwo_50 (lv_at hl 0 rfl) ?_
      refine r_aload_n C dX3_tryTwo_52 rfl (lv_at hl 2 rfl) ?_
      refine r_getI C fl_X3_50 lf_47_1 dX3_tryTwo_53 ?_
      refine r_icmp_ge (tgt := 81) C dX3_tryTwo_56 (by decide) ?_ ?_
      · refine r_iinc (v := x4 + 1) (lv' := [(4, .int (x4 + 1)), (6, .int v10), (5, .int v1), (0, .ref (ad 47)), (1, .int x1), (2, .int x2), (3, .int x3)]) C dX3_tryTwo_81 hl (k := 6) rfl rfl (by decide) rfl (fun ls hl => ?_)
        refine r_goto (tgt := 3) C dX3_tryTwo_84 (by decide) ?_
        exact ih x1 x2 x3 (x4 + 1) σ9 ls (lv_sub hl [3, 4, 5, 6, 0] rfl)
      · refine r_aload_n C dX3_tryTwo_59 rfl (lv_at hl 2 rfl) ?_
        refine r_iload C dX3_tryTwo_60 (lv_at hl 0 rfl) ?_
        refine r_putI C fl_X3_50 fp_X3_1 rfl rfl lf_47_1 dX3_tryTwo_62 ?_
        refine r_letm (fun σ11 => ?_)
        refine r_aload_n C dX3_tryTwo_65 rfl (lv_at hl 2 rfl) ?_
        refine r_iload_n C dX3_tryTwo_66 rfl (lv_at hl 3 rfl) ?_
        refine r_putI C fl_X3_57 fp_X3_2 rfl rfl lf_47_2 dX3_tryTwo_67 ?_
        refine r_letm (fun σ12 => ?_)
        refine r_aload_n C dX3_tryTwo_70 rfl (lv_at hl 2 rfl) ?_
        refine r_iload_n C dX3_tryTwo_71 rfl (lv_at hl 4 rfl) ?_
        refine r_putI C fl_X3_60 fp_X3_3 rfl rfl lf_47_3 dX3_tryTwo_72 ?_
        refine r_letm (fun σ13 => ?_)
        refine r_aload_n C dX3_tryTwo_75 rfl (lv_at hl 2 rfl) ?_
        refine r_iload C dX3_tryTwo_76 (lv_at hl 6 rfl) ?_
        refine r_putI C fl_X3_63 fp_X3_4 rfl rfl lf_47_4 dX3_tryTwo_78 ?_
        refine r_letm (fun σ14 => ?_)
        refine r_iinc (v := x4 + 1) (lv' := [(4, .int (x4 + 1)), (6, .int v10), (5, .int v1), (0, .ref (ad 47)), (1, .int x1), (2, .int x2), (3, .int x3)]) C dX3_tryTwo_81 hl (k := 6) rfl rfl (by decide) rfl (fun ls hl => ?_)
        refine r_goto (tgt := 3) C dX3_tryTwo_84 (by decide) ?_
        exact ih x1 x2 x3 (x4 + 1) σ14 ls (lv_sub hl [3, 4, 5, 6, 0] rfl)
set_option maxRecDepth 100000 in
def fX3_tryTwo (x1 : Int32) (x2 : Int32) (x3 : Int32) (σ : Mem) : Option (Int32 × Mem) := LX3_tryTwo_3 (fun σ15 => some (0, σ15)) 300 x1 x2 x3 1 σ
set_option maxRecDepth 100000 in
set_option maxHeartbeats 4000000 in
theorem gX3_tryTwo (l : Launch) {D : va_G} {cI cZ : ClassId} {ad : Nat → Nat} {tT : Nat} (hi : INJ ad) (x1 : Int32) (x2 : Int32) (x3 : Int32) (σ : Mem) : GM l D cI cZ ad tT yX3_tryTwo cX3_tryTwo 7 (none) 1 21 rvv [.ref (ad 47), .int x1, .int x2, .int x3] σ (fX3_tryTwo x1 x2 x3 σ) := by
  refine gm_of (lv := [(0, .ref (ad 47)), (1, .int x1), (2, .int x2), (3, .int x3)]) (own := RX3) hi (by decide +kernel) rfl (Nat.le_of_ble_eq_true rfl) rfl ?_
  intro p e s m args below meth c A C ls hl
  unfold fX3_tryTwo
  refine r_iconst (v := 1) C dX3_tryTwo_0 (by decide) ?_
  refine r_istore (lv' := [(4, .int 1), (0, .ref (ad 47)), (1, .int x1), (2, .int x2), (3, .int x3)]) C dX3_tryTwo_1 hl (by decide) rfl (fun ls hl => ?_)
  refine wX3_tryTwo_3  C _ ?_ 300 x1 x2 x3 1 σ ls (lv_sub hl [1, 2, 3, 4, 0] rfl)
  · intro σ15 ls hl
    exact r_vret C rfl dX3_tryTwo_87

set_option maxRecDepth 100000 in
def BX3_find_19 (k62 : Int32 → Int32 → Mem → Option (Int32 × Mem)) (rec : Int32 → Int32 → Int32 → Mem → Option (Int32 × Mem)) (x2 : Int32) (x3 : Int32) (x4 : Int32) (σ : Mem) : Option (Int32 × Mem) := if (σ 4 1 : Int32) ≤ x4 then k62 x2 x3 σ else if (x3 : Int32) = x2 then rec x2 x3 (x4 + 1) σ else if (x4 : Int32) = x2 then rec x2 x3 (x4 + 1) σ else if (x3 : Int32) = x4 then rec x2 x3 (x4 + 1) σ else bnd (fX3_tryTwo x3 x4 (σ 4 2) σ) (fun r2 σ3 => rec x2 x3 (x4 + 1) σ3)
def LX3_find_19 (k62 : Int32 → Int32 → Mem → Option (Int32 × Mem)) : Nat → Int32 → Int32 → Int32 → Mem → Option (Int32 × Mem)
  | 0 => fun _ _ _ _ => none
  | n + 1 => BX3_find_19 k62 (LX3_find_19 k62 n)
set_option maxRecDepth 100000 in
set_option maxHeartbeats 4000000 in
theorem wX3_find_19 {p : Program} {l : Launch} {e : Env} {s : State} {m : MethodId} {args : Array Value} {below : List Frame} {meth : Method} {c : Code} {D : va_G} {cI cZ : ClassId} {ad : Nat → Nat} {tT : Nat} {A : Nat → Prop} (C : CX p s m args meth c cX3_find 5 RX3 (none) D cI cZ ad tT A) (k62 : Int32 → Int32 → Mem → Option (Int32 × Mem)) (hk62 : ∀ (x2 : Int32) (x3 : Int32) (σ : Mem) (ls : Array Slot), lv_has ls 5 [(0, .ref (ad 47)), (1, .ref (ad 4)), (2, .int x2), (3, .int x3)] → WM p l e 2 47 s m args below meth c D cI cZ ad A rvv (k62 x2 x3 σ) σ (F0 m 62 ls [])) :
    ∀ (n0 : Nat), ∀ (x2 : Int32) (x3 : Int32) (x4 : Int32) (σ : Mem) (ls : Array Slot), lv_has ls 5 [(0, .ref (ad 47)), (1, .ref (ad 4)), (2, .int x2), (3, .int x3), (4, .int x4)] → WM p l e 2 47 s m args below meth c D cI cZ ad A rvv (LX3_find_19 k62 n0 x2 x3 x4 σ) σ (F0 m 19 ls []) := by
  intro n0
  induction n0 with
  | zero => intro x2 x3 x4 σ ls hl; exact r_none
  | succ n0 ih =>
    intro x2 x3 x4 σ ls hl
    show WM p l e 2 47 s m args below meth c D cI cZ ad A rvv (BX3_find_19 k62 (LX3_find_19 k62 n0) x2 x3 x4 σ) σ (F0 m 19 ls [])
    unfold BX3_find_19
    refine r_iload C dX3_find_19 (lv_at hl 4 rfl) ?_
    refine r_aload_n C dX3_find_21 rfl (lv_at hl 1 rfl) ?_
    refine r_getIN C fn_X3_20 lf_4_1 dX3_find_22 ?_
    refine r_icmp_ge (tgt := 62) C dX3_find_25 (by decide) ?_ ?_
    · exact hk62 x2 x3 σ ls (lv_sub hl [0, 1, 2, 3] rfl)
    · refine r_iload_n C dX3_find_28 rfl (lv_at hl 3 rfl) ?_
      refine r_iload_n C dX3_find_29 rfl (lv_at hl 2 rfl) ?_
      refine r_icmp_eq (tgt := 56) C dX3_find_30 (by decide) ?_ ?_
      · refine r_iinc (v := x4 + 1) (lv' := [(4, .int (x4 + 1)), (0, .ref (ad 47)), (1, .ref (ad 4)), (2, .int x2), (3, .int x3)]) C dX3_find_56 hl (k := 4) rfl rfl (by decide) rfl (fun ls hl => ?_)
        refine r_goto (tgt := 19) C dX3_find_59 (by decide) ?_
        exact ih x2 x3 (x4 + 1) σ ls (lv_sub hl [1, 2, 3, 4, 0] rfl)
      · refine r_iload C dX3_find_33 (lv_at hl 4 rfl) ?_
        refine r_iload_n C dX3_find_35 rfl (lv_at hl 2 rfl) ?_
        refine r_icmp_eq (tgt := 56) C dX3_find_36 (by decide) ?_ ?_
        · refine r_iinc (v := x4 + 1) (lv' := [(4, .int (x4 + 1)), (0, .ref (ad 47)), (1, .ref (ad 4)), (2, .int x2), (3, .int x3)]) C dX3_find_56 hl (k := 4) rfl rfl (by decide) rfl (fun ls hl => ?_)
          refine r_goto (tgt := 19) C dX3_find_59 (by decide) ?_
          exact ih x2 x3 (x4 + 1) σ ls (lv_sub hl [1, 2, 3, 4, 0] rfl)
        · refine r_iload_n C dX3_find_39 rfl (lv_at hl 3 rfl) ?_
          refine r_iload C dX3_find_40 (lv_at hl 4 rfl) ?_
          refine r_icmp_eq (tgt := 56) C dX3_find_42 (by decide) ?_ ?_
          · refine r_iinc (v := x4 + 1) (lv' := [(4, .int (x4 + 1)), (0, .ref (ad 47)), (1, .ref (ad 4)), (2, .int x2), (3, .int x3)]) C dX3_find_56 hl (k := 4) rfl rfl (by decide) rfl (fun ls hl => ?_)
            refine r_goto (tgt := 19) C dX3_find_59 (by decide) ?_
            exact ih x2 x3 (x4 + 1) σ ls (lv_sub hl [1, 2, 3, 4, 0] rfl)
          · refine r_aload_n C dX3_find_45 rfl (lv_at hl 0 rfl) ?_
            refine r_iload_n C dX3_find_46 rfl (lv_at hl 3 rfl) ?_
            refine r_iload C dX3_find_47 (lv_at hl 4 rfl) ?_
            refine r_aload_n C dX3_find_49 rfl (lv_at hl 1 rfl) ?_
            refine r_getIN C fn_X3_26 lf_4_2 dX3_find_50 ?_
            refine r_callVv (As := [.int x3, .int x4, .int (σ 4 2)]) (rest := []) C hl ml_X3_53 rc_47 (gX3_tryTwo l C.inj x3 x4 (σ 4 2) σ) ⟨Nat.le_of_ble_eq_true rfl, Nat.le_of_ble_eq_true rfl⟩ ⟨Nat.le_of_ble_eq_true rfl, Nat.le_of_ble_eq_true rfl⟩ rfl rfl (Nat.le_of_ble_eq_true rfl) dX3_find_53 (fun r2 σ3 => ?_)
            refine r_iinc (v := x4 + 1) (lv' := [(4, .int (x4 + 1)), (0, .ref (ad 47)), (1, .ref (ad 4)), (2, .int x2), (3, .int x3)]) C dX3_find_56 hl (k := 4) rfl rfl (by decide) rfl (fun ls hl => ?_)
            refine r_goto (tgt := 19) C dX3_find_59 (by decide) ?_
            exact ih x2 x3 (x4 + 1) σ3 ls (lv_sub hl [1, 2, 3, 4, 0] rfl)
set_option maxRecDepth 100000 in
def BX3_find_8 (k68 : Mem → Option (Int32 × Mem)) (rec : Int32 → Int32 → Mem → Option (Int32 × Mem)) (x2 : Int32) (x3 : Int32) (σ : Mem) : Option (Int32 × Mem) := if (σ 4 1 : Int32) ≤ x3 then k68 σ else LX3_find_19 (fun x2 x3 σ4 => rec x2 (x3 + 1) σ4) 300 x2 x3 0 σ
def LX3_find_8 (k68 : Mem → Option (Int32 × Mem)) : Nat → Int32 → Int32 → Mem → Option (Int32 × Mem)
  | 0 => fun _ _ _ => none
  | n + 1 => BX3_find_8 k68 (LX3_find_8 k68 n)
set_option maxRecDepth 100000 in
set_option maxHeartbeats 4000000 in
theorem wX3_find_8 {p : Program} {l : Launch} {e : Env} {s : State} {m : MethodId} {args : Array Value} {below : List Frame} {meth : Method} {c : Code} {D : va_G} {cI cZ : ClassId} {ad : Nat → Nat} {tT : Nat} {A : Nat → Prop} (C : CX p s m args meth c cX3_find 5 RX3 (none) D cI cZ ad tT A) (k68 : Mem → Option (Int32 × Mem)) (hk68 : ∀ (σ : Mem) (ls : Array Slot), lv_has ls 5 [] → WM p l e 2 47 s m args below meth c D cI cZ ad A rvv (k68 σ) σ (F0 m 68 ls [])) :
    ∀ (n0 : Nat), ∀ (x2 : Int32) (x3 : Int32) (σ : Mem) (ls : Array Slot), lv_has ls 5 [(0, .ref (ad 47)), (1, .ref (ad 4)), (2, .int x2), (3, .int x3)] → WM p l e 2 47 s m args below meth c D cI cZ ad A rvv (LX3_find_8 k68 n0 x2 x3 σ) σ (F0 m 8 ls []) := by
  intro n0
  induction n0 with
  | zero => intro x2 x3 σ ls hl; exact r_none
  | succ n0 ih =>
    intro x2 x3 σ ls hl
    show WM p l e 2 47 s m args below meth c D cI cZ ad A rvv (BX3_find_8 k68 (LX3_find_8 k68 n0) x2 x3 σ) σ (F0 m 8 ls [])
    unfold BX3_find_8
    refine r_iload_n C dX3_find_8 rfl (lv_at hl 3 rfl) ?_
    refine r_aload_n C dX3_find_9 rfl (lv_at hl 1 rfl) ?_
    refine r_getIN C fn_X3_20 lf_4_1 dX3_find_10 ?_
    refine r_icmp_ge (tgt := 68) C dX3_find_13 (by decide) ?_ ?_
    · exact hk68 σ ls (lv_sub hl [] rfl)
    · refine r_iconst (v := 0) C dX3_find_16 (by decide) ?_
      refine r_istore (lv' := [(4, .int 0), (0, .ref (ad 47)), (1, .ref (ad 4)), (2, .int x2), (3, .int x3)]) C dX3_find_17 hl (by decide) rfl (fun ls hl => ?_)
      refine wX3_find_19  C _ ?_ 300 x2 x3 0 σ ls (lv_sub hl [1, 2, 3, 4, 0] rfl)
      · intro x2 x3 σ4 ls hl
        refine r_iinc (v := x3 + 1) (lv' := [(3, .int (x3 + 1)), (0, .ref (ad 47)), (1, .ref (ad 4)), (2, .int x2)]) C dX3_find_62 hl (k := 3) rfl rfl (by decide) rfl (fun ls hl => ?_)
        refine r_goto (tgt := 8) C dX3_find_65 (by decide) ?_
        exact ih x2 (x3 + 1) σ4 ls (lv_sub hl [1, 2, 3, 0] rfl)
set_option maxRecDepth 100000 in
def fX3_find (x2 : Int32) (σ : Mem) : Option (Int32 × Mem) := letm (stm σ 47 1 9) (fun σ1 => LX3_find_8 (fun σ5 => some (0, σ5)) 300 x2 0 σ1)
set_option maxRecDepth 100000 in
set_option maxHeartbeats 4000000 in
theorem gX3_find (l : Launch) {D : va_G} {cI cZ : ClassId} {ad : Nat → Nat} {tT : Nat} (hi : INJ ad) (x2 : Int32) (σ : Mem) : GM l D cI cZ ad tT yX3_find cX3_find 5 (none) 2 47 rvv [.ref (ad 47), .ref (ad 4), .int x2] σ (fX3_find x2 σ) := by
  refine gm_of (lv := [(0, .ref (ad 47)), (1, .ref (ad 4)), (2, .int x2)]) (own := RX3) hi (by decide +kernel) rfl (Nat.le_of_ble_eq_true rfl) rfl ?_
  intro p e s m args below meth c A C ls hl
  unfold fX3_find
  refine r_aload_n C dX3_find_0 rfl (lv_at hl 0 rfl) ?_
  refine r_bipush (v := 9) C dX3_find_1 (by decide) ?_
  refine r_putI C fl_X3_50 fp_X3_1 rfl rfl lf_47_1 dX3_find_3 ?_
  refine r_letm (fun σ1 => ?_)
  refine r_iconst (v := 0) C dX3_find_6 (by decide) ?_
  refine r_istore_n (lv' := [(3, .int 0), (0, .ref (ad 47)), (1, .ref (ad 4)), (2, .int x2)]) C dX3_find_7 rfl hl (by decide) rfl (fun ls hl => ?_)
  refine wX3_find_8  C _ ?_ 300 x2 0 σ1 ls (lv_sub hl [1, 2, 3, 0] rfl)
  · intro σ5 ls hl
    exact r_vret C rfl dX3_find_68
