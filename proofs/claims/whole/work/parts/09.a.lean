set_option maxRecDepth 100000 in
def fX9_in (x0 : Int32) (x1 : Int32) (x2 : Int32) (σ : Mem) : Option (Int32 × Mem) := if (x0 : Int32) < x1 then some (0, σ) else if (x2 : Int32) < x0 then some (0, σ) else some (1, σ)
set_option maxRecDepth 100000 in
set_option maxHeartbeats 4000000 in
theorem gX9_in (l : Launch) {D : va_G} {cI cZ : ClassId} {ad : Nat → Nat} {tT : Nat} (hi : INJ ad) (x0 : Int32) (x1 : Int32) (x2 : Int32) (σ : Mem) : GM l D cI cZ ad tT yX9_in cX9_in 3 (some .boolean) 0 0 rvi [.int x0, .int x1, .int x2] σ (fX9_in x0 x1 x2 σ) := by
  refine gm_of (lv := [(0, .int x0), (1, .int x1), (2, .int x2)]) (own := RX9) hi (by decide +kernel) rfl (Nat.le_of_ble_eq_true rfl) rfl ?_
  intro p e s m args below meth c A C ls hl
  unfold fX9_in
  refine r_iload_n C dX9_in_0 rfl (lv_at hl 0 rfl) ?_
  refine r_iload_n C dX9_in_1 rfl (lv_at hl 1 rfl) ?_
  refine r_icmp_lt (tgt := 14) C dX9_in_2 (by decide) ?_ ?_
  · refine r_iconst (v := 0) C dX9_in_14 (by decide) ?_
    exact r_zret C rfl (by decide) dX9_in_15
  · refine r_iload_n C dX9_in_5 rfl (lv_at hl 0 rfl) ?_
    refine r_iload_n C dX9_in_6 rfl (lv_at hl 2 rfl) ?_
    refine r_icmp_gt (tgt := 14) C dX9_in_7 (by decide) ?_ ?_
    · refine r_iconst (v := 0) C dX9_in_14 (by decide) ?_
      exact r_zret C rfl (by decide) dX9_in_15
    · refine r_iconst (v := 1) C dX9_in_10 (by decide) ?_
      refine r_goto (tgt := 15) C dX9_in_11 (by decide) ?_
      exact r_zret C rfl (by decide) dX9_in_15

set_option maxRecDepth 100000 in
def fX9_has (x0 : Int32) (x1 : Int32) (σ : Mem) : Option (Int32 × Mem) := if ((x0 >>> (x1 &&& 31)) &&& 1 : Int32) = 1 then some (1, σ) else some (0, σ)
set_option maxRecDepth 100000 in
set_option maxHeartbeats 4000000 in
theorem gX9_has (l : Launch) {D : va_G} {cI cZ : ClassId} {ad : Nat → Nat} {tT : Nat} (hi : INJ ad) (x0 : Int32) (x1 : Int32) (σ : Mem) : GM l D cI cZ ad tT yX9_has cX9_has 2 (some .boolean) 0 0 rvi [.int x0, .int x1] σ (fX9_has x0 x1 σ) := by
  refine gm_of (lv := [(0, .int x0), (1, .int x1)]) (own := RX9) hi (by decide +kernel) rfl (Nat.le_of_ble_eq_true rfl) rfl ?_
  intro p e s m args below meth c A C ls hl
  unfold fX9_has
  refine r_iload_n C dX9_has_0 rfl (lv_at hl 0 rfl) ?_
  refine r_iload_n C dX9_has_1 rfl (lv_at hl 1 rfl) ?_
  refine r_ishr C dX9_has_2 ?_
  refine r_iconst (v := 1) C dX9_has_3 (by decide) ?_
  refine r_iand C dX9_has_4 ?_
  refine r_iconst (v := 1) C dX9_has_5 (by decide) ?_
  refine r_icmp_ne (tgt := 13) C dX9_has_6 (by decide) ?_ ?_
  · refine r_iconst (v := 0) C dX9_has_13 (by decide) ?_
    exact r_zret C rfl (by decide) dX9_has_14
  · refine r_iconst (v := 1) C dX9_has_9 (by decide) ?_
    refine r_goto (tgt := 14) C dX9_has_10 (by decide) ?_
    exact r_zret C rfl (by decide) dX9_has_14

set_option maxRecDepth 100000 in
def fX9_type (x1 : Int32) (σ : Mem) : Option (Int32 × Mem) := bnd (fX9_in x1 0 255 σ) (fun r1 σ2 => if (r1 : Int32) = 0 then some ((-1), σ2) else if (σ2 50 10 : Int32) = 90 then some ((-3), σ2) else gd 90 (σ2 50 10) (letm (stm σ2 56 (σ2 50 10).toNatClampNeg x1) (fun σ3 => letm (stm σ3 50 10 ((σ3 50 10) + 1)) (fun σ4 => some (σ4 50 10, σ4)))))
set_option maxRecDepth 100000 in
set_option maxHeartbeats 4000000 in
theorem gX9_type (l : Launch) {D : va_G} {cI cZ : ClassId} {ad : Nat → Nat} {tT : Nat} (hi : INJ ad) (x1 : Int32) (σ : Mem) : GM l D cI cZ ad tT yX9_type cX9_type 2 (some .int) 1 22 rvi [.ref (ad 50), .int x1] σ (fX9_type x1 σ) := by
  refine gm_of (lv := [(0, .ref (ad 50)), (1, .int x1)]) (own := RX9) hi (by decide +kernel) rfl (Nat.le_of_ble_eq_true rfl) rfl ?_
  intro p e s m args below meth c A C ls hl
  unfold fX9_type
  refine r_iload_n C dX9_type_0 rfl (lv_at hl 1 rfl) ?_
  refine r_iconst (v := 0) C dX9_type_1 (by decide) ?_
  refine r_sipush (v := 255) C dX9_type_2 (by decide) ?_
  refine r_callSi (As := [.int x1, .int 0, .int 255]) (rest := []) C hl ml_X9_50 (gX9_in l C.inj x1 0 255 σ) ⟨Nat.le_of_ble_eq_true rfl, Nat.le_of_ble_eq_true rfl⟩ ⟨Nat.le_of_ble_eq_true rfl, Nat.le_of_ble_eq_true rfl⟩ rfl rfl (Nat.le_of_ble_eq_true rfl) dX9_type_5 (fun r1 σ2 => ?_)
  refine r_if_ne (tgt := 13) C dX9_type_8 (by decide) ?_ ?_
  · refine r_aload_n C dX9_type_13 rfl (lv_at hl 0 rfl) ?_
    refine r_getI C fl_X9_54 lf_50_10 dX9_type_14 ?_
    refine r_bipush (v := 90) C dX9_type_17 (by decide) ?_
    refine r_icmp_ne (tgt := 25) C dX9_type_19 (by decide) ?_ ?_
    · refine r_aload_n C dX9_type_25 rfl (lv_at hl 0 rfl) ?_
      refine r_getR C fl_X9_26 lf_50_11 dX9_type_26 ?_
      refine r_aload_n C dX9_type_29 rfl (lv_at hl 0 rfl) ?_
      refine r_getI C fl_X9_54 lf_50_10 dX9_type_30 ?_
      refine r_iload_n C dX9_type_33 rfl (lv_at hl 1 rfl) ?_
      refine r_iast C la_56 dX9_type_34 ?_
      refine r_letm (fun σ3 => ?_)
      refine r_aload_n C dX9_type_35 rfl (lv_at hl 0 rfl) ?_
      refine r_dup C dX9_type_36 rfl ?_
      refine r_getI C fl_X9_54 lf_50_10 dX9_type_37 ?_
      refine r_iconst (v := 1) C dX9_type_40 (by decide) ?_
      refine r_iadd C dX9_type_41 ?_
      refine r_putI C fl_X9_54 fp_X9_10 rfl rfl lf_50_10 dX9_type_42 ?_
      refine r_letm (fun σ4 => ?_)
      refine r_aload_n C dX9_type_45 rfl (lv_at hl 0 rfl) ?_
      refine r_getI C fl_X9_54 lf_50_10 dX9_type_46 ?_
      exact r_iret C rfl dX9_type_49
    · refine r_bipush (v := (-3)) C dX9_type_22 (by decide) ?_
      exact r_iret C rfl dX9_type_24
  · refine r_iconst (v := (-1)) C dX9_type_11 (by decide) ?_
    exact r_iret C rfl dX9_type_12

set_option maxRecDepth 100000 in
def fX9_clear (σ : Mem) : Option (Int32 × Mem) := letv (σ 50 10) (fun v1 => letm (stm σ 50 10 0) (fun σ2 => some (v1, σ2)))
set_option maxRecDepth 100000 in
set_option maxHeartbeats 4000000 in
theorem gX9_clear (l : Launch) {D : va_G} {cI cZ : ClassId} {ad : Nat → Nat} {tT : Nat} (hi : INJ ad) (σ : Mem) : GM l D cI cZ ad tT yX9_clear cX9_clear 2 (some .int) 0 0 rvi [.ref (ad 50)] σ (fX9_clear σ) := by
  refine gm_of (lv := [(0, .ref (ad 50))]) (own := RX9) hi (by decide +kernel) rfl (Nat.le_of_ble_eq_true rfl) rfl ?_
  intro p e s m args below meth c A C ls hl
  unfold fX9_clear
  refine r_aload_n C dX9_clear_0 rfl (lv_at hl 0 rfl) ?_
  refine r_getI C fl_X9_54 lf_50_10 dX9_clear_1 ?_
  refine r_letv (fun v1 => ?_)
  refine r_istore_n (lv' := [(1, .int v1), (0, .ref (ad 50))]) C dX9_clear_4 rfl hl (by decide) rfl (fun ls hl => ?_)
  refine r_aload_n C dX9_clear_5 rfl (lv_at hl 1 rfl) ?_
  refine r_iconst (v := 0) C dX9_clear_6 (by decide) ?_
  refine r_putI C fl_X9_54 fp_X9_10 rfl rfl lf_50_10 dX9_clear_7 ?_
  refine r_letm (fun σ2 => ?_)
  refine r_iload_n C dX9_clear_10 rfl (lv_at hl 0 rfl) ?_
  exact r_iret C rfl dX9_clear_11

set_option maxRecDepth 100000 in
def BX9_blanks_0 (k38 : Mem → Option (Int32 × Mem)) (rec : Mem → Option (Int32 × Mem)) (σ : Mem) : Option (Int32 × Mem) := if (σ 50 10 : Int32) ≤ (σ 50 12) then k38 σ else gd 90 (σ 50 12) (if (σ 56 (σ 50 12).toNatClampNeg : Int32) = 32 then letm (stm σ 50 12 ((σ 50 12) + 1)) (fun σ1 => rec σ1) else k38 σ)
def LX9_blanks_0 (k38 : Mem → Option (Int32 × Mem)) : Nat → Mem → Option (Int32 × Mem)
  | 0 => fun _ => none
  | n + 1 => BX9_blanks_0 k38 (LX9_blanks_0 k38 n)
set_option maxRecDepth 100000 in
set_option maxHeartbeats 4000000 in
theorem wX9_blanks_0 {p : Program} {l : Launch} {e : Env} {s : State} {m : MethodId} {args : Array Value} {below : List Frame} {meth : Method} {c : Code} {D : va_G} {cI cZ : ClassId} {ad : Nat → Nat} {tT : Nat} {A : Nat → Prop} (C : CX p s m args meth c cX9_blanks 1 RX9 (none) D cI cZ ad tT A) (k38 : Mem → Option (Int32 × Mem)) (hk38 : ∀ (σ : Mem) (ls : Array Slot), lv_has ls 1 [] → WM p l e 0 0 s m args below meth c D cI cZ ad A rvv (k38 σ) σ (F0 m 38 ls [])) :
    ∀ (n0 : Nat), ∀ (σ : Mem) (ls : Array Slot), lv_has ls 1 [(0, .ref (ad 50))] → WM p l e 0 0 s m args below meth c D cI cZ ad A rvv (LX9_blanks_0 k38 n0 σ) σ (F0 m 0 ls []) := by
  intro n0
  induction n0 with
  | zero => intro σ ls hl; exact r_none
  | succ n0 ih =>
    intro σ ls hl
    show WM p l e 0 0 s m args below meth c D cI cZ ad A rvv (BX9_blanks_0 k38 (LX9_blanks_0 k38 n0) σ) σ (F0 m 0 ls [])
    unfold BX9_blanks_0
    refine r_aload_n C dX9_blanks_0 rfl (lv_at hl 0 rfl) ?_
    refine r_getI C fl_X9_58 lf_50_12 dX9_blanks_1 ?_
    refine r_aload_n C dX9_blanks_4 rfl (lv_at hl 0 rfl) ?_
    refine r_getI C fl_X9_54 lf_50_10 dX9_blanks_5 ?_
    refine r_icmp_ge (tgt := 38) C dX9_blanks_8 (by decide) ?_ ?_
    · exact hk38 σ ls (lv_sub hl [] rfl)
    · refine r_aload_n C dX9_blanks_11 rfl (lv_at hl 0 rfl) ?_
      refine r_getR C fl_X9_26 lf_50_11 dX9_blanks_12 ?_
      refine r_aload_n C dX9_blanks_15 rfl (lv_at hl 0 rfl) ?_
      refine r_getI C fl_X9_58 lf_50_12 dX9_blanks_16 ?_
      refine r_iald C la_56 dX9_blanks_19 ?_
      refine r_bipush (v := 32) C dX9_blanks_20 (by decide) ?_
      refine r_icmp_ne (tgt := 38) C dX9_blanks_22 (by decide) ?_ ?_
      · exact hk38 σ ls (lv_sub hl [] rfl)
      · refine r_aload_n C dX9_blanks_25 rfl (lv_at hl 0 rfl) ?_
        refine r_dup C dX9_blanks_26 rfl ?_
        refine r_getI C fl_X9_58 lf_50_12 dX9_blanks_27 ?_
        refine r_iconst (v := 1) C dX9_blanks_30 (by decide) ?_
        refine r_iadd C dX9_blanks_31 ?_
        refine r_putI C fl_X9_58 fp_X9_12 rfl rfl lf_50_12 dX9_blanks_32 ?_
        refine r_letm (fun σ1 => ?_)
        refine r_goto (tgt := 0) C dX9_blanks_35 (by decide) ?_
        exact ih σ1 ls (lv_sub hl [0] rfl)
set_option maxRecDepth 100000 in
def fX9_blanks (σ : Mem) : Option (Int32 × Mem) := LX9_blanks_0 (fun σ2 => some (0, σ2)) 300 σ
set_option maxRecDepth 100000 in
set_option maxHeartbeats 4000000 in
theorem gX9_blanks (l : Launch) {D : va_G} {cI cZ : ClassId} {ad : Nat → Nat} {tT : Nat} (hi : INJ ad) (σ : Mem) : GM l D cI cZ ad tT yX9_blanks cX9_blanks 1 (none) 0 0 rvv [.ref (ad 50)] σ (fX9_blanks σ) := by
  refine gm_of (lv := [(0, .ref (ad 50))]) (own := RX9) hi (by decide +kernel) rfl (Nat.le_of_ble_eq_true rfl) rfl ?_
  intro p e s m args below meth c A C ls hl
  unfold fX9_blanks
  refine wX9_blanks_0  C _ ?_ 300 σ ls (lv_sub hl [0] rfl)
  · intro σ2 ls hl
    exact r_vret C rfl dX9_blanks_38

set_option maxRecDepth 100000 in
def fX9_next (σ : Mem) : Option (Int32 × Mem) := bnd (fX9_blanks σ) (fun r1 σ2 => letm (stm σ2 50 13 (σ2 50 12)) (fun σ3 => jn (fun t0 σ4 => letm (stm σ4 50 14 t0) (fun σ5 => if (σ5 50 12 : Int32) = (σ5 50 10) then letm (stm σ5 50 12 ((σ5 50 12) + 0)) (fun σ7 => some (0, σ7)) else letm (stm σ5 50 12 ((σ5 50 12) + 1)) (fun σ6 => some (0, σ6)))) (fun k37 => if (σ3 50 12 : Int32) = (σ3 50 10) then k37 (-1) σ3 else gd 90 (σ3 50 12) (k37 (σ3 56 (σ3 50 12).toNatClampNeg) σ3))))
set_option maxRecDepth 100000 in
set_option maxHeartbeats 4000000 in
theorem gX9_next (l : Launch) {D : va_G} {cI cZ : ClassId} {ad : Nat → Nat} {tT : Nat} (hi : INJ ad) (σ : Mem) : GM l D cI cZ ad tT yX9_next cX9_next 1 (none) 1 20 rvv [.ref (ad 50)] σ (fX9_next σ) := by
  refine gm_of (lv := [(0, .ref (ad 50))]) (own := RX9) hi (by decide +kernel) rfl (Nat.le_of_ble_eq_true rfl) rfl ?_
  intro p e s m args below meth c A C ls hl
  unfold fX9_next
  refine r_aload_n C dX9_next_0 rfl (lv_at hl 0 rfl) ?_
  refine r_callVv (As := []) (rest := []) C hl ml_X9_61 rc_50 (gX9_blanks l C.inj σ) ⟨Nat.le_of_ble_eq_true rfl, Nat.le_of_ble_eq_true rfl⟩ ⟨Nat.le_of_ble_eq_true rfl, Nat.le_of_ble_eq_true rfl⟩ rfl rfl (Nat.le_of_ble_eq_true rfl) dX9_next_1 (fun r1 σ2 => ?_)
  refine r_aload_n C dX9_next_4 rfl (lv_at hl 0 rfl) ?_
  refine r_aload_n C dX9_next_5 rfl (lv_at hl 0 rfl) ?_
  refine r_getI C fl_X9_58 lf_50_12 dX9_next_6 ?_
  refine r_putI C fl_X9_64 fp_X9_13 rfl rfl lf_50_13 dX9_next_9 ?_
  refine r_letm (fun σ3 => ?_)
  refine r_aload_n C dX9_next_12 rfl (lv_at hl 0 rfl) ?_
  refine r_aload_n C dX9_next_13 rfl (lv_at hl 0 rfl) ?_
  refine r_getI C fl_X9_58 lf_50_12 dX9_next_14 ?_
  refine r_aload_n C dX9_next_17 rfl (lv_at hl 0 rfl) ?_
  refine r_getI C fl_X9_54 lf_50_10 dX9_next_18 ?_
  refine r_jn (fun (k37 : Int32 → Mem → Option (Int32 × Mem)) => ∀ (t0 : Int32) (σ : Mem) (ls : Array Slot), lv_has ls 1 [(0, .ref (ad 50))] → WM p l e 1 20 s m args below meth c D cI cZ ad A rvv (k37 t0 σ) σ (F0 m 37 ls [.int t0, .ref (ad 50)])) ?_ ?_
  · intro t0 σ4 ls hl
    refine r_putI C fl_X9_67 fp_X9_14 rfl rfl lf_50_14 dX9_next_37 ?_
    refine r_letm (fun σ5 => ?_)
    refine r_aload_n C dX9_next_40 rfl (lv_at hl 0 rfl) ?_
    refine r_dup C dX9_next_41 rfl ?_
    refine r_getI C fl_X9_58 lf_50_12 dX9_next_42 ?_
    refine r_aload_n C dX9_next_45 rfl (lv_at hl 0 rfl) ?_
    refine r_getI C fl_X9_58 lf_50_12 dX9_next_46 ?_
    refine r_aload_n C dX9_next_49 rfl (lv_at hl 0 rfl) ?_
    refine r_getI C fl_X9_54 lf_50_10 dX9_next_50 ?_
    refine r_icmp_ne (tgt := 60) C dX9_next_53 (by decide) ?_ ?_
    · refine r_iconst (v := 1) C dX9_next_60 (by decide) ?_
      refine r_iadd C dX9_next_61 ?_
      refine r_putI C fl_X9_58 fp_X9_12 rfl rfl lf_50_12 dX9_next_62 ?_
      refine r_letm (fun σ6 => ?_)
      exact r_vret C rfl dX9_next_65
    · refine r_iconst (v := 0) C dX9_next_56 (by decide) ?_
      refine r_goto (tgt := 61) C dX9_next_57 (by decide) ?_
      refine r_iadd C dX9_next_61 ?_
      refine r_putI C fl_X9_58 fp_X9_12 rfl rfl lf_50_12 dX9_next_62 ?_
      refine r_letm (fun σ7 => ?_)
      exact r_vret C rfl dX9_next_65
  · intro k37 hk37
    refine r_icmp_ne (tgt := 28) C dX9_next_21 (by decide) ?_ ?_
    · refine r_aload_n C dX9_next_28 rfl (lv_at hl 0 rfl) ?_
      refine r_getR C fl_X9_26 lf_50_11 dX9_next_29 ?_
      refine r_aload_n C dX9_next_32 rfl (lv_at hl 0 rfl) ?_
      refine r_getI C fl_X9_58 lf_50_12 dX9_next_33 ?_
      refine r_iald C la_56 dX9_next_36 ?_
      exact hk37 (σ3 56 (σ3 50 12).toNatClampNeg) σ3 ls (lv_sub hl [0] rfl)
    · refine r_iconst (v := (-1)) C dX9_next_24 (by decide) ?_
      refine r_goto (tgt := 37) C dX9_next_25 (by decide) ?_
      exact hk37 (-1) σ3 ls (lv_sub hl [0] rfl)

set_option maxRecDepth 100000 in
def BX9_readsCopy_30 (k130 : Int32 → Mem → Option (Int32 × Mem)) (rec : Int32 → Mem → Option (Int32 × Mem)) (x1 : Int32) (σ : Mem) : Option (Int32 × Mem) := if (σ 50 14 : Int32) = 59 then k130 x1 σ else jn (fun x1 t0 σ5 => bnd (fX9_in (σ5 50 14) 97 100 σ5) (fun r6 σ7 => jn (fun x1 x2 σ8 => if (x1 : Int32) = x2 then some (0, σ8) else jn (fun x1 t0 t1 σ9 => gd 48 t0 (letm (stm σ9 57 t0.toNatClampNeg t1) (fun σ10 => bnd (fX9_next σ10) (fun r11 σ12 => rec (x1 + 1) σ12)))) (fun k119 => if (σ8 50 14 : Int32) = 63 then k119 x1 (((8 : Int32) * (σ8 50 16)) + x1) 4 σ8 else k119 x1 (((8 : Int32) * (σ8 50 16)) + x1) ((σ8 50 14) - 97) σ8)) (fun k79 => if (r6 : Int32) = 0 then if (σ7 50 14 : Int32) = 63 then k79 x1 t0 σ7 else some (0, σ7) else k79 x1 t0 σ7))) (fun k55 => if (σ 50 16 : Int32) = 0 then k55 x1 8 σ else k55 x1 (σ 50 17) σ)
def LX9_readsCopy_30 (k130 : Int32 → Mem → Option (Int32 × Mem)) : Nat → Int32 → Mem → Option (Int32 × Mem)
  | 0 => fun _ _ => none
  | n + 1 => BX9_readsCopy_30 k130 (LX9_readsCopy_30 k130 n)
set_option maxRecDepth 100000 in
set_option maxHeartbeats 4000000 in
theorem wX9_readsCopy_30 {p : Program} {l : Launch} {e : Env} {s : State} {m : MethodId} {args : Array Value} {below : List Frame} {meth : Method} {c : Code} {D : va_G} {cI cZ : ClassId} {ad : Nat → Nat} {tT : Nat} {A : Nat → Prop} (C : CX p s m args meth c cX9_readsCopy 3 RX9 (some .boolean) D cI cZ ad tT A) (k130 : Int32 → Mem → Option (Int32 × Mem)) (hk130 : ∀ (x1 : Int32) (σ : Mem) (ls : Array Slot), lv_has ls 3 [(0, .ref (ad 50)), (1, .int x1)] → WM p l e 2 40 s m args below meth c D cI cZ ad A rvi (k130 x1 σ) σ (F0 m 130 ls [])) :
    ∀ (n0 : Nat), ∀ (x1 : Int32) (σ : Mem) (ls : Array Slot), lv_has ls 3 [(0, .ref (ad 50)), (1, .int x1)] → WM p l e 2 40 s m args below meth c D cI cZ ad A rvi (LX9_readsCopy_30 k130 n0 x1 σ) σ (F0 m 30 ls []) := by
  intro n0
  induction n0 with
  | zero => intro x1 σ ls hl; exact r_none
  | succ n0 ih =>
    intro x1 σ ls hl
    show WM p l e 2 40 s m args below meth c D cI cZ ad A rvi (BX9_readsCopy_30 k130 (LX9_readsCopy_30 k130 n0) x1 σ) σ (F0 m 30 ls [])
    unfold BX9_readsCopy_30
    refine r_aload_n C dX9_readsCopy_30 rfl (lv_at hl 0 rfl) ?_
    refine r_getI C fl_X9_67 lf_50_14 dX9_readsCopy_31 ?_
    refine r_bipush (v := 59) C dX9_readsCopy_34 (by decide) ?_
    refine r_icmp_eq (tgt := 130) C dX9_readsCopy_36 (by decide) ?_ ?_
    · exact hk130 x1 σ ls (lv_sub hl [0, 1] rfl)
    · refine r_aload_n C dX9_readsCopy_39 rfl (lv_at hl 0 rfl) ?_
      refine r_getI C fl_X9_73 lf_50_16 dX9_readsCopy_40 ?_
      refine r_jn (fun (k55 : Int32 → Int32 → Mem → Option (Int32 × Mem)) => ∀ (x1 : Int32) (t0 : Int32) (σ : Mem) (ls : Array Slot), lv_has ls 3 [(0, .ref (ad 50)), (1, .int x1)] → WM p l e 2 40 s m args below meth c D cI cZ ad A rvi (k55 x1 t0 σ) σ (F0 m 55 ls [.int t0])) ?_ ?_
      · intro x1 t0 σ5 ls hl
        refine r_istore_n (lv' := [(2, .int t0), (0, .ref (ad 50)), (1, .int x1)]) C dX9_readsCopy_55 rfl hl (by decide) rfl (fun ls hl => ?_)
        refine r_aload_n C dX9_readsCopy_56 rfl (lv_at hl 1 rfl) ?_
        refine r_getI C fl_X9_67 lf_50_14 dX9_readsCopy_57 ?_
        refine r_bipush (v := 97) C dX9_readsCopy_60 (by decide) ?_
        refine r_bipush (v := 100) C dX9_readsCopy_62 (by decide) ?_
        refine r_callSi (As := [.int (σ5 50 14), .int 97, .int 100]) (rest := []) C hl ml_X9_50 (gX9_in l C.inj (σ5 50 14) 97 100 σ5) ⟨Nat.le_of_ble_eq_true rfl, Nat.le_of_ble_eq_true rfl⟩ ⟨Nat.le_of_ble_eq_true rfl, Nat.le_of_ble_eq_true rfl⟩ rfl rfl (Nat.le_of_ble_eq_true rfl) dX9_readsCopy_64 (fun r6 σ7 => ?_)
        refine r_jn (fun (k79 : Int32 → Int32 → Mem → Option (Int32 × Mem)) => ∀ (x1 : Int32) (x2 : Int32) (σ : Mem) (ls : Array Slot), lv_has ls 3 [(0, .ref (ad 50)), (1, .int x1), (2, .int x2)] → WM p l e 2 40 s m args below meth c D cI cZ ad A rvi (k79 x1 x2 σ) σ (F0 m 79 ls [])) ?_ ?_
        · intro x1 x2 σ8 ls hl
          refine r_iload_n C dX9_readsCopy_79 rfl (lv_at hl 1 rfl) ?_
          refine r_iload_n C dX9_readsCopy_80 rfl (lv_at hl 2 rfl) ?_
          refine r_icmp_ne (tgt := 86) C dX9_readsCopy_81 (by decide) ?_ ?_
          · refine r_aload_n C dX9_readsCopy_86 rfl (lv_at hl 0 rfl) ?_
            refine r_getR C fl_X9_29 lf_50_18 dX9_readsCopy_87 ?_
            refine r_bipush (v := 8) C dX9_readsCopy_90 (by decide) ?_
            refine r_aload_n C dX9_readsCopy_92 rfl (lv_at hl 0 rfl) ?_
            refine r_getI C fl_X9_73 lf_50_16 dX9_readsCopy_93 ?_
            refine r_imul C dX9_readsCopy_96 ?_
            refine r_iload_n C dX9_readsCopy_97 rfl (lv_at hl 1 rfl) ?_
            refine r_iadd C dX9_readsCopy_98 ?_
            refine r_aload_n C dX9_readsCopy_99 rfl (lv_at hl 0 rfl) ?_
            refine r_getI C fl_X9_67 lf_50_14 dX9_readsCopy_100 ?_
            refine r_bipush (v := 63) C dX9_readsCopy_103 (by decide) ?_
            refine r_jn (fun (k119 : Int32 → Int32 → Int32 → Mem → Option (Int32 × Mem)) => ∀ (x1 : Int32) (t0 : Int32) (t1 : Int32) (σ : Mem) (ls : Array Slot), lv_has ls 3 [(0, .ref (ad 50)), (1, .int x1)] → WM p l e 2 40 s m args below meth c D cI cZ ad A rvi (k119 x1 t0 t1 σ) σ (F0 m 119 ls [.int t1, .int t0, .ref (ad 57)])) ?_ ?_
            · intro x1 t0 t1 σ9 ls hl
              refine r_iast C la_57 dX9_readsCopy_119 ?_
              refine r_letm (fun σ10 => ?_)
              refine r_iinc (v := x1 + 1) (lv' := [(1, .int (x1 + 1)), (0, .ref (ad 50))]) C dX9_readsCopy_120 hl (k := 1) rfl rfl (by decide) rfl (fun ls hl => ?_)
              refine r_aload_n C dX9_readsCopy_123 rfl (lv_at hl 1 rfl) ?_
              refine r_callVv (As := []) (rest := []) C hl ml_X9_70 rc_50 (gX9_next l C.inj σ10) ⟨Nat.le_of_ble_eq_true rfl, Nat.le_of_ble_eq_true rfl⟩ ⟨Nat.le_of_ble_eq_true rfl, Nat.le_of_ble_eq_true rfl⟩ rfl rfl (Nat.le_of_ble_eq_true rfl) dX9_readsCopy_124 (fun r11 σ12 => ?_)
              refine r_goto (tgt := 30) C dX9_readsCopy_127 (by decide) ?_
              exact ih (x1 + 1) σ12 ls (lv_sub hl [1, 0] rfl)
            · intro k119 hk119
              refine r_icmp_ne (tgt := 112) C dX9_readsCopy_105 (by decide) ?_ ?_
              · refine r_aload_n C dX9_readsCopy_112 rfl (lv_at hl 0 rfl) ?_
                refine r_getI C fl_X9_67 lf_50_14 dX9_readsCopy_113 ?_
                refine r_bipush (v := 97) C dX9_readsCopy_116 (by decide) ?_
                refine r_isub C dX9_readsCopy_118 ?_
                exact hk119 x1 (((8 : Int32) * (σ8 50 16)) + x1) ((σ8 50 14) - 97) σ8 ls (lv_sub hl [0, 1] rfl)
              · refine r_iconst (v := 4) C dX9_readsCopy_108 (by decide) ?_
                refine r_goto (tgt := 119) C dX9_readsCopy_109 (by decide) ?_
                exact hk119 x1 (((8 : Int32) * (σ8 50 16)) + x1) 4 σ8 ls (lv_sub hl [0, 1] rfl)
          · refine r_iconst (v := 0) C dX9_readsCopy_84 (by decide) ?_
            exact r_zret C rfl (by decide) dX9_readsCopy_85
        · intro k79 hk79
          refine r_if_ne (tgt := 79) C dX9_readsCopy_67 (by decide) ?_ ?_
          · exact hk79 x1 t0 σ7 ls (lv_sub hl [1, 2, 0] rfl)
          · refine r_aload_n C dX9_readsCopy_70 rfl (lv_at hl 1 rfl) ?_
            refine r_getI C fl_X9_67 lf_50_14 dX9_readsCopy_71 ?_
            refine r_bipush (v := 63) C dX9_readsCopy_74 (by decide) ?_
            refine r_icmp_ne (tgt := 84) C dX9_readsCopy_76 (by decide) ?_ ?_
            · refine r_iconst (v := 0) C dX9_readsCopy_84 (by decide) ?_
              exact r_zret C rfl (by decide) dX9_readsCopy_85
            · exact hk79 x1 t0 σ7 ls (lv_sub hl [1, 2, 0] rfl)
      · intro k55 hk55
        refine r_if_ne (tgt := 51) C dX9_readsCopy_43 (by decide) ?_ ?_
        · refine r_aload_n C dX9_readsCopy_51 rfl (lv_at hl 0 rfl) ?_
          refine r_getI C fl_X9_76 lf_50_17 dX9_readsCopy_52 ?_
          exact hk55 x1 (σ 50 17) σ ls (lv_sub hl [0, 1] rfl)
        · refine r_bipush (v := 8) C dX9_readsCopy_46 (by decide) ?_
          refine r_goto (tgt := 55) C dX9_readsCopy_48 (by decide) ?_
          exact hk55 x1 8 σ ls (lv_sub hl [0, 1] rfl)
set_option maxRecDepth 100000 in
def fX9_readsCopy (σ : Mem) : Option (Int32 × Mem) := bnd (fX9_next σ) (fun r1 σ2 => if (σ2 50 14 : Int32) = 109 then if (σ2 50 16 : Int32) = 6 then some (0, σ2) else bnd (fX9_next σ2) (fun r3 σ4 => LX9_readsCopy_30 (fun x1 σ13 => if (x1 : Int32) = 0 then some (0, σ13) else jn (fun x1 σ14 => letm (stm σ14 50 17 x1) (fun σ15 => letm (stm σ15 50 16 ((σ15 50 16) + 1)) (fun σ16 => some (1, σ16)))) (fun k151 => if (σ13 50 16 : Int32) ≤ 0 then k151 x1 σ13 else if (σ13 50 17 : Int32) ≤ x1 then k151 x1 σ13 else some (0, σ13))) 300 0 σ4) else some (0, σ2))
set_option maxRecDepth 100000 in
set_option maxHeartbeats 4000000 in
theorem gX9_readsCopy (l : Launch) {D : va_G} {cI cZ : ClassId} {ad : Nat → Nat} {tT : Nat} (hi : INJ ad) (σ : Mem) : GM l D cI cZ ad tT yX9_readsCopy cX9_readsCopy 3 (some .boolean) 2 40 rvi [.ref (ad 50)] σ (fX9_readsCopy σ) := by
  refine gm_of (lv := [(0, .ref (ad 50))]) (own := RX9) hi (by decide +kernel) rfl (Nat.le_of_ble_eq_true rfl) rfl ?_
  intro p e s m args below meth c A C ls hl
  unfold fX9_readsCopy
  refine r_aload_n C dX9_readsCopy_0 rfl (lv_at hl 0 rfl) ?_
  refine r_callVv (As := []) (rest := []) C hl ml_X9_70 rc_50 (gX9_next l C.inj σ) ⟨Nat.le_of_ble_eq_true rfl, Nat.le_of_ble_eq_true rfl⟩ ⟨Nat.le_of_ble_eq_true rfl, Nat.le_of_ble_eq_true rfl⟩ rfl rfl (Nat.le_of_ble_eq_true rfl) dX9_readsCopy_1 (fun r1 σ2 => ?_)
  refine r_aload_n C dX9_readsCopy_4 rfl (lv_at hl 0 rfl) ?_
  refine r_getI C fl_X9_67 lf_50_14 dX9_readsCopy_5 ?_
  refine r_bipush (v := 109) C dX9_readsCopy_8 (by decide) ?_
  refine r_icmp_ne (tgt := 22) C dX9_readsCopy_10 (by decide) ?_ ?_
  · refine r_iconst (v := 0) C dX9_readsCopy_22 (by decide) ?_
    exact r_zret C rfl (by decide) dX9_readsCopy_23
  · refine r_aload_n C dX9_readsCopy_13 rfl (lv_at hl 0 rfl) ?_
    refine r_getI C fl_X9_73 lf_50_16 dX9_readsCopy_14 ?_
    refine r_bipush (v := 6) C dX9_readsCopy_17 (by decide) ?_
    refine r_icmp_ne (tgt := 24) C dX9_readsCopy_19 (by decide) ?_ ?_
    · refine r_iconst (v := 0) C dX9_readsCopy_24 (by decide) ?_
      refine r_istore_n (lv' := [(1, .int 0), (0, .ref (ad 50))]) C dX9_readsCopy_25 rfl hl (by decide) rfl (fun ls hl => ?_)
      refine r_aload_n C dX9_readsCopy_26 rfl (lv_at hl 1 rfl) ?_
      refine r_callVv (As := []) (rest := []) C hl ml_X9_70 rc_50 (gX9_next l C.inj σ2) ⟨Nat.le_of_ble_eq_true rfl, Nat.le_of_ble_eq_true rfl⟩ ⟨Nat.le_of_ble_eq_true rfl, Nat.le_of_ble_eq_true rfl⟩ rfl rfl (Nat.le_of_ble_eq_true rfl) dX9_readsCopy_27 (fun r3 σ4 => ?_)
      refine wX9_readsCopy_30  C _ ?_ 300 0 σ4 ls (lv_sub hl [1, 0] rfl)
      · intro x1 σ13 ls hl
        refine r_iload_n C dX9_readsCopy_130 rfl (lv_at hl 1 rfl) ?_
        refine r_if_eq (tgt := 149) C dX9_readsCopy_131 (by decide) ?_ ?_
        · refine r_iconst (v := 0) C dX9_readsCopy_149 (by decide) ?_
          exact r_zret C rfl (by decide) dX9_readsCopy_150
        · refine r_aload_n C dX9_readsCopy_134 rfl (lv_at hl 0 rfl) ?_
          refine r_getI C fl_X9_73 lf_50_16 dX9_readsCopy_135 ?_
          refine r_jn (fun (k151 : Int32 → Mem → Option (Int32 × Mem)) => ∀ (x1 : Int32) (σ : Mem) (ls : Array Slot), lv_has ls 3 [(0, .ref (ad 50)), (1, .int x1)] → WM p l e 2 40 s m args below meth c D cI cZ ad A rvi (k151 x1 σ) σ (F0 m 151 ls [])) ?_ ?_
          · intro x1 σ14 ls hl
            refine r_aload_n C dX9_readsCopy_151 rfl (lv_at hl 0 rfl) ?_
            refine r_iload_n C dX9_readsCopy_152 rfl (lv_at hl 1 rfl) ?_
            refine r_putI C fl_X9_76 fp_X9_17 rfl rfl lf_50_17 dX9_readsCopy_153 ?_
            refine r_letm (fun σ15 => ?_)
            refine r_aload_n C dX9_readsCopy_156 rfl (lv_at hl 0 rfl) ?_
            refine r_dup C dX9_readsCopy_157 rfl ?_
            refine r_getI C fl_X9_73 lf_50_16 dX9_readsCopy_158 ?_
            refine r_iconst (v := 1) C dX9_readsCopy_161 (by decide) ?_
            refine r_iadd C dX9_readsCopy_162 ?_
            refine r_putI C fl_X9_73 fp_X9_16 rfl rfl lf_50_16 dX9_readsCopy_163 ?_
            refine r_letm (fun σ16 => ?_)
            refine r_iconst (v := 1) C dX9_readsCopy_166 (by decide) ?_
            exact r_zret C rfl (by decide) dX9_readsCopy_167
          · intro k151 hk151
            refine r_if_le (tgt := 151) C dX9_readsCopy_138 (by decide) ?_ ?_
            · exact hk151 x1 σ13 ls (lv_sub hl [0, 1] rfl)
            · refine r_iload_n C dX9_readsCopy_141 rfl (lv_at hl 1 rfl) ?_
              refine r_aload_n C dX9_readsCopy_142 rfl (lv_at hl 0 rfl) ?_
              refine r_getI C fl_X9_76 lf_50_17 dX9_readsCopy_143 ?_
              refine r_icmp_ge (tgt := 151) C dX9_readsCopy_146 (by decide) ?_ ?_
              · exact hk151 x1 σ13 ls (lv_sub hl [0, 1] rfl)
              · refine r_iconst (v := 0) C dX9_readsCopy_149 (by decide) ?_
                exact r_zret C rfl (by decide) dX9_readsCopy_150
    · refine r_iconst (v := 0) C dX9_readsCopy_22 (by decide) ?_
      exact r_zret C rfl (by decide) dX9_readsCopy_23

set_option maxRecDepth 100000 in
def BX9_copies_19 (k60 : Mem → Option (Int32 × Mem)) (rec : Mem → Option (Int32 × Mem)) (σ : Mem) : Option (Int32 × Mem) := if (σ 50 10 : Int32) ≤ (σ 50 12) then k60 σ else bnd (fX9_readsCopy σ) (fun r6 σ7 => if (r6 : Int32) = 0 then letm (stm σ7 50 15 (σ7 50 13)) (fun σ10 => some (((-10) : Int32) - (σ10 50 15), σ10)) else bnd (fX9_blanks σ7) (fun r8 σ9 => rec σ9))
def LX9_copies_19 (k60 : Mem → Option (Int32 × Mem)) : Nat → Mem → Option (Int32 × Mem)
  | 0 => fun _ => none
  | n + 1 => BX9_copies_19 k60 (LX9_copies_19 k60 n)
set_option maxRecDepth 100000 in
set_option maxHeartbeats 4000000 in
theorem wX9_copies_19 {p : Program} {l : Launch} {e : Env} {s : State} {m : MethodId} {args : Array Value} {below : List Frame} {meth : Method} {c : Code} {D : va_G} {cI cZ : ClassId} {ad : Nat → Nat} {tT : Nat} {A : Nat → Prop} (C : CX p s m args meth c cX9_copies 2 RX9 (some .int) D cI cZ ad tT A) (k60 : Mem → Option (Int32 × Mem)) (hk60 : ∀ (σ : Mem) (ls : Array Slot), lv_has ls 2 [(0, .ref (ad 50))] → WM p l e 3 62 s m args below meth c D cI cZ ad A rvi (k60 σ) σ (F0 m 60 ls [])) :
    ∀ (n0 : Nat), ∀ (σ : Mem) (ls : Array Slot), lv_has ls 2 [(0, .ref (ad 50))] → WM p l e 3 62 s m args below meth c D cI cZ ad A rvi (LX9_copies_19 k60 n0 σ) σ (F0 m 19 ls []) := by
  intro n0
  induction n0 with
  | zero => intro σ ls hl; exact r_none
  | succ n0 ih =>
    intro σ ls hl
    show WM p l e 3 62 s m args below meth c D cI cZ ad A rvi (BX9_copies_19 k60 (LX9_copies_19 k60 n0) σ) σ (F0 m 19 ls [])
    unfold BX9_copies_19
    refine r_aload_n C dX9_copies_19 rfl (lv_at hl 0 rfl) ?_
    refine r_getI C fl_X9_58 lf_50_12 dX9_copies_20 ?_
    refine r_aload_n C dX9_copies_23 rfl (lv_at hl 0 rfl) ?_
    refine r_getI C fl_X9_54 lf_50_10 dX9_copies_24 ?_
    refine r_icmp_ge (tgt := 60) C dX9_copies_27 (by decide) ?_ ?_
    · exact hk60 σ ls (lv_sub hl [0] rfl)
    · refine r_aload_n C dX9_copies_30 rfl (lv_at hl 0 rfl) ?_
      refine r_callVi (As := []) (rest := []) C hl ml_X9_79 rc_50 (gX9_readsCopy l C.inj σ) ⟨Nat.le_of_ble_eq_true rfl, Nat.le_of_ble_eq_true rfl⟩ ⟨Nat.le_of_ble_eq_true rfl, Nat.le_of_ble_eq_true rfl⟩ rfl rfl (Nat.le_of_ble_eq_true rfl) dX9_copies_31 (fun r6 σ7 => ?_)
      refine r_if_ne (tgt := 53) C dX9_copies_34 (by decide) ?_ ?_
      · refine r_aload_n C dX9_copies_53 rfl (lv_at hl 0 rfl) ?_
        refine r_callVv (As := []) (rest := []) C hl ml_X9_61 rc_50 (gX9_blanks l C.inj σ7) ⟨Nat.le_of_ble_eq_true rfl, Nat.le_of_ble_eq_true rfl⟩ ⟨Nat.le_of_ble_eq_true rfl, Nat.le_of_ble_eq_true rfl⟩ rfl rfl (Nat.le_of_ble_eq_true rfl) dX9_copies_54 (fun r8 σ9 => ?_)
        refine r_goto (tgt := 19) C dX9_copies_57 (by decide) ?_
        exact ih σ9 ls (lv_sub hl [0] rfl)
      · refine r_aload_n C dX9_copies_37 rfl (lv_at hl 0 rfl) ?_
        refine r_aload_n C dX9_copies_38 rfl (lv_at hl 0 rfl) ?_
        refine r_getI C fl_X9_64 lf_50_13 dX9_copies_39 ?_
        refine r_putI C fl_X9_83 fp_X9_15 rfl rfl lf_50_15 dX9_copies_42 ?_
        refine r_letm (fun σ10 => ?_)
        refine r_bipush (v := (-10)) C dX9_copies_45 (by decide) ?_
        refine r_aload_n C dX9_copies_47 rfl (lv_at hl 0 rfl) ?_
        refine r_getI C fl_X9_83 lf_50_15 dX9_copies_48 ?_
        refine r_isub C dX9_copies_51 ?_
        exact r_iret C rfl dX9_copies_52
set_option maxRecDepth 100000 in
def BX9_copies_83 (k107 : Mem → Option (Int32 × Mem)) (rec : Int32 → Mem → Option (Int32 × Mem)) (x1 : Int32) (σ : Mem) : Option (Int32 × Mem) := if (48 : Int32) ≤ x1 then k107 σ else gd 48 x1 (gd 49 x1 (letm (stm σ 51 x1.toNatClampNeg (σ 57 x1.toNatClampNeg)) (fun σ15 => rec (x1 + 1) σ15)))
def LX9_copies_83 (k107 : Mem → Option (Int32 × Mem)) : Nat → Int32 → Mem → Option (Int32 × Mem)
  | 0 => fun _ _ => none
  | n + 1 => BX9_copies_83 k107 (LX9_copies_83 k107 n)
set_option maxRecDepth 100000 in
set_option maxHeartbeats 4000000 in
theorem wX9_copies_83 {p : Program} {l : Launch} {e : Env} {s : State} {m : MethodId} {args : Array Value} {below : List Frame} {meth : Method} {c : Code} {D : va_G} {cI cZ : ClassId} {ad : Nat → Nat} {tT : Nat} {A : Nat → Prop} (C : CX p s m args meth c cX9_copies 2 RX9 (some .int) D cI cZ ad tT A) (k107 : Mem → Option (Int32 × Mem)) (hk107 : ∀ (σ : Mem) (ls : Array Slot), lv_has ls 2 [(0, .ref (ad 50))] → WM p l e 3 62 s m args below meth c D cI cZ ad A rvi (k107 σ) σ (F0 m 107 ls [])) :
    ∀ (n0 : Nat), ∀ (x1 : Int32) (σ : Mem) (ls : Array Slot), lv_has ls 2 [(0, .ref (ad 50)), (1, .int x1)] → WM p l e 3 62 s m args below meth c D cI cZ ad A rvi (LX9_copies_83 k107 n0 x1 σ) σ (F0 m 83 ls []) := by
  intro n0
  induction n0 with
  | zero => intro x1 σ ls hl; exact r_none
  | succ n0 ih =>
    intro x1 σ ls hl
    show WM p l e 3 62 s m args below meth c D cI cZ ad A rvi (BX9_copies_83 k107 (LX9_copies_83 k107 n0) x1 σ) σ (F0 m 83 ls [])
    unfold BX9_copies_83
    refine r_iload_n C dX9_copies_83 rfl (lv_at hl 1 rfl) ?_
    refine r_bipush (v := 48) C dX9_copies_84 (by decide) ?_
    refine r_icmp_ge (tgt := 107) C dX9_copies_86 (by decide) ?_ ?_
    · exact hk107 σ ls (lv_sub hl [0] rfl)
    · refine r_aload_n C dX9_copies_89 rfl (lv_at hl 0 rfl) ?_
      refine r_getR C fl_X9_7 lf_50_2 dX9_copies_90 ?_
      refine r_iload_n C dX9_copies_93 rfl (lv_at hl 1 rfl) ?_
      refine r_aload_n C dX9_copies_94 rfl (lv_at hl 0 rfl) ?_
      refine r_getR C fl_X9_29 lf_50_18 dX9_copies_95 ?_
      refine r_iload_n C dX9_copies_98 rfl (lv_at hl 1 rfl) ?_
      refine r_iald C la_57 dX9_copies_99 ?_
      refine r_iast C la_51 dX9_copies_100 ?_
      refine r_letm (fun σ15 => ?_)
      refine r_iinc (v := x1 + 1) (lv' := [(1, .int (x1 + 1)), (0, .ref (ad 50))]) C dX9_copies_101 hl (k := 1) rfl rfl (by decide) rfl (fun ls hl => ?_)
      refine r_goto (tgt := 83) C dX9_copies_104 (by decide) ?_
      exact ih (x1 + 1) σ15 ls (lv_sub hl [1, 0] rfl)
set_option maxRecDepth 100000 in
def fX9_copies (σ : Mem) : Option (Int32 × Mem) := letm (stm σ 50 12 0) (fun σ1 => letm (stm σ1 50 16 0) (fun σ2 => letm (stm σ2 50 17 0) (fun σ3 => bnd (fX9_blanks σ3) (fun r4 σ5 => LX9_copies_19 (fun σ11 => letm (stm σ11 50 10 0) (fun σ12 => letm (stm σ12 50 0 (σ12 50 16)) (fun σ13 => letm (stm σ13 50 1 (σ13 50 17)) (fun σ14 => LX9_copies_83 (fun σ16 => gd 49 48 (letm (stm σ16 51 (48 : Int32).toNatClampNeg 0) (fun σ17 => letm (stm σ17 50 3 0) (fun σ18 => letm (stm σ18 50 6 0) (fun σ19 => gd 2 0 (letm (stm σ19 54 (0 : Int32).toNatClampNeg 0) (fun σ20 => gd 2 1 (letm (stm σ20 54 (1 : Int32).toNatClampNeg 0) (fun σ21 => some (σ21 50 0, σ21)))))))))) 300 0 σ14)))) 300 σ5))))
set_option maxRecDepth 100000 in
set_option maxHeartbeats 4000000 in
theorem gX9_copies (l : Launch) {D : va_G} {cI cZ : ClassId} {ad : Nat → Nat} {tT : Nat} (hi : INJ ad) (σ : Mem) : GM l D cI cZ ad tT yX9_copies cX9_copies 2 (some .int) 3 62 rvi [.ref (ad 50)] σ (fX9_copies σ) := by
  refine gm_of (lv := [(0, .ref (ad 50))]) (own := RX9) hi (by decide +kernel) rfl (Nat.le_of_ble_eq_true rfl) rfl ?_
  intro p e s m args below meth c A C ls hl
  unfold fX9_copies
  refine r_aload_n C dX9_copies_0 rfl (lv_at hl 0 rfl) ?_
  refine r_iconst (v := 0) C dX9_copies_1 (by decide) ?_
  refine r_putI C fl_X9_58 fp_X9_12 rfl rfl lf_50_12 dX9_copies_2 ?_
  refine r_letm (fun σ1 => ?_)
  refine r_aload_n C dX9_copies_5 rfl (lv_at hl 0 rfl) ?_
  refine r_iconst (v := 0) C dX9_copies_6 (by decide) ?_
  refine r_putI C fl_X9_73 fp_X9_16 rfl rfl lf_50_16 dX9_copies_7 ?_
  refine r_letm (fun σ2 => ?_)
  refine r_aload_n C dX9_copies_10 rfl (lv_at hl 0 rfl) ?_
  refine r_iconst (v := 0) C dX9_copies_11 (by decide) ?_
  refine r_putI C fl_X9_76 fp_X9_17 rfl rfl lf_50_17 dX9_copies_12 ?_
  refine r_letm (fun σ3 => ?_)
  refine r_aload_n C dX9_copies_15 rfl (lv_at hl 0 rfl) ?_
  refine r_callVv (As := []) (rest := []) C hl ml_X9_61 rc_50 (gX9_blanks l C.inj σ3) ⟨Nat.le_of_ble_eq_true rfl, Nat.le_of_ble_eq_true rfl⟩ ⟨Nat.le_of_ble_eq_true rfl, Nat.le_of_ble_eq_true rfl⟩ rfl rfl (Nat.le_of_ble_eq_true rfl) dX9_copies_16 (fun r4 σ5 => ?_)
  refine wX9_copies_19  C _ ?_ 300 σ5 ls (lv_sub hl [0] rfl)
  · intro σ11 ls hl
    refine r_aload_n C dX9_copies_60 rfl (lv_at hl 0 rfl) ?_
    refine r_iconst (v := 0) C dX9_copies_61 (by decide) ?_
    refine r_putI C fl_X9_54 fp_X9_10 rfl rfl lf_50_10 dX9_copies_62 ?_
    refine r_letm (fun σ12 => ?_)
    refine r_aload_n C dX9_copies_65 rfl (lv_at hl 0 rfl) ?_
    refine r_aload_n C dX9_copies_66 rfl (lv_at hl 0 rfl) ?_
    refine r_getI C fl_X9_73 lf_50_16 dX9_copies_67 ?_
    refine r_putI C fl_X9_86 fp_X9_0 rfl rfl lf_50_0 dX9_copies_70 ?_
    refine r_letm (fun σ13 => ?_)
    refine r_aload_n C dX9_copies_73 rfl (lv_at hl 0 rfl) ?_
    refine r_aload_n C dX9_copies_74 rfl (lv_at hl 0 rfl) ?_
    refine r_getI C fl_X9_76 lf_50_17 dX9_copies_75 ?_
    refine r_putI C fl_X9_89 fp_X9_1 rfl rfl lf_50_1 dX9_copies_78 ?_
    refine r_letm (fun σ14 => ?_)
    refine r_iconst (v := 0) C dX9_copies_81 (by decide) ?_
    refine r_istore_n (lv' := [(1, .int 0), (0, .ref (ad 50))]) C dX9_copies_82 rfl hl (by decide) rfl (fun ls hl => ?_)
    refine wX9_copies_83  C _ ?_ 300 0 σ14 ls (lv_sub hl [1, 0] rfl)
    · intro σ16 ls hl
      refine r_aload_n C dX9_copies_107 rfl (lv_at hl 0 rfl) ?_
      refine r_getR C fl_X9_7 lf_50_2 dX9_copies_108 ?_
      refine r_bipush (v := 48) C dX9_copies_111 (by decide) ?_
      refine r_iconst (v := 0) C dX9_copies_113 (by decide) ?_
      refine r_iast C la_51 dX9_copies_114 ?_
      refine r_letm (fun σ17 => ?_)
      refine r_aload_n C dX9_copies_115 rfl (lv_at hl 0 rfl) ?_
      refine r_iconst (v := 0) C dX9_copies_116 (by decide) ?_
      refine r_putI C fl_X9_92 fp_X9_3 rfl rfl lf_50_3 dX9_copies_117 ?_
      refine r_letm (fun σ18 => ?_)
      refine r_aload_n C dX9_copies_120 rfl (lv_at hl 0 rfl) ?_
      refine r_iconst (v := 0) C dX9_copies_121 (by decide) ?_
      refine r_putI C fl_X9_95 fp_X9_6 rfl rfl lf_50_6 dX9_copies_122 ?_
      refine r_letm (fun σ19 => ?_)
      refine r_aload_n C dX9_copies_125 rfl (lv_at hl 0 rfl) ?_
      refine r_getR C fl_X9_19 lf_50_8 dX9_copies_126 ?_
      refine r_iconst (v := 0) C dX9_copies_129 (by decide) ?_
      refine r_iconst (v := 0) C dX9_copies_130 (by decide) ?_
      refine r_zast C la_54 (by decide) dX9_copies_131 ?_
      refine r_letm (fun σ20 => ?_)
      refine r_aload_n C dX9_copies_132 rfl (lv_at hl 0 rfl) ?_
      refine r_getR C fl_X9_19 lf_50_8 dX9_copies_133 ?_
      refine r_iconst (v := 1) C dX9_copies_136 (by decide) ?_
      refine r_iconst (v := 0) C dX9_copies_137 (by decide) ?_
      refine r_zast C la_54 (by decide) dX9_copies_138 ?_
      refine r_letm (fun σ21 => ?_)
      refine r_aload_n C dX9_copies_139 rfl (lv_at hl 0 rfl) ?_
      refine r_getI C fl_X9_86 lf_50_0 dX9_copies_140 ?_
      exact r_iret C rfl dX9_copies_143

set_option maxRecDepth 100000 in
def fX9_isCopy (x1 : Int32) (σ : Mem) : Option (Int32 × Mem) := bnd (fX9_in x1 0 ((σ 50 0) - 1) σ) (fun r1 σ2 => gb r1 (some (r1, σ2)))
set_option maxRecDepth 100000 in
set_option maxHeartbeats 4000000 in
theorem gX9_isCopy (l : Launch) {D : va_G} {cI cZ : ClassId} {ad : Nat → Nat} {tT : Nat} (hi : INJ ad) (x1 : Int32) (σ : Mem) : GM l D cI cZ ad tT yX9_isCopy cX9_isCopy 2 (some .boolean) 1 22 rvi [.ref (ad 50), .int x1] σ (fX9_isCopy x1 σ) := by
  refine gm_of (lv := [(0, .ref (ad 50)), (1, .int x1)]) (own := RX9) hi (by decide +kernel) rfl (Nat.le_of_ble_eq_true rfl) rfl ?_
  intro p e s m args below meth c A C ls hl
  unfold fX9_isCopy
  refine r_iload_n C dX9_isCopy_0 rfl (lv_at hl 1 rfl) ?_
  refine r_iconst (v := 0) C dX9_isCopy_1 (by decide) ?_
  refine r_aload_n C dX9_isCopy_2 rfl (lv_at hl 0 rfl) ?_
  refine r_getI C fl_X9_86 lf_50_0 dX9_isCopy_3 ?_
  refine r_iconst (v := 1) C dX9_isCopy_6 (by decide) ?_
  refine r_isub C dX9_isCopy_7 ?_
  refine r_callSi (As := [.int x1, .int 0, .int ((σ 50 0) - 1)]) (rest := []) C hl ml_X9_50 (gX9_in l C.inj x1 0 ((σ 50 0) - 1) σ) ⟨Nat.le_of_ble_eq_true rfl, Nat.le_of_ble_eq_true rfl⟩ ⟨Nat.le_of_ble_eq_true rfl, Nat.le_of_ble_eq_true rfl⟩ rfl rfl (Nat.le_of_ble_eq_true rfl) dX9_isCopy_8 (fun r1 σ2 => ?_)
  exact r_zretG C rfl dX9_isCopy_11

set_option maxRecDepth 100000 in
def fX9_isPlace (x1 : Int32) (σ : Mem) : Option (Int32 × Mem) := bnd (fX9_in x1 0 ((σ 50 1) - 1) σ) (fun r1 σ2 => gb r1 (some (r1, σ2)))
set_option maxRecDepth 100000 in
set_option maxHeartbeats 4000000 in
theorem gX9_isPlace (l : Launch) {D : va_G} {cI cZ : ClassId} {ad : Nat → Nat} {tT : Nat} (hi : INJ ad) (x1 : Int32) (σ : Mem) : GM l D cI cZ ad tT yX9_isPlace cX9_isPlace 2 (some .boolean) 1 22 rvi [.ref (ad 50), .int x1] σ (fX9_isPlace x1 σ) := by
  refine gm_of (lv := [(0, .ref (ad 50)), (1, .int x1)]) (own := RX9) hi (by decide +kernel) rfl (Nat.le_of_ble_eq_true rfl) rfl ?_
  intro p e s m args below meth c A C ls hl
  unfold fX9_isPlace
  refine r_iload_n C dX9_isPlace_0 rfl (lv_at hl 1 rfl) ?_
  refine r_iconst (v := 0) C dX9_isPlace_1 (by decide) ?_
  refine r_aload_n C dX9_isPlace_2 rfl (lv_at hl 0 rfl) ?_
  refine r_getI C fl_X9_89 lf_50_1 dX9_isPlace_3 ?_
  refine r_iconst (v := 1) C dX9_isPlace_6 (by decide) ?_
  refine r_isub C dX9_isPlace_7 ?_
  refine r_callSi (As := [.int x1, .int 0, .int ((σ 50 1) - 1)]) (rest := []) C hl ml_X9_50 (gX9_in l C.inj x1 0 ((σ 50 1) - 1) σ) ⟨Nat.le_of_ble_eq_true rfl, Nat.le_of_ble_eq_true rfl⟩ ⟨Nat.le_of_ble_eq_true rfl, Nat.le_of_ble_eq_true rfl⟩ rfl rfl (Nat.le_of_ble_eq_true rfl) dX9_isPlace_8 (fun r1 σ2 => ?_)
  exact r_zretG C rfl dX9_isPlace_11

set_option maxRecDepth 100000 in
def fX9_readingOf (x1 : Int32) (x2 : Int32) (σ : Mem) : Option (Int32 × Mem) := gd 49 (((8 : Int32) * x1) + x2) (some (σ 51 (((8 : Int32) * x1) + x2).toNatClampNeg, σ))
set_option maxRecDepth 100000 in
set_option maxHeartbeats 4000000 in
theorem gX9_readingOf (l : Launch) {D : va_G} {cI cZ : ClassId} {ad : Nat → Nat} {tT : Nat} (hi : INJ ad) (x1 : Int32) (x2 : Int32) (σ : Mem) : GM l D cI cZ ad tT yX9_readingOf cX9_readingOf 3 (some .int) 0 0 rvi [.ref (ad 50), .int x1, .int x2] σ (fX9_readingOf x1 x2 σ) := by
  refine gm_of (lv := [(0, .ref (ad 50)), (1, .int x1), (2, .int x2)]) (own := RX9) hi (by decide +kernel) rfl (Nat.le_of_ble_eq_true rfl) rfl ?_
  intro p e s m args below meth c A C ls hl
  unfold fX9_readingOf
  refine r_aload_n C dX9_readingOf_0 rfl (lv_at hl 0 rfl) ?_
  refine r_getR C fl_X9_7 lf_50_2 dX9_readingOf_1 ?_
  refine r_bipush (v := 8) C dX9_readingOf_4 (by decide) ?_
  refine r_iload_n C dX9_readingOf_6 rfl (lv_at hl 1 rfl) ?_
  refine r_imul C dX9_readingOf_7 ?_
  refine r_iload_n C dX9_readingOf_8 rfl (lv_at hl 2 rfl) ?_
  refine r_iadd C dX9_readingOf_9 ?_
  refine r_iald C la_51 dX9_readingOf_10 ?_
  exact r_iret C rfl dX9_readingOf_11

set_option maxRecDepth 100000 in
def fX9_reading (x1 : Int32) (x2 : Int32) (σ : Mem) : Option (Int32 × Mem) := bnd (fX9_isCopy x1 σ) (fun r1 σ2 => if (r1 : Int32) = 0 then some ((-1), σ2) else bnd (fX9_isPlace x2 σ2) (fun r3 σ4 => if (r3 : Int32) = 0 then some ((-1), σ4) else bnd (fX9_readingOf x1 x2 σ4) (fun r5 σ6 => if (r5 : Int32) = 4 then some ((-9), σ6) else bnd (fX9_readingOf x1 x2 σ6) (fun r7 σ8 => some (r7, σ8)))))
set_option maxRecDepth 100000 in
set_option maxHeartbeats 4000000 in
theorem gX9_reading (l : Launch) {D : va_G} {cI cZ : ClassId} {ad : Nat → Nat} {tT : Nat} (hi : INJ ad) (x1 : Int32) (x2 : Int32) (σ : Mem) : GM l D cI cZ ad tT yX9_reading cX9_reading 3 (some .int) 2 43 rvi [.ref (ad 50), .int x1, .int x2] σ (fX9_reading x1 x2 σ) := by
  refine gm_of (lv := [(0, .ref (ad 50)), (1, .int x1), (2, .int x2)]) (own := RX9) hi (by decide +kernel) rfl (Nat.le_of_ble_eq_true rfl) rfl ?_
  intro p e s m args below meth c A C ls hl
  unfold fX9_reading
  refine r_aload_n C dX9_reading_0 rfl (lv_at hl 0 rfl) ?_
  refine r_iload_n C dX9_reading_1 rfl (lv_at hl 1 rfl) ?_
  refine r_callVi (As := [.int x1]) (rest := []) C hl ml_X9_98 rc_50 (gX9_isCopy l C.inj x1 σ) ⟨Nat.le_of_ble_eq_true rfl, Nat.le_of_ble_eq_true rfl⟩ ⟨Nat.le_of_ble_eq_true rfl, Nat.le_of_ble_eq_true rfl⟩ rfl rfl (Nat.le_of_ble_eq_true rfl) dX9_reading_2 (fun r1 σ2 => ?_)
  refine r_if_eq (tgt := 16) C dX9_reading_5 (by decide) ?_ ?_
  · refine r_iconst (v := (-1)) C dX9_reading_16 (by decide) ?_
    exact r_iret C rfl dX9_reading_17
  · refine r_aload_n C dX9_reading_8 rfl (lv_at hl 0 rfl) ?_
    refine r_iload_n C dX9_reading_9 rfl (lv_at hl 2 rfl) ?_
    refine r_callVi (As := [.int x2]) (rest := []) C hl ml_X9_102 rc_50 (gX9_isPlace l C.inj x2 σ2) ⟨Nat.le_of_ble_eq_true rfl, Nat.le_of_ble_eq_true rfl⟩ ⟨Nat.le_of_ble_eq_true rfl, Nat.le_of_ble_eq_true rfl⟩ rfl rfl (Nat.le_of_ble_eq_true rfl) dX9_reading_10 (fun r3 σ4 => ?_)
    refine r_if_ne (tgt := 18) C dX9_reading_13 (by decide) ?_ ?_
    · refine r_aload_n C dX9_reading_18 rfl (lv_at hl 0 rfl) ?_
      refine r_iload_n C dX9_reading_19 rfl (lv_at hl 1 rfl) ?_
      refine r_iload_n C dX9_reading_20 rfl (lv_at hl 2 rfl) ?_
      refine r_callVi (As := [.int x1, .int x2]) (rest := []) C hl ml_X9_105 rc_50 (gX9_readingOf l C.inj x1 x2 σ4) ⟨Nat.le_of_ble_eq_true rfl, Nat.le_of_ble_eq_true rfl⟩ ⟨Nat.le_of_ble_eq_true rfl, Nat.le_of_ble_eq_true rfl⟩ rfl rfl (Nat.le_of_ble_eq_true rfl) dX9_reading_21 (fun r5 σ6 => ?_)
      refine r_iconst (v := 4) C dX9_reading_24 (by decide) ?_
      refine r_icmp_ne (tgt := 33) C dX9_reading_25 (by decide) ?_ ?_
      · refine r_aload_n C dX9_reading_33 rfl (lv_at hl 0 rfl) ?_
        refine r_iload_n C dX9_reading_34 rfl (lv_at hl 1 rfl) ?_
        refine r_iload_n C dX9_reading_35 rfl (lv_at hl 2 rfl) ?_
        refine r_callVi (As := [.int x1, .int x2]) (rest := []) C hl ml_X9_105 rc_50 (gX9_readingOf l C.inj x1 x2 σ6) ⟨Nat.le_of_ble_eq_true rfl, Nat.le_of_ble_eq_true rfl⟩ ⟨Nat.le_of_ble_eq_true rfl, Nat.le_of_ble_eq_true rfl⟩ rfl rfl (Nat.le_of_ble_eq_true rfl) dX9_reading_36 (fun r7 σ8 => ?_)
        exact r_iret C rfl dX9_reading_39
      · refine r_bipush (v := (-9)) C dX9_reading_28 (by decide) ?_
        refine r_goto (tgt := 39) C dX9_reading_30 (by decide) ?_
        exact r_iret C rfl dX9_reading_39
    · refine r_iconst (v := (-1)) C dX9_reading_16 (by decide) ?_
      exact r_iret C rfl dX9_reading_17

set_option maxRecDepth 100000 in
def fX9_trees (σ : Mem) : Option (Int32 × Mem) := if (4 : Int32) ≤ (σ 50 0) then if (σ 50 0 : Int32) = 4 then some (3, σ) else if (σ 50 0 : Int32) = 5 then some (15, σ) else some (105, σ) else some (1, σ)
set_option maxRecDepth 100000 in
set_option maxHeartbeats 4000000 in
theorem gX9_trees (l : Launch) {D : va_G} {cI cZ : ClassId} {ad : Nat → Nat} {tT : Nat} (hi : INJ ad) (σ : Mem) : GM l D cI cZ ad tT yX9_trees cX9_trees 1 (some .int) 0 0 rvi [.ref (ad 50)] σ (fX9_trees σ) := by
  refine gm_of (lv := [(0, .ref (ad 50))]) (own := RX9) hi (by decide +kernel) rfl (Nat.le_of_ble_eq_true rfl) rfl ?_
  intro p e s m args below meth c A C ls hl
  unfold fX9_trees
  refine r_aload_n C dX9_trees_0 rfl (lv_at hl 0 rfl) ?_
  refine r_getI C fl_X9_86 lf_50_0 dX9_trees_1 ?_
  refine r_iconst (v := 4) C dX9_trees_4 (by decide) ?_
  refine r_icmp_ge (tgt := 12) C dX9_trees_5 (by decide) ?_ ?_
  · refine r_aload_n C dX9_trees_12 rfl (lv_at hl 0 rfl) ?_
    refine r_getI C fl_X9_86 lf_50_0 dX9_trees_13 ?_
    refine r_iconst (v := 4) C dX9_trees_16 (by decide) ?_
    refine r_icmp_ne (tgt := 24) C dX9_trees_17 (by decide) ?_ ?_
    · refine r_aload_n C dX9_trees_24 rfl (lv_at hl 0 rfl) ?_
      refine r_getI C fl_X9_86 lf_50_0 dX9_trees_25 ?_
      refine r_iconst (v := 5) C dX9_trees_28 (by decide) ?_
      refine r_icmp_ne (tgt := 37) C dX9_trees_29 (by decide) ?_ ?_
      · refine r_bipush (v := 105) C dX9_trees_37 (by decide) ?_
        exact r_iret C rfl dX9_trees_39
      · refine r_bipush (v := 15) C dX9_trees_32 (by decide) ?_
        refine r_goto (tgt := 39) C dX9_trees_34 (by decide) ?_
        exact r_iret C rfl dX9_trees_39
    · refine r_iconst (v := 3) C dX9_trees_20 (by decide) ?_
      refine r_goto (tgt := 39) C dX9_trees_21 (by decide) ?_
      exact r_iret C rfl dX9_trees_39
  · refine r_iconst (v := 1) C dX9_trees_8 (by decide) ?_
    refine r_goto (tgt := 39) C dX9_trees_9 (by decide) ?_
    exact r_iret C rfl dX9_trees_39

set_option maxRecDepth 100000 in
def fX9_edgeOf (x0 : Int32) (x1 : Int32) (σ : Mem) : Option (Int32 × Mem) := if (x1 : Int32) = 3 then some (remi x0 3, σ) else if (x1 : Int32) = 4 then some (remi (x0 / 3) 5, σ) else some (x0 / 15, σ)
set_option maxRecDepth 100000 in
set_option maxHeartbeats 4000000 in
theorem gX9_edgeOf (l : Launch) {D : va_G} {cI cZ : ClassId} {ad : Nat → Nat} {tT : Nat} (hi : INJ ad) (x0 : Int32) (x1 : Int32) (σ : Mem) : GM l D cI cZ ad tT yX9_edgeOf cX9_edgeOf 2 (some .int) 0 0 rvi [.int x0, .int x1] σ (fX9_edgeOf x0 x1 σ) := by
  refine gm_of (lv := [(0, .int x0), (1, .int x1)]) (own := RX9) hi (by decide +kernel) rfl (Nat.le_of_ble_eq_true rfl) rfl ?_
  intro p e s m args below meth c A C ls hl
  unfold fX9_edgeOf
  refine r_iload_n C dX9_edgeOf_0 rfl (lv_at hl 1 rfl) ?_
  refine r_iconst (v := 3) C dX9_edgeOf_1 (by decide) ?_
  refine r_icmp_ne (tgt := 11) C dX9_edgeOf_2 (by decide) ?_ ?_
  · refine r_iload_n C dX9_edgeOf_11 rfl (lv_at hl 1 rfl) ?_
    refine r_iconst (v := 4) C dX9_edgeOf_12 (by decide) ?_
    refine r_icmp_ne (tgt := 24) C dX9_edgeOf_13 (by decide) ?_ ?_
    · refine r_iload_n C dX9_edgeOf_24 rfl (lv_at hl 0 rfl) ?_
      refine r_bipush (v := 15) C dX9_edgeOf_25 (by decide) ?_
      refine r_idiv C dX9_edgeOf_27 (by decide) ?_
      exact r_iret C rfl dX9_edgeOf_28
    · refine r_iload_n C dX9_edgeOf_16 rfl (lv_at hl 0 rfl) ?_
      refine r_iconst (v := 3) C dX9_edgeOf_17 (by decide) ?_
      refine r_idiv C dX9_edgeOf_18 (by decide) ?_
      refine r_iconst (v := 5) C dX9_edgeOf_19 (by decide) ?_
      refine r_irem2 C dX9_edgeOf_20 (by decide) ?_
      refine r_goto (tgt := 28) C dX9_edgeOf_21 (by decide) ?_
      exact r_iret C rfl dX9_edgeOf_28
  · refine r_iload_n C dX9_edgeOf_5 rfl (lv_at hl 0 rfl) ?_
    refine r_iconst (v := 3) C dX9_edgeOf_6 (by decide) ?_
    refine r_irem2 C dX9_edgeOf_7 (by decide) ?_
    refine r_goto (tgt := 28) C dX9_edgeOf_8 (by decide) ?_
    exact r_iret C rfl dX9_edgeOf_28

set_option maxRecDepth 100000 in
def fX9_edge (x1 : Int32) (x2 : Int32) (σ : Mem) : Option (Int32 × Mem) := gd 10 (σ 50 19) (letm (stm σ 58 (σ 50 19).toNatClampNeg x1) (fun σ1 => gd 10 (σ1 50 19) (letm (stm σ1 59 (σ1 50 19).toNatClampNeg x2) (fun σ2 => letm (stm σ2 50 19 ((σ2 50 19) + 1)) (fun σ3 => some (0, σ3))))))
set_option maxRecDepth 100000 in
set_option maxHeartbeats 4000000 in
theorem gX9_edge (l : Launch) {D : va_G} {cI cZ : ClassId} {ad : Nat → Nat} {tT : Nat} (hi : INJ ad) (x1 : Int32) (x2 : Int32) (σ : Mem) : GM l D cI cZ ad tT yX9_edge cX9_edge 3 (none) 0 0 rvv [.ref (ad 50), .int x1, .int x2] σ (fX9_edge x1 x2 σ) := by
  refine gm_of (lv := [(0, .ref (ad 50)), (1, .int x1), (2, .int x2)]) (own := RX9) hi (by decide +kernel) rfl (Nat.le_of_ble_eq_true rfl) rfl ?_
  intro p e s m args below meth c A C ls hl
  unfold fX9_edge
  refine r_aload_n C dX9_edge_0 rfl (lv_at hl 0 rfl) ?_
  refine r_getR C fl_X9_32 lf_50_21 dX9_edge_1 ?_
  refine r_aload_n C dX9_edge_4 rfl (lv_at hl 0 rfl) ?_
  refine r_getI C fl_X9_109 lf_50_19 dX9_edge_5 ?_
  refine r_iload_n C dX9_edge_8 rfl (lv_at hl 1 rfl) ?_
  refine r_iast C la_58 dX9_edge_9 ?_
  refine r_letm (fun σ1 => ?_)
  refine r_aload_n C dX9_edge_10 rfl (lv_at hl 0 rfl) ?_
  refine r_getR C fl_X9_35 lf_50_22 dX9_edge_11 ?_
  refine r_aload_n C dX9_edge_14 rfl (lv_at hl 0 rfl) ?_
  refine r_getI C fl_X9_109 lf_50_19 dX9_edge_15 ?_
  refine r_iload_n C dX9_edge_18 rfl (lv_at hl 2 rfl) ?_
  refine r_iast C la_59 dX9_edge_19 ?_
  refine r_letm (fun σ2 => ?_)
  refine r_aload_n C dX9_edge_20 rfl (lv_at hl 0 rfl) ?_
  refine r_dup C dX9_edge_21 rfl ?_
  refine r_getI C fl_X9_109 lf_50_19 dX9_edge_22 ?_
  refine r_iconst (v := 1) C dX9_edge_25 (by decide) ?_
  refine r_iadd C dX9_edge_26 ?_
  refine r_putI C fl_X9_109 fp_X9_19 rfl rfl lf_50_19 dX9_edge_27 ?_
  refine r_letm (fun σ3 => ?_)
  exact r_vret C rfl dX9_edge_30

set_option maxRecDepth 100000 in
def BX9_layTree_75 (k142 : Mem → Option (Int32 × Mem)) (rec : Int32 → Int32 → Mem → Option (Int32 × Mem)) (x1 : Int32) (x2 : Int32) (σ : Mem) : Option (Int32 × Mem) := if (σ 50 0 : Int32) ≤ x2 then k142 σ else bnd (fX9_edgeOf x1 x2 σ) (fun r11 σ12 => gd 10 r11 (letv (σ12 59 r11.toNatClampNeg) (fun v13 => gd 10 r11 (letm (stm σ12 59 r11.toNatClampNeg (σ12 50 20)) (fun σ14 => bnd (fX9_edge (σ14 50 20) v13 σ14) (fun r15 σ16 => bnd (fX9_edge (σ16 50 20) x2 σ16) (fun r17 σ18 => letm (stm σ18 50 20 ((σ18 50 20) + 1)) (fun σ19 => rec x1 (x2 + 1) σ19))))))))
def LX9_layTree_75 (k142 : Mem → Option (Int32 × Mem)) : Nat → Int32 → Int32 → Mem → Option (Int32 × Mem)
  | 0 => fun _ _ _ => none
  | n + 1 => BX9_layTree_75 k142 (LX9_layTree_75 k142 n)
set_option maxRecDepth 100000 in
set_option maxHeartbeats 4000000 in
theorem wX9_layTree_75 {p : Program} {l : Launch} {e : Env} {s : State} {m : MethodId} {args : Array Value} {below : List Frame} {meth : Method} {c : Code} {D : va_G} {cI cZ : ClassId} {ad : Nat → Nat} {tT : Nat} {A : Nat → Prop} (C : CX p s m args meth c cX9_layTree 5 RX9 (none) D cI cZ ad tT A) (k142 : Mem → Option (Int32 × Mem)) (hk142 : ∀ (σ : Mem) (ls : Array Slot), lv_has ls 5 [] → WM p l e 1 22 s m args below meth c D cI cZ ad A rvv (k142 σ) σ (F0 m 142 ls [])) :
    ∀ (n0 : Nat), ∀ (x1 : Int32) (x2 : Int32) (σ : Mem) (ls : Array Slot), lv_has ls 5 [(0, .ref (ad 50)), (1, .int x1), (2, .int x2)] → WM p l e 1 22 s m args below meth c D cI cZ ad A rvv (LX9_layTree_75 k142 n0 x1 x2 σ) σ (F0 m 75 ls []) := by
  intro n0
  induction n0 with
  | zero => intro x1 x2 σ ls hl; exact r_none
  | succ n0 ih =>
    intro x1 x2 σ ls hl
    show WM p l e 1 22 s m args below meth c D cI cZ ad A rvv (BX9_layTree_75 k142 (LX9_layTree_75 k142 n0) x1 x2 σ) σ (F0 m 75 ls [])
    unfold BX9_layTree_75
    refine r_iload_n C dX9_layTree_75 rfl (lv_at hl 2 rfl) ?_
    refine r_aload_n C dX9_layTree_76 rfl (lv_at hl 0 rfl) ?_
    refine r_getI C fl_X9_86 lf_50_0 dX9_layTree_77 ?_
    refine r_icmp_ge (tgt := 142) C dX9_layTree_80 (by decide) ?_ ?_
    · exact hk142 σ ls (lv_sub hl [] rfl)
    · refine r_iload_n C dX9_layTree_83 rfl (lv_at hl 1 rfl) ?_
      refine r_iload_n C dX9_layTree_84 rfl (lv_at hl 2 rfl) ?_
      refine r_callSi (As := [.int x1, .int x2]) (rest := []) C hl ml_X9_119 (gX9_edgeOf l C.inj x1 x2 σ) ⟨Nat.le_of_ble_eq_true rfl, Nat.le_of_ble_eq_true rfl⟩ ⟨Nat.le_of_ble_eq_true rfl, Nat.le_of_ble_eq_true rfl⟩ rfl rfl (Nat.le_of_ble_eq_true rfl) dX9_layTree_85 (fun r11 σ12 => ?_)
      refine r_istore_n (lv' := [(3, .int r11), (0, .ref (ad 50)), (1, .int x1), (2, .int x2)]) C dX9_layTree_88 rfl hl (by decide) rfl (fun ls hl => ?_)
      refine r_aload_n C dX9_layTree_89 rfl (lv_at hl 1 rfl) ?_
      refine r_getR C fl_X9_35 lf_50_22 dX9_layTree_90 ?_
      refine r_iload_n C dX9_layTree_93 rfl (lv_at hl 0 rfl) ?_
      refine r_iald C la_59 dX9_layTree_94 ?_
      refine r_letv (fun v13 => ?_)
      refine r_istore (lv' := [(4, .int v13), (3, .int r11), (0, .ref (ad 50)), (1, .int x1), (2, .int x2)]) C dX9_layTree_95 hl (by decide) rfl (fun ls hl => ?_)
      refine r_aload_n C dX9_layTree_97 rfl (lv_at hl 2 rfl) ?_
      refine r_getR C fl_X9_35 lf_50_22 dX9_layTree_98 ?_
      refine r_iload_n C dX9_layTree_101 rfl (lv_at hl 1 rfl) ?_
      refine r_aload_n C dX9_layTree_102 rfl (lv_at hl 2 rfl) ?_
      refine r_getI C fl_X9_112 lf_50_20 dX9_layTree_103 ?_
      refine r_iast C la_59 dX9_layTree_106 ?_
      refine r_letm (fun σ14 => ?_)
      refine r_aload_n C dX9_layTree_107 rfl (lv_at hl 2 rfl) ?_
      refine r_aload_n C dX9_layTree_108 rfl (lv_at hl 2 rfl) ?_
      refine r_getI C fl_X9_112 lf_50_20 dX9_layTree_109 ?_
      refine r_iload C dX9_layTree_112 (lv_at hl 0 rfl) ?_
      refine r_callVv (As := [.int (σ14 50 20), .int v13]) (rest := []) C hl ml_X9_115 rc_50 (gX9_edge l C.inj (σ14 50 20) v13 σ14) ⟨Nat.le_of_ble_eq_true rfl, Nat.le_of_ble_eq_true rfl⟩ ⟨Nat.le_of_ble_eq_true rfl, Nat.le_of_ble_eq_true rfl⟩ rfl rfl (Nat.le_of_ble_eq_true rfl) dX9_layTree_114 (fun r15 σ16 => ?_)
      refine r_aload_n C dX9_layTree_117 rfl (lv_at hl 2 rfl) ?_
      refine r_aload_n C dX9_layTree_118 rfl (lv_at hl 2 rfl) ?_
      refine r_getI C fl_X9_112 lf_50_20 dX9_layTree_119 ?_
      refine r_iload_n C dX9_layTree_122 rfl (lv_at hl 4 rfl) ?_
      refine r_callVv (As := [.int (σ16 50 20), .int x2]) (rest := []) C hl ml_X9_115 rc_50 (gX9_edge l C.inj (σ16 50 20) x2 σ16) ⟨Nat.le_of_ble_eq_true rfl, Nat.le_of_ble_eq_true rfl⟩ ⟨Nat.le_of_ble_eq_true rfl, Nat.le_of_ble_eq_true rfl⟩ rfl rfl (Nat.le_of_ble_eq_true rfl) dX9_layTree_123 (fun r17 σ18 => ?_)
      refine r_aload_n C dX9_layTree_126 rfl (lv_at hl 2 rfl) ?_
      refine r_dup C dX9_layTree_127 rfl ?_
      refine r_getI C fl_X9_112 lf_50_20 dX9_layTree_128 ?_
      refine r_iconst (v := 1) C dX9_layTree_131 (by decide) ?_
      refine r_iadd C dX9_layTree_132 ?_
      refine r_putI C fl_X9_112 fp_X9_20 rfl rfl lf_50_20 dX9_layTree_133 ?_
      refine r_letm (fun σ19 => ?_)
      refine r_iinc (v := x2 + 1) (lv' := [(2, .int (x2 + 1)), (4, .int v13), (3, .int r11), (0, .ref (ad 50)), (1, .int x1)]) C dX9_layTree_136 hl (k := 4) rfl rfl (by decide) rfl (fun ls hl => ?_)
      refine r_goto (tgt := 75) C dX9_layTree_139 (by decide) ?_
      exact ih x1 (x2 + 1) σ19 ls (lv_sub hl [3, 4, 0] rfl)
set_option maxRecDepth 100000 in
def fX9_layTree (x1 : Int32) (σ : Mem) : Option (Int32 × Mem) := letm (stm σ 50 19 0) (fun σ1 => letm (stm σ1 50 20 (σ1 50 0)) (fun σ2 => jn (fun x1 σ3 => if (3 : Int32) ≤ (σ3 50 0) then bnd (fX9_edge 0 (σ3 50 0) σ3) (fun r4 σ5 => bnd (fX9_edge 1 (σ5 50 0) σ5) (fun r6 σ7 => bnd (fX9_edge 2 (σ7 50 0) σ7) (fun r8 σ9 => letm (stm σ9 50 20 ((σ9 50 20) + 1)) (fun σ10 => LX9_layTree_75 (fun σ20 => some (0, σ20)) 300 x1 3 σ10)))) else some (0, σ3)) (fun k27 => if (σ2 50 0 : Int32) = 2 then bnd (fX9_edge 0 1 σ2) (fun r21 σ22 => k27 x1 σ22) else k27 x1 σ2)))
set_option maxRecDepth 100000 in
set_option maxHeartbeats 4000000 in
theorem gX9_layTree (l : Launch) {D : va_G} {cI cZ : ClassId} {ad : Nat → Nat} {tT : Nat} (hi : INJ ad) (x1 : Int32) (σ : Mem) : GM l D cI cZ ad tT yX9_layTree cX9_layTree 5 (none) 1 22 rvv [.ref (ad 50), .int x1] σ (fX9_layTree x1 σ) := by
  refine gm_of (lv := [(0, .ref (ad 50)), (1, .int x1)]) (own := RX9) hi (by decide +kernel) rfl (Nat.le_of_ble_eq_true rfl) rfl ?_
  intro p e s m args below meth c A C ls hl
  unfold fX9_layTree
  refine r_aload_n C dX9_layTree_0 rfl (lv_at hl 0 rfl) ?_
  refine r_iconst (v := 0) C dX9_layTree_1 (by decide) ?_
  refine r_putI C fl_X9_109 fp_X9_19 rfl rfl lf_50_19 dX9_layTree_2 ?_
  refine r_letm (fun σ1 => ?_)
  refine r_aload_n C dX9_layTree_5 rfl (lv_at hl 0 rfl) ?_
  refine r_aload_n C dX9_layTree_6 rfl (lv_at hl 0 rfl) ?_
  refine r_getI C fl_X9_86 lf_50_0 dX9_layTree_7 ?_
  refine r_putI C fl_X9_112 fp_X9_20 rfl rfl lf_50_20 dX9_layTree_10 ?_
  refine r_letm (fun σ2 => ?_)
  refine r_aload_n C dX9_layTree_13 rfl (lv_at hl 0 rfl) ?_
  refine r_getI C fl_X9_86 lf_50_0 dX9_layTree_14 ?_
  refine r_iconst (v := 2) C dX9_layTree_17 (by decide) ?_
  refine r_jn (fun (k27 : Int32 → Mem → Option (Int32 × Mem)) => ∀ (x1 : Int32) (σ : Mem) (ls : Array Slot), lv_has ls 5 [(0, .ref (ad 50)), (1, .int x1)] → WM p l e 1 22 s m args below meth c D cI cZ ad A rvv (k27 x1 σ) σ (F0 m 27 ls [])) ?_ ?_
  · intro x1 σ3 ls hl
    refine r_aload_n C dX9_layTree_27 rfl (lv_at hl 0 rfl) ?_
    refine r_getI C fl_X9_86 lf_50_0 dX9_layTree_28 ?_
    refine r_iconst (v := 3) C dX9_layTree_31 (by decide) ?_
    refine r_icmp_ge (tgt := 36) C dX9_layTree_32 (by decide) ?_ ?_
    · refine r_aload_n C dX9_layTree_36 rfl (lv_at hl 0 rfl) ?_
      refine r_iconst (v := 0) C dX9_layTree_37 (by decide) ?_
      refine r_aload_n C dX9_layTree_38 rfl (lv_at hl 0 rfl) ?_
      refine r_getI C fl_X9_86 lf_50_0 dX9_layTree_39 ?_
      refine r_callVv (As := [.int 0, .int (σ3 50 0)]) (rest := []) C hl ml_X9_115 rc_50 (gX9_edge l C.inj 0 (σ3 50 0) σ3) ⟨Nat.le_of_ble_eq_true rfl, Nat.le_of_ble_eq_true rfl⟩ ⟨Nat.le_of_ble_eq_true rfl, Nat.le_of_ble_eq_true rfl⟩ rfl rfl (Nat.le_of_ble_eq_true rfl) dX9_layTree_42 (fun r4 σ5 => ?_)
      refine r_aload_n C dX9_layTree_45 rfl (lv_at hl 0 rfl) ?_
      refine r_iconst (v := 1) C dX9_layTree_46 (by decide) ?_
      refine r_aload_n C dX9_layTree_47 rfl (lv_at hl 0 rfl) ?_
      refine r_getI C fl_X9_86 lf_50_0 dX9_layTree_48 ?_
      refine r_callVv (As := [.int 1, .int (σ5 50 0)]) (rest := []) C hl ml_X9_115 rc_50 (gX9_edge l C.inj 1 (σ5 50 0) σ5) ⟨Nat.le_of_ble_eq_true rfl, Nat.le_of_ble_eq_true rfl⟩ ⟨Nat.le_of_ble_eq_true rfl, Nat.le_of_ble_eq_true rfl⟩ rfl rfl (Nat.le_of_ble_eq_true rfl) dX9_layTree_51 (fun r6 σ7 => ?_)
      refine r_aload_n C dX9_layTree_54 rfl (lv_at hl 0 rfl) ?_
      refine r_iconst (v := 2) C dX9_layTree_55 (by decide) ?_
      refine r_aload_n C dX9_layTree_56 rfl (lv_at hl 0 rfl) ?_
      refine r_getI C fl_X9_86 lf_50_0 dX9_layTree_57 ?_
      refine r_callVv (As := [.int 2, .int (σ7 50 0)]) (rest := []) C hl ml_X9_115 rc_50 (gX9_edge l C.inj 2 (σ7 50 0) σ7) ⟨Nat.le_of_ble_eq_true rfl, Nat.le_of_ble_eq_true rfl⟩ ⟨Nat.le_of_ble_eq_true rfl, Nat.le_of_ble_eq_true rfl⟩ rfl rfl (Nat.le_of_ble_eq_true rfl) dX9_layTree_60 (fun r8 σ9 => ?_)
      refine r_aload_n C dX9_layTree_63 rfl (lv_at hl 0 rfl) ?_
      refine r_dup C dX9_layTree_64 rfl ?_
      refine r_getI C fl_X9_112 lf_50_20 dX9_layTree_65 ?_
      refine r_iconst (v := 1) C dX9_layTree_68 (by decide) ?_
      refine r_iadd C dX9_layTree_69 ?_
      refine r_putI C fl_X9_112 fp_X9_20 rfl rfl lf_50_20 dX9_layTree_70 ?_
      refine r_letm (fun σ10 => ?_)
      refine r_iconst (v := 3) C dX9_layTree_73 (by decide) ?_
      refine r_istore_n (lv' := [(2, .int 3), (0, .ref (ad 50)), (1, .int x1)]) C dX9_layTree_74 rfl hl (by decide) rfl (fun ls hl => ?_)
      refine wX9_layTree_75  C _ ?_ 300 x1 3 σ10 ls (lv_sub hl [1, 2, 0] rfl)
      · intro σ20 ls hl
        exact r_vret C rfl dX9_layTree_142
    · exact r_vret C rfl dX9_layTree_35
  · intro k27 hk27
    refine r_icmp_ne (tgt := 27) C dX9_layTree_18 (by decide) ?_ ?_
    · exact hk27 x1 σ2 ls (lv_sub hl [0, 1] rfl)
    · refine r_aload_n C dX9_layTree_21 rfl (lv_at hl 0 rfl) ?_
      refine r_iconst (v := 0) C dX9_layTree_22 (by decide) ?_
      refine r_iconst (v := 1) C dX9_layTree_23 (by decide) ?_
      refine r_callVv (As := [.int 0, .int 1]) (rest := []) C hl ml_X9_115 rc_50 (gX9_edge l C.inj 0 1 σ2) ⟨Nat.le_of_ble_eq_true rfl, Nat.le_of_ble_eq_true rfl⟩ ⟨Nat.le_of_ble_eq_true rfl, Nat.le_of_ble_eq_true rfl⟩ rfl rfl (Nat.le_of_ble_eq_true rfl) dX9_layTree_24 (fun r21 σ22 => ?_)
      exact hk27 x1 σ22 ls (lv_sub hl [0, 1] rfl)

set_option maxRecDepth 100000 in
def fX9_between (x0 : Int32) (x1 : Int32) (x2 : Int32) (σ : Mem) : Option (Int32 × Mem) := if (x0 : Int32) = x1 then some (0, σ) else if (x2 : Int32) = 0 then some (1, σ) else if (x0 : Int32) ≤ x1 then some (1, σ) else some (2, σ)
set_option maxRecDepth 100000 in
set_option maxHeartbeats 4000000 in
theorem gX9_between (l : Launch) {D : va_G} {cI cZ : ClassId} {ad : Nat → Nat} {tT : Nat} (hi : INJ ad) (x0 : Int32) (x1 : Int32) (x2 : Int32) (σ : Mem) : GM l D cI cZ ad tT yX9_between cX9_between 3 (some .int) 0 0 rvi [.int x0, .int x1, .int x2] σ (fX9_between x0 x1 x2 σ) := by
  refine gm_of (lv := [(0, .int x0), (1, .int x1), (2, .int x2)]) (own := RX9) hi (by decide +kernel) rfl (Nat.le_of_ble_eq_true rfl) rfl ?_
  intro p e s m args below meth c A C ls hl
  unfold fX9_between
  refine r_iload_n C dX9_between_0 rfl (lv_at hl 0 rfl) ?_
  refine r_iload_n C dX9_between_1 rfl (lv_at hl 1 rfl) ?_
  refine r_icmp_ne (tgt := 9) C dX9_between_2 (by decide) ?_ ?_
  · refine r_iload_n C dX9_between_9 rfl (lv_at hl 2 rfl) ?_
    refine r_if_eq (tgt := 22) C dX9_between_10 (by decide) ?_ ?_
    · refine r_iconst (v := 1) C dX9_between_22 (by decide) ?_
      exact r_iret C rfl dX9_between_23
    · refine r_iload_n C dX9_between_13 rfl (lv_at hl 0 rfl) ?_
      refine r_iload_n C dX9_between_14 rfl (lv_at hl 1 rfl) ?_
      refine r_icmp_le (tgt := 22) C dX9_between_15 (by decide) ?_ ?_
      · refine r_iconst (v := 1) C dX9_between_22 (by decide) ?_
        exact r_iret C rfl dX9_between_23
      · refine r_iconst (v := 2) C dX9_between_18 (by decide) ?_
        refine r_goto (tgt := 23) C dX9_between_19 (by decide) ?_
        exact r_iret C rfl dX9_between_23
  · refine r_iconst (v := 0) C dX9_between_5 (by decide) ?_
    refine r_goto (tgt := 23) C dX9_between_6 (by decide) ?_
    exact r_iret C rfl dX9_between_23

set_option maxRecDepth 100000 in
def BX9_layLeaves_12 (k80 : Int32 → Int32 → Mem → Option (Int32 × Mem)) (rec : Int32 → Int32 → Int32 → Mem → Option (Int32 × Mem)) (x1 : Int32) (x2 : Int32) (x3 : Int32) (σ : Mem) : Option (Int32 × Mem) := if (4 : Int32) ≤ x3 then k80 x1 x2 σ else jn (fun x1 x2 x3 t0 σ1 => if (t0 : Int32) = 0 then gd 44 (((4 : Int32) * x2) + x3) (letm (stm σ1 60 (((4 : Int32) * x2) + x3).toNatClampNeg 9999) (fun σ2 => rec x1 x2 (x3 + 1) σ2)) else gd 44 (((4 : Int32) * x2) + x3) (letm (stm σ1 60 (((4 : Int32) * x2) + x3).toNatClampNeg 0) (fun σ3 => rec x1 x2 (x3 + 1) σ3))) (fun k50 => jn (fun x1 x2 x3 σ4 => k50 x1 x2 x3 1 σ4) (fun k45 => if (σ 50 0 : Int32) ≤ x2 then k45 x1 x2 x3 σ else bnd (fX9_readingOf x2 x1 σ) (fun r5 σ6 => if (r5 : Int32) = 4 then k45 x1 x2 x3 σ6 else bnd (fX9_readingOf x2 x1 σ6) (fun r7 σ8 => if (r7 : Int32) = x3 then k45 x1 x2 x3 σ8 else k50 x1 x2 x3 0 σ8))))
def LX9_layLeaves_12 (k80 : Int32 → Int32 → Mem → Option (Int32 × Mem)) : Nat → Int32 → Int32 → Int32 → Mem → Option (Int32 × Mem)
  | 0 => fun _ _ _ _ => none
  | n + 1 => BX9_layLeaves_12 k80 (LX9_layLeaves_12 k80 n)
set_option maxRecDepth 100000 in
set_option maxHeartbeats 4000000 in
theorem wX9_layLeaves_12 {p : Program} {l : Launch} {e : Env} {s : State} {m : MethodId} {args : Array Value} {below : List Frame} {meth : Method} {c : Code} {D : va_G} {cI cZ : ClassId} {ad : Nat → Nat} {tT : Nat} {A : Nat → Prop} (C : CX p s m args meth c cX9_layLeaves 5 RX9 (none) D cI cZ ad tT A) (k80 : Int32 → Int32 → Mem → Option (Int32 × Mem)) (hk80 : ∀ (x1 : Int32) (x2 : Int32) (σ : Mem) (ls : Array Slot), lv_has ls 5 [(0, .ref (ad 50)), (1, .int x1), (2, .int x2)] → WM p l e 1 22 s m args below meth c D cI cZ ad A rvv (k80 x1 x2 σ) σ (F0 m 80 ls [])) :
    ∀ (n0 : Nat), ∀ (x1 : Int32) (x2 : Int32) (x3 : Int32) (σ : Mem) (ls : Array Slot), lv_has ls 5 [(0, .ref (ad 50)), (1, .int x1), (2, .int x2), (3, .int x3)] → WM p l e 1 22 s m args below meth c D cI cZ ad A rvv (LX9_layLeaves_12 k80 n0 x1 x2 x3 σ) σ (F0 m 12 ls []) := by
  intro n0
  induction n0 with
  | zero => intro x1 x2 x3 σ ls hl; exact r_none
  | succ n0 ih =>
    intro x1 x2 x3 σ ls hl
    show WM p l e 1 22 s m args below meth c D cI cZ ad A rvv (BX9_layLeaves_12 k80 (LX9_layLeaves_12 k80 n0) x1 x2 x3 σ) σ (F0 m 12 ls [])
    unfold BX9_layLeaves_12
    refine r_iload_n C dX9_layLeaves_12 rfl (lv_at hl 3 rfl) ?_
    refine r_iconst (v := 4) C dX9_layLeaves_13 (by decide) ?_
    refine r_icmp_ge (tgt := 80) C dX9_layLeaves_14 (by decide) ?_ ?_
    · exact hk80 x1 x2 σ ls (lv_sub hl [0, 1, 2] rfl)
    · refine r_iload_n C dX9_layLeaves_17 rfl (lv_at hl 2 rfl) ?_
      refine r_aload_n C dX9_layLeaves_18 rfl (lv_at hl 0 rfl) ?_
      refine r_getI C fl_X9_86 lf_50_0 dX9_layLeaves_19 ?_
      refine r_jn (fun (k50 : Int32 → Int32 → Int32 → Int32 → Mem → Option (Int32 × Mem)) => ∀ (x1 : Int32) (x2 : Int32) (x3 : Int32) (t0 : Int32) (σ : Mem) (ls : Array Slot), lv_has ls 5 [(0, .ref (ad 50)), (1, .int x1), (2, .int x2), (3, .int x3)] → WM p l e 1 22 s m args below meth c D cI cZ ad A rvv (k50 x1 x2 x3 t0 σ) σ (F0 m 50 ls [.int t0])) ?_ ?_
      · intro x1 x2 x3 t0 σ1 ls hl
        refine r_istore (lv' := [(4, .int t0), (0, .ref (ad 50)), (1, .int x1), (2, .int x2), (3, .int x3)]) C dX9_layLeaves_50 hl (by decide) rfl (fun ls hl => ?_)
        refine r_aload_n C dX9_layLeaves_52 rfl (lv_at hl 1 rfl) ?_
        refine r_getR C fl_X9_38 lf_50_23 dX9_layLeaves_53 ?_
        refine r_iconst (v := 4) C dX9_layLeaves_56 (by decide) ?_
        refine r_iload_n C dX9_layLeaves_57 rfl (lv_at hl 3 rfl) ?_
        refine r_imul C dX9_layLeaves_58 ?_
        refine r_iload_n C dX9_layLeaves_59 rfl (lv_at hl 4 rfl) ?_
        refine r_iadd C dX9_layLeaves_60 ?_
        refine r_iload C dX9_layLeaves_61 (lv_at hl 0 rfl) ?_
        refine r_if_eq (tgt := 70) C dX9_layLeaves_63 (by decide) ?_ ?_
        · refine r_sipush (v := 9999) C dX9_layLeaves_70 (by decide) ?_
          refine r_iast C la_60 dX9_layLeaves_73 ?_
          refine r_letm (fun σ2 => ?_)
          refine r_iinc (v := x3 + 1) (lv' := [(3, .int (x3 + 1)), (4, .int t0), (0, .ref (ad 50)), (1, .int x1), (2, .int x2)]) C dX9_layLeaves_74 hl (k := 4) rfl rfl (by decide) rfl (fun ls hl => ?_)
          refine r_goto (tgt := 12) C dX9_layLeaves_77 (by decide) ?_
          exact ih x1 x2 (x3 + 1) σ2 ls (lv_sub hl [2, 3, 4, 0] rfl)
        · refine r_iconst (v := 0) C dX9_layLeaves_66 (by decide) ?_
          refine r_goto (tgt := 73) C dX9_layLeaves_67 (by decide) ?_
          refine r_iast C la_60 dX9_layLeaves_73 ?_
          refine r_letm (fun σ3 => ?_)
          refine r_iinc (v := x3 + 1) (lv' := [(3, .int (x3 + 1)), (4, .int t0), (0, .ref (ad 50)), (1, .int x1), (2, .int x2)]) C dX9_layLeaves_74 hl (k := 4) rfl rfl (by decide) rfl (fun ls hl => ?_)
          refine r_goto (tgt := 12) C dX9_layLeaves_77 (by decide) ?_
          exact ih x1 x2 (x3 + 1) σ3 ls (lv_sub hl [2, 3, 4, 0] rfl)
      · intro k50 hk50
        refine r_jn (fun (k45 : Int32 → Int32 → Int32 → Mem → Option (Int32 × Mem)) => ∀ (x1 : Int32) (x2 : Int32) (x3 : Int32) (σ : Mem) (ls : Array Slot), lv_has ls 5 [(0, .ref (ad 50)), (1, .int x1), (2, .int x2), (3, .int x3)] → WM p l e 1 22 s m args below meth c D cI cZ ad A rvv (k45 x1 x2 x3 σ) σ (F0 m 45 ls [])) ?_ ?_
        · intro x1 x2 x3 σ4 ls hl
          refine r_iconst (v := 1) C dX9_layLeaves_45 (by decide) ?_
          refine r_goto (tgt := 50) C dX9_layLeaves_46 (by decide) ?_
          exact hk50 x1 x2 x3 1 σ4 ls (lv_sub hl [0, 1, 2, 3] rfl)
        · intro k45 hk45
          refine r_icmp_ge (tgt := 45) C dX9_layLeaves_22 (by decide) ?_ ?_
          · exact hk45 x1 x2 x3 σ ls (lv_sub hl [0, 1, 2, 3] rfl)
          · refine r_aload_n C dX9_layLeaves_25 rfl (lv_at hl 0 rfl) ?_
            refine r_iload_n C dX9_layLeaves_26 rfl (lv_at hl 2 rfl) ?_
            refine r_iload_n C dX9_layLeaves_27 rfl (lv_at hl 1 rfl) ?_
            refine r_callVi (As := [.int x2, .int x1]) (rest := []) C hl ml_X9_105 rc_50 (gX9_readingOf l C.inj x2 x1 σ) ⟨Nat.le_of_ble_eq_true rfl, Nat.le_of_ble_eq_true rfl⟩ ⟨Nat.le_of_ble_eq_true rfl, Nat.le_of_ble_eq_true rfl⟩ rfl rfl (Nat.le_of_ble_eq_true rfl) dX9_layLeaves_28 (fun r5 σ6 => ?_)
            refine r_iconst (v := 4) C dX9_layLeaves_31 (by decide) ?_
            refine r_icmp_eq (tgt := 45) C dX9_layLeaves_32 (by decide) ?_ ?_
            · exact hk45 x1 x2 x3 σ6 ls (lv_sub hl [0, 1, 2, 3] rfl)
            · refine r_aload_n C dX9_layLeaves_35 rfl (lv_at hl 0 rfl) ?_
              refine r_iload_n C dX9_layLeaves_36 rfl (lv_at hl 2 rfl) ?_
              refine r_iload_n C dX9_layLeaves_37 rfl (lv_at hl 1 rfl) ?_
              refine r_callVi (As := [.int x2, .int x1]) (rest := []) C hl ml_X9_105 rc_50 (gX9_readingOf l C.inj x2 x1 σ6) ⟨Nat.le_of_ble_eq_true rfl, Nat.le_of_ble_eq_true rfl⟩ ⟨Nat.le_of_ble_eq_true rfl, Nat.le_of_ble_eq_true rfl⟩ rfl rfl (Nat.le_of_ble_eq_true rfl) dX9_layLeaves_38 (fun r7 σ8 => ?_)
              refine r_iload_n C dX9_layLeaves_41 rfl (lv_at hl 3 rfl) ?_
              refine r_icmp_ne (tgt := 49) C dX9_layLeaves_42 (by decide) ?_ ?_
              · refine r_iconst (v := 0) C dX9_layLeaves_49 (by decide) ?_
                exact hk50 x1 x2 x3 0 σ8 ls (lv_sub hl [0, 1, 2, 3] rfl)
              · exact hk45 x1 x2 x3 σ8 ls (lv_sub hl [0, 1, 2, 3] rfl)
set_option maxRecDepth 100000 in
def BX9_layLeaves_2 (k86 : Mem → Option (Int32 × Mem)) (rec : Int32 → Int32 → Mem → Option (Int32 × Mem)) (x1 : Int32) (x2 : Int32) (σ : Mem) : Option (Int32 × Mem) := if (σ 50 20 : Int32) ≤ x2 then k86 σ else LX9_layLeaves_12 (fun x1 x2 σ9 => rec x1 (x2 + 1) σ9) 300 x1 x2 0 σ
def LX9_layLeaves_2 (k86 : Mem → Option (Int32 × Mem)) : Nat → Int32 → Int32 → Mem → Option (Int32 × Mem)
  | 0 => fun _ _ _ => none
  | n + 1 => BX9_layLeaves_2 k86 (LX9_layLeaves_2 k86 n)
set_option maxRecDepth 100000 in
set_option maxHeartbeats 4000000 in
theorem wX9_layLeaves_2 {p : Program} {l : Launch} {e : Env} {s : State} {m : MethodId} {args : Array Value} {below : List Frame} {meth : Method} {c : Code} {D : va_G} {cI cZ : ClassId} {ad : Nat → Nat} {tT : Nat} {A : Nat → Prop} (C : CX p s m args meth c cX9_layLeaves 5 RX9 (none) D cI cZ ad tT A) (k86 : Mem → Option (Int32 × Mem)) (hk86 : ∀ (σ : Mem) (ls : Array Slot), lv_has ls 5 [] → WM p l e 1 22 s m args below meth c D cI cZ ad A rvv (k86 σ) σ (F0 m 86 ls [])) :
    ∀ (n0 : Nat), ∀ (x1 : Int32) (x2 : Int32) (σ : Mem) (ls : Array Slot), lv_has ls 5 [(0, .ref (ad 50)), (1, .int x1), (2, .int x2)] → WM p l e 1 22 s m args below meth c D cI cZ ad A rvv (LX9_layLeaves_2 k86 n0 x1 x2 σ) σ (F0 m 2 ls []) := by
  intro n0
  induction n0 with
  | zero => intro x1 x2 σ ls hl; exact r_none
  | succ n0 ih =>
    intro x1 x2 σ ls hl
    show WM p l e 1 22 s m args below meth c D cI cZ ad A rvv (BX9_layLeaves_2 k86 (LX9_layLeaves_2 k86 n0) x1 x2 σ) σ (F0 m 2 ls [])
    unfold BX9_layLeaves_2
    refine r_iload_n C dX9_layLeaves_2 rfl (lv_at hl 2 rfl) ?_
    refine r_aload_n C dX9_layLeaves_3 rfl (lv_at hl 0 rfl) ?_
    refine r_getI C fl_X9_112 lf_50_20 dX9_layLeaves_4 ?_
    refine r_icmp_ge (tgt := 86) C dX9_layLeaves_7 (by decide) ?_ ?_
    · exact hk86 σ ls (lv_sub hl [] rfl)
    · refine r_iconst (v := 0) C dX9_layLeaves_10 (by decide) ?_
      refine r_istore_n (lv' := [(3, .int 0), (0, .ref (ad 50)), (1, .int x1), (2, .int x2)]) C dX9_layLeaves_11 rfl hl (by decide) rfl (fun ls hl => ?_)
      refine wX9_layLeaves_12  C _ ?_ 300 x1 x2 0 σ ls (lv_sub hl [1, 2, 3, 0] rfl)
      · intro x1 x2 σ9 ls hl
        refine r_iinc (v := x2 + 1) (lv' := [(2, .int (x2 + 1)), (0, .ref (ad 50)), (1, .int x1)]) C dX9_layLeaves_80 hl (k := 2) rfl rfl (by decide) rfl (fun ls hl => ?_)
        refine r_goto (tgt := 2) C dX9_layLeaves_83 (by decide) ?_
        exact ih x1 (x2 + 1) σ9 ls (lv_sub hl [1, 2, 0] rfl)
set_option maxRecDepth 100000 in
def fX9_layLeaves (x1 : Int32) (σ : Mem) : Option (Int32 × Mem) := LX9_layLeaves_2 (fun σ10 => some (0, σ10)) 300 x1 0 σ
set_option maxRecDepth 100000 in
set_option maxHeartbeats 4000000 in
theorem gX9_layLeaves (l : Launch) {D : va_G} {cI cZ : ClassId} {ad : Nat → Nat} {tT : Nat} (hi : INJ ad) (x1 : Int32) (σ : Mem) : GM l D cI cZ ad tT yX9_layLeaves cX9_layLeaves 5 (none) 1 22 rvv [.ref (ad 50), .int x1] σ (fX9_layLeaves x1 σ) := by
  refine gm_of (lv := [(0, .ref (ad 50)), (1, .int x1)]) (own := RX9) hi (by decide +kernel) rfl (Nat.le_of_ble_eq_true rfl) rfl ?_
  intro p e s m args below meth c A C ls hl
  unfold fX9_layLeaves
  refine r_iconst (v := 0) C dX9_layLeaves_0 (by decide) ?_
  refine r_istore_n (lv' := [(2, .int 0), (0, .ref (ad 50)), (1, .int x1)]) C dX9_layLeaves_1 rfl hl (by decide) rfl (fun ls hl => ?_)
  refine wX9_layLeaves_2  C _ ?_ 300 x1 0 σ ls (lv_sub hl [1, 2, 0] rfl)
  · intro σ10 ls hl
    exact r_vret C rfl dX9_layLeaves_86

set_option maxRecDepth 100000 in
def BX9_least_6 (k46 : Int32 → Mem → Option (Int32 × Mem)) (rec : Int32 → Int32 → Int32 → Mem → Option (Int32 × Mem)) (x1 : Int32) (x2 : Int32) (x3 : Int32) (σ : Mem) : Option (Int32 × Mem) := if (4 : Int32) ≤ x3 then k46 x2 σ else gd 44 (((4 : Int32) * x1) + x3) (if (x2 : Int32) ≤ (σ 60 (((4 : Int32) * x1) + x3).toNatClampNeg) then rec x1 x2 (x3 + 1) σ else gd 44 (((4 : Int32) * x1) + x3) (letv (σ 60 (((4 : Int32) * x1) + x3).toNatClampNeg) (fun v1 => rec x1 v1 (x3 + 1) σ)))
def LX9_least_6 (k46 : Int32 → Mem → Option (Int32 × Mem)) : Nat → Int32 → Int32 → Int32 → Mem → Option (Int32 × Mem)
  | 0 => fun _ _ _ _ => none
  | n + 1 => BX9_least_6 k46 (LX9_least_6 k46 n)
set_option maxRecDepth 100000 in
set_option maxHeartbeats 4000000 in
theorem wX9_least_6 {p : Program} {l : Launch} {e : Env} {s : State} {m : MethodId} {args : Array Value} {below : List Frame} {meth : Method} {c : Code} {D : va_G} {cI cZ : ClassId} {ad : Nat → Nat} {tT : Nat} {A : Nat → Prop} (C : CX p s m args meth c cX9_least 4 RX9 (some .int) D cI cZ ad tT A) (k46 : Int32 → Mem → Option (Int32 × Mem)) (hk46 : ∀ (x2 : Int32) (σ : Mem) (ls : Array Slot), lv_has ls 4 [(2, .int x2)] → WM p l e 0 0 s m args below meth c D cI cZ ad A rvi (k46 x2 σ) σ (F0 m 46 ls [])) :
    ∀ (n0 : Nat), ∀ (x1 : Int32) (x2 : Int32) (x3 : Int32) (σ : Mem) (ls : Array Slot), lv_has ls 4 [(0, .ref (ad 50)), (1, .int x1), (2, .int x2), (3, .int x3)] → WM p l e 0 0 s m args below meth c D cI cZ ad A rvi (LX9_least_6 k46 n0 x1 x2 x3 σ) σ (F0 m 6 ls []) := by
  intro n0
  induction n0 with
  | zero => intro x1 x2 x3 σ ls hl; exact r_none
  | succ n0 ih =>
    intro x1 x2 x3 σ ls hl
    show WM p l e 0 0 s m args below meth c D cI cZ ad A rvi (BX9_least_6 k46 (LX9_least_6 k46 n0) x1 x2 x3 σ) σ (F0 m 6 ls [])
    unfold BX9_least_6
    refine r_iload_n C dX9_least_6 rfl (lv_at hl 3 rfl) ?_
    refine r_iconst (v := 4) C dX9_least_7 (by decide) ?_
    refine r_icmp_ge (tgt := 46) C dX9_least_8 (by decide) ?_ ?_
    · exact hk46 x2 σ ls (lv_sub hl [2] rfl)
    · refine r_aload_n C dX9_least_11 rfl (lv_at hl 0 rfl) ?_
      refine r_getR C fl_X9_38 lf_50_23 dX9_least_12 ?_
      refine r_iconst (v := 4) C dX9_least_15 (by decide) ?_
      refine r_iload_n C dX9_least_16 rfl (lv_at hl 1 rfl) ?_
      refine r_imul C dX9_least_17 ?_
      refine r_iload_n C dX9_least_18 rfl (lv_at hl 3 rfl) ?_
      refine r_iadd C dX9_least_19 ?_
      refine r_iald C la_60 dX9_least_20 ?_
      refine r_iload_n C dX9_least_21 rfl (lv_at hl 2 rfl) ?_
      refine r_icmp_ge (tgt := 38) C dX9_least_22 (by decide) ?_ ?_
      · refine r_iload_n C dX9_least_38 rfl (lv_at hl 2 rfl) ?_
        refine r_istore_n (lv' := [(2, .int x2), (0, .ref (ad 50)), (1, .int x1), (3, .int x3)]) C dX9_least_39 rfl hl (by decide) rfl (fun ls hl => ?_)
        refine r_iinc (v := x3 + 1) (lv' := [(3, .int (x3 + 1)), (2, .int x2), (0, .ref (ad 50)), (1, .int x1)]) C dX9_least_40 hl (k := 3) rfl rfl (by decide) rfl (fun ls hl => ?_)
        refine r_goto (tgt := 6) C dX9_least_43 (by decide) ?_
        exact ih x1 x2 (x3 + 1) σ ls (lv_sub hl [2, 3, 1, 0] rfl)
      · refine r_aload_n C dX9_least_25 rfl (lv_at hl 0 rfl) ?_
        refine r_getR C fl_X9_38 lf_50_23 dX9_least_26 ?_
        refine r_iconst (v := 4) C dX9_least_29 (by decide) ?_
        refine r_iload_n C dX9_least_30 rfl (lv_at hl 1 rfl) ?_
        refine r_imul C dX9_least_31 ?_
        refine r_iload_n C dX9_least_32 rfl (lv_at hl 3 rfl) ?_
        refine r_iadd C dX9_least_33 ?_
        refine r_iald C la_60 dX9_least_34 ?_
        refine r_goto (tgt := 39) C dX9_least_35 (by decide) ?_
        refine r_letv (fun v1 => ?_)
        refine r_istore_n (lv' := [(2, .int v1), (0, .ref (ad 50)), (1, .int x1), (3, .int x3)]) C dX9_least_39 rfl hl (by decide) rfl (fun ls hl => ?_)
        refine r_iinc (v := x3 + 1) (lv' := [(3, .int (x3 + 1)), (2, .int v1), (0, .ref (ad 50)), (1, .int x1)]) C dX9_least_40 hl (k := 3) rfl rfl (by decide) rfl (fun ls hl => ?_)
        refine r_goto (tgt := 6) C dX9_least_43 (by decide) ?_
        exact ih x1 v1 (x3 + 1) σ ls (lv_sub hl [2, 3, 1, 0] rfl)
set_option maxRecDepth 100000 in
def fX9_least (x1 : Int32) (σ : Mem) : Option (Int32 × Mem) := LX9_least_6 (fun x2 σ2 => some (x2, σ2)) 300 x1 9999 0 σ
set_option maxRecDepth 100000 in
set_option maxHeartbeats 4000000 in
theorem gX9_least (l : Launch) {D : va_G} {cI cZ : ClassId} {ad : Nat → Nat} {tT : Nat} (hi : INJ ad) (x1 : Int32) (σ : Mem) : GM l D cI cZ ad tT yX9_least cX9_least 4 (some .int) 0 0 rvi [.ref (ad 50), .int x1] σ (fX9_least x1 σ) := by
  refine gm_of (lv := [(0, .ref (ad 50)), (1, .int x1)]) (own := RX9) hi (by decide +kernel) rfl (Nat.le_of_ble_eq_true rfl) rfl ?_
  intro p e s m args below meth c A C ls hl
  unfold fX9_least
  refine r_sipush (v := 9999) C dX9_least_0 (by decide) ?_
  refine r_istore_n (lv' := [(2, .int 9999), (0, .ref (ad 50)), (1, .int x1)]) C dX9_least_3 rfl hl (by decide) rfl (fun ls hl => ?_)
  refine r_iconst (v := 0) C dX9_least_4 (by decide) ?_
  refine r_istore_n (lv' := [(3, .int 0), (2, .int 9999), (0, .ref (ad 50)), (1, .int x1)]) C dX9_least_5 rfl hl (by decide) rfl (fun ls hl => ?_)
  refine wX9_least_6  C _ ?_ 300 x1 9999 0 σ ls (lv_sub hl [2, 3, 1, 0] rfl)
  · intro x2 σ2 ls hl
    refine r_iload_n C dX9_least_46 rfl (lv_at hl 0 rfl) ?_
    exact r_iret C rfl dX9_least_47

set_option maxRecDepth 100000 in
def BX9_takes_17 (k67 : Int32 → Int32 → Int32 → Int32 → Int32 → Mem → Option (Int32 × Mem)) (rec : Int32 → Int32 → Int32 → Int32 → Int32 → Int32 → Mem → Option (Int32 × Mem)) (x1 : Int32) (x2 : Int32) (x3 : Int32) (x4 : Int32) (x5 : Int32) (x6 : Int32) (σ : Mem) : Option (Int32 × Mem) := if (4 : Int32) ≤ x6 then k67 x1 x2 x3 x4 x5 σ else gd 44 (((4 : Int32) * x1) + x6) (bnd (fX9_between x4 x6 x3 σ) (fun r1 σ2 => letv ((σ 60 (((4 : Int32) * x1) + x6).toNatClampNeg) + r1) (fun v3 => if (x5 : Int32) ≤ v3 then rec x1 x2 x3 x4 x5 (x6 + 1) σ2 else rec x1 x2 x3 x4 v3 (x6 + 1) σ2)))
def LX9_takes_17 (k67 : Int32 → Int32 → Int32 → Int32 → Int32 → Mem → Option (Int32 × Mem)) : Nat → Int32 → Int32 → Int32 → Int32 → Int32 → Int32 → Mem → Option (Int32 × Mem)
  | 0 => fun _ _ _ _ _ _ _ => none
  | n + 1 => BX9_takes_17 k67 (LX9_takes_17 k67 n)
set_option maxRecDepth 100000 in
set_option maxHeartbeats 4000000 in
theorem wX9_takes_17 {p : Program} {l : Launch} {e : Env} {s : State} {m : MethodId} {args : Array Value} {below : List Frame} {meth : Method} {c : Code} {D : va_G} {cI cZ : ClassId} {ad : Nat → Nat} {tT : Nat} {A : Nat → Prop} (C : CX p s m args meth c cX9_takes 8 RX9 (none) D cI cZ ad tT A) (k67 : Int32 → Int32 → Int32 → Int32 → Int32 → Mem → Option (Int32 × Mem)) (hk67 : ∀ (x1 : Int32) (x2 : Int32) (x3 : Int32) (x4 : Int32) (x5 : Int32) (σ : Mem) (ls : Array Slot), lv_has ls 8 [(0, .ref (ad 50)), (1, .int x1), (2, .int x2), (3, .int x3), (4, .int x4), (5, .int x5)] → WM p l e 1 22 s m args below meth c D cI cZ ad A rvv (k67 x1 x2 x3 x4 x5 σ) σ (F0 m 67 ls [])) :
    ∀ (n0 : Nat), ∀ (x1 : Int32) (x2 : Int32) (x3 : Int32) (x4 : Int32) (x5 : Int32) (x6 : Int32) (σ : Mem) (ls : Array Slot), lv_has ls 8 [(0, .ref (ad 50)), (1, .int x1), (2, .int x2), (3, .int x3), (4, .int x4), (5, .int x5), (6, .int x6)] → WM p l e 1 22 s m args below meth c D cI cZ ad A rvv (LX9_takes_17 k67 n0 x1 x2 x3 x4 x5 x6 σ) σ (F0 m 17 ls []) := by
  intro n0
  induction n0 with
  | zero => intro x1 x2 x3 x4 x5 x6 σ ls hl; exact r_none
  | succ n0 ih =>
    intro x1 x2 x3 x4 x5 x6 σ ls hl
    show WM p l e 1 22 s m args below meth c D cI cZ ad A rvv (BX9_takes_17 k67 (LX9_takes_17 k67 n0) x1 x2 x3 x4 x5 x6 σ) σ (F0 m 17 ls [])
    unfold BX9_takes_17
    refine r_iload C dX9_takes_17 (lv_at hl 6 rfl) ?_
    refine r_iconst (v := 4) C dX9_takes_19 (by decide) ?_
    refine r_icmp_ge (tgt := 67) C dX9_takes_20 (by decide) ?_ ?_
    · exact hk67 x1 x2 x3 x4 x5 σ ls (lv_sub hl [0, 1, 2, 3, 4, 5] rfl)
    · refine r_aload_n C dX9_takes_23 rfl (lv_at hl 0 rfl) ?_
      refine r_getR C fl_X9_38 lf_50_23 dX9_takes_24 ?_
      refine r_iconst (v := 4) C dX9_takes_27 (by decide) ?_
      refine r_iload_n C dX9_takes_28 rfl (lv_at hl 1 rfl) ?_
      refine r_imul C dX9_takes_29 ?_
      refine r_iload C dX9_takes_30 (lv_at hl 6 rfl) ?_
      refine r_iadd C dX9_takes_32 ?_
      refine r_iald C la_60 dX9_takes_33 ?_
      refine r_iload C dX9_takes_34 (lv_at hl 4 rfl) ?_
      refine r_iload C dX9_takes_36 (lv_at hl 6 rfl) ?_
      refine r_iload_n C dX9_takes_38 rfl (lv_at hl 3 rfl) ?_
      refine r_callSi (As := [.int x4, .int x6, .int x3]) (rest := [.int (σ 60 (((4 : Int32) * x1) + x6).toNatClampNeg)]) C hl ml_X9_122 (gX9_between l C.inj x4 x6 x3 σ) ⟨Nat.le_of_ble_eq_true rfl, Nat.le_of_ble_eq_true rfl⟩ ⟨Nat.le_of_ble_eq_true rfl, Nat.le_of_ble_eq_true rfl⟩ rfl rfl (Nat.le_of_ble_eq_true rfl) dX9_takes_39 (fun r1 σ2 => ?_)
      refine r_iadd C dX9_takes_42 ?_
      refine r_letv (fun v3 => ?_)
      refine r_istore (lv' := [(7, .int v3), (0, .ref (ad 50)), (1, .int x1), (2, .int x2), (3, .int x3), (4, .int x4), (5, .int x5), (6, .int x6)]) C dX9_takes_43 hl (by decide) rfl (fun ls hl => ?_)
      refine r_iload C dX9_takes_45 (lv_at hl 0 rfl) ?_
      refine r_iload C dX9_takes_47 (lv_at hl 6 rfl) ?_
      refine r_icmp_ge (tgt := 57) C dX9_takes_49 (by decide) ?_ ?_
      · refine r_iload C dX9_takes_57 (lv_at hl 6 rfl) ?_
        refine r_istore (lv' := [(5, .int x5), (7, .int v3), (0, .ref (ad 50)), (1, .int x1), (2, .int x2), (3, .int x3), (4, .int x4), (6, .int x6)]) C dX9_takes_59 hl (by decide) rfl (fun ls hl => ?_)
        refine r_iinc (v := x6 + 1) (lv' := [(6, .int (x6 + 1)), (5, .int x5), (7, .int v3), (0, .ref (ad 50)), (1, .int x1), (2, .int x2), (3, .int x3), (4, .int x4)]) C dX9_takes_61 hl (k := 7) rfl rfl (by decide) rfl (fun ls hl => ?_)
        refine r_goto (tgt := 17) C dX9_takes_64 (by decide) ?_
        exact ih x1 x2 x3 x4 x5 (x6 + 1) σ2 ls (lv_sub hl [3, 4, 5, 6, 7, 1, 0] rfl)
      · refine r_iload C dX9_takes_52 (lv_at hl 0 rfl) ?_
        refine r_goto (tgt := 59) C dX9_takes_54 (by decide) ?_
        refine r_istore (lv' := [(5, .int v3), (7, .int v3), (0, .ref (ad 50)), (1, .int x1), (2, .int x2), (3, .int x3), (4, .int x4), (6, .int x6)]) C dX9_takes_59 hl (by decide) rfl (fun ls hl => ?_)
        refine r_iinc (v := x6 + 1) (lv' := [(6, .int (x6 + 1)), (5, .int v3), (7, .int v3), (0, .ref (ad 50)), (1, .int x1), (2, .int x2), (3, .int x3), (4, .int x4)]) C dX9_takes_61 hl (k := 7) rfl rfl (by decide) rfl (fun ls hl => ?_)
        refine r_goto (tgt := 17) C dX9_takes_64 (by decide) ?_
        exact ih x1 x2 x3 x4 v3 (x6 + 1) σ2 ls (lv_sub hl [3, 4, 5, 6, 7, 1, 0] rfl)
set_option maxRecDepth 100000 in
def BX9_takes_3 (k89 : Mem → Option (Int32 × Mem)) (rec : Int32 → Int32 → Int32 → Int32 → Mem → Option (Int32 × Mem)) (x1 : Int32) (x2 : Int32) (x3 : Int32) (x4 : Int32) (σ : Mem) : Option (Int32 × Mem) := if (4 : Int32) ≤ x4 then k89 σ else LX9_takes_17 (fun x1 x2 x3 x4 x5 σ4 => gd 44 (((4 : Int32) * x2) + x4) (gd 44 (((4 : Int32) * x2) + x4) (letm (stm σ4 60 (((4 : Int32) * x2) + x4).toNatClampNeg ((σ4 60 (((4 : Int32) * x2) + x4).toNatClampNeg) + x5)) (fun σ5 => rec x1 x2 x3 (x4 + 1) σ5)))) 300 x1 x2 x3 x4 9999 0 σ
def LX9_takes_3 (k89 : Mem → Option (Int32 × Mem)) : Nat → Int32 → Int32 → Int32 → Int32 → Mem → Option (Int32 × Mem)
  | 0 => fun _ _ _ _ _ => none
  | n + 1 => BX9_takes_3 k89 (LX9_takes_3 k89 n)
set_option maxRecDepth 100000 in
set_option maxHeartbeats 4000000 in
theorem wX9_takes_3 {p : Program} {l : Launch} {e : Env} {s : State} {m : MethodId} {args : Array Value} {below : List Frame} {meth : Method} {c : Code} {D : va_G} {cI cZ : ClassId} {ad : Nat → Nat} {tT : Nat} {A : Nat → Prop} (C : CX p s m args meth c cX9_takes 8 RX9 (none) D cI cZ ad tT A) (k89 : Mem → Option (Int32 × Mem)) (hk89 : ∀ (σ : Mem) (ls : Array Slot), lv_has ls 8 [] → WM p l e 1 22 s m args below meth c D cI cZ ad A rvv (k89 σ) σ (F0 m 89 ls [])) :
    ∀ (n0 : Nat), ∀ (x1 : Int32) (x2 : Int32) (x3 : Int32) (x4 : Int32) (σ : Mem) (ls : Array Slot), lv_has ls 8 [(0, .ref (ad 50)), (1, .int x1), (2, .int x2), (3, .int x3), (4, .int x4)] → WM p l e 1 22 s m args below meth c D cI cZ ad A rvv (LX9_takes_3 k89 n0 x1 x2 x3 x4 σ) σ (F0 m 3 ls []) := by
  intro n0
  induction n0 with
  | zero => intro x1 x2 x3 x4 σ ls hl; exact r_none
  | succ n0 ih =>
    intro x1 x2 x3 x4 σ ls hl
    show WM p l e 1 22 s m args below meth c D cI cZ ad A rvv (BX9_takes_3 k89 (LX9_takes_3 k89 n0) x1 x2 x3 x4 σ) σ (F0 m 3 ls [])
    unfold BX9_takes_3
    refine r_iload C dX9_takes_3 (lv_at hl 4 rfl) ?_
    refine r_iconst (v := 4) C dX9_takes_5 (by decide) ?_
    refine r_icmp_ge (tgt := 89) C dX9_takes_6 (by decide) ?_ ?_
    · exact hk89 σ ls (lv_sub hl [] rfl)
    · refine r_sipush (v := 9999) C dX9_takes_9 (by decide) ?_
      refine r_istore (lv' := [(5, .int 9999), (0, .ref (ad 50)), (1, .int x1), (2, .int x2), (3, .int x3), (4, .int x4)]) C dX9_takes_12 hl (by decide) rfl (fun ls hl => ?_)
      refine r_iconst (v := 0) C dX9_takes_14 (by decide) ?_
      refine r_istore (lv' := [(6, .int 0), (5, .int 9999), (0, .ref (ad 50)), (1, .int x1), (2, .int x2), (3, .int x3), (4, .int x4)]) C dX9_takes_15 hl (by decide) rfl (fun ls hl => ?_)
      refine wX9_takes_17  C _ ?_ 300 x1 x2 x3 x4 9999 0 σ ls (lv_sub hl [2, 3, 4, 5, 6, 1, 0] rfl)
      · intro x1 x2 x3 x4 x5 σ4 ls hl
        refine r_aload_n C dX9_takes_67 rfl (lv_at hl 0 rfl) ?_
        refine r_getR C fl_X9_38 lf_50_23 dX9_takes_68 ?_
        refine r_iconst (v := 4) C dX9_takes_71 (by decide) ?_
        refine r_iload_n C dX9_takes_72 rfl (lv_at hl 2 rfl) ?_
        refine r_imul C dX9_takes_73 ?_
        refine r_iload C dX9_takes_74 (lv_at hl 4 rfl) ?_
        refine r_iadd C dX9_takes_76 ?_
        refine r_dup2_11 C dX9_takes_77 rfl rfl ?_
        refine r_iald C la_60 dX9_takes_78 ?_
        refine r_iload C dX9_takes_79 (lv_at hl 5 rfl) ?_
        refine r_iadd C dX9_takes_81 ?_
        refine r_iast C la_60 dX9_takes_82 ?_
        refine r_letm (fun σ5 => ?_)
        refine r_iinc (v := x4 + 1) (lv' := [(4, .int (x4 + 1)), (0, .ref (ad 50)), (1, .int x1), (2, .int x2), (3, .int x3), (5, .int x5)]) C dX9_takes_83 hl (k := 4) rfl rfl (by decide) rfl (fun ls hl => ?_)
        refine r_goto (tgt := 3) C dX9_takes_86 (by decide) ?_
        exact ih x1 x2 x3 (x4 + 1) σ5 ls (lv_sub hl [1, 2, 3, 4, 0] rfl)
set_option maxRecDepth 100000 in
def fX9_takes (x1 : Int32) (x2 : Int32) (x3 : Int32) (σ : Mem) : Option (Int32 × Mem) := LX9_takes_3 (fun σ6 => some (0, σ6)) 300 x1 x2 x3 0 σ
set_option maxRecDepth 100000 in
set_option maxHeartbeats 4000000 in
theorem gX9_takes (l : Launch) {D : va_G} {cI cZ : ClassId} {ad : Nat → Nat} {tT : Nat} (hi : INJ ad) (x1 : Int32) (x2 : Int32) (x3 : Int32) (σ : Mem) : GM l D cI cZ ad tT yX9_takes cX9_takes 8 (none) 1 22 rvv [.ref (ad 50), .int x1, .int x2, .int x3] σ (fX9_takes x1 x2 x3 σ) := by
  refine gm_of (lv := [(0, .ref (ad 50)), (1, .int x1), (2, .int x2), (3, .int x3)]) (own := RX9) hi (by decide +kernel) rfl (Nat.le_of_ble_eq_true rfl) rfl ?_
  intro p e s m args below meth c A C ls hl
  unfold fX9_takes
  refine r_iconst (v := 0) C dX9_takes_0 (by decide) ?_
  refine r_istore (lv' := [(4, .int 0), (0, .ref (ad 50)), (1, .int x1), (2, .int x2), (3, .int x3)]) C dX9_takes_1 hl (by decide) rfl (fun ls hl => ?_)
  refine wX9_takes_3  C _ ?_ 300 x1 x2 x3 0 σ ls (lv_sub hl [1, 2, 3, 4, 0] rfl)
  · intro σ6 ls hl
    exact r_vret C rfl dX9_takes_89

set_option maxRecDepth 100000 in
def BX9_lastEdge_5 (k59 : Int32 → Mem → Option (Int32 × Mem)) (rec : Int32 → Int32 → Int32 → Mem → Option (Int32 × Mem)) (x1 : Int32) (x2 : Int32) (x3 : Int32) (σ : Mem) : Option (Int32 × Mem) := if (σ 50 19 : Int32) ≤ x3 then k59 x2 σ else gd 10 x3 (if (σ 61 x3.toNatClampNeg : Int32) = 0 then gd 10 x3 (jn (fun x1 x2 x3 σ1 => if (x2 : Int32) = (-9) then rec x1 x3 (x3 + 1) σ1 else some ((-9), σ1)) (fun k42 => if (σ 58 x3.toNatClampNeg : Int32) = x1 then k42 x1 x2 x3 σ else gd 10 x3 (if (σ 59 x3.toNatClampNeg : Int32) = x1 then k42 x1 x2 x3 σ else rec x1 x2 (x3 + 1) σ))) else rec x1 x2 (x3 + 1) σ)
def LX9_lastEdge_5 (k59 : Int32 → Mem → Option (Int32 × Mem)) : Nat → Int32 → Int32 → Int32 → Mem → Option (Int32 × Mem)
  | 0 => fun _ _ _ _ => none
  | n + 1 => BX9_lastEdge_5 k59 (LX9_lastEdge_5 k59 n)
set_option maxRecDepth 100000 in
set_option maxHeartbeats 4000000 in
theorem wX9_lastEdge_5 {p : Program} {l : Launch} {e : Env} {s : State} {m : MethodId} {args : Array Value} {below : List Frame} {meth : Method} {c : Code} {D : va_G} {cI cZ : ClassId} {ad : Nat → Nat} {tT : Nat} {A : Nat → Prop} (C : CX p s m args meth c cX9_lastEdge 4 RX9 (some .int) D cI cZ ad tT A) (k59 : Int32 → Mem → Option (Int32 × Mem)) (hk59 : ∀ (x2 : Int32) (σ : Mem) (ls : Array Slot), lv_has ls 4 [(2, .int x2)] → WM p l e 0 0 s m args below meth c D cI cZ ad A rvi (k59 x2 σ) σ (F0 m 59 ls [])) :
    ∀ (n0 : Nat), ∀ (x1 : Int32) (x2 : Int32) (x3 : Int32) (σ : Mem) (ls : Array Slot), lv_has ls 4 [(0, .ref (ad 50)), (1, .int x1), (2, .int x2), (3, .int x3)] → WM p l e 0 0 s m args below meth c D cI cZ ad A rvi (LX9_lastEdge_5 k59 n0 x1 x2 x3 σ) σ (F0 m 5 ls []) := by
  intro n0
  induction n0 with
  | zero => intro x1 x2 x3 σ ls hl; exact r_none
  | succ n0 ih =>
    intro x1 x2 x3 σ ls hl
    show WM p l e 0 0 s m args below meth c D cI cZ ad A rvi (BX9_lastEdge_5 k59 (LX9_lastEdge_5 k59 n0) x1 x2 x3 σ) σ (F0 m 5 ls [])
    unfold BX9_lastEdge_5
    refine r_iload_n C dX9_lastEdge_5 rfl (lv_at hl 3 rfl) ?_
    refine r_aload_n C dX9_lastEdge_6 rfl (lv_at hl 0 rfl) ?_
    refine r_getI C fl_X9_109 lf_50_19 dX9_lastEdge_7 ?_
    refine r_icmp_ge (tgt := 59) C dX9_lastEdge_10 (by decide) ?_ ?_
    · exact hk59 x2 σ ls (lv_sub hl [2] rfl)
    · refine r_aload_n C dX9_lastEdge_13 rfl (lv_at hl 0 rfl) ?_
      refine r_getR C fl_X9_41 lf_50_24 dX9_lastEdge_14 ?_
      refine r_iload_n C dX9_lastEdge_17 rfl (lv_at hl 3 rfl) ?_
      refine r_zald C la_61 dX9_lastEdge_18 ?_
      refine r_if_ne (tgt := 53) C dX9_lastEdge_19 (by decide) ?_ ?_
      · refine r_iinc (v := x3 + 1) (lv' := [(3, .int (x3 + 1)), (0, .ref (ad 50)), (1, .int x1), (2, .int x2)]) C dX9_lastEdge_53 hl (k := 3) rfl rfl (by decide) rfl (fun ls hl => ?_)
        refine r_goto (tgt := 5) C dX9_lastEdge_56 (by decide) ?_
        exact ih x1 x2 (x3 + 1) σ ls (lv_sub hl [1, 2, 3, 0] rfl)
      · refine r_aload_n C dX9_lastEdge_22 rfl (lv_at hl 0 rfl) ?_
        refine r_getR C fl_X9_32 lf_50_21 dX9_lastEdge_23 ?_
        refine r_iload_n C dX9_lastEdge_26 rfl (lv_at hl 3 rfl) ?_
        refine r_iald C la_58 dX9_lastEdge_27 ?_
        refine r_iload_n C dX9_lastEdge_28 rfl (lv_at hl 1 rfl) ?_
        refine r_jn (fun (k42 : Int32 → Int32 → Int32 → Mem → Option (Int32 × Mem)) => ∀ (x1 : Int32) (x2 : Int32) (x3 : Int32) (σ : Mem) (ls : Array Slot), lv_has ls 4 [(0, .ref (ad 50)), (1, .int x1), (2, .int x2), (3, .int x3)] → WM p l e 0 0 s m args below meth c D cI cZ ad A rvi (k42 x1 x2 x3 σ) σ (F0 m 42 ls [])) ?_ ?_
        · intro x1 x2 x3 σ1 ls hl
          refine r_iload_n C dX9_lastEdge_42 rfl (lv_at hl 2 rfl) ?_
          refine r_bipush (v := (-9)) C dX9_lastEdge_43 (by decide) ?_
          refine r_icmp_eq (tgt := 51) C dX9_lastEdge_45 (by decide) ?_ ?_
          · refine r_iload_n C dX9_lastEdge_51 rfl (lv_at hl 3 rfl) ?_
            refine r_istore_n (lv' := [(2, .int x3), (0, .ref (ad 50)), (1, .int x1), (3, .int x3)]) C dX9_lastEdge_52 rfl hl (by decide) rfl (fun ls hl => ?_)
            refine r_iinc (v := x3 + 1) (lv' := [(3, .int (x3 + 1)), (2, .int x3), (0, .ref (ad 50)), (1, .int x1)]) C dX9_lastEdge_53 hl (k := 3) rfl rfl (by decide) rfl (fun ls hl => ?_)
            refine r_goto (tgt := 5) C dX9_lastEdge_56 (by decide) ?_
            exact ih x1 x3 (x3 + 1) σ1 ls (lv_sub hl [2, 3, 1, 0] rfl)
          · refine r_bipush (v := (-9)) C dX9_lastEdge_48 (by decide) ?_
            exact r_iret C rfl dX9_lastEdge_50
        · intro k42 hk42
          refine r_icmp_eq (tgt := 42) C dX9_lastEdge_29 (by decide) ?_ ?_
          · exact hk42 x1 x2 x3 σ ls (lv_sub hl [0, 1, 2, 3] rfl)
          · refine r_aload_n C dX9_lastEdge_32 rfl (lv_at hl 0 rfl) ?_
            refine r_getR C fl_X9_35 lf_50_22 dX9_lastEdge_33 ?_
            refine r_iload_n C dX9_lastEdge_36 rfl (lv_at hl 3 rfl) ?_
            refine r_iald C la_59 dX9_lastEdge_37 ?_
            refine r_iload_n C dX9_lastEdge_38 rfl (lv_at hl 1 rfl) ?_
            refine r_icmp_ne (tgt := 53) C dX9_lastEdge_39 (by decide) ?_ ?_
            · refine r_iinc (v := x3 + 1) (lv' := [(3, .int (x3 + 1)), (0, .ref (ad 50)), (1, .int x1), (2, .int x2)]) C dX9_lastEdge_53 hl (k := 3) rfl rfl (by decide) rfl (fun ls hl => ?_)
              refine r_goto (tgt := 5) C dX9_lastEdge_56 (by decide) ?_
              exact ih x1 x2 (x3 + 1) σ ls (lv_sub hl [1, 2, 3, 0] rfl)
            · exact hk42 x1 x2 x3 σ ls (lv_sub hl [0, 1, 2, 3] rfl)
set_option maxRecDepth 100000 in
def fX9_lastEdge (x1 : Int32) (σ : Mem) : Option (Int32 × Mem) := LX9_lastEdge_5 (fun x2 σ2 => some (x2, σ2)) 300 x1 (-9) 0 σ
set_option maxRecDepth 100000 in
set_option maxHeartbeats 4000000 in
theorem gX9_lastEdge (l : Launch) {D : va_G} {cI cZ : ClassId} {ad : Nat → Nat} {tT : Nat} (hi : INJ ad) (x1 : Int32) (σ : Mem) : GM l D cI cZ ad tT yX9_lastEdge cX9_lastEdge 4 (some .int) 0 0 rvi [.ref (ad 50), .int x1] σ (fX9_lastEdge x1 σ) := by
  refine gm_of (lv := [(0, .ref (ad 50)), (1, .int x1)]) (own := RX9) hi (by decide +kernel) rfl (Nat.le_of_ble_eq_true rfl) rfl ?_
  intro p e s m args below meth c A C ls hl
  unfold fX9_lastEdge
  refine r_bipush (v := (-9)) C dX9_lastEdge_0 (by decide) ?_
  refine r_istore_n (lv' := [(2, .int (-9)), (0, .ref (ad 50)), (1, .int x1)]) C dX9_lastEdge_2 rfl hl (by decide) rfl (fun ls hl => ?_)
  refine r_iconst (v := 0) C dX9_lastEdge_3 (by decide) ?_
  refine r_istore_n (lv' := [(3, .int 0), (2, .int (-9)), (0, .ref (ad 50)), (1, .int x1)]) C dX9_lastEdge_4 rfl hl (by decide) rfl (fun ls hl => ?_)
  refine wX9_lastEdge_5  C _ ?_ 300 x1 (-9) 0 σ ls (lv_sub hl [2, 3, 1, 0] rfl)
  · intro x2 σ2 ls hl
    refine r_iload_n C dX9_lastEdge_59 rfl (lv_at hl 0 rfl) ?_
    exact r_iret C rfl dX9_lastEdge_60

set_option maxRecDepth 100000 in
def BX9_costFrom_8 (k31 : Int32 → Int32 → Mem → Option (Int32 × Mem)) (rec : Int32 → Int32 → Int32 → Mem → Option (Int32 × Mem)) (x1 : Int32) (x3 : Int32) (x4 : Int32) (σ : Mem) : Option (Int32 × Mem) := if (σ 50 19 : Int32) ≤ x4 then k31 x1 x3 σ else gd 10 x4 (letm (stm σ 61 x4.toNatClampNeg 0) (fun σ3 => rec x1 x3 (x4 + 1) σ3))
def LX9_costFrom_8 (k31 : Int32 → Int32 → Mem → Option (Int32 × Mem)) : Nat → Int32 → Int32 → Int32 → Mem → Option (Int32 × Mem)
  | 0 => fun _ _ _ _ => none
  | n + 1 => BX9_costFrom_8 k31 (LX9_costFrom_8 k31 n)
set_option maxRecDepth 100000 in
set_option maxHeartbeats 4000000 in
theorem wX9_costFrom_8 {p : Program} {l : Launch} {e : Env} {s : State} {m : MethodId} {args : Array Value} {below : List Frame} {meth : Method} {c : Code} {D : va_G} {cI cZ : ClassId} {ad : Nat → Nat} {tT : Nat} {A : Nat → Prop} (C : CX p s m args meth c cX9_costFrom 7 RX9 (some .int) D cI cZ ad tT A) (k31 : Int32 → Int32 → Mem → Option (Int32 × Mem)) (hk31 : ∀ (x1 : Int32) (x3 : Int32) (σ : Mem) (ls : Array Slot), lv_has ls 7 [(0, .ref (ad 50)), (1, .int x1), (3, .int x3)] → WM p l e 2 49 s m args below meth c D cI cZ ad A rvi (k31 x1 x3 σ) σ (F0 m 31 ls [])) :
    ∀ (n0 : Nat), ∀ (x1 : Int32) (x3 : Int32) (x4 : Int32) (σ : Mem) (ls : Array Slot), lv_has ls 7 [(0, .ref (ad 50)), (1, .int x1), (3, .int x3), (4, .int x4)] → WM p l e 2 49 s m args below meth c D cI cZ ad A rvi (LX9_costFrom_8 k31 n0 x1 x3 x4 σ) σ (F0 m 8 ls []) := by
  intro n0
  induction n0 with
  | zero => intro x1 x3 x4 σ ls hl; exact r_none
  | succ n0 ih =>
    intro x1 x3 x4 σ ls hl
    show WM p l e 2 49 s m args below meth c D cI cZ ad A rvi (BX9_costFrom_8 k31 (LX9_costFrom_8 k31 n0) x1 x3 x4 σ) σ (F0 m 8 ls [])
    unfold BX9_costFrom_8
    refine r_iload C dX9_costFrom_8 (lv_at hl 3 rfl) ?_
    refine r_aload_n C dX9_costFrom_10 rfl (lv_at hl 0 rfl) ?_
    refine r_getI C fl_X9_109 lf_50_19 dX9_costFrom_11 ?_
    refine r_icmp_ge (tgt := 31) C dX9_costFrom_14 (by decide) ?_ ?_
    · exact hk31 x1 x3 σ ls (lv_sub hl [0, 1, 2] rfl)
    · refine r_aload_n C dX9_costFrom_17 rfl (lv_at hl 0 rfl) ?_
      refine r_getR C fl_X9_41 lf_50_24 dX9_costFrom_18 ?_
      refine r_iload C dX9_costFrom_21 (lv_at hl 3 rfl) ?_
      refine r_iconst (v := 0) C dX9_costFrom_23 (by decide) ?_
      refine r_zast C la_61 (by decide) dX9_costFrom_24 ?_
      refine r_letm (fun σ3 => ?_)
      refine r_iinc (v := x4 + 1) (lv' := [(4, .int (x4 + 1)), (0, .ref (ad 50)), (1, .int x1), (3, .int x3)]) C dX9_costFrom_25 hl (k := 3) rfl rfl (by decide) rfl (fun ls hl => ?_)
      refine r_goto (tgt := 8) C dX9_costFrom_28 (by decide) ?_
      exact ih x1 x3 (x4 + 1) σ3 ls (lv_sub hl [1, 2, 3, 0] rfl)
set_option maxRecDepth 100000 in
def BX9_costFrom_46 (k134 : Int32 → Int32 → Int32 → Mem → Option (Int32 × Mem)) (rec : Int32 → Int32 → Int32 → Int32 → Mem → Option (Int32 × Mem)) (x1 : Int32) (x3 : Int32) (x4 : Int32) (x5 : Int32) (σ : Mem) : Option (Int32 × Mem) := if (σ 50 20 : Int32) ≤ x5 then k134 x1 x3 x4 σ else jn (fun x1 x3 x4 x5 t0 σ5 => if (t0 : Int32) = (-9) then rec x1 x3 x4 (x5 + 1) σ5 else gd 10 t0 (jn (fun x1 x3 x4 x5 x6 t0 t1 σ6 => bnd (fX9_takes t0 t1 x3 σ6) (fun r7 σ8 => gd 10 x6 (letm (stm σ8 61 x6.toNatClampNeg 1) (fun σ9 => rec x1 x3 (x4 + 1) (x5 + 1) σ9)))) (fun k113 => if (σ5 58 t0.toNatClampNeg : Int32) = x5 then gd 10 t0 (k113 x1 x3 x4 x5 t0 x5 (σ5 59 t0.toNatClampNeg) σ5) else gd 10 t0 (k113 x1 x3 x4 x5 t0 x5 (σ5 58 t0.toNatClampNeg) σ5)))) (fun k72 => if (x5 : Int32) = x1 then k72 x1 x3 x4 x5 (-9) σ else bnd (fX9_lastEdge x5 σ) (fun r10 σ11 => k72 x1 x3 x4 x5 r10 σ11))
def LX9_costFrom_46 (k134 : Int32 → Int32 → Int32 → Mem → Option (Int32 × Mem)) : Nat → Int32 → Int32 → Int32 → Int32 → Mem → Option (Int32 × Mem)
  | 0 => fun _ _ _ _ _ => none
  | n + 1 => BX9_costFrom_46 k134 (LX9_costFrom_46 k134 n)
set_option maxRecDepth 100000 in
set_option maxHeartbeats 4000000 in
theorem wX9_costFrom_46 {p : Program} {l : Launch} {e : Env} {s : State} {m : MethodId} {args : Array Value} {below : List Frame} {meth : Method} {c : Code} {D : va_G} {cI cZ : ClassId} {ad : Nat → Nat} {tT : Nat} {A : Nat → Prop} (C : CX p s m args meth c cX9_costFrom 7 RX9 (some .int) D cI cZ ad tT A) (k134 : Int32 → Int32 → Int32 → Mem → Option (Int32 × Mem)) (hk134 : ∀ (x1 : Int32) (x3 : Int32) (x4 : Int32) (σ : Mem) (ls : Array Slot), lv_has ls 7 [(0, .ref (ad 50)), (1, .int x1), (3, .int x3), (4, .int x4)] → WM p l e 2 49 s m args below meth c D cI cZ ad A rvi (k134 x1 x3 x4 σ) σ (F0 m 134 ls [])) :
    ∀ (n0 : Nat), ∀ (x1 : Int32) (x3 : Int32) (x4 : Int32) (x5 : Int32) (σ : Mem) (ls : Array Slot), lv_has ls 7 [(0, .ref (ad 50)), (1, .int x1), (3, .int x3), (4, .int x4), (5, .int x5)] → WM p l e 2 49 s m args below meth c D cI cZ ad A rvi (LX9_costFrom_46 k134 n0 x1 x3 x4 x5 σ) σ (F0 m 46 ls []) := by
  intro n0
  induction n0 with
  | zero => intro x1 x3 x4 x5 σ ls hl; exact r_none
  | succ n0 ih =>
    intro x1 x3 x4 x5 σ ls hl
    show WM p l e 2 49 s m args below meth c D cI cZ ad A rvi (BX9_costFrom_46 k134 (LX9_costFrom_46 k134 n0) x1 x3 x4 x5 σ) σ (F0 m 46 ls [])
    unfold BX9_costFrom_46
    refine r_iload C dX9_costFrom_46 (lv_at hl 4 rfl) ?_
    refine r_aload_n C dX9_costFrom_48 rfl (lv_at hl 0 rfl) ?_
    refine r_getI C fl_X9_112 lf_50_20 dX9_costFrom_49 ?_
    refine r_icmp_ge (tgt := 134) C dX9_costFrom_52 (by decide) ?_ ?_
    · exact hk134 x1 x3 x4 σ ls (lv_sub hl [0, 1, 2, 3] rfl)
    · refine r_iload C dX9_costFrom_55 (lv_at hl 4 rfl) ?_
      refine r_iload_n C dX9_costFrom_57 rfl (lv_at hl 1 rfl) ?_
      refine r_jn (fun (k72 : Int32 → Int32 → Int32 → Int32 → Int32 → Mem → Option (Int32 × Mem)) => ∀ (x1 : Int32) (x3 : Int32) (x4 : Int32) (x5 : Int32) (t0 : Int32) (σ : Mem) (ls : Array Slot), lv_has ls 7 [(0, .ref (ad 50)), (1, .int x1), (3, .int x3), (4, .int x4), (5, .int x5)] → WM p l e 2 49 s m args below meth c D cI cZ ad A rvi (k72 x1 x3 x4 x5 t0 σ) σ (F0 m 72 ls [.int t0])) ?_ ?_
      · intro x1 x3 x4 x5 t0 σ5 ls hl
        refine r_istore (lv' := [(6, .int t0), (0, .ref (ad 50)), (1, .int x1), (3, .int x3), (4, .int x4), (5, .int x5)]) C dX9_costFrom_72 hl (by decide) rfl (fun ls hl => ?_)
        refine r_iload C dX9_costFrom_74 (lv_at hl 0 rfl) ?_
        refine r_bipush (v := (-9)) C dX9_costFrom_76 (by decide) ?_
        refine r_icmp_eq (tgt := 128) C dX9_costFrom_78 (by decide) ?_ ?_
        · refine r_iinc (v := x5 + 1) (lv' := [(5, .int (x5 + 1)), (6, .int t0), (0, .ref (ad 50)), (1, .int x1), (3, .int x3), (4, .int x4)]) C dX9_costFrom_128 hl (k := 5) rfl rfl (by decide) rfl (fun ls hl => ?_)
          refine r_goto (tgt := 46) C dX9_costFrom_131 (by decide) ?_
          exact ih x1 x3 x4 (x5 + 1) σ5 ls (lv_sub hl [2, 3, 4, 5, 0] rfl)
        · refine r_aload_n C dX9_costFrom_81 rfl (lv_at hl 1 rfl) ?_
          refine r_iload C dX9_costFrom_82 (lv_at hl 5 rfl) ?_
          refine r_aload_n C dX9_costFrom_84 rfl (lv_at hl 1 rfl) ?_
          refine r_getR C fl_X9_32 lf_50_21 dX9_costFrom_85 ?_
          refine r_iload C dX9_costFrom_88 (lv_at hl 0 rfl) ?_
          refine r_iald C la_58 dX9_costFrom_90 ?_
          refine r_iload C dX9_costFrom_91 (lv_at hl 5 rfl) ?_
          refine r_jn (fun (k113 : Int32 → Int32 → Int32 → Int32 → Int32 → Int32 → Int32 → Mem → Option (Int32 × Mem)) => ∀ (x1 : Int32) (x3 : Int32) (x4 : Int32) (x5 : Int32) (x6 : Int32) (t0 : Int32) (t1 : Int32) (σ : Mem) (ls : Array Slot), lv_has ls 7 [(0, .ref (ad 50)), (1, .int x1), (3, .int x3), (4, .int x4), (5, .int x5), (6, .int x6)] → WM p l e 2 49 s m args below meth c D cI cZ ad A rvi (k113 x1 x3 x4 x5 x6 t0 t1 σ) σ (F0 m 113 ls [.int t1, .int t0, .ref (ad 50)])) ?_ ?_
          · intro x1 x3 x4 x5 x6 t0 t1 σ6 ls hl
            refine r_iload_n C dX9_costFrom_113 rfl (lv_at hl 2 rfl) ?_
            refine r_callVv (As := [.int t0, .int t1, .int x3]) (rest := []) C hl ml_X9_134 rc_50 (gX9_takes l C.inj t0 t1 x3 σ6) ⟨Nat.le_of_ble_eq_true rfl, Nat.le_of_ble_eq_true rfl⟩ ⟨Nat.le_of_ble_eq_true rfl, Nat.le_of_ble_eq_true rfl⟩ rfl rfl (Nat.le_of_ble_eq_true rfl) dX9_costFrom_114 (fun r7 σ8 => ?_)
            refine r_aload_n C dX9_costFrom_117 rfl (lv_at hl 0 rfl) ?_
            refine r_getR C fl_X9_41 lf_50_24 dX9_costFrom_118 ?_
            refine r_iload C dX9_costFrom_121 (lv_at hl 5 rfl) ?_
            refine r_iconst (v := 1) C dX9_costFrom_123 (by decide) ?_
            refine r_zast C la_61 (by decide) dX9_costFrom_124 ?_
            refine r_letm (fun σ9 => ?_)
            refine r_iinc (v := x4 + 1) (lv' := [(4, .int (x4 + 1)), (0, .ref (ad 50)), (1, .int x1), (3, .int x3), (5, .int x5), (6, .int x6)]) C dX9_costFrom_125 hl (k := 3) rfl rfl (by decide) rfl (fun ls hl => ?_)
            refine r_iinc (v := x5 + 1) (lv' := [(5, .int (x5 + 1)), (4, .int (x4 + 1)), (0, .ref (ad 50)), (1, .int x1), (3, .int x3), (6, .int x6)]) C dX9_costFrom_128 hl (k := 4) rfl rfl (by decide) rfl (fun ls hl => ?_)
            refine r_goto (tgt := 46) C dX9_costFrom_131 (by decide) ?_
            exact ih x1 x3 (x4 + 1) (x5 + 1) σ9 ls (lv_sub hl [2, 3, 4, 1, 0] rfl)
          · intro k113 hk113
            refine r_icmp_ne (tgt := 106) C dX9_costFrom_93 (by decide) ?_ ?_
            · refine r_aload_n C dX9_costFrom_106 rfl (lv_at hl 1 rfl) ?_
              refine r_getR C fl_X9_32 lf_50_21 dX9_costFrom_107 ?_
              refine r_iload C dX9_costFrom_110 (lv_at hl 0 rfl) ?_
              refine r_iald C la_58 dX9_costFrom_112 ?_
              exact hk113 x1 x3 x4 x5 t0 x5 (σ5 58 t0.toNatClampNeg) σ5 ls (lv_sub hl [1, 2, 3, 4, 5, 0] rfl)
            · refine r_aload_n C dX9_costFrom_96 rfl (lv_at hl 1 rfl) ?_
              refine r_getR C fl_X9_35 lf_50_22 dX9_costFrom_97 ?_
              refine r_iload C dX9_costFrom_100 (lv_at hl 0 rfl) ?_
              refine r_iald C la_59 dX9_costFrom_102 ?_
              refine r_goto (tgt := 113) C dX9_costFrom_103 (by decide) ?_
              exact hk113 x1 x3 x4 x5 t0 x5 (σ5 59 t0.toNatClampNeg) σ5 ls (lv_sub hl [1, 2, 3, 4, 5, 0] rfl)
      · intro k72 hk72
        refine r_icmp_ne (tgt := 66) C dX9_costFrom_58 (by decide) ?_ ?_
        · refine r_aload_n C dX9_costFrom_66 rfl (lv_at hl 0 rfl) ?_
          refine r_iload C dX9_costFrom_67 (lv_at hl 4 rfl) ?_
          refine r_callVi (As := [.int x5]) (rest := []) C hl ml_X9_130 rc_50 (gX9_lastEdge l C.inj x5 σ) ⟨Nat.le_of_ble_eq_true rfl, Nat.le_of_ble_eq_true rfl⟩ ⟨Nat.le_of_ble_eq_true rfl, Nat.le_of_ble_eq_true rfl⟩ rfl rfl (Nat.le_of_ble_eq_true rfl) dX9_costFrom_69 (fun r10 σ11 => ?_)
          exact hk72 x1 x3 x4 x5 r10 σ11 ls (lv_sub hl [0, 1, 2, 3, 4] rfl)
        · refine r_bipush (v := (-9)) C dX9_costFrom_61 (by decide) ?_
          refine r_goto (tgt := 72) C dX9_costFrom_63 (by decide) ?_
          exact hk72 x1 x3 x4 x5 (-9) σ ls (lv_sub hl [0, 1, 2, 3, 4] rfl)
set_option maxRecDepth 100000 in
def BX9_costFrom_34 (k137 : Int32 → Mem → Option (Int32 × Mem)) (rec : Int32 → Int32 → Int32 → Mem → Option (Int32 × Mem)) (x1 : Int32) (x3 : Int32) (x4 : Int32) (σ : Mem) : Option (Int32 × Mem) := if (σ 50 19 : Int32) ≤ x4 then k137 x1 σ else LX9_costFrom_46 (fun x1 x3 x4 σ12 => rec x1 x3 x4 σ12) 300 x1 x3 x4 0 σ
def LX9_costFrom_34 (k137 : Int32 → Mem → Option (Int32 × Mem)) : Nat → Int32 → Int32 → Int32 → Mem → Option (Int32 × Mem)
  | 0 => fun _ _ _ _ => none
  | n + 1 => BX9_costFrom_34 k137 (LX9_costFrom_34 k137 n)
set_option maxRecDepth 100000 in
set_option maxHeartbeats 4000000 in
theorem wX9_costFrom_34 {p : Program} {l : Launch} {e : Env} {s : State} {m : MethodId} {args : Array Value} {below : List Frame} {meth : Method} {c : Code} {D : va_G} {cI cZ : ClassId} {ad : Nat → Nat} {tT : Nat} {A : Nat → Prop} (C : CX p s m args meth c cX9_costFrom 7 RX9 (some .int) D cI cZ ad tT A) (k137 : Int32 → Mem → Option (Int32 × Mem)) (hk137 : ∀ (x1 : Int32) (σ : Mem) (ls : Array Slot), lv_has ls 7 [(0, .ref (ad 50)), (1, .int x1)] → WM p l e 2 49 s m args below meth c D cI cZ ad A rvi (k137 x1 σ) σ (F0 m 137 ls [])) :
    ∀ (n0 : Nat), ∀ (x1 : Int32) (x3 : Int32) (x4 : Int32) (σ : Mem) (ls : Array Slot), lv_has ls 7 [(0, .ref (ad 50)), (1, .int x1), (3, .int x3), (4, .int x4)] → WM p l e 2 49 s m args below meth c D cI cZ ad A rvi (LX9_costFrom_34 k137 n0 x1 x3 x4 σ) σ (F0 m 34 ls []) := by
  intro n0
  induction n0 with
  | zero => intro x1 x3 x4 σ ls hl; exact r_none
  | succ n0 ih =>
    intro x1 x3 x4 σ ls hl
    show WM p l e 2 49 s m args below meth c D cI cZ ad A rvi (BX9_costFrom_34 k137 (LX9_costFrom_34 k137 n0) x1 x3 x4 σ) σ (F0 m 34 ls [])
    unfold BX9_costFrom_34
    refine r_iload C dX9_costFrom_34 (lv_at hl 3 rfl) ?_
    refine r_aload_n C dX9_costFrom_36 rfl (lv_at hl 0 rfl) ?_
    refine r_getI C fl_X9_109 lf_50_19 dX9_costFrom_37 ?_
    refine r_icmp_ge (tgt := 137) C dX9_costFrom_40 (by decide) ?_ ?_
    · exact hk137 x1 σ ls (lv_sub hl [0, 1] rfl)
    · refine r_iconst (v := 0) C dX9_costFrom_43 (by decide) ?_
      refine r_istore (lv' := [(5, .int 0), (0, .ref (ad 50)), (1, .int x1), (3, .int x3), (4, .int x4)]) C dX9_costFrom_44 hl (by decide) rfl (fun ls hl => ?_)
      refine wX9_costFrom_46  C _ ?_ 300 x1 x3 x4 0 σ ls (lv_sub hl [1, 2, 3, 4, 0] rfl)
      · intro x1 x3 x4 σ12 ls hl
        refine r_goto (tgt := 34) C dX9_costFrom_134 (by decide) ?_
        exact ih x1 x3 x4 σ12 ls (lv_sub hl [0, 1, 2, 3] rfl)
set_option maxRecDepth 100000 in
def fX9_costFrom (x1 : Int32) (x2 : Int32) (x3 : Int32) (σ : Mem) : Option (Int32 × Mem) := bnd (fX9_layLeaves x2 σ) (fun r1 σ2 => LX9_costFrom_8 (fun x1 x3 σ4 => LX9_costFrom_34 (fun x1 σ13 => bnd (fX9_least x1 σ13) (fun r14 σ15 => some (r14, σ15))) 300 x1 x3 0 σ4) 300 x1 x3 0 σ2)
set_option maxRecDepth 100000 in
set_option maxHeartbeats 4000000 in
theorem gX9_costFrom (l : Launch) {D : va_G} {cI cZ : ClassId} {ad : Nat → Nat} {tT : Nat} (hi : INJ ad) (x1 : Int32) (x2 : Int32) (x3 : Int32) (σ : Mem) : GM l D cI cZ ad tT yX9_costFrom cX9_costFrom 7 (some .int) 2 49 rvi [.ref (ad 50), .int x1, .int x2, .int x3] σ (fX9_costFrom x1 x2 x3 σ) := by
  refine gm_of (lv := [(0, .ref (ad 50)), (1, .int x1), (2, .int x2), (3, .int x3)]) (own := RX9) hi (by decide +kernel) rfl (Nat.le_of_ble_eq_true rfl) rfl ?_
  intro p e s m args below meth c A C ls hl
  unfold fX9_costFrom
  refine r_aload_n C dX9_costFrom_0 rfl (lv_at hl 0 rfl) ?_
  refine r_iload_n C dX9_costFrom_1 rfl (lv_at hl 2 rfl) ?_
  refine r_callVv (As := [.int x2]) (rest := []) C hl ml_X9_126 rc_50 (gX9_layLeaves l C.inj x2 σ) ⟨Nat.le_of_ble_eq_true rfl, Nat.le_of_ble_eq_true rfl⟩ ⟨Nat.le_of_ble_eq_true rfl, Nat.le_of_ble_eq_true rfl⟩ rfl rfl (Nat.le_of_ble_eq_true rfl) dX9_costFrom_2 (fun r1 σ2 => ?_)
  refine r_iconst (v := 0) C dX9_costFrom_5 (by decide) ?_
  refine r_istore (lv' := [(4, .int 0), (0, .ref (ad 50)), (1, .int x1), (2, .int x2), (3, .int x3)]) C dX9_costFrom_6 hl (by decide) rfl (fun ls hl => ?_)
  refine wX9_costFrom_8  C _ ?_ 300 x1 x3 0 σ2 ls (lv_sub hl [1, 2, 4, 0] rfl)
  · intro x1 x3 σ4 ls hl
    refine r_iconst (v := 0) C dX9_costFrom_31 (by decide) ?_
    refine r_istore (lv' := [(4, .int 0), (0, .ref (ad 50)), (1, .int x1), (3, .int x3)]) C dX9_costFrom_32 hl (by decide) rfl (fun ls hl => ?_)
    refine wX9_costFrom_34  C _ ?_ 300 x1 x3 0 σ4 ls (lv_sub hl [1, 2, 3, 0] rfl)
    · intro x1 σ13 ls hl
      refine r_aload_n C dX9_costFrom_137 rfl (lv_at hl 0 rfl) ?_
      refine r_iload_n C dX9_costFrom_138 rfl (lv_at hl 1 rfl) ?_
      refine r_callVi (As := [.int x1]) (rest := []) C hl ml_X9_138 rc_50 (gX9_least l C.inj x1 σ13) ⟨Nat.le_of_ble_eq_true rfl, Nat.le_of_ble_eq_true rfl⟩ ⟨Nat.le_of_ble_eq_true rfl, Nat.le_of_ble_eq_true rfl⟩ rfl rfl (Nat.le_of_ble_eq_true rfl) dX9_costFrom_139 (fun r14 σ15 => ?_)
      exact r_iret C rfl dX9_costFrom_142

set_option maxRecDepth 100000 in
def fX9_changesAt (x1 : Int32) (σ : Mem) : Option (Int32 × Mem) := if (σ 50 0 : Int32) = 0 then some (0, σ) else bnd (fX9_costFrom 0 x1 0 σ) (fun r1 σ2 => some (r1, σ2))
set_option maxRecDepth 100000 in
set_option maxHeartbeats 4000000 in
theorem gX9_changesAt (l : Launch) {D : va_G} {cI cZ : ClassId} {ad : Nat → Nat} {tT : Nat} (hi : INJ ad) (x1 : Int32) (σ : Mem) : GM l D cI cZ ad tT yX9_changesAt cX9_changesAt 2 (some .int) 3 75 rvi [.ref (ad 50), .int x1] σ (fX9_changesAt x1 σ) := by
  refine gm_of (lv := [(0, .ref (ad 50)), (1, .int x1)]) (own := RX9) hi (by decide +kernel) rfl (Nat.le_of_ble_eq_true rfl) rfl ?_
  intro p e s m args below meth c A C ls hl
  unfold fX9_changesAt
  refine r_aload_n C dX9_changesAt_0 rfl (lv_at hl 0 rfl) ?_
  refine r_getI C fl_X9_86 lf_50_0 dX9_changesAt_1 ?_
  refine r_if_ne (tgt := 11) C dX9_changesAt_4 (by decide) ?_ ?_
  · refine r_aload_n C dX9_changesAt_11 rfl (lv_at hl 0 rfl) ?_
    refine r_iconst (v := 0) C dX9_changesAt_12 (by decide) ?_
    refine r_iload_n C dX9_changesAt_13 rfl (lv_at hl 1 rfl) ?_
    refine r_iconst (v := 0) C dX9_changesAt_14 (by decide) ?_
    refine r_callVi (As := [.int 0, .int x1, .int 0]) (rest := []) C hl ml_X9_141 rc_50 (gX9_costFrom l C.inj 0 x1 0 σ) ⟨Nat.le_of_ble_eq_true rfl, Nat.le_of_ble_eq_true rfl⟩ ⟨Nat.le_of_ble_eq_true rfl, Nat.le_of_ble_eq_true rfl⟩ rfl rfl (Nat.le_of_ble_eq_true rfl) dX9_changesAt_15 (fun r1 σ2 => ?_)
    exact r_iret C rfl dX9_changesAt_18
  · refine r_iconst (v := 0) C dX9_changesAt_7 (by decide) ?_
    refine r_goto (tgt := 18) C dX9_changesAt_8 (by decide) ?_
    exact r_iret C rfl dX9_changesAt_18

set_option maxRecDepth 100000 in
def BX9_changesOf_9 (k31 : Int32 → Mem → Option (Int32 × Mem)) (rec : Int32 → Int32 → Mem → Option (Int32 × Mem)) (x2 : Int32) (x3 : Int32) (σ : Mem) : Option (Int32 × Mem) := if (σ 50 1 : Int32) ≤ x3 then k31 x2 σ else bnd (fX9_changesAt x3 σ) (fun r3 σ4 => letv (x2 + r3) (fun v5 => rec v5 (x3 + 1) σ4))
def LX9_changesOf_9 (k31 : Int32 → Mem → Option (Int32 × Mem)) : Nat → Int32 → Int32 → Mem → Option (Int32 × Mem)
  | 0 => fun _ _ _ => none
  | n + 1 => BX9_changesOf_9 k31 (LX9_changesOf_9 k31 n)
set_option maxRecDepth 100000 in
set_option maxHeartbeats 4000000 in
theorem wX9_changesOf_9 {p : Program} {l : Launch} {e : Env} {s : State} {m : MethodId} {args : Array Value} {below : List Frame} {meth : Method} {c : Code} {D : va_G} {cI cZ : ClassId} {ad : Nat → Nat} {tT : Nat} {A : Nat → Prop} (C : CX p s m args meth c cX9_changesOf 4 RX9 (some .int) D cI cZ ad tT A) (k31 : Int32 → Mem → Option (Int32 × Mem)) (hk31 : ∀ (x2 : Int32) (σ : Mem) (ls : Array Slot), lv_has ls 4 [(2, .int x2)] → WM p l e 4 96 s m args below meth c D cI cZ ad A rvi (k31 x2 σ) σ (F0 m 31 ls [])) :
    ∀ (n0 : Nat), ∀ (x2 : Int32) (x3 : Int32) (σ : Mem) (ls : Array Slot), lv_has ls 4 [(0, .ref (ad 50)), (2, .int x2), (3, .int x3)] → WM p l e 4 96 s m args below meth c D cI cZ ad A rvi (LX9_changesOf_9 k31 n0 x2 x3 σ) σ (F0 m 9 ls []) := by
  intro n0
  induction n0 with
  | zero => intro x2 x3 σ ls hl; exact r_none
  | succ n0 ih =>
    intro x2 x3 σ ls hl
    show WM p l e 4 96 s m args below meth c D cI cZ ad A rvi (BX9_changesOf_9 k31 (LX9_changesOf_9 k31 n0) x2 x3 σ) σ (F0 m 9 ls [])
    unfold BX9_changesOf_9
    refine r_iload_n C dX9_changesOf_9 rfl (lv_at hl 2 rfl) ?_
    refine r_aload_n C dX9_changesOf_10 rfl (lv_at hl 0 rfl) ?_
    refine r_getI C fl_X9_89 lf_50_1 dX9_changesOf_11 ?_
    refine r_icmp_ge (tgt := 31) C dX9_changesOf_14 (by decide) ?_ ?_
    · exact hk31 x2 σ ls (lv_sub hl [1] rfl)
    · refine r_iload_n C dX9_changesOf_17 rfl (lv_at hl 1 rfl) ?_
      refine r_aload_n C dX9_changesOf_18 rfl (lv_at hl 0 rfl) ?_
      refine r_iload_n C dX9_changesOf_19 rfl (lv_at hl 2 rfl) ?_
      refine r_callVi (As := [.int x3]) (rest := [.int x2]) C hl ml_X9_147 rc_50 (gX9_changesAt l C.inj x3 σ) ⟨Nat.le_of_ble_eq_true rfl, Nat.le_of_ble_eq_true rfl⟩ ⟨Nat.le_of_ble_eq_true rfl, Nat.le_of_ble_eq_true rfl⟩ rfl rfl (Nat.le_of_ble_eq_true rfl) dX9_changesOf_20 (fun r3 σ4 => ?_)
      refine r_iadd C dX9_changesOf_23 ?_
      refine r_letv (fun v5 => ?_)
      refine r_istore_n (lv' := [(2, .int v5), (0, .ref (ad 50)), (3, .int x3)]) C dX9_changesOf_24 rfl hl (by decide) rfl (fun ls hl => ?_)
      refine r_iinc (v := x3 + 1) (lv' := [(3, .int (x3 + 1)), (2, .int v5), (0, .ref (ad 50))]) C dX9_changesOf_25 hl (k := 2) rfl rfl (by decide) rfl (fun ls hl => ?_)
      refine r_goto (tgt := 9) C dX9_changesOf_28 (by decide) ?_
      exact ih v5 (x3 + 1) σ4 ls (lv_sub hl [2, 1, 0] rfl)
set_option maxRecDepth 100000 in
def fX9_changesOf (x1 : Int32) (σ : Mem) : Option (Int32 × Mem) := bnd (fX9_layTree x1 σ) (fun r1 σ2 => LX9_changesOf_9 (fun x2 σ6 => some (x2, σ6)) 300 0 0 σ2)
set_option maxRecDepth 100000 in
set_option maxHeartbeats 4000000 in
theorem gX9_changesOf (l : Launch) {D : va_G} {cI cZ : ClassId} {ad : Nat → Nat} {tT : Nat} (hi : INJ ad) (x1 : Int32) (σ : Mem) : GM l D cI cZ ad tT yX9_changesOf cX9_changesOf 4 (some .int) 4 96 rvi [.ref (ad 50), .int x1] σ (fX9_changesOf x1 σ) := by
  refine gm_of (lv := [(0, .ref (ad 50)), (1, .int x1)]) (own := RX9) hi (by decide +kernel) rfl (Nat.le_of_ble_eq_true rfl) rfl ?_
  intro p e s m args below meth c A C ls hl
  unfold fX9_changesOf
  refine r_aload_n C dX9_changesOf_0 rfl (lv_at hl 0 rfl) ?_
  refine r_iload_n C dX9_changesOf_1 rfl (lv_at hl 1 rfl) ?_
  refine r_callVv (As := [.int x1]) (rest := []) C hl ml_X9_144 rc_50 (gX9_layTree l C.inj x1 σ) ⟨Nat.le_of_ble_eq_true rfl, Nat.le_of_ble_eq_true rfl⟩ ⟨Nat.le_of_ble_eq_true rfl, Nat.le_of_ble_eq_true rfl⟩ rfl rfl (Nat.le_of_ble_eq_true rfl) dX9_changesOf_2 (fun r1 σ2 => ?_)
  refine r_iconst (v := 0) C dX9_changesOf_5 (by decide) ?_
  refine r_istore_n (lv' := [(2, .int 0), (0, .ref (ad 50)), (1, .int x1)]) C dX9_changesOf_6 rfl hl (by decide) rfl (fun ls hl => ?_)
  refine r_iconst (v := 0) C dX9_changesOf_7 (by decide) ?_
  refine r_istore_n (lv' := [(3, .int 0), (2, .int 0), (0, .ref (ad 50)), (1, .int x1)]) C dX9_changesOf_8 rfl hl (by decide) rfl (fun ls hl => ?_)
  refine wX9_changesOf_9  C _ ?_ 300 0 0 σ2 ls (lv_sub hl [2, 1, 0] rfl)
  · intro x2 σ6 ls hl
    refine r_iload_n C dX9_changesOf_31 rfl (lv_at hl 0 rfl) ?_
    exact r_iret C rfl dX9_changesOf_32

set_option maxRecDepth 100000 in
def fX9_isTree (x1 : Int32) (σ : Mem) : Option (Int32 × Mem) := bnd (fX9_trees σ) (fun r1 σ2 => bnd (fX9_in x1 0 (r1 - 1) σ2) (fun r3 σ4 => gb r3 (some (r3, σ4))))
set_option maxRecDepth 100000 in
set_option maxHeartbeats 4000000 in
theorem gX9_isTree (l : Launch) {D : va_G} {cI cZ : ClassId} {ad : Nat → Nat} {tT : Nat} (hi : INJ ad) (x1 : Int32) (σ : Mem) : GM l D cI cZ ad tT yX9_isTree cX9_isTree 2 (some .boolean) 1 22 rvi [.ref (ad 50), .int x1] σ (fX9_isTree x1 σ) := by
  refine gm_of (lv := [(0, .ref (ad 50)), (1, .int x1)]) (own := RX9) hi (by decide +kernel) rfl (Nat.le_of_ble_eq_true rfl) rfl ?_
  intro p e s m args below meth c A C ls hl
  unfold fX9_isTree
  refine r_iload_n C dX9_isTree_0 rfl (lv_at hl 1 rfl) ?_
  refine r_iconst (v := 0) C dX9_isTree_1 (by decide) ?_
  refine r_aload_n C dX9_isTree_2 rfl (lv_at hl 0 rfl) ?_
  refine r_callVi (As := []) (rest := [.int 0, .int x1]) C hl ml_X9_150 rc_50 (gX9_trees l C.inj σ) ⟨Nat.le_of_ble_eq_true rfl, Nat.le_of_ble_eq_true rfl⟩ ⟨Nat.le_of_ble_eq_true rfl, Nat.le_of_ble_eq_true rfl⟩ rfl rfl (Nat.le_of_ble_eq_true rfl) dX9_isTree_3 (fun r1 σ2 => ?_)
  refine r_iconst (v := 1) C dX9_isTree_6 (by decide) ?_
  refine r_isub C dX9_isTree_7 ?_
  refine r_callSi (As := [.int x1, .int 0, .int (r1 - 1)]) (rest := []) C hl ml_X9_50 (gX9_in l C.inj x1 0 (r1 - 1) σ2) ⟨Nat.le_of_ble_eq_true rfl, Nat.le_of_ble_eq_true rfl⟩ ⟨Nat.le_of_ble_eq_true rfl, Nat.le_of_ble_eq_true rfl⟩ rfl rfl (Nat.le_of_ble_eq_true rfl) dX9_isTree_8 (fun r3 σ4 => ?_)
  exact r_zretG C rfl dX9_isTree_11

set_option maxRecDepth 100000 in
def fX9_changes (x1 : Int32) (x2 : Int32) (σ : Mem) : Option (Int32 × Mem) := bnd (fX9_isTree x1 σ) (fun r1 σ2 => if (r1 : Int32) = 0 then some ((-1), σ2) else jn (fun x1 x2 σ3 => if (x2 : Int32) = (-1) then bnd (fX9_changesOf x1 σ3) (fun r8 σ9 => some (r8, σ9)) else bnd (fX9_layTree x1 σ3) (fun r4 σ5 => bnd (fX9_changesAt x2 σ5) (fun r6 σ7 => some (r6, σ7)))) (fun k23 => if (x2 : Int32) = (-1) then k23 x1 x2 σ2 else bnd (fX9_isPlace x2 σ2) (fun r10 σ11 => if (r10 : Int32) = 0 then some ((-1), σ11) else k23 x1 x2 σ11)))
set_option maxRecDepth 100000 in
set_option maxHeartbeats 4000000 in
theorem gX9_changes (l : Launch) {D : va_G} {cI cZ : ClassId} {ad : Nat → Nat} {tT : Nat} (hi : INJ ad) (x1 : Int32) (x2 : Int32) (σ : Mem) : GM l D cI cZ ad tT yX9_changes cX9_changes 3 (some .int) 5 119 rvi [.ref (ad 50), .int x1, .int x2] σ (fX9_changes x1 x2 σ) := by
  refine gm_of (lv := [(0, .ref (ad 50)), (1, .int x1), (2, .int x2)]) (own := RX9) hi (by decide +kernel) rfl (Nat.le_of_ble_eq_true rfl) rfl ?_
  intro p e s m args below meth c A C ls hl
  unfold fX9_changes
  refine r_aload_n C dX9_changes_0 rfl (lv_at hl 0 rfl) ?_
  refine r_iload_n C dX9_changes_1 rfl (lv_at hl 1 rfl) ?_
  refine r_callVi (As := [.int x1]) (rest := []) C hl ml_X9_154 rc_50 (gX9_isTree l C.inj x1 σ) ⟨Nat.le_of_ble_eq_true rfl, Nat.le_of_ble_eq_true rfl⟩ ⟨Nat.le_of_ble_eq_true rfl, Nat.le_of_ble_eq_true rfl⟩ rfl rfl (Nat.le_of_ble_eq_true rfl) dX9_changes_2 (fun r1 σ2 => ?_)
  refine r_if_eq (tgt := 21) C dX9_changes_5 (by decide) ?_ ?_
  · refine r_iconst (v := (-1)) C dX9_changes_21 (by decide) ?_
    exact r_iret C rfl dX9_changes_22
  · refine r_iload_n C dX9_changes_8 rfl (lv_at hl 2 rfl) ?_
    refine r_iconst (v := (-1)) C dX9_changes_9 (by decide) ?_
    refine r_jn (fun (k23 : Int32 → Int32 → Mem → Option (Int32 × Mem)) => ∀ (x1 : Int32) (x2 : Int32) (σ : Mem) (ls : Array Slot), lv_has ls 3 [(0, .ref (ad 50)), (1, .int x1), (2, .int x2)] → WM p l e 5 119 s m args below meth c D cI cZ ad A rvi (k23 x1 x2 σ) σ (F0 m 23 ls [])) ?_ ?_
    · intro x1 x2 σ3 ls hl
      refine r_iload_n C dX9_changes_23 rfl (lv_at hl 2 rfl) ?_
      refine r_iconst (v := (-1)) C dX9_changes_24 (by decide) ?_
      refine r_icmp_ne (tgt := 34) C dX9_changes_25 (by decide) ?_ ?_
      · refine r_aload_n C dX9_changes_34 rfl (lv_at hl 0 rfl) ?_
        refine r_iload_n C dX9_changes_35 rfl (lv_at hl 1 rfl) ?_
        refine r_callVv (As := [.int x1]) (rest := []) C hl ml_X9_144 rc_50 (gX9_layTree l C.inj x1 σ3) ⟨Nat.le_of_ble_eq_true rfl, Nat.le_of_ble_eq_true rfl⟩ ⟨Nat.le_of_ble_eq_true rfl, Nat.le_of_ble_eq_true rfl⟩ rfl rfl (Nat.le_of_ble_eq_true rfl) dX9_changes_36 (fun r4 σ5 => ?_)
        refine r_aload_n C dX9_changes_39 rfl (lv_at hl 0 rfl) ?_
        refine r_iload_n C dX9_changes_40 rfl (lv_at hl 2 rfl) ?_
        refine r_callVi (As := [.int x2]) (rest := []) C hl ml_X9_147 rc_50 (gX9_changesAt l C.inj x2 σ5) ⟨Nat.le_of_ble_eq_true rfl, Nat.le_of_ble_eq_true rfl⟩ ⟨Nat.le_of_ble_eq_true rfl, Nat.le_of_ble_eq_true rfl⟩ rfl rfl (Nat.le_of_ble_eq_true rfl) dX9_changes_41 (fun r6 σ7 => ?_)
        exact r_iret C rfl dX9_changes_44
      · refine r_aload_n C dX9_changes_28 rfl (lv_at hl 0 rfl) ?_
        refine r_iload_n C dX9_changes_29 rfl (lv_at hl 1 rfl) ?_
        refine r_callVi (As := [.int x1]) (rest := []) C hl ml_X9_157 rc_50 (gX9_changesOf l C.inj x1 σ3) ⟨Nat.le_of_ble_eq_true rfl, Nat.le_of_ble_eq_true rfl⟩ ⟨Nat.le_of_ble_eq_true rfl, Nat.le_of_ble_eq_true rfl⟩ rfl rfl (Nat.le_of_ble_eq_true rfl) dX9_changes_30 (fun r8 σ9 => ?_)
        exact r_iret C rfl dX9_changes_33
    · intro k23 hk23
      refine r_icmp_eq (tgt := 23) C dX9_changes_10 (by decide) ?_ ?_
      · exact hk23 x1 x2 σ2 ls (lv_sub hl [0, 1, 2] rfl)
      · refine r_aload_n C dX9_changes_13 rfl (lv_at hl 0 rfl) ?_
        refine r_iload_n C dX9_changes_14 rfl (lv_at hl 2 rfl) ?_
        refine r_callVi (As := [.int x2]) (rest := []) C hl ml_X9_102 rc_50 (gX9_isPlace l C.inj x2 σ2) ⟨Nat.le_of_ble_eq_true rfl, Nat.le_of_ble_eq_true rfl⟩ ⟨Nat.le_of_ble_eq_true rfl, Nat.le_of_ble_eq_true rfl⟩ rfl rfl (Nat.le_of_ble_eq_true rfl) dX9_changes_15 (fun r10 σ11 => ?_)
        refine r_if_ne (tgt := 23) C dX9_changes_18 (by decide) ?_ ?_
        · exact hk23 x1 x2 σ11 ls (lv_sub hl [0, 1, 2] rfl)
        · refine r_iconst (v := (-1)) C dX9_changes_21 (by decide) ?_
          exact r_iret C rfl dX9_changes_22

set_option maxRecDepth 100000 in
def BX9_directedOf_47 (k80 : Int32 → Mem → Option (Int32 × Mem)) (rec : Int32 → Int32 → Mem → Option (Int32 × Mem)) (x4 : Int32) (x5 : Int32) (σ : Mem) : Option (Int32 × Mem) := if (σ 50 1 : Int32) ≤ x5 then k80 x4 σ else bnd (fX9_costFrom ((σ 50 20) - 1) x5 1 σ) (fun r8 σ9 => letv (x4 + r8) (fun v10 => rec v10 (x5 + 1) σ9))
def LX9_directedOf_47 (k80 : Int32 → Mem → Option (Int32 × Mem)) : Nat → Int32 → Int32 → Mem → Option (Int32 × Mem)
  | 0 => fun _ _ _ => none
  | n + 1 => BX9_directedOf_47 k80 (LX9_directedOf_47 k80 n)
set_option maxRecDepth 100000 in
set_option maxHeartbeats 4000000 in
theorem wX9_directedOf_47 {p : Program} {l : Launch} {e : Env} {s : State} {m : MethodId} {args : Array Value} {below : List Frame} {meth : Method} {c : Code} {D : va_G} {cI cZ : ClassId} {ad : Nat → Nat} {tT : Nat} {A : Nat → Prop} (C : CX p s m args meth c cX9_directedOf 6 RX9 (some .int) D cI cZ ad tT A) (k80 : Int32 → Mem → Option (Int32 × Mem)) (hk80 : ∀ (x4 : Int32) (σ : Mem) (ls : Array Slot), lv_has ls 6 [(4, .int x4)] → WM p l e 3 75 s m args below meth c D cI cZ ad A rvi (k80 x4 σ) σ (F0 m 80 ls [])) :
    ∀ (n0 : Nat), ∀ (x4 : Int32) (x5 : Int32) (σ : Mem) (ls : Array Slot), lv_has ls 6 [(0, .ref (ad 50)), (4, .int x4), (5, .int x5)] → WM p l e 3 75 s m args below meth c D cI cZ ad A rvi (LX9_directedOf_47 k80 n0 x4 x5 σ) σ (F0 m 47 ls []) := by
  intro n0
  induction n0 with
  | zero => intro x4 x5 σ ls hl; exact r_none
  | succ n0 ih =>
    intro x4 x5 σ ls hl
    show WM p l e 3 75 s m args below meth c D cI cZ ad A rvi (BX9_directedOf_47 k80 (LX9_directedOf_47 k80 n0) x4 x5 σ) σ (F0 m 47 ls [])
    unfold BX9_directedOf_47
    refine r_iload C dX9_directedOf_47 (lv_at hl 2 rfl) ?_
    refine r_aload_n C dX9_directedOf_49 rfl (lv_at hl 0 rfl) ?_
    refine r_getI C fl_X9_89 lf_50_1 dX9_directedOf_50 ?_
    refine r_icmp_ge (tgt := 80) C dX9_directedOf_53 (by decide) ?_ ?_
    · exact hk80 x4 σ ls (lv_sub hl [1] rfl)
    · refine r_iload C dX9_directedOf_56 (lv_at hl 1 rfl) ?_
      refine r_aload_n C dX9_directedOf_58 rfl (lv_at hl 0 rfl) ?_
      refine r_aload_n C dX9_directedOf_59 rfl (lv_at hl 0 rfl) ?_
      refine r_getI C fl_X9_112 lf_50_20 dX9_directedOf_60 ?_
      refine r_iconst (v := 1) C dX9_directedOf_63 (by decide) ?_
      refine r_isub C dX9_directedOf_64 ?_
      refine r_iload C dX9_directedOf_65 (lv_at hl 2 rfl) ?_
      refine r_iconst (v := 1) C dX9_directedOf_67 (by decide) ?_
      refine r_callVi (As := [.int ((σ 50 20) - 1), .int x5, .int 1]) (rest := [.int x4]) C hl ml_X9_141 rc_50 (gX9_costFrom l C.inj ((σ 50 20) - 1) x5 1 σ) ⟨Nat.le_of_ble_eq_true rfl, Nat.le_of_ble_eq_true rfl⟩ ⟨Nat.le_of_ble_eq_true rfl, Nat.le_of_ble_eq_true rfl⟩ rfl rfl (Nat.le_of_ble_eq_true rfl) dX9_directedOf_68 (fun r8 σ9 => ?_)
      refine r_iadd C dX9_directedOf_71 ?_
      refine r_letv (fun v10 => ?_)
      refine r_istore (lv' := [(4, .int v10), (0, .ref (ad 50)), (5, .int x5)]) C dX9_directedOf_72 hl (by decide) rfl (fun ls hl => ?_)
      refine r_iinc (v := x5 + 1) (lv' := [(5, .int (x5 + 1)), (4, .int v10), (0, .ref (ad 50))]) C dX9_directedOf_74 hl (k := 2) rfl rfl (by decide) rfl (fun ls hl => ?_)
      refine r_goto (tgt := 47) C dX9_directedOf_77 (by decide) ?_
      exact ih v10 (x5 + 1) σ9 ls (lv_sub hl [2, 1, 0] rfl)
set_option maxRecDepth 100000 in
def fX9_directedOf (x1 : Int32) (x2 : Int32) (σ : Mem) : Option (Int32 × Mem) := bnd (fX9_layTree x1 σ) (fun r1 σ2 => gd 10 x2 (letv (σ2 59 x2.toNatClampNeg) (fun v3 => gd 10 x2 (letm (stm σ2 59 x2.toNatClampNeg (σ2 50 20)) (fun σ4 => bnd (fX9_edge (σ4 50 20) v3 σ4) (fun r5 σ6 => letm (stm σ6 50 20 ((σ6 50 20) + 1)) (fun σ7 => LX9_directedOf_47 (fun x4 σ11 => some (x4, σ11)) 300 0 0 σ7)))))))
set_option maxRecDepth 100000 in
set_option maxHeartbeats 4000000 in
theorem gX9_directedOf (l : Launch) {D : va_G} {cI cZ : ClassId} {ad : Nat → Nat} {tT : Nat} (hi : INJ ad) (x1 : Int32) (x2 : Int32) (σ : Mem) : GM l D cI cZ ad tT yX9_directedOf cX9_directedOf 6 (some .int) 3 75 rvi [.ref (ad 50), .int x1, .int x2] σ (fX9_directedOf x1 x2 σ) := by
  refine gm_of (lv := [(0, .ref (ad 50)), (1, .int x1), (2, .int x2)]) (own := RX9) hi (by decide +kernel) rfl (Nat.le_of_ble_eq_true rfl) rfl ?_
  intro p e s m args below meth c A C ls hl
  unfold fX9_directedOf
  refine r_aload_n C dX9_directedOf_0 rfl (lv_at hl 0 rfl) ?_
  refine r_iload_n C dX9_directedOf_1 rfl (lv_at hl 1 rfl) ?_
  refine r_callVv (As := [.int x1]) (rest := []) C hl ml_X9_144 rc_50 (gX9_layTree l C.inj x1 σ) ⟨Nat.le_of_ble_eq_true rfl, Nat.le_of_ble_eq_true rfl⟩ ⟨Nat.le_of_ble_eq_true rfl, Nat.le_of_ble_eq_true rfl⟩ rfl rfl (Nat.le_of_ble_eq_true rfl) dX9_directedOf_2 (fun r1 σ2 => ?_)
  refine r_aload_n C dX9_directedOf_5 rfl (lv_at hl 0 rfl) ?_
  refine r_getR C fl_X9_35 lf_50_22 dX9_directedOf_6 ?_
  refine r_iload_n C dX9_directedOf_9 rfl (lv_at hl 2 rfl) ?_
  refine r_iald C la_59 dX9_directedOf_10 ?_
  refine r_letv (fun v3 => ?_)
  refine r_istore_n (lv' := [(3, .int v3), (0, .ref (ad 50)), (1, .int x1), (2, .int x2)]) C dX9_directedOf_11 rfl hl (by decide) rfl (fun ls hl => ?_)
  refine r_aload_n C dX9_directedOf_12 rfl (lv_at hl 1 rfl) ?_
  refine r_getR C fl_X9_35 lf_50_22 dX9_directedOf_13 ?_
  refine r_iload_n C dX9_directedOf_16 rfl (lv_at hl 3 rfl) ?_
  refine r_aload_n C dX9_directedOf_17 rfl (lv_at hl 1 rfl) ?_
  refine r_getI C fl_X9_112 lf_50_20 dX9_directedOf_18 ?_
  refine r_iast C la_59 dX9_directedOf_21 ?_
  refine r_letm (fun σ4 => ?_)
  refine r_aload_n C dX9_directedOf_22 rfl (lv_at hl 1 rfl) ?_
  refine r_aload_n C dX9_directedOf_23 rfl (lv_at hl 1 rfl) ?_
  refine r_getI C fl_X9_112 lf_50_20 dX9_directedOf_24 ?_
  refine r_iload_n C dX9_directedOf_27 rfl (lv_at hl 0 rfl) ?_
  refine r_callVv (As := [.int (σ4 50 20), .int v3]) (rest := []) C hl ml_X9_115 rc_50 (gX9_edge l C.inj (σ4 50 20) v3 σ4) ⟨Nat.le_of_ble_eq_true rfl, Nat.le_of_ble_eq_true rfl⟩ ⟨Nat.le_of_ble_eq_true rfl, Nat.le_of_ble_eq_true rfl⟩ rfl rfl (Nat.le_of_ble_eq_true rfl) dX9_directedOf_28 (fun r5 σ6 => ?_)
  refine r_aload_n C dX9_directedOf_31 rfl (lv_at hl 1 rfl) ?_
  refine r_dup C dX9_directedOf_32 rfl ?_
  refine r_getI C fl_X9_112 lf_50_20 dX9_directedOf_33 ?_
  refine r_iconst (v := 1) C dX9_directedOf_36 (by decide) ?_
  refine r_iadd C dX9_directedOf_37 ?_
  refine r_putI C fl_X9_112 fp_X9_20 rfl rfl lf_50_20 dX9_directedOf_38 ?_
  refine r_letm (fun σ7 => ?_)
  refine r_iconst (v := 0) C dX9_directedOf_41 (by decide) ?_
  refine r_istore (lv' := [(4, .int 0), (3, .int v3), (0, .ref (ad 50)), (1, .int x1), (2, .int x2)]) C dX9_directedOf_42 hl (by decide) rfl (fun ls hl => ?_)
  refine r_iconst (v := 0) C dX9_directedOf_44 (by decide) ?_
  refine r_istore (lv' := [(5, .int 0), (4, .int 0), (3, .int v3), (0, .ref (ad 50)), (1, .int x1), (2, .int x2)]) C dX9_directedOf_45 hl (by decide) rfl (fun ls hl => ?_)
  refine wX9_directedOf_47  C _ ?_ 300 0 0 σ7 ls (lv_sub hl [3, 1, 0] rfl)
  · intro x4 σ11 ls hl
    refine r_iload C dX9_directedOf_80 (lv_at hl 0 rfl) ?_
    exact r_iret C rfl dX9_directedOf_82

set_option maxRecDepth 100000 in
def fX9_edges (σ : Mem) : Option (Int32 × Mem) := if (2 : Int32) ≤ (σ 50 0) then if (σ 50 0 : Int32) = 2 then some (1, σ) else some (((2 : Int32) * (σ 50 0)) - 3, σ) else some (0, σ)
set_option maxRecDepth 100000 in
set_option maxHeartbeats 4000000 in
theorem gX9_edges (l : Launch) {D : va_G} {cI cZ : ClassId} {ad : Nat → Nat} {tT : Nat} (hi : INJ ad) (σ : Mem) : GM l D cI cZ ad tT yX9_edges cX9_edges 1 (some .int) 0 0 rvi [.ref (ad 50)] σ (fX9_edges σ) := by
  refine gm_of (lv := [(0, .ref (ad 50))]) (own := RX9) hi (by decide +kernel) rfl (Nat.le_of_ble_eq_true rfl) rfl ?_
  intro p e s m args below meth c A C ls hl
  unfold fX9_edges
  refine r_aload_n C dX9_edges_0 rfl (lv_at hl 0 rfl) ?_
  refine r_getI C fl_X9_86 lf_50_0 dX9_edges_1 ?_
  refine r_iconst (v := 2) C dX9_edges_4 (by decide) ?_
  refine r_icmp_ge (tgt := 12) C dX9_edges_5 (by decide) ?_ ?_
  · refine r_aload_n C dX9_edges_12 rfl (lv_at hl 0 rfl) ?_
    refine r_getI C fl_X9_86 lf_50_0 dX9_edges_13 ?_
    refine r_iconst (v := 2) C dX9_edges_16 (by decide) ?_
    refine r_icmp_ne (tgt := 24) C dX9_edges_17 (by decide) ?_ ?_
    · refine r_iconst (v := 2) C dX9_edges_24 (by decide) ?_
      refine r_aload_n C dX9_edges_25 rfl (lv_at hl 0 rfl) ?_
      refine r_getI C fl_X9_86 lf_50_0 dX9_edges_26 ?_
      refine r_imul C dX9_edges_29 ?_
      refine r_iconst (v := 3) C dX9_edges_30 (by decide) ?_
      refine r_isub C dX9_edges_31 ?_
      exact r_iret C rfl dX9_edges_32
    · refine r_iconst (v := 1) C dX9_edges_20 (by decide) ?_
      refine r_goto (tgt := 32) C dX9_edges_21 (by decide) ?_
      exact r_iret C rfl dX9_edges_32
  · refine r_iconst (v := 0) C dX9_edges_8 (by decide) ?_
    refine r_goto (tgt := 32) C dX9_edges_9 (by decide) ?_
    exact r_iret C rfl dX9_edges_32
