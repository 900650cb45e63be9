set_option maxRecDepth 100000 in
def fX8_type (x1 : Int32) (σ : Mem) : Option (Int32 × Mem) := if (x1 : Int32) < 0 then some ((-1), σ) else if (x1 : Int32) ≤ 255 then if (σ 1 1 : Int32) < 90 then bnd (fX6_append x1 σ) (fun r1 σ2 => some (σ2 1 1, σ2)) else some ((-3), σ) else some ((-1), σ)
set_option maxRecDepth 100000 in
set_option maxHeartbeats 4000000 in
theorem gX8_type (l : Launch) {D : va_G} {cI cZ : ClassId} {ad : Nat → Nat} {tT : Nat} (hi : INJ ad) (x1 : Int32) (σ : Mem) : GM l D cI cZ ad tT yX8_type cX8_type 2 (some .int) 2 43 rvi [.ref (ad 0), .int x1] σ (fX8_type x1 σ) := by
  refine gm_of (lv := [(0, .ref (ad 0)), (1, .int x1)]) (own := RX8) hi (by decide +kernel) rfl (Nat.le_of_ble_eq_true rfl) rfl ?_
  intro p e s m args below meth c A C ls hl
  unfold fX8_type
  refine r_iload_n C dX8_type_0 rfl (lv_at hl 1 rfl) ?_
  refine r_if_lt (tgt := 11) C dX8_type_1 (by decide) ?_ ?_
  · refine r_iconst (v := (-1)) C dX8_type_11 (by decide) ?_
    exact r_iret C rfl dX8_type_12
  · refine r_iload_n C dX8_type_4 rfl (lv_at hl 1 rfl) ?_
    refine r_sipush (v := 255) C dX8_type_5 (by decide) ?_
    refine r_icmp_le (tgt := 13) C dX8_type_8 (by decide) ?_ ?_
    · refine r_aload_n C dX8_type_13 rfl (lv_at hl 0 rfl) ?_
      refine r_getR C fl_X8_12 lf_0_0 dX8_type_14 ?_
      refine r_getIN C fn_X8_82 lf_1_1 dX8_type_17 ?_
      refine r_bipush (v := 90) C dX8_type_20 (by decide) ?_
      refine r_icmp_lt (tgt := 28) C dX8_type_22 (by decide) ?_ ?_
      · refine r_aload_n C dX8_type_28 rfl (lv_at hl 0 rfl) ?_
        refine r_getR C fl_X8_12 lf_0_0 dX8_type_29 ?_
        refine r_iload_n C dX8_type_32 rfl (lv_at hl 1 rfl) ?_
        refine r_callVv (As := [.int x1]) (rest := []) C hl ml_X8_86 rc_1 (gX6_append l C.inj x1 σ) ⟨Nat.le_of_ble_eq_true rfl, Nat.le_of_ble_eq_true rfl⟩ ⟨Nat.le_of_ble_eq_true rfl, Nat.le_of_ble_eq_true rfl⟩ rfl rfl (Nat.le_of_ble_eq_true rfl) dX8_type_33 (fun r1 σ2 => ?_)
        refine r_aload_n C dX8_type_36 rfl (lv_at hl 0 rfl) ?_
        refine r_getR C fl_X8_12 lf_0_0 dX8_type_37 ?_
        refine r_getIN C fn_X8_82 lf_1_1 dX8_type_40 ?_
        exact r_iret C rfl dX8_type_43
      · refine r_bipush (v := (-3)) C dX8_type_25 (by decide) ?_
        exact r_iret C rfl dX8_type_27
    · refine r_iconst (v := (-1)) C dX8_type_11 (by decide) ?_
      exact r_iret C rfl dX8_type_12

set_option maxRecDepth 100000 in
def fX8_clear (σ : Mem) : Option (Int32 × Mem) := letv (σ 1 1) (fun v1 => letm (stm σ 1 1 0) (fun σ2 => some (v1, σ2)))
set_option maxRecDepth 100000 in
set_option maxHeartbeats 4000000 in
theorem gX8_clear (l : Launch) {D : va_G} {cI cZ : ClassId} {ad : Nat → Nat} {tT : Nat} (hi : INJ ad) (σ : Mem) : GM l D cI cZ ad tT yX8_clear cX8_clear 2 (some .int) 0 0 rvi [.ref (ad 0)] σ (fX8_clear σ) := by
  refine gm_of (lv := [(0, .ref (ad 0))]) (own := RX8) hi (by decide +kernel) rfl (Nat.le_of_ble_eq_true rfl) rfl ?_
  intro p e s m args below meth c A C ls hl
  unfold fX8_clear
  refine r_aload_n C dX8_clear_0 rfl (lv_at hl 0 rfl) ?_
  refine r_getR C fl_X8_12 lf_0_0 dX8_clear_1 ?_
  refine r_getIN C fn_X8_82 lf_1_1 dX8_clear_4 ?_
  refine r_letv (fun v1 => ?_)
  refine r_istore_n (lv' := [(1, .int v1), (0, .ref (ad 0))]) C dX8_clear_7 rfl hl (by decide) rfl (fun ls hl => ?_)
  refine r_aload_n C dX8_clear_8 rfl (lv_at hl 1 rfl) ?_
  refine r_getR C fl_X8_12 lf_0_0 dX8_clear_9 ?_
  refine r_iconst (v := 0) C dX8_clear_12 (by decide) ?_
  refine r_putIN C fn_X8_82 fp_X6_1 rfl rfl lf_1_1 dX8_clear_13 ?_
  refine r_letm (fun σ2 => ?_)
  refine r_iload_n C dX8_clear_16 rfl (lv_at hl 0 rfl) ?_
  exact r_iret C rfl dX8_clear_17

set_option maxRecDepth 100000 in
def fX8_copies (σ : Mem) : Option (Int32 × Mem) := bnd (fX6_tell σ) (fun r1 σ2 => if (r1 : Int32) = (-1) then bnd (fX4_take 4 7 σ2) (fun r3 σ4 => letm (stm σ4 1 1 0) (fun σ5 => letm (stm σ5 0 14 0) (fun σ6 => letm (stm σ6 10 2 0) (fun σ7 => letm (stm σ7 0 13 0) (fun σ8 => letm (stm σ8 15 2 0) (fun σ9 => letm (stm σ9 19 2 0) (fun σ10 => letm (stm σ10 0 15 0) (fun σ11 => some (σ11 4 1, σ11))))))))) else some (((-10) : Int32) - r1, σ2))
set_option maxRecDepth 100000 in
set_option maxHeartbeats 4000000 in
theorem gX8_copies (l : Launch) {D : va_G} {cI cZ : ClassId} {ad : Nat → Nat} {tT : Nat} (hi : INJ ad) (σ : Mem) : GM l D cI cZ ad tT yX8_copies cX8_copies 2 (some .int) 3 71 rvi [.ref (ad 0)] σ (fX8_copies σ) := by
  refine gm_of (lv := [(0, .ref (ad 0))]) (own := RX8) hi (by decide +kernel) rfl (Nat.le_of_ble_eq_true rfl) rfl ?_
  intro p e s m args below meth c A C ls hl
  unfold fX8_copies
  refine r_aload_n C dX8_copies_0 rfl (lv_at hl 0 rfl) ?_
  refine r_getR C fl_X8_12 lf_0_0 dX8_copies_1 ?_
  refine r_aload_n C dX8_copies_4 rfl (lv_at hl 0 rfl) ?_
  refine r_getR C fl_X8_23 lf_0_2 dX8_copies_5 ?_
  refine r_callVi (As := [.ref (ad 7)]) (rest := []) C hl ml_X8_89 rc_1 (gX6_tell l C.inj σ) ⟨Nat.le_of_ble_eq_true rfl, Nat.le_of_ble_eq_true rfl⟩ ⟨Nat.le_of_ble_eq_true rfl, Nat.le_of_ble_eq_true rfl⟩ rfl rfl (Nat.le_of_ble_eq_true rfl) dX8_copies_8 (fun r1 σ2 => ?_)
  refine r_istore_n (lv' := [(1, .int r1), (0, .ref (ad 0))]) C dX8_copies_11 rfl hl (by decide) rfl (fun ls hl => ?_)
  refine r_iload_n C dX8_copies_12 rfl (lv_at hl 0 rfl) ?_
  refine r_iconst (v := (-1)) C dX8_copies_13 (by decide) ?_
  refine r_icmp_eq (tgt := 22) C dX8_copies_14 (by decide) ?_ ?_
  · refine r_aload_n C dX8_copies_22 rfl (lv_at hl 1 rfl) ?_
    refine r_getR C fl_X8_19 lf_0_1 dX8_copies_23 ?_
    refine r_aload_n C dX8_copies_26 rfl (lv_at hl 1 rfl) ?_
    refine r_getR C fl_X8_23 lf_0_2 dX8_copies_27 ?_
    refine r_callVv (As := [.ref (ad 7)]) (rest := []) C hl ml_X8_93 rc_4 (gX4_take l C.inj 4 7 rdg_4 rdg_7 σ2) ⟨Nat.le_of_ble_eq_true rfl, Nat.le_of_ble_eq_true rfl⟩ ⟨Nat.le_of_ble_eq_true rfl, Nat.le_of_ble_eq_true rfl⟩ rfl rfl (Nat.le_of_ble_eq_true rfl) dX8_copies_30 (fun r3 σ4 => ?_)
    refine r_aload_n C dX8_copies_33 rfl (lv_at hl 1 rfl) ?_
    refine r_getR C fl_X8_12 lf_0_0 dX8_copies_34 ?_
    refine r_iconst (v := 0) C dX8_copies_37 (by decide) ?_
    refine r_putIN C fn_X8_82 fp_X6_1 rfl rfl lf_1_1 dX8_copies_38 ?_
    refine r_letm (fun σ5 => ?_)
    refine r_aload_n C dX8_copies_41 rfl (lv_at hl 1 rfl) ?_
    refine r_iconst (v := 0) C dX8_copies_42 (by decide) ?_
    refine r_putI C fl_X8_97 fp_X8_14 rfl rfl lf_0_14 dX8_copies_43 ?_
    refine r_letm (fun σ6 => ?_)
    refine r_aload_n C dX8_copies_46 rfl (lv_at hl 1 rfl) ?_
    refine r_getR C fl_X8_29 lf_0_3 dX8_copies_47 ?_
    refine r_iconst (v := 0) C dX8_copies_50 (by decide) ?_
    refine r_putIN C fn_X8_100 fp_X1_2 rfl rfl lf_10_2 dX8_copies_51 ?_
    refine r_letm (fun σ7 => ?_)
    refine r_aload_n C dX8_copies_54 rfl (lv_at hl 1 rfl) ?_
    refine r_iconst (v := 0) C dX8_copies_55 (by decide) ?_
    refine r_putI C fl_X8_103 fp_X8_13 rfl rfl lf_0_13 dX8_copies_56 ?_
    refine r_letm (fun σ8 => ?_)
    refine r_aload_n C dX8_copies_59 rfl (lv_at hl 1 rfl) ?_
    refine r_getR C fl_X8_36 lf_0_4 dX8_copies_60 ?_
    refine r_iconst (v := 0) C dX8_copies_63 (by decide) ?_
    refine r_putIN C fn_X8_106 fp_X2_2 (by decide) (by decide) lf_15_2 dX8_copies_64 ?_
    refine r_letm (fun σ9 => ?_)
    refine r_aload_n C dX8_copies_67 rfl (lv_at hl 1 rfl) ?_
    refine r_getR C fl_X8_40 lf_0_5 dX8_copies_68 ?_
    refine r_iconst (v := 0) C dX8_copies_71 (by decide) ?_
    refine r_putIN C fn_X8_106 fp_X2_2 (by decide) (by decide) lf_19_2 dX8_copies_72 ?_
    refine r_letm (fun σ10 => ?_)
    refine r_aload_n C dX8_copies_75 rfl (lv_at hl 1 rfl) ?_
    refine r_iconst (v := 0) C dX8_copies_76 (by decide) ?_
    refine r_putI C fl_X8_110 fp_X8_15 (by decide) (by decide) lf_0_15 dX8_copies_77 ?_
    refine r_letm (fun σ11 => ?_)
    refine r_aload_n C dX8_copies_80 rfl (lv_at hl 1 rfl) ?_
    refine r_getR C fl_X8_19 lf_0_1 dX8_copies_81 ?_
    refine r_getIN C fn_X8_113 lf_4_1 dX8_copies_84 ?_
    exact r_iret C rfl dX8_copies_87
  · refine r_bipush (v := (-10)) C dX8_copies_17 (by decide) ?_
    refine r_iload_n C dX8_copies_19 rfl (lv_at hl 0 rfl) ?_
    refine r_isub C dX8_copies_20 ?_
    exact r_iret C rfl dX8_copies_21

set_option maxRecDepth 100000 in
def fX8_reading (x1 : Int32) (x2 : Int32) (σ : Mem) : Option (Int32 × Mem) := bnd (fX4_has 4 x1 x2 σ) (fun r1 σ2 => if (r1 : Int32) = 0 then some ((-1), σ2) else bnd (fX4_at 4 x1 x2 σ2) (fun r3 σ4 => if (r3 : Int32) = 4 then some ((-9), σ4) else some (r3, σ4)))
set_option maxRecDepth 100000 in
set_option maxHeartbeats 4000000 in
theorem gX8_reading (l : Launch) {D : va_G} {cI cZ : ClassId} {ad : Nat → Nat} {tT : Nat} (hi : INJ ad) (x1 : Int32) (x2 : Int32) (σ : Mem) : GM l D cI cZ ad tT yX8_reading cX8_reading 4 (some .int) 3 65 rvi [.ref (ad 0), .int x1, .int x2] σ (fX8_reading x1 x2 σ) := by
  refine gm_of (lv := [(0, .ref (ad 0)), (1, .int x1), (2, .int x2)]) (own := RX8) hi (by decide +kernel) rfl (Nat.le_of_ble_eq_true rfl) rfl ?_
  intro p e s m args below meth c A C ls hl
  unfold fX8_reading
  refine r_aload_n C dX8_reading_0 rfl (lv_at hl 0 rfl) ?_
  refine r_getR C fl_X8_19 lf_0_1 dX8_reading_1 ?_
  refine r_iload_n C dX8_reading_4 rfl (lv_at hl 1 rfl) ?_
  refine r_iload_n C dX8_reading_5 rfl (lv_at hl 2 rfl) ?_
  refine r_callVi (As := [.int x1, .int x2]) (rest := []) C hl ml_X8_116 rc_4 (gX4_has l C.inj 4 rdg_4 x1 x2 σ) ⟨Nat.le_of_ble_eq_true rfl, Nat.le_of_ble_eq_true rfl⟩ ⟨Nat.le_of_ble_eq_true rfl, Nat.le_of_ble_eq_true rfl⟩ rfl rfl (Nat.le_of_ble_eq_true rfl) dX8_reading_6 (fun r1 σ2 => ?_)
  refine r_if_ne (tgt := 14) C dX8_reading_9 (by decide) ?_ ?_
  · refine r_aload_n C dX8_reading_14 rfl (lv_at hl 0 rfl) ?_
    refine r_getR C fl_X8_19 lf_0_1 dX8_reading_15 ?_
    refine r_iload_n C dX8_reading_18 rfl (lv_at hl 1 rfl) ?_
    refine r_iload_n C dX8_reading_19 rfl (lv_at hl 2 rfl) ?_
    refine r_callVi (As := [.int x1, .int x2]) (rest := []) C hl ml_X8_120 rc_4 (gX4_at l C.inj 4 rdg_4 x1 x2 σ2) ⟨Nat.le_of_ble_eq_true rfl, Nat.le_of_ble_eq_true rfl⟩ ⟨Nat.le_of_ble_eq_true rfl, Nat.le_of_ble_eq_true rfl⟩ rfl rfl (Nat.le_of_ble_eq_true rfl) dX8_reading_20 (fun r3 σ4 => ?_)
    refine r_istore_n (lv' := [(3, .int r3), (0, .ref (ad 0)), (1, .int x1), (2, .int x2)]) C dX8_reading_23 rfl hl (by decide) rfl (fun ls hl => ?_)
    refine r_iload_n C dX8_reading_24 rfl (lv_at hl 0 rfl) ?_
    refine r_iconst (v := 4) C dX8_reading_25 (by decide) ?_
    refine r_icmp_ne (tgt := 34) C dX8_reading_26 (by decide) ?_ ?_
    · refine r_iload_n C dX8_reading_34 rfl (lv_at hl 0 rfl) ?_
      exact r_iret C rfl dX8_reading_35
    · refine r_bipush (v := (-9)) C dX8_reading_29 (by decide) ?_
      refine r_goto (tgt := 35) C dX8_reading_31 (by decide) ?_
      exact r_iret C rfl dX8_reading_35
  · refine r_iconst (v := (-1)) C dX8_reading_12 (by decide) ?_
    exact r_iret C rfl dX8_reading_13

set_option maxRecDepth 100000 in
def fX8_reads (x1 : Int32) (x2 : Int32) (x3 : Int32) (σ : Mem) : Option (Int32 × Mem) := bnd (fX4_has 4 x1 x2 σ) (fun r1 σ2 => if (r1 : Int32) = 0 then some ((-1), σ2) else if (x3 : Int32) < 0 then some ((-1), σ2) else if (x3 : Int32) ≤ 4 then bnd (fX4_at 4 x1 x2 σ2) (fun r3 σ4 => if (r3 : Int32) = x3 then some ((-2), σ4) else bnd (fX4_cellOf 4 x1 x2 σ4) (fun r5 σ6 => bnd (fX1_note r5 r3 σ6) (fun r7 σ8 => bnd (fX4_put 4 x1 x2 x3 σ8) (fun r9 σ10 => letm (stm σ10 0 15 0) (fun σ11 => some (r3, σ11)))))) else some ((-1), σ2))
set_option maxRecDepth 100000 in
set_option maxHeartbeats 4000000 in
theorem gX8_reads (l : Launch) {D : va_G} {cI cZ : ClassId} {ad : Nat → Nat} {tT : Nat} (hi : INJ ad) (x1 : Int32) (x2 : Int32) (x3 : Int32) (σ : Mem) : GM l D cI cZ ad tT yX8_reads cX8_reads 5 (some .int) 3 65 rvi [.ref (ad 0), .int x1, .int x2, .int x3] σ (fX8_reads x1 x2 x3 σ) := by
  refine gm_of (lv := [(0, .ref (ad 0)), (1, .int x1), (2, .int x2), (3, .int x3)]) (own := RX8) hi (by decide +kernel) rfl (Nat.le_of_ble_eq_true rfl) rfl ?_
  intro p e s m args below meth c A C ls hl
  unfold fX8_reads
  refine r_aload_n C dX8_reads_0 rfl (lv_at hl 0 rfl) ?_
  refine r_getR C fl_X8_19 lf_0_1 dX8_reads_1 ?_
  refine r_iload_n C dX8_reads_4 rfl (lv_at hl 1 rfl) ?_
  refine r_iload_n C dX8_reads_5 rfl (lv_at hl 2 rfl) ?_
  refine r_callVi (As := [.int x1, .int x2]) (rest := []) C hl ml_X8_116 rc_4 (gX4_has l C.inj 4 rdg_4 x1 x2 σ) ⟨Nat.le_of_ble_eq_true rfl, Nat.le_of_ble_eq_true rfl⟩ ⟨Nat.le_of_ble_eq_true rfl, Nat.le_of_ble_eq_true rfl⟩ rfl rfl (Nat.le_of_ble_eq_true rfl) dX8_reads_6 (fun r1 σ2 => ?_)
  refine r_if_eq (tgt := 21) C dX8_reads_9 (by decide) ?_ ?_
  · refine r_iconst (v := (-1)) C dX8_reads_21 (by decide) ?_
    exact r_iret C rfl dX8_reads_22
  · refine r_iload_n C dX8_reads_12 rfl (lv_at hl 3 rfl) ?_
    refine r_if_lt (tgt := 21) C dX8_reads_13 (by decide) ?_ ?_
    · refine r_iconst (v := (-1)) C dX8_reads_21 (by decide) ?_
      exact r_iret C rfl dX8_reads_22
    · refine r_iload_n C dX8_reads_16 rfl (lv_at hl 3 rfl) ?_
      refine r_iconst (v := 4) C dX8_reads_17 (by decide) ?_
      refine r_icmp_le (tgt := 23) C dX8_reads_18 (by decide) ?_ ?_
      · refine r_aload_n C dX8_reads_23 rfl (lv_at hl 0 rfl) ?_
        refine r_getR C fl_X8_19 lf_0_1 dX8_reads_24 ?_
        refine r_iload_n C dX8_reads_27 rfl (lv_at hl 1 rfl) ?_
        refine r_iload_n C dX8_reads_28 rfl (lv_at hl 2 rfl) ?_
        refine r_callVi (As := [.int x1, .int x2]) (rest := []) C hl ml_X8_120 rc_4 (gX4_at l C.inj 4 rdg_4 x1 x2 σ2) ⟨Nat.le_of_ble_eq_true rfl, Nat.le_of_ble_eq_true rfl⟩ ⟨Nat.le_of_ble_eq_true rfl, Nat.le_of_ble_eq_true rfl⟩ rfl rfl (Nat.le_of_ble_eq_true rfl) dX8_reads_29 (fun r3 σ4 => ?_)
        refine r_istore (lv' := [(4, .int r3), (0, .ref (ad 0)), (1, .int x1), (2, .int x2), (3, .int x3)]) C dX8_reads_32 hl (by decide) rfl (fun ls hl => ?_)
        refine r_iload C dX8_reads_34 (lv_at hl 0 rfl) ?_
        refine r_iload_n C dX8_reads_36 rfl (lv_at hl 4 rfl) ?_
        refine r_icmp_ne (tgt := 43) C dX8_reads_37 (by decide) ?_ ?_
        · refine r_aload_n C dX8_reads_43 rfl (lv_at hl 1 rfl) ?_
          refine r_getR C fl_X8_29 lf_0_3 dX8_reads_44 ?_
          refine r_aload_n C dX8_reads_47 rfl (lv_at hl 1 rfl) ?_
          refine r_getR C fl_X8_19 lf_0_1 dX8_reads_48 ?_
          refine r_iload_n C dX8_reads_51 rfl (lv_at hl 2 rfl) ?_
          refine r_iload_n C dX8_reads_52 rfl (lv_at hl 3 rfl) ?_
          refine r_callVi (As := [.int x1, .int x2]) (rest := [.ref (ad 10)]) C hl ml_X8_124 rc_4 (gX4_cellOf l C.inj 4 rdg_4 x1 x2 σ4) ⟨Nat.le_of_ble_eq_true rfl, Nat.le_of_ble_eq_true rfl⟩ ⟨Nat.le_of_ble_eq_true rfl, Nat.le_of_ble_eq_true rfl⟩ rfl rfl (Nat.le_of_ble_eq_true rfl) dX8_reads_53 (fun r5 σ6 => ?_)
          refine r_iload C dX8_reads_56 (lv_at hl 0 rfl) ?_
          refine r_callVv (As := [.int r5, .int r3]) (rest := []) C hl ml_X8_127 rc_10 (gX1_note l C.inj r5 r3 σ6) ⟨Nat.le_of_ble_eq_true rfl, Nat.le_of_ble_eq_true rfl⟩ ⟨Nat.le_of_ble_eq_true rfl, Nat.le_of_ble_eq_true rfl⟩ rfl rfl (Nat.le_of_ble_eq_true rfl) dX8_reads_58 (fun r7 σ8 => ?_)
          refine r_aload_n C dX8_reads_61 rfl (lv_at hl 1 rfl) ?_
          refine r_getR C fl_X8_19 lf_0_1 dX8_reads_62 ?_
          refine r_iload_n C dX8_reads_65 rfl (lv_at hl 2 rfl) ?_
          refine r_iload_n C dX8_reads_66 rfl (lv_at hl 3 rfl) ?_
          refine r_iload_n C dX8_reads_67 rfl (lv_at hl 4 rfl) ?_
          refine r_callVv (As := [.int x1, .int x2, .int x3]) (rest := []) C hl ml_X8_131 rc_4 (gX4_put l C.inj 4 rdg_4 x1 x2 x3 σ8) ⟨Nat.le_of_ble_eq_true rfl, Nat.le_of_ble_eq_true rfl⟩ ⟨Nat.le_of_ble_eq_true rfl, Nat.le_of_ble_eq_true rfl⟩ rfl rfl (Nat.le_of_ble_eq_true rfl) dX8_reads_68 (fun r9 σ10 => ?_)
          refine r_aload_n C dX8_reads_71 rfl (lv_at hl 1 rfl) ?_
          refine r_iconst (v := 0) C dX8_reads_72 (by decide) ?_
          refine r_putI C fl_X8_110 fp_X8_15 (by decide) (by decide) lf_0_15 dX8_reads_73 ?_
          refine r_letm (fun σ11 => ?_)
          refine r_iload C dX8_reads_76 (lv_at hl 0 rfl) ?_
          exact r_iret C rfl dX8_reads_78
        · refine r_bipush (v := (-2)) C dX8_reads_40 (by decide) ?_
          exact r_iret C rfl dX8_reads_42
      · refine r_iconst (v := (-1)) C dX8_reads_21 (by decide) ?_
        exact r_iret C rfl dX8_reads_22

set_option maxRecDepth 100000 in
def fX8_isTree (x1 : Int32) (σ : Mem) : Option (Int32 × Mem) := if (x1 : Int32) < 0 then some (0, σ) else bnd (fX8_treesOf (σ 4 1) σ) (fun r1 σ2 => if (r1 : Int32) ≤ x1 then some (0, σ2) else some (1, σ2))
set_option maxRecDepth 100000 in
set_option maxHeartbeats 4000000 in
theorem gX8_isTree (l : Launch) {D : va_G} {cI cZ : ClassId} {ad : Nat → Nat} {tT : Nat} (hi : INJ ad) (x1 : Int32) (σ : Mem) : GM l D cI cZ ad tT yX8_isTree cX8_isTree 2 (some .boolean) 1 20 rvi [.ref (ad 0), .int x1] σ (fX8_isTree x1 σ) := by
  refine gm_of (lv := [(0, .ref (ad 0)), (1, .int x1)]) (own := RX8) hi (by decide +kernel) rfl (Nat.le_of_ble_eq_true rfl) rfl ?_
  intro p e s m args below meth c A C ls hl
  unfold fX8_isTree
  refine r_iload_n C dX8_isTree_0 rfl (lv_at hl 1 rfl) ?_
  refine r_if_lt (tgt := 22) C dX8_isTree_1 (by decide) ?_ ?_
  · refine r_iconst (v := 0) C dX8_isTree_22 (by decide) ?_
    exact r_zret C rfl (by decide) dX8_isTree_23
  · refine r_iload_n C dX8_isTree_4 rfl (lv_at hl 1 rfl) ?_
    refine r_aload_n C dX8_isTree_5 rfl (lv_at hl 0 rfl) ?_
    refine r_getR C fl_X8_19 lf_0_1 dX8_isTree_6 ?_
    refine r_getIN C fn_X8_113 lf_4_1 dX8_isTree_9 ?_
    refine r_callSi (As := [.int (σ 4 1)]) (rest := [.int x1]) C hl ml_X8_182 (gX8_treesOf l C.inj (σ 4 1) σ) ⟨Nat.le_of_ble_eq_true rfl, Nat.le_of_ble_eq_true rfl⟩ ⟨Nat.le_of_ble_eq_true rfl, Nat.le_of_ble_eq_true rfl⟩ rfl rfl (Nat.le_of_ble_eq_true rfl) dX8_isTree_12 (fun r1 σ2 => ?_)
    refine r_icmp_ge (tgt := 22) C dX8_isTree_15 (by decide) ?_ ?_
    · refine r_iconst (v := 0) C dX8_isTree_22 (by decide) ?_
      exact r_zret C rfl (by decide) dX8_isTree_23
    · refine r_iconst (v := 1) C dX8_isTree_18 (by decide) ?_
      refine r_goto (tgt := 23) C dX8_isTree_19 (by decide) ?_
      exact r_zret C rfl (by decide) dX8_isTree_23

set_option maxRecDepth 100000 in
def fX8_becomeTree (x1 : Int32) (σ : Mem) : Option (Int32 × Mem) := bnd (fX1_note (-1) (σ 0 14) σ) (fun r1 σ2 => letm (stm σ2 0 14 x1) (fun σ3 => some (0, σ3)))
set_option maxRecDepth 100000 in
set_option maxHeartbeats 4000000 in
theorem gX8_becomeTree (l : Launch) {D : va_G} {cI cZ : ClassId} {ad : Nat → Nat} {tT : Nat} (hi : INJ ad) (x1 : Int32) (σ : Mem) : GM l D cI cZ ad tT yX8_becomeTree cX8_becomeTree 2 (none) 3 65 rvv [.ref (ad 0), .int x1] σ (fX8_becomeTree x1 σ) := by
  refine gm_of (lv := [(0, .ref (ad 0)), (1, .int x1)]) (own := RX8) hi (by decide +kernel) rfl (Nat.le_of_ble_eq_true rfl) rfl ?_
  intro p e s m args below meth c A C ls hl
  unfold fX8_becomeTree
  refine r_aload_n C dX8_becomeTree_0 rfl (lv_at hl 0 rfl) ?_
  refine r_getR C fl_X8_29 lf_0_3 dX8_becomeTree_1 ?_
  refine r_iconst (v := (-1)) C dX8_becomeTree_4 (by decide) ?_
  refine r_aload_n C dX8_becomeTree_5 rfl (lv_at hl 0 rfl) ?_
  refine r_getI C fl_X8_97 lf_0_14 dX8_becomeTree_6 ?_
  refine r_callVv (As := [.int (-1), .int (σ 0 14)]) (rest := []) C hl ml_X8_127 rc_10 (gX1_note l C.inj (-1) (σ 0 14) σ) ⟨Nat.le_of_ble_eq_true rfl, Nat.le_of_ble_eq_true rfl⟩ ⟨Nat.le_of_ble_eq_true rfl, Nat.le_of_ble_eq_true rfl⟩ rfl rfl (Nat.le_of_ble_eq_true rfl) dX8_becomeTree_9 (fun r1 σ2 => ?_)
  refine r_aload_n C dX8_becomeTree_12 rfl (lv_at hl 0 rfl) ?_
  refine r_iload_n C dX8_becomeTree_13 rfl (lv_at hl 1 rfl) ?_
  refine r_putI C fl_X8_97 fp_X8_14 rfl rfl lf_0_14 dX8_becomeTree_14 ?_
  refine r_letm (fun σ3 => ?_)
  exact r_vret C rfl dX8_becomeTree_17

set_option maxRecDepth 100000 in
def fX8_chooses (x1 : Int32) (σ : Mem) : Option (Int32 × Mem) := bnd (fX8_isTree x1 σ) (fun r1 σ2 => if (r1 : Int32) = 0 then some ((-1), σ2) else if (x1 : Int32) = (σ2 0 14) then some ((-2), σ2) else letv (σ2 0 14) (fun v3 => bnd (fX8_becomeTree x1 σ2) (fun r4 σ5 => some (v3, σ5))))
set_option maxRecDepth 100000 in
set_option maxHeartbeats 4000000 in
theorem gX8_chooses (l : Launch) {D : va_G} {cI cZ : ClassId} {ad : Nat → Nat} {tT : Nat} (hi : INJ ad) (x1 : Int32) (σ : Mem) : GM l D cI cZ ad tT yX8_chooses cX8_chooses 3 (some .int) 4 86 rvi [.ref (ad 0), .int x1] σ (fX8_chooses x1 σ) := by
  refine gm_of (lv := [(0, .ref (ad 0)), (1, .int x1)]) (own := RX8) hi (by decide +kernel) rfl (Nat.le_of_ble_eq_true rfl) rfl ?_
  intro p e s m args below meth c A C ls hl
  unfold fX8_chooses
  refine r_aload_n C dX8_chooses_0 rfl (lv_at hl 0 rfl) ?_
  refine r_iload_n C dX8_chooses_1 rfl (lv_at hl 1 rfl) ?_
  refine r_callVi (As := [.int x1]) (rest := []) C hl ml_X8_135 rc_0 (gX8_isTree l C.inj x1 σ) ⟨Nat.le_of_ble_eq_true rfl, Nat.le_of_ble_eq_true rfl⟩ ⟨Nat.le_of_ble_eq_true rfl, Nat.le_of_ble_eq_true rfl⟩ rfl rfl (Nat.le_of_ble_eq_true rfl) dX8_chooses_2 (fun r1 σ2 => ?_)
  refine r_if_ne (tgt := 10) C dX8_chooses_5 (by decide) ?_ ?_
  · refine r_iload_n C dX8_chooses_10 rfl (lv_at hl 1 rfl) ?_
    refine r_aload_n C dX8_chooses_11 rfl (lv_at hl 0 rfl) ?_
    refine r_getI C fl_X8_97 lf_0_14 dX8_chooses_12 ?_
    refine r_icmp_ne (tgt := 21) C dX8_chooses_15 (by decide) ?_ ?_
    · refine r_aload_n C dX8_chooses_21 rfl (lv_at hl 0 rfl) ?_
      refine r_getI C fl_X8_97 lf_0_14 dX8_chooses_22 ?_
      refine r_letv (fun v3 => ?_)
      refine r_istore_n (lv' := [(2, .int v3), (0, .ref (ad 0)), (1, .int x1)]) C dX8_chooses_25 rfl hl (by decide) rfl (fun ls hl => ?_)
      refine r_aload_n C dX8_chooses_26 rfl (lv_at hl 1 rfl) ?_
      refine r_iload_n C dX8_chooses_27 rfl (lv_at hl 2 rfl) ?_
      refine r_callVv (As := [.int x1]) (rest := []) C hl ml_X8_139 rc_0 (gX8_becomeTree l C.inj x1 σ2) ⟨Nat.le_of_ble_eq_true rfl, Nat.le_of_ble_eq_true rfl⟩ ⟨Nat.le_of_ble_eq_true rfl, Nat.le_of_ble_eq_true rfl⟩ rfl rfl (Nat.le_of_ble_eq_true rfl) dX8_chooses_28 (fun r4 σ5 => ?_)
      refine r_iload_n C dX8_chooses_31 rfl (lv_at hl 0 rfl) ?_
      exact r_iret C rfl dX8_chooses_32
    · refine r_bipush (v := (-2)) C dX8_chooses_18 (by decide) ?_
      exact r_iret C rfl dX8_chooses_20
  · refine r_iconst (v := (-1)) C dX8_chooses_8 (by decide) ?_
    exact r_iret C rfl dX8_chooses_9

set_option maxRecDepth 100000 in
def BX8_loadSets_2 (k48 : Mem → Option (Int32 × Mem)) (rec : Int32 → Int32 → Mem → Option (Int32 × Mem)) (x1 : Int32) (x2 : Int32) (σ : Mem) : Option (Int32 × Mem) := if (6 : Int32) ≤ x2 then k48 σ else bnd (fX4_setsOf 4 x2 σ) (fun r1 σ2 => jn (fun x1 x2 t0 t1 σ3 => bnd (fX5_put 41 6 t0 t1 σ3) (fun r4 σ5 => rec x1 (x2 + 1) σ5)) (fun k39 => if (x1 : Int32) = (-1) then k39 x1 x2 x2 r1 σ2 else bnd (fX8_bitsOf x1 σ2) (fun r6 σ7 => k39 x1 x2 x2 (r1 ||| (r6 ^^^ (-1))) σ7)))
def LX8_loadSets_2 (k48 : Mem → Option (Int32 × Mem)) : Nat → Int32 → Int32 → Mem → Option (Int32 × Mem)
  | 0 => fun _ _ _ => none
  | n + 1 => BX8_loadSets_2 k48 (LX8_loadSets_2 k48 n)
set_option maxRecDepth 100000 in
set_option maxHeartbeats 4000000 in
theorem wX8_loadSets_2 {p : Program} {l : Launch} {e : Env} {s : State} {m : MethodId} {args : Array Value} {below : List Frame} {meth : Method} {c : Code} {D : va_G} {cI cZ : ClassId} {ad : Nat → Nat} {tT : Nat} {A : Nat → Prop} (C : CX p s m args meth c cX8_loadSets 4 RX8 (none) D cI cZ ad tT A) (k48 : Mem → Option (Int32 × Mem)) (hk48 : ∀ (σ : Mem) (ls : Array Slot), lv_has ls 4 [] → WM p l e 4 89 s m args below meth c D cI cZ ad A rvv (k48 σ) σ (F0 m 48 ls [])) :
    ∀ (n0 : Nat), ∀ (x1 : Int32) (x2 : Int32) (σ : Mem) (ls : Array Slot), lv_has ls 4 [(0, .ref (ad 0)), (1, .int x1), (2, .int x2)] → WM p l e 4 89 s m args below meth c D cI cZ ad A rvv (LX8_loadSets_2 k48 n0 x1 x2 σ) σ (F0 m 2 ls []) := by
  intro n0
  induction n0 with
  | zero => intro x1 x2 σ ls hl; exact r_none
  | succ n0 ih =>
    intro x1 x2 σ ls hl
    show WM p l e 4 89 s m args below meth c D cI cZ ad A rvv (BX8_loadSets_2 k48 (LX8_loadSets_2 k48 n0) x1 x2 σ) σ (F0 m 2 ls [])
    unfold BX8_loadSets_2
    refine r_iload_n C dX8_loadSets_2 rfl (lv_at hl 2 rfl) ?_
    refine r_bipush (v := 6) C dX8_loadSets_3 (by decide) ?_
    refine r_icmp_ge (tgt := 48) C dX8_loadSets_5 (by decide) ?_ ?_
    · exact hk48 σ ls (lv_sub hl [] rfl)
    · refine r_aload_n C dX8_loadSets_8 rfl (lv_at hl 0 rfl) ?_
      refine r_getR C fl_X8_19 lf_0_1 dX8_loadSets_9 ?_
      refine r_iload_n C dX8_loadSets_12 rfl (lv_at hl 2 rfl) ?_
      refine r_callVi (As := [.int x2]) (rest := []) C hl ml_X8_260 rc_4 (gX4_setsOf l C.inj 4 rdg_4 x2 σ) ⟨Nat.le_of_ble_eq_true rfl, Nat.le_of_ble_eq_true rfl⟩ ⟨Nat.le_of_ble_eq_true rfl, Nat.le_of_ble_eq_true rfl⟩ rfl rfl (Nat.le_of_ble_eq_true rfl) dX8_loadSets_13 (fun r1 σ2 => ?_)
      refine r_istore_n (lv' := [(3, .int r1), (0, .ref (ad 0)), (1, .int x1), (2, .int x2)]) C dX8_loadSets_16 rfl hl (by decide) rfl (fun ls hl => ?_)
      refine r_aload_n C dX8_loadSets_17 rfl (lv_at hl 1 rfl) ?_
      refine r_getR C fl_X8_66 lf_0_9 dX8_loadSets_18 ?_
      refine r_iload_n C dX8_loadSets_21 rfl (lv_at hl 3 rfl) ?_
      refine r_iload_n C dX8_loadSets_22 rfl (lv_at hl 2 rfl) ?_
      refine r_iconst (v := (-1)) C dX8_loadSets_23 (by decide) ?_
      refine r_jn (fun (k39 : Int32 → Int32 → Int32 → Int32 → Mem → Option (Int32 × Mem)) => ∀ (x1 : Int32) (x2 : Int32) (t0 : Int32) (t1 : Int32) (σ : Mem) (ls : Array Slot), lv_has ls 4 [(0, .ref (ad 0)), (1, .int x1), (2, .int x2)] → WM p l e 4 89 s m args below meth c D cI cZ ad A rvv (k39 x1 x2 t0 t1 σ) σ (F0 m 39 ls [.int t1, .int t0, .ref (ad 41)])) ?_ ?_
      · intro x1 x2 t0 t1 σ3 ls hl
        refine r_callVv (As := [.int t0, .int t1]) (rest := []) C hl ml_X8_159 rc_41 (gX5_put l C.inj 41 6 row_41 t0 t1 σ3) ⟨Nat.le_of_ble_eq_true rfl, Nat.le_of_ble_eq_true rfl⟩ ⟨Nat.le_of_ble_eq_true rfl, Nat.le_of_ble_eq_true rfl⟩ rfl rfl (Nat.le_of_ble_eq_true rfl) dX8_loadSets_39 (fun r4 σ5 => ?_)
        refine r_iinc (v := x2 + 1) (lv' := [(2, .int (x2 + 1)), (0, .ref (ad 0)), (1, .int x1)]) C dX8_loadSets_42 hl (k := 2) rfl rfl (by decide) rfl (fun ls hl => ?_)
        refine r_goto (tgt := 2) C dX8_loadSets_45 (by decide) ?_
        exact ih x1 (x2 + 1) σ5 ls (lv_sub hl [1, 2, 0] rfl)
      · intro k39 hk39
        refine r_icmp_ne (tgt := 31) C dX8_loadSets_24 (by decide) ?_ ?_
        · refine r_iload_n C dX8_loadSets_31 rfl (lv_at hl 0 rfl) ?_
          refine r_iload_n C dX8_loadSets_32 rfl (lv_at hl 2 rfl) ?_
          refine r_callSi (As := [.int x1]) (rest := [.int r1, .int x2, .ref (ad 41)]) C hl ml_X8_263 (gX8_bitsOf l C.inj x1 σ2) ⟨Nat.le_of_ble_eq_true rfl, Nat.le_of_ble_eq_true rfl⟩ ⟨Nat.le_of_ble_eq_true rfl, Nat.le_of_ble_eq_true rfl⟩ rfl rfl (Nat.le_of_ble_eq_true rfl) dX8_loadSets_33 (fun r6 σ7 => ?_)
          refine r_iconst (v := (-1)) C dX8_loadSets_36 (by decide) ?_
          refine r_ixor C dX8_loadSets_37 ?_
          refine r_ior C dX8_loadSets_38 ?_
          exact hk39 x1 x2 x2 (r1 ||| (r6 ^^^ (-1))) σ7 ls (lv_sub hl [1, 2, 3] rfl)
        · refine r_iload_n C dX8_loadSets_27 rfl (lv_at hl 0 rfl) ?_
          refine r_goto (tgt := 39) C dX8_loadSets_28 (by decide) ?_
          exact hk39 x1 x2 x2 r1 σ2 ls (lv_sub hl [1, 2, 3] rfl)
set_option maxRecDepth 100000 in
def fX8_loadSets (x1 : Int32) (σ : Mem) : Option (Int32 × Mem) := LX8_loadSets_2 (fun σ8 => some (0, σ8)) 300 x1 0 σ
set_option maxRecDepth 100000 in
set_option maxHeartbeats 4000000 in
theorem gX8_loadSets (l : Launch) {D : va_G} {cI cZ : ClassId} {ad : Nat → Nat} {tT : Nat} (hi : INJ ad) (x1 : Int32) (σ : Mem) : GM l D cI cZ ad tT yX8_loadSets cX8_loadSets 4 (none) 4 89 rvv [.ref (ad 0), .int x1] σ (fX8_loadSets x1 σ) := by
  refine gm_of (lv := [(0, .ref (ad 0)), (1, .int x1)]) (own := RX8) hi (by decide +kernel) rfl (Nat.le_of_ble_eq_true rfl) rfl ?_
  intro p e s m args below meth c A C ls hl
  unfold fX8_loadSets
  refine r_iconst (v := 0) C dX8_loadSets_0 (by decide) ?_
  refine r_istore_n (lv' := [(2, .int 0), (0, .ref (ad 0)), (1, .int x1)]) C dX8_loadSets_1 rfl hl (by decide) rfl (fun ls hl => ?_)
  refine wX8_loadSets_2  C _ ?_ 300 x1 0 σ ls (lv_sub hl [1, 2, 0] rfl)
  · intro σ8 ls hl
    exact r_vret C rfl dX8_loadSets_48

set_option maxRecDepth 100000 in
def fX8_changesOf (x1 : Int32) (σ : Mem) : Option (Int32 × Mem) := bnd (fX7_grow x1 (σ 4 1) σ) (fun r1 σ2 => bnd (fX0_follow 0 σ2) (fun r3 σ4 => bnd (fX0_changesOver σ4) (fun r5 σ6 => some (r5, σ6))))
set_option maxRecDepth 100000 in
set_option maxHeartbeats 4000000 in
theorem gX8_changesOf (l : Launch) {D : va_G} {cI cZ : ClassId} {ad : Nat → Nat} {tT : Nat} (hi : INJ ad) (x1 : Int32) (σ : Mem) : GM l D cI cZ ad tT yX8_changesOf cX8_changesOf 2 (some .int) 4 91 rvi [.ref (ad 0), .int x1] σ (fX8_changesOf x1 σ) := by
  refine gm_of (lv := [(0, .ref (ad 0)), (1, .int x1)]) (own := RX8) hi (by decide +kernel) rfl (Nat.le_of_ble_eq_true rfl) rfl ?_
  intro p e s m args below meth c A C ls hl
  unfold fX8_changesOf
  refine r_aload_n C dX8_changesOf_0 rfl (lv_at hl 0 rfl) ?_
  refine r_getR C fl_X8_55 lf_0_7 dX8_changesOf_1 ?_
  refine r_iload_n C dX8_changesOf_4 rfl (lv_at hl 1 rfl) ?_
  refine r_aload_n C dX8_changesOf_5 rfl (lv_at hl 0 rfl) ?_
  refine r_getR C fl_X8_19 lf_0_1 dX8_changesOf_6 ?_
  refine r_getIN C fn_X8_113 lf_4_1 dX8_changesOf_9 ?_
  refine r_callVv (As := [.int x1, .int (σ 4 1)]) (rest := []) C hl ml_X8_173 rc_25 (gX7_grow l C.inj x1 (σ 4 1) σ) ⟨Nat.le_of_ble_eq_true rfl, Nat.le_of_ble_eq_true rfl⟩ ⟨Nat.le_of_ble_eq_true rfl, Nat.le_of_ble_eq_true rfl⟩ rfl rfl (Nat.le_of_ble_eq_true rfl) dX8_changesOf_12 (fun r1 σ2 => ?_)
  refine r_aload_n C dX8_changesOf_15 rfl (lv_at hl 0 rfl) ?_
  refine r_getR C fl_X8_62 lf_0_8 dX8_changesOf_16 ?_
  refine r_aload_n C dX8_changesOf_19 rfl (lv_at hl 0 rfl) ?_
  refine r_getR C fl_X8_55 lf_0_7 dX8_changesOf_20 ?_
  refine r_iconst (v := 0) C dX8_changesOf_23 (by decide) ?_
  refine r_callVv (As := [.ref (ad 25), .int 0]) (rest := []) C hl ml_X8_230 rc_30 (gX0_follow l C.inj 0 σ2) ⟨Nat.le_of_ble_eq_true rfl, Nat.le_of_ble_eq_true rfl⟩ ⟨Nat.le_of_ble_eq_true rfl, Nat.le_of_ble_eq_true rfl⟩ rfl rfl (Nat.le_of_ble_eq_true rfl) dX8_changesOf_24 (fun r3 σ4 => ?_)
  refine r_aload_n C dX8_changesOf_27 rfl (lv_at hl 0 rfl) ?_
  refine r_getR C fl_X8_62 lf_0_8 dX8_changesOf_28 ?_
  refine r_aload_n C dX8_changesOf_31 rfl (lv_at hl 0 rfl) ?_
  refine r_getR C fl_X8_66 lf_0_9 dX8_changesOf_32 ?_
  refine r_callVi (As := [.ref (ad 41)]) (rest := []) C hl ml_X8_266 rc_30 (gX0_changesOver l C.inj σ4) ⟨Nat.le_of_ble_eq_true rfl, Nat.le_of_ble_eq_true rfl⟩ ⟨Nat.le_of_ble_eq_true rfl, Nat.le_of_ble_eq_true rfl⟩ rfl rfl (Nat.le_of_ble_eq_true rfl) dX8_changesOf_35 (fun r5 σ6 => ?_)
  exact r_iret C rfl dX8_changesOf_38

set_option maxRecDepth 100000 in
def BX8_weighTrees_10 (k31 : Mem → Option (Int32 × Mem)) (rec : Int32 → Mem → Option (Int32 × Mem)) (x1 : Int32) (σ : Mem) : Option (Int32 × Mem) := if (48 : Int32) < x1 then k31 σ else bnd (fX5_put 45 49 x1 0 σ) (fun r1 σ2 => rec (x1 + 1) σ2)
def LX8_weighTrees_10 (k31 : Mem → Option (Int32 × Mem)) : Nat → Int32 → Mem → Option (Int32 × Mem)
  | 0 => fun _ _ => none
  | n + 1 => BX8_weighTrees_10 k31 (LX8_weighTrees_10 k31 n)
set_option maxRecDepth 100000 in
set_option maxHeartbeats 4000000 in
theorem wX8_weighTrees_10 {p : Program} {l : Launch} {e : Env} {s : State} {m : MethodId} {args : Array Value} {below : List Frame} {meth : Method} {c : Code} {D : va_G} {cI cZ : ClassId} {ad : Nat → Nat} {tT : Nat} {A : Nat → Prop} (C : CX p s m args meth c cX8_weighTrees 4 RX8 (none) D cI cZ ad tT A) (k31 : Mem → Option (Int32 × Mem)) (hk31 : ∀ (σ : Mem) (ls : Array Slot), lv_has ls 4 [(0, .ref (ad 0))] → WM p l e 5 112 s m args below meth c D cI cZ ad A rvv (k31 σ) σ (F0 m 31 ls [])) :
    ∀ (n0 : Nat), ∀ (x1 : Int32) (σ : Mem) (ls : Array Slot), lv_has ls 4 [(0, .ref (ad 0)), (1, .int x1)] → WM p l e 5 112 s m args below meth c D cI cZ ad A rvv (LX8_weighTrees_10 k31 n0 x1 σ) σ (F0 m 10 ls []) := by
  intro n0
  induction n0 with
  | zero => intro x1 σ ls hl; exact r_none
  | succ n0 ih =>
    intro x1 σ ls hl
    show WM p l e 5 112 s m args below meth c D cI cZ ad A rvv (BX8_weighTrees_10 k31 (LX8_weighTrees_10 k31 n0) x1 σ) σ (F0 m 10 ls [])
    unfold BX8_weighTrees_10
    refine r_iload_n C dX8_weighTrees_10 rfl (lv_at hl 1 rfl) ?_
    refine r_bipush (v := 48) C dX8_weighTrees_11 (by decide) ?_
    refine r_icmp_gt (tgt := 31) C dX8_weighTrees_13 (by decide) ?_ ?_
    · exact hk31 σ ls (lv_sub hl [0] rfl)
    · refine r_aload_n C dX8_weighTrees_16 rfl (lv_at hl 0 rfl) ?_
      refine r_getR C fl_X8_72 lf_0_11 dX8_weighTrees_17 ?_
      refine r_iload_n C dX8_weighTrees_20 rfl (lv_at hl 1 rfl) ?_
      refine r_iconst (v := 0) C dX8_weighTrees_21 (by decide) ?_
      refine r_callVv (As := [.int x1, .int 0]) (rest := []) C hl ml_X8_159 rc_45 (gX5_put l C.inj 45 49 row_45 x1 0 σ) ⟨Nat.le_of_ble_eq_true rfl, Nat.le_of_ble_eq_true rfl⟩ ⟨Nat.le_of_ble_eq_true rfl, Nat.le_of_ble_eq_true rfl⟩ rfl rfl (Nat.le_of_ble_eq_true rfl) dX8_weighTrees_22 (fun r1 σ2 => ?_)
      refine r_iinc (v := x1 + 1) (lv' := [(1, .int (x1 + 1)), (0, .ref (ad 0))]) C dX8_weighTrees_25 hl (k := 1) rfl rfl (by decide) rfl (fun ls hl => ?_)
      refine r_goto (tgt := 10) C dX8_weighTrees_28 (by decide) ?_
      exact ih (x1 + 1) σ2 ls (lv_sub hl [1, 0] rfl)
set_option maxRecDepth 100000 in
def BX8_weighTrees_49 (k93 : Mem → Option (Int32 × Mem)) (rec : Int32 → Int32 → Mem → Option (Int32 × Mem)) (x1 : Int32) (x2 : Int32) (σ : Mem) : Option (Int32 × Mem) := if (x1 : Int32) ≤ x2 then k93 σ else bnd (fX8_changesOf x2 σ) (fun r8 σ9 => bnd (fX5_put 43 105 x2 r8 σ9) (fun r10 σ11 => bnd (fX5_at 45 49 r8 σ11) (fun r12 σ13 => bnd (fX5_put 45 49 r8 (r12 + 1) σ13) (fun r14 σ15 => rec x1 (x2 + 1) σ15))))
def LX8_weighTrees_49 (k93 : Mem → Option (Int32 × Mem)) : Nat → Int32 → Int32 → Mem → Option (Int32 × Mem)
  | 0 => fun _ _ _ => none
  | n + 1 => BX8_weighTrees_49 k93 (LX8_weighTrees_49 k93 n)
set_option maxRecDepth 100000 in
set_option maxHeartbeats 4000000 in
theorem wX8_weighTrees_49 {p : Program} {l : Launch} {e : Env} {s : State} {m : MethodId} {args : Array Value} {below : List Frame} {meth : Method} {c : Code} {D : va_G} {cI cZ : ClassId} {ad : Nat → Nat} {tT : Nat} {A : Nat → Prop} (C : CX p s m args meth c cX8_weighTrees 4 RX8 (none) D cI cZ ad tT A) (k93 : Mem → Option (Int32 × Mem)) (hk93 : ∀ (σ : Mem) (ls : Array Slot), lv_has ls 4 [(0, .ref (ad 0))] → WM p l e 5 112 s m args below meth c D cI cZ ad A rvv (k93 σ) σ (F0 m 93 ls [])) :
    ∀ (n0 : Nat), ∀ (x1 : Int32) (x2 : Int32) (σ : Mem) (ls : Array Slot), lv_has ls 4 [(0, .ref (ad 0)), (1, .int x1), (2, .int x2)] → WM p l e 5 112 s m args below meth c D cI cZ ad A rvv (LX8_weighTrees_49 k93 n0 x1 x2 σ) σ (F0 m 49 ls []) := by
  intro n0
  induction n0 with
  | zero => intro x1 x2 σ ls hl; exact r_none
  | succ n0 ih =>
    intro x1 x2 σ ls hl
    show WM p l e 5 112 s m args below meth c D cI cZ ad A rvv (BX8_weighTrees_49 k93 (LX8_weighTrees_49 k93 n0) x1 x2 σ) σ (F0 m 49 ls [])
    unfold BX8_weighTrees_49
    refine r_iload_n C dX8_weighTrees_49 rfl (lv_at hl 2 rfl) ?_
    refine r_iload_n C dX8_weighTrees_50 rfl (lv_at hl 1 rfl) ?_
    refine r_icmp_ge (tgt := 93) C dX8_weighTrees_51 (by decide) ?_ ?_
    · exact hk93 σ ls (lv_sub hl [0] rfl)
    · refine r_aload_n C dX8_weighTrees_54 rfl (lv_at hl 0 rfl) ?_
      refine r_iload_n C dX8_weighTrees_55 rfl (lv_at hl 2 rfl) ?_
      refine r_callVi (As := [.int x2]) (rest := []) C hl ml_X8_167 rc_0 (gX8_changesOf l C.inj x2 σ) ⟨Nat.le_of_ble_eq_true rfl, Nat.le_of_ble_eq_true rfl⟩ ⟨Nat.le_of_ble_eq_true rfl, Nat.le_of_ble_eq_true rfl⟩ rfl rfl (Nat.le_of_ble_eq_true rfl) dX8_weighTrees_56 (fun r8 σ9 => ?_)
      refine r_istore_n (lv' := [(3, .int r8), (0, .ref (ad 0)), (1, .int x1), (2, .int x2)]) C dX8_weighTrees_59 rfl hl (by decide) rfl (fun ls hl => ?_)
      refine r_aload_n C dX8_weighTrees_60 rfl (lv_at hl 1 rfl) ?_
      refine r_getR C fl_X8_69 lf_0_10 dX8_weighTrees_61 ?_
      refine r_iload_n C dX8_weighTrees_64 rfl (lv_at hl 3 rfl) ?_
      refine r_iload_n C dX8_weighTrees_65 rfl (lv_at hl 0 rfl) ?_
      refine r_callVv (As := [.int x2, .int r8]) (rest := []) C hl ml_X8_159 rc_43 (gX5_put l C.inj 43 105 row_43 x2 r8 σ9) ⟨Nat.le_of_ble_eq_true rfl, Nat.le_of_ble_eq_true rfl⟩ ⟨Nat.le_of_ble_eq_true rfl, Nat.le_of_ble_eq_true rfl⟩ rfl rfl (Nat.le_of_ble_eq_true rfl) dX8_weighTrees_66 (fun r10 σ11 => ?_)
      refine r_aload_n C dX8_weighTrees_69 rfl (lv_at hl 1 rfl) ?_
      refine r_getR C fl_X8_72 lf_0_11 dX8_weighTrees_70 ?_
      refine r_iload_n C dX8_weighTrees_73 rfl (lv_at hl 0 rfl) ?_
      refine r_aload_n C dX8_weighTrees_74 rfl (lv_at hl 1 rfl) ?_
      refine r_getR C fl_X8_72 lf_0_11 dX8_weighTrees_75 ?_
      refine r_iload_n C dX8_weighTrees_78 rfl (lv_at hl 0 rfl) ?_
      refine r_callVi (As := [.int r8]) (rest := [.int r8, .ref (ad 45)]) C hl ml_X8_152 rc_45 (gX5_at l C.inj 45 49 row_45 r8 σ11) ⟨Nat.le_of_ble_eq_true rfl, Nat.le_of_ble_eq_true rfl⟩ ⟨Nat.le_of_ble_eq_true rfl, Nat.le_of_ble_eq_true rfl⟩ rfl rfl (Nat.le_of_ble_eq_true rfl) dX8_weighTrees_79 (fun r12 σ13 => ?_)
      refine r_iconst (v := 1) C dX8_weighTrees_82 (by decide) ?_
      refine r_iadd C dX8_weighTrees_83 ?_
      refine r_callVv (As := [.int r8, .int (r12 + 1)]) (rest := []) C hl ml_X8_159 rc_45 (gX5_put l C.inj 45 49 row_45 r8 (r12 + 1) σ13) ⟨Nat.le_of_ble_eq_true rfl, Nat.le_of_ble_eq_true rfl⟩ ⟨Nat.le_of_ble_eq_true rfl, Nat.le_of_ble_eq_true rfl⟩ rfl rfl (Nat.le_of_ble_eq_true rfl) dX8_weighTrees_84 (fun r14 σ15 => ?_)
      refine r_iinc (v := x2 + 1) (lv' := [(2, .int (x2 + 1)), (3, .int r8), (0, .ref (ad 0)), (1, .int x1)]) C dX8_weighTrees_87 hl (k := 3) rfl rfl (by decide) rfl (fun ls hl => ?_)
      refine r_goto (tgt := 49) C dX8_weighTrees_90 (by decide) ?_
      exact ih x1 (x2 + 1) σ15 ls (lv_sub hl [2, 3, 0] rfl)
set_option maxRecDepth 100000 in
def fX8_weighTrees (σ : Mem) : Option (Int32 × Mem) := if (σ 0 15 : Int32) = 0 then LX8_weighTrees_10 (fun σ3 => bnd (fX8_loadSets (-1) σ3) (fun r4 σ5 => bnd (fX8_treesOf (σ5 4 1) σ5) (fun r6 σ7 => LX8_weighTrees_49 (fun σ16 => letm (stm σ16 0 15 1) (fun σ17 => some (0, σ17))) 300 r6 0 σ7))) 300 0 σ else some (0, σ)
set_option maxRecDepth 100000 in
set_option maxHeartbeats 4000000 in
theorem gX8_weighTrees (l : Launch) {D : va_G} {cI cZ : ClassId} {ad : Nat → Nat} {tT : Nat} (hi : INJ ad) (σ : Mem) : GM l D cI cZ ad tT yX8_weighTrees cX8_weighTrees 4 (none) 5 112 rvv [.ref (ad 0)] σ (fX8_weighTrees σ) := by
  refine gm_of (lv := [(0, .ref (ad 0))]) (own := RX8) hi (by decide +kernel) rfl (Nat.le_of_ble_eq_true rfl) rfl ?_
  intro p e s m args below meth c A C ls hl
  unfold fX8_weighTrees
  refine r_aload_n C dX8_weighTrees_0 rfl (lv_at hl 0 rfl) ?_
  refine r_getI C fl_X8_110 lf_0_15 dX8_weighTrees_1 ?_
  refine r_if_eq (tgt := 8) C dX8_weighTrees_4 (by decide) ?_ ?_
  · refine r_iconst (v := 0) C dX8_weighTrees_8 (by decide) ?_
    refine r_istore_n (lv' := [(1, .int 0), (0, .ref (ad 0))]) C dX8_weighTrees_9 rfl hl (by decide) rfl (fun ls hl => ?_)
    refine wX8_weighTrees_10  C _ ?_ 300 0 σ ls (lv_sub hl [1, 0] rfl)
    · intro σ3 ls hl
      refine r_aload_n C dX8_weighTrees_31 rfl (lv_at hl 0 rfl) ?_
      refine r_iconst (v := (-1)) C dX8_weighTrees_32 (by decide) ?_
      refine r_callVv (As := [.int (-1)]) (rest := []) C hl ml_X8_164 rc_0 (gX8_loadSets l C.inj (-1) σ3) ⟨Nat.le_of_ble_eq_true rfl, Nat.le_of_ble_eq_true rfl⟩ ⟨Nat.le_of_ble_eq_true rfl, Nat.le_of_ble_eq_true rfl⟩ rfl rfl (Nat.le_of_ble_eq_true rfl) dX8_weighTrees_33 (fun r4 σ5 => ?_)
      refine r_aload_n C dX8_weighTrees_36 rfl (lv_at hl 0 rfl) ?_
      refine r_getR C fl_X8_19 lf_0_1 dX8_weighTrees_37 ?_
      refine r_getIN C fn_X8_113 lf_4_1 dX8_weighTrees_40 ?_
      refine r_callSi (As := [.int (σ5 4 1)]) (rest := []) C hl ml_X8_182 (gX8_treesOf l C.inj (σ5 4 1) σ5) ⟨Nat.le_of_ble_eq_true rfl, Nat.le_of_ble_eq_true rfl⟩ ⟨Nat.le_of_ble_eq_true rfl, Nat.le_of_ble_eq_true rfl⟩ rfl rfl (Nat.le_of_ble_eq_true rfl) dX8_weighTrees_43 (fun r6 σ7 => ?_)
      refine r_istore_n (lv' := [(1, .int r6), (0, .ref (ad 0))]) C dX8_weighTrees_46 rfl hl (by decide) rfl (fun ls hl => ?_)
      refine r_iconst (v := 0) C dX8_weighTrees_47 (by decide) ?_
      refine r_istore_n (lv' := [(2, .int 0), (1, .int r6), (0, .ref (ad 0))]) C dX8_weighTrees_48 rfl hl (by decide) rfl (fun ls hl => ?_)
      refine wX8_weighTrees_49  C _ ?_ 300 r6 0 σ7 ls (lv_sub hl [2, 1, 0] rfl)
      · intro σ16 ls hl
        refine r_aload_n C dX8_weighTrees_93 rfl (lv_at hl 0 rfl) ?_
        refine r_iconst (v := 1) C dX8_weighTrees_94 (by decide) ?_
        refine r_putI C fl_X8_110 fp_X8_15 (by decide) (by decide) lf_0_15 dX8_weighTrees_95 ?_
        refine r_letm (fun σ17 => ?_)
        exact r_vret C rfl dX8_weighTrees_98
  · exact r_vret C rfl dX8_weighTrees_7

set_option maxRecDepth 100000 in
def BX8_betterTree_53 (k136 : Int32 → Int32 → Int32 → Mem → Option (Int32 × Mem)) (rec : Int32 → Int32 → Int32 → Int32 → Int32 → Mem → Option (Int32 × Mem)) (x1 : Int32) (x2 : Int32) (x3 : Int32) (x4 : Int32) (x5 : Int32) (σ : Mem) : Option (Int32 × Mem) := if (((2 : Int32) * x3) - 3 : Int32) ≤ x5 then k136 x1 x2 x3 σ else bnd (fX7_weightOf x3 σ) (fun r9 σ10 => letv (x4 + (x5 * r9)) (fun v11 => bnd (fX5_at 43 105 v11 σ10) (fun r12 σ13 => jn (fun x1 x2 x3 x4 x5 x6 x7 t0 σ14 => jn (fun x3 x4 x5 x6 x7 σ15 => rec x6 x7 x3 x4 (x5 + 1) σ15) (fun k124 => if (x7 : Int32) < x2 then k124 x3 x4 x5 x6 x7 σ14 else if (t0 : Int32) = 0 then rec x1 x2 x3 x4 (x5 + 1) σ14 else k124 x3 x4 x5 x6 x7 σ14)) (fun k111 => jn (fun x1 x2 x3 x4 x5 x6 x7 σ16 => k111 x1 x2 x3 x4 x5 x6 x7 0 σ16) (fun k110 => if (x1 : Int32) = (σ13 0 14) then k110 x1 x2 x3 x4 x5 v11 r12 σ13 else if (r12 : Int32) = x2 then if (x1 : Int32) ≤ v11 then k110 x1 x2 x3 x4 x5 v11 r12 σ13 else k111 x1 x2 x3 x4 x5 v11 r12 1 σ13 else k110 x1 x2 x3 x4 x5 v11 r12 σ13)))))
def LX8_betterTree_53 (k136 : Int32 → Int32 → Int32 → Mem → Option (Int32 × Mem)) : Nat → Int32 → Int32 → Int32 → Int32 → Int32 → Mem → Option (Int32 × Mem)
  | 0 => fun _ _ _ _ _ _ => none
  | n + 1 => BX8_betterTree_53 k136 (LX8_betterTree_53 k136 n)
set_option maxRecDepth 100000 in
set_option maxHeartbeats 4000000 in
theorem wX8_betterTree_53 {p : Program} {l : Launch} {e : Env} {s : State} {m : MethodId} {args : Array Value} {below : List Frame} {meth : Method} {c : Code} {D : va_G} {cI cZ : ClassId} {ad : Nat → Nat} {tT : Nat} {A : Nat → Prop} (C : CX p s m args meth c cX8_betterTree 9 RX8 (some .int) D cI cZ ad tT A) (k136 : Int32 → Int32 → Int32 → Mem → Option (Int32 × Mem)) (hk136 : ∀ (x1 : Int32) (x2 : Int32) (x3 : Int32) (σ : Mem) (ls : Array Slot), lv_has ls 9 [(0, .ref (ad 0)), (1, .int x1), (2, .int x2), (3, .int x3)] → WM p l e 1 21 s m args below meth c D cI cZ ad A rvi (k136 x1 x2 x3 σ) σ (F0 m 136 ls [])) :
    ∀ (n0 : Nat), ∀ (x1 : Int32) (x2 : Int32) (x3 : Int32) (x4 : Int32) (x5 : Int32) (σ : Mem) (ls : Array Slot), lv_has ls 9 [(0, .ref (ad 0)), (1, .int x1), (2, .int x2), (3, .int x3), (4, .int x4), (5, .int x5)] → WM p l e 1 21 s m args below meth c D cI cZ ad A rvi (LX8_betterTree_53 k136 n0 x1 x2 x3 x4 x5 σ) σ (F0 m 53 ls []) := by
  intro n0
  induction n0 with
  | zero => intro x1 x2 x3 x4 x5 σ ls hl; exact r_none
  | succ n0 ih =>
    intro x1 x2 x3 x4 x5 σ ls hl
    show WM p l e 1 21 s m args below meth c D cI cZ ad A rvi (BX8_betterTree_53 k136 (LX8_betterTree_53 k136 n0) x1 x2 x3 x4 x5 σ) σ (F0 m 53 ls [])
    unfold BX8_betterTree_53
    refine r_iload C dX8_betterTree_53 (lv_at hl 5 rfl) ?_
    refine r_iconst (v := 2) C dX8_betterTree_55 (by decide) ?_
    refine r_iload_n C dX8_betterTree_56 rfl (lv_at hl 3 rfl) ?_
    refine r_imul C dX8_betterTree_57 ?_
    refine r_iconst (v := 3) C dX8_betterTree_58 (by decide) ?_
    refine r_isub C dX8_betterTree_59 ?_
    refine r_icmp_ge (tgt := 136) C dX8_betterTree_60 (by decide) ?_ ?_
    · exact hk136 x1 x2 x3 σ ls (lv_sub hl [0, 1, 2, 3] rfl)
    · refine r_iload C dX8_betterTree_63 (lv_at hl 4 rfl) ?_
      refine r_iload C dX8_betterTree_65 (lv_at hl 5 rfl) ?_
      refine r_iload_n C dX8_betterTree_67 rfl (lv_at hl 3 rfl) ?_
      refine r_callSi (As := [.int x3]) (rest := [.int x5, .int x4]) C hl ml_X8_280 (gX7_weightOf l C.inj x3 σ) ⟨Nat.le_of_ble_eq_true rfl, Nat.le_of_ble_eq_true rfl⟩ ⟨Nat.le_of_ble_eq_true rfl, Nat.le_of_ble_eq_true rfl⟩ rfl rfl (Nat.le_of_ble_eq_true rfl) dX8_betterTree_68 (fun r9 σ10 => ?_)
      refine r_imul C dX8_betterTree_71 ?_
      refine r_iadd C dX8_betterTree_72 ?_
      refine r_letv (fun v11 => ?_)
      refine r_istore (lv' := [(6, .int v11), (0, .ref (ad 0)), (1, .int x1), (2, .int x2), (3, .int x3), (4, .int x4), (5, .int x5)]) C dX8_betterTree_73 hl (by decide) rfl (fun ls hl => ?_)
      refine r_aload_n C dX8_betterTree_75 rfl (lv_at hl 1 rfl) ?_
      refine r_getR C fl_X8_69 lf_0_10 dX8_betterTree_76 ?_
      refine r_iload C dX8_betterTree_79 (lv_at hl 0 rfl) ?_
      refine r_callVi (As := [.int v11]) (rest := []) C hl ml_X8_152 rc_43 (gX5_at l C.inj 43 105 row_43 v11 σ10) ⟨Nat.le_of_ble_eq_true rfl, Nat.le_of_ble_eq_true rfl⟩ ⟨Nat.le_of_ble_eq_true rfl, Nat.le_of_ble_eq_true rfl⟩ rfl rfl (Nat.le_of_ble_eq_true rfl) dX8_betterTree_81 (fun r12 σ13 => ?_)
      refine r_istore (lv' := [(7, .int r12), (6, .int v11), (0, .ref (ad 0)), (1, .int x1), (2, .int x2), (3, .int x3), (4, .int x4), (5, .int x5)]) C dX8_betterTree_84 hl (by decide) rfl (fun ls hl => ?_)
      refine r_iload_n C dX8_betterTree_86 rfl (lv_at hl 3 rfl) ?_
      refine r_aload_n C dX8_betterTree_87 rfl (lv_at hl 2 rfl) ?_
      refine r_getI C fl_X8_97 lf_0_14 dX8_betterTree_88 ?_
      refine r_jn (fun (k111 : Int32 → Int32 → Int32 → Int32 → Int32 → Int32 → Int32 → Int32 → Mem → Option (Int32 × Mem)) => ∀ (x1 : Int32) (x2 : Int32) (x3 : Int32) (x4 : Int32) (x5 : Int32) (x6 : Int32) (x7 : Int32) (t0 : Int32) (σ : Mem) (ls : Array Slot), lv_has ls 9 [(0, .ref (ad 0)), (1, .int x1), (2, .int x2), (3, .int x3), (4, .int x4), (5, .int x5), (6, .int x6), (7, .int x7)] → WM p l e 1 21 s m args below meth c D cI cZ ad A rvi (k111 x1 x2 x3 x4 x5 x6 x7 t0 σ) σ (F0 m 111 ls [.int t0])) ?_ ?_
      · intro x1 x2 x3 x4 x5 x6 x7 t0 σ14 ls hl
        refine r_istore (lv' := [(8, .int t0), (0, .ref (ad 0)), (1, .int x1), (2, .int x2), (3, .int x3), (4, .int x4), (5, .int x5), (6, .int x6), (7, .int x7)]) C dX8_betterTree_111 hl (by decide) rfl (fun ls hl => ?_)
        refine r_iload C dX8_betterTree_113 (lv_at hl 8 rfl) ?_
        refine r_iload_n C dX8_betterTree_115 rfl (lv_at hl 3 rfl) ?_
        refine r_jn (fun (k124 : Int32 → Int32 → Int32 → Int32 → Int32 → Mem → Option (Int32 × Mem)) => ∀ (x3 : Int32) (x4 : Int32) (x5 : Int32) (x6 : Int32) (x7 : Int32) (σ : Mem) (ls : Array Slot), lv_has ls 9 [(0, .ref (ad 0)), (3, .int x3), (4, .int x4), (5, .int x5), (6, .int x6), (7, .int x7)] → WM p l e 1 21 s m args below meth c D cI cZ ad A rvi (k124 x3 x4 x5 x6 x7 σ) σ (F0 m 124 ls [])) ?_ ?_
        · intro x3 x4 x5 x6 x7 σ15 ls hl
          refine r_iload C dX8_betterTree_124 (lv_at hl 4 rfl) ?_
          refine r_istore_n (lv' := [(1, .int x6), (0, .ref (ad 0)), (3, .int x3), (4, .int x4), (5, .int x5), (6, .int x6), (7, .int x7)]) C dX8_betterTree_126 rfl hl (by decide) rfl (fun ls hl => ?_)
          refine r_iload C dX8_betterTree_127 (lv_at hl 6 rfl) ?_
          refine r_istore_n (lv' := [(2, .int x7), (1, .int x6), (0, .ref (ad 0)), (3, .int x3), (4, .int x4), (5, .int x5), (6, .int x6), (7, .int x7)]) C dX8_betterTree_129 rfl hl (by decide) rfl (fun ls hl => ?_)
          refine r_iinc (v := x5 + 1) (lv' := [(5, .int (x5 + 1)), (2, .int x7), (1, .int x6), (0, .ref (ad 0)), (3, .int x3), (4, .int x4), (6, .int x6), (7, .int x7)]) C dX8_betterTree_130 hl (k := 5) rfl rfl (by decide) rfl (fun ls hl => ?_)
          refine r_goto (tgt := 53) C dX8_betterTree_133 (by decide) ?_
          exact ih x6 x7 x3 x4 (x5 + 1) σ15 ls (lv_sub hl [3, 2, 1, 4, 5, 0] rfl)
        · intro k124 hk124
          refine r_icmp_lt (tgt := 124) C dX8_betterTree_116 (by decide) ?_ ?_
          · exact hk124 x3 x4 x5 x6 x7 σ14 ls (lv_sub hl [1, 4, 5, 6, 7, 8] rfl)
          · refine r_iload C dX8_betterTree_119 (lv_at hl 0 rfl) ?_
            refine r_if_eq (tgt := 130) C dX8_betterTree_121 (by decide) ?_ ?_
            · refine r_iinc (v := x5 + 1) (lv' := [(5, .int (x5 + 1)), (8, .int t0), (0, .ref (ad 0)), (1, .int x1), (2, .int x2), (3, .int x3), (4, .int x4), (6, .int x6), (7, .int x7)]) C dX8_betterTree_130 hl (k := 6) rfl rfl (by decide) rfl (fun ls hl => ?_)
              refine r_goto (tgt := 53) C dX8_betterTree_133 (by decide) ?_
              exact ih x1 x2 x3 x4 (x5 + 1) σ14 ls (lv_sub hl [2, 3, 4, 5, 6, 0] rfl)
            · exact hk124 x3 x4 x5 x6 x7 σ14 ls (lv_sub hl [1, 4, 5, 6, 7, 8] rfl)
      · intro k111 hk111
        refine r_jn (fun (k110 : Int32 → Int32 → Int32 → Int32 → Int32 → Int32 → Int32 → Mem → Option (Int32 × Mem)) => ∀ (x1 : Int32) (x2 : Int32) (x3 : Int32) (x4 : Int32) (x5 : Int32) (x6 : Int32) (x7 : Int32) (σ : Mem) (ls : Array Slot), lv_has ls 9 [(0, .ref (ad 0)), (1, .int x1), (2, .int x2), (3, .int x3), (4, .int x4), (5, .int x5), (6, .int x6), (7, .int x7)] → WM p l e 1 21 s m args below meth c D cI cZ ad A rvi (k110 x1 x2 x3 x4 x5 x6 x7 σ) σ (F0 m 110 ls [])) ?_ ?_
        · intro x1 x2 x3 x4 x5 x6 x7 σ16 ls hl
          refine r_iconst (v := 0) C dX8_betterTree_110 (by decide) ?_
          exact hk111 x1 x2 x3 x4 x5 x6 x7 0 σ16 ls (lv_sub hl [0, 1, 2, 3, 4, 5, 6, 7] rfl)
        · intro k110 hk110
          refine r_icmp_eq (tgt := 110) C dX8_betterTree_91 (by decide) ?_ ?_
          · exact hk110 x1 x2 x3 x4 x5 v11 r12 σ13 ls (lv_sub hl [2, 3, 4, 5, 6, 7, 1, 0] rfl)
          · refine r_iload C dX8_betterTree_94 (lv_at hl 0 rfl) ?_
            refine r_iload_n C dX8_betterTree_96 rfl (lv_at hl 4 rfl) ?_
            refine r_icmp_ne (tgt := 110) C dX8_betterTree_97 (by decide) ?_ ?_
            · exact hk110 x1 x2 x3 x4 x5 v11 r12 σ13 ls (lv_sub hl [2, 3, 4, 5, 6, 7, 1, 0] rfl)
            · refine r_iload C dX8_betterTree_100 (lv_at hl 1 rfl) ?_
              refine r_iload_n C dX8_betterTree_102 rfl (lv_at hl 3 rfl) ?_
              refine r_icmp_ge (tgt := 110) C dX8_betterTree_103 (by decide) ?_ ?_
              · exact hk110 x1 x2 x3 x4 x5 v11 r12 σ13 ls (lv_sub hl [2, 3, 4, 5, 6, 7, 1, 0] rfl)
              · refine r_iconst (v := 1) C dX8_betterTree_106 (by decide) ?_
                refine r_goto (tgt := 111) C dX8_betterTree_107 (by decide) ?_
                exact hk111 x1 x2 x3 x4 x5 v11 r12 1 σ13 ls (lv_sub hl [2, 3, 4, 5, 6, 7, 1, 0] rfl)
set_option maxRecDepth 100000 in
def BX8_betterTree_19 (k142 : Int32 → Mem → Option (Int32 × Mem)) (rec : Int32 → Int32 → Int32 → Mem → Option (Int32 × Mem)) (x1 : Int32) (x2 : Int32) (x3 : Int32) (σ : Mem) : Option (Int32 × Mem) := if (σ 4 1 : Int32) ≤ x3 then k142 x1 σ else bnd (fX7_edgeOf (σ 0 14) x3 σ) (fun r4 σ5 => bnd (fX7_weightOf x3 σ5) (fun r6 σ7 => letv ((σ 0 14) - (r4 * r6)) (fun v8 => LX8_betterTree_53 (fun x1 x2 x3 σ17 => rec x1 x2 (x3 + 1) σ17) 300 x1 x2 x3 v8 0 σ7)))
def LX8_betterTree_19 (k142 : Int32 → Mem → Option (Int32 × Mem)) : Nat → Int32 → Int32 → Int32 → Mem → Option (Int32 × Mem)
  | 0 => fun _ _ _ _ => none
  | n + 1 => BX8_betterTree_19 k142 (LX8_betterTree_19 k142 n)
set_option maxRecDepth 100000 in
set_option maxHeartbeats 4000000 in
theorem wX8_betterTree_19 {p : Program} {l : Launch} {e : Env} {s : State} {m : MethodId} {args : Array Value} {below : List Frame} {meth : Method} {c : Code} {D : va_G} {cI cZ : ClassId} {ad : Nat → Nat} {tT : Nat} {A : Nat → Prop} (C : CX p s m args meth c cX8_betterTree 9 RX8 (some .int) D cI cZ ad tT A) (k142 : Int32 → Mem → Option (Int32 × Mem)) (hk142 : ∀ (x1 : Int32) (σ : Mem) (ls : Array Slot), lv_has ls 9 [(1, .int x1)] → WM p l e 1 21 s m args below meth c D cI cZ ad A rvi (k142 x1 σ) σ (F0 m 142 ls [])) :
    ∀ (n0 : Nat), ∀ (x1 : Int32) (x2 : Int32) (x3 : Int32) (σ : Mem) (ls : Array Slot), lv_has ls 9 [(0, .ref (ad 0)), (1, .int x1), (2, .int x2), (3, .int x3)] → WM p l e 1 21 s m args below meth c D cI cZ ad A rvi (LX8_betterTree_19 k142 n0 x1 x2 x3 σ) σ (F0 m 19 ls []) := by
  intro n0
  induction n0 with
  | zero => intro x1 x2 x3 σ ls hl; exact r_none
  | succ n0 ih =>
    intro x1 x2 x3 σ ls hl
    show WM p l e 1 21 s m args below meth c D cI cZ ad A rvi (BX8_betterTree_19 k142 (LX8_betterTree_19 k142 n0) x1 x2 x3 σ) σ (F0 m 19 ls [])
    unfold BX8_betterTree_19
    refine r_iload_n C dX8_betterTree_19 rfl (lv_at hl 3 rfl) ?_
    refine r_aload_n C dX8_betterTree_20 rfl (lv_at hl 0 rfl) ?_
    refine r_getR C fl_X8_19 lf_0_1 dX8_betterTree_21 ?_
    refine r_getIN C fn_X8_113 lf_4_1 dX8_betterTree_24 ?_
    refine r_icmp_ge (tgt := 142) C dX8_betterTree_27 (by decide) ?_ ?_
    · exact hk142 x1 σ ls (lv_sub hl [1] rfl)
    · refine r_aload_n C dX8_betterTree_30 rfl (lv_at hl 0 rfl) ?_
      refine r_getI C fl_X8_97 lf_0_14 dX8_betterTree_31 ?_
      refine r_aload_n C dX8_betterTree_34 rfl (lv_at hl 0 rfl) ?_
      refine r_getI C fl_X8_97 lf_0_14 dX8_betterTree_35 ?_
      refine r_iload_n C dX8_betterTree_38 rfl (lv_at hl 3 rfl) ?_
      refine r_callSi (As := [.int (σ 0 14), .int x3]) (rest := [.int (σ 0 14)]) C hl ml_X8_277 (gX7_edgeOf l C.inj (σ 0 14) x3 σ) ⟨Nat.le_of_ble_eq_true rfl, Nat.le_of_ble_eq_true rfl⟩ ⟨Nat.le_of_ble_eq_true rfl, Nat.le_of_ble_eq_true rfl⟩ rfl rfl (Nat.le_of_ble_eq_true rfl) dX8_betterTree_39 (fun r4 σ5 => ?_)
      refine r_iload_n C dX8_betterTree_42 rfl (lv_at hl 3 rfl) ?_
      refine r_callSi (As := [.int x3]) (rest := [.int r4, .int (σ 0 14)]) C hl ml_X8_280 (gX7_weightOf l C.inj x3 σ5) ⟨Nat.le_of_ble_eq_true rfl, Nat.le_of_ble_eq_true rfl⟩ ⟨Nat.le_of_ble_eq_true rfl, Nat.le_of_ble_eq_true rfl⟩ rfl rfl (Nat.le_of_ble_eq_true rfl) dX8_betterTree_43 (fun r6 σ7 => ?_)
      refine r_imul C dX8_betterTree_46 ?_
      refine r_isub C dX8_betterTree_47 ?_
      refine r_letv (fun v8 => ?_)
      refine r_istore (lv' := [(4, .int v8), (0, .ref (ad 0)), (1, .int x1), (2, .int x2), (3, .int x3)]) C dX8_betterTree_48 hl (by decide) rfl (fun ls hl => ?_)
      refine r_iconst (v := 0) C dX8_betterTree_50 (by decide) ?_
      refine r_istore (lv' := [(5, .int 0), (4, .int v8), (0, .ref (ad 0)), (1, .int x1), (2, .int x2), (3, .int x3)]) C dX8_betterTree_51 hl (by decide) rfl (fun ls hl => ?_)
      refine wX8_betterTree_53  C _ ?_ 300 x1 x2 x3 v8 0 σ7 ls (lv_sub hl [2, 3, 4, 5, 1, 0] rfl)
      · intro x1 x2 x3 σ17 ls hl
        refine r_iinc (v := x3 + 1) (lv' := [(3, .int (x3 + 1)), (0, .ref (ad 0)), (1, .int x1), (2, .int x2)]) C dX8_betterTree_136 hl (k := 3) rfl rfl (by decide) rfl (fun ls hl => ?_)
        refine r_goto (tgt := 19) C dX8_betterTree_139 (by decide) ?_
        exact ih x1 x2 (x3 + 1) σ17 ls (lv_sub hl [1, 2, 3, 0] rfl)
set_option maxRecDepth 100000 in
def fX8_betterTree (σ : Mem) : Option (Int32 × Mem) := letv (σ 0 14) (fun v1 => bnd (fX5_at 43 105 (σ 0 14) σ) (fun r2 σ3 => LX8_betterTree_19 (fun x1 σ18 => some (x1, σ18)) 300 v1 r2 3 σ3))
set_option maxRecDepth 100000 in
set_option maxHeartbeats 4000000 in
theorem gX8_betterTree (l : Launch) {D : va_G} {cI cZ : ClassId} {ad : Nat → Nat} {tT : Nat} (hi : INJ ad) (σ : Mem) : GM l D cI cZ ad tT yX8_betterTree cX8_betterTree 9 (some .int) 1 21 rvi [.ref (ad 0)] σ (fX8_betterTree σ) := by
  refine gm_of (lv := [(0, .ref (ad 0))]) (own := RX8) hi (by decide +kernel) rfl (Nat.le_of_ble_eq_true rfl) rfl ?_
  intro p e s m args below meth c A C ls hl
  unfold fX8_betterTree
  refine r_aload_n C dX8_betterTree_0 rfl (lv_at hl 0 rfl) ?_
  refine r_getI C fl_X8_97 lf_0_14 dX8_betterTree_1 ?_
  refine r_letv (fun v1 => ?_)
  refine r_istore_n (lv' := [(1, .int v1), (0, .ref (ad 0))]) C dX8_betterTree_4 rfl hl (by decide) rfl (fun ls hl => ?_)
  refine r_aload_n C dX8_betterTree_5 rfl (lv_at hl 1 rfl) ?_
  refine r_getR C fl_X8_69 lf_0_10 dX8_betterTree_6 ?_
  refine r_aload_n C dX8_betterTree_9 rfl (lv_at hl 1 rfl) ?_
  refine r_getI C fl_X8_97 lf_0_14 dX8_betterTree_10 ?_
  refine r_callVi (As := [.int (σ 0 14)]) (rest := []) C hl ml_X8_152 rc_43 (gX5_at l C.inj 43 105 row_43 (σ 0 14) σ) ⟨Nat.le_of_ble_eq_true rfl, Nat.le_of_ble_eq_true rfl⟩ ⟨Nat.le_of_ble_eq_true rfl, Nat.le_of_ble_eq_true rfl⟩ rfl rfl (Nat.le_of_ble_eq_true rfl) dX8_betterTree_13 (fun r2 σ3 => ?_)
  refine r_istore_n (lv' := [(2, .int r2), (1, .int v1), (0, .ref (ad 0))]) C dX8_betterTree_16 rfl hl (by decide) rfl (fun ls hl => ?_)
  refine r_iconst (v := 3) C dX8_betterTree_17 (by decide) ?_
  refine r_istore_n (lv' := [(3, .int 3), (2, .int r2), (1, .int v1), (0, .ref (ad 0))]) C dX8_betterTree_18 rfl hl (by decide) rfl (fun ls hl => ?_)
  refine wX8_betterTree_19  C _ ?_ 300 v1 r2 3 σ3 ls (lv_sub hl [3, 2, 1, 0] rfl)
  · intro x1 σ18 ls hl
    refine r_iload_n C dX8_betterTree_142 rfl (lv_at hl 0 rfl) ?_
    exact r_iret C rfl dX8_betterTree_143

set_option maxRecDepth 100000 in
def fX8_betters (σ : Mem) : Option (Int32 × Mem) := bnd (fX8_weighTrees σ) (fun r1 σ2 => bnd (fX8_betterTree σ2) (fun r3 σ4 => if (r3 : Int32) = (σ4 0 14) then some ((-2), σ4) else bnd (fX8_becomeTree r3 σ4) (fun r5 σ6 => some (σ6 0 14, σ6))))
set_option maxRecDepth 100000 in
set_option maxHeartbeats 4000000 in
theorem gX8_betters (l : Launch) {D : va_G} {cI cZ : ClassId} {ad : Nat → Nat} {tT : Nat} (hi : INJ ad) (σ : Mem) : GM l D cI cZ ad tT yX8_betters cX8_betters 2 (some .int) 6 135 rvi [.ref (ad 0)] σ (fX8_betters σ) := by
  refine gm_of (lv := [(0, .ref (ad 0))]) (own := RX8) hi (by decide +kernel) rfl (Nat.le_of_ble_eq_true rfl) rfl ?_
  intro p e s m args below meth c A C ls hl
  unfold fX8_betters
  refine r_aload_n C dX8_betters_0 rfl (lv_at hl 0 rfl) ?_
  refine r_callVv (As := []) (rest := []) C hl ml_X8_142 rc_0 (gX8_weighTrees l C.inj σ) ⟨Nat.le_of_ble_eq_true rfl, Nat.le_of_ble_eq_true rfl⟩ ⟨Nat.le_of_ble_eq_true rfl, Nat.le_of_ble_eq_true rfl⟩ rfl rfl (Nat.le_of_ble_eq_true rfl) dX8_betters_1 (fun r1 σ2 => ?_)
  refine r_aload_n C dX8_betters_4 rfl (lv_at hl 0 rfl) ?_
  refine r_callVi (As := []) (rest := []) C hl ml_X8_145 rc_0 (gX8_betterTree l C.inj σ2) ⟨Nat.le_of_ble_eq_true rfl, Nat.le_of_ble_eq_true rfl⟩ ⟨Nat.le_of_ble_eq_true rfl, Nat.le_of_ble_eq_true rfl⟩ rfl rfl (Nat.le_of_ble_eq_true rfl) dX8_betters_5 (fun r3 σ4 => ?_)
  refine r_istore_n (lv' := [(1, .int r3), (0, .ref (ad 0))]) C dX8_betters_8 rfl hl (by decide) rfl (fun ls hl => ?_)
  refine r_iload_n C dX8_betters_9 rfl (lv_at hl 0 rfl) ?_
  refine r_aload_n C dX8_betters_10 rfl (lv_at hl 1 rfl) ?_
  refine r_getI C fl_X8_97 lf_0_14 dX8_betters_11 ?_
  refine r_icmp_ne (tgt := 20) C dX8_betters_14 (by decide) ?_ ?_
  · refine r_aload_n C dX8_betters_20 rfl (lv_at hl 1 rfl) ?_
    refine r_iload_n C dX8_betters_21 rfl (lv_at hl 0 rfl) ?_
    refine r_callVv (As := [.int r3]) (rest := []) C hl ml_X8_139 rc_0 (gX8_becomeTree l C.inj r3 σ4) ⟨Nat.le_of_ble_eq_true rfl, Nat.le_of_ble_eq_true rfl⟩ ⟨Nat.le_of_ble_eq_true rfl, Nat.le_of_ble_eq_true rfl⟩ rfl rfl (Nat.le_of_ble_eq_true rfl) dX8_betters_22 (fun r5 σ6 => ?_)
    refine r_aload_n C dX8_betters_25 rfl (lv_at hl 1 rfl) ?_
    refine r_getI C fl_X8_97 lf_0_14 dX8_betters_26 ?_
    exact r_iret C rfl dX8_betters_29
  · refine r_bipush (v := (-2)) C dX8_betters_17 (by decide) ?_
    exact r_iret C rfl dX8_betters_19

set_option maxRecDepth 100000 in
def fX8_undo (σ : Mem) : Option (Int32 × Mem) := if (1 : Int32) ≤ (σ 10 2) then letm (stm σ 10 2 ((σ 10 2) - 1)) (fun σ1 => bnd (fX5_at 11 10 (σ1 10 2) σ1) (fun r2 σ3 => bnd (fX5_at 13 10 (σ3 10 2) σ3) (fun r4 σ5 => if (r2 : Int32) = (-1) then letm (stm σ5 0 14 r4) (fun σ9 => some (σ9 10 2, σ9)) else bnd (fX5_put 5 48 r2 r4 σ5) (fun r6 σ7 => letm (stm σ7 0 15 0) (fun σ8 => some (σ8 10 2, σ8)))))) else some ((-2), σ)
set_option maxRecDepth 100000 in
set_option maxHeartbeats 4000000 in
theorem gX8_undo (l : Launch) {D : va_G} {cI cZ : ClassId} {ad : Nat → Nat} {tT : Nat} (hi : INJ ad) (σ : Mem) : GM l D cI cZ ad tT yX8_undo cX8_undo 3 (some .int) 1 22 rvi [.ref (ad 0)] σ (fX8_undo σ) := by
  refine gm_of (lv := [(0, .ref (ad 0))]) (own := RX8) hi (by decide +kernel) rfl (Nat.le_of_ble_eq_true rfl) rfl ?_
  intro p e s m args below meth c A C ls hl
  unfold fX8_undo
  refine r_aload_n C dX8_undo_0 rfl (lv_at hl 0 rfl) ?_
  refine r_getR C fl_X8_29 lf_0_3 dX8_undo_1 ?_
  refine r_getIN C fn_X8_100 lf_10_2 dX8_undo_4 ?_
  refine r_iconst (v := 1) C dX8_undo_7 (by decide) ?_
  refine r_icmp_ge (tgt := 14) C dX8_undo_8 (by decide) ?_ ?_
  · refine r_aload_n C dX8_undo_14 rfl (lv_at hl 0 rfl) ?_
    refine r_getR C fl_X8_29 lf_0_3 dX8_undo_15 ?_
    refine r_dup C dX8_undo_18 rfl ?_
    refine r_getIN C fn_X8_100 lf_10_2 dX8_undo_19 ?_
    refine r_iconst (v := 1) C dX8_undo_22 (by decide) ?_
    refine r_isub C dX8_undo_23 ?_
    refine r_putIN C fn_X8_100 fp_X1_2 rfl rfl lf_10_2 dX8_undo_24 ?_
    refine r_letm (fun σ1 => ?_)
    refine r_aload_n C dX8_undo_27 rfl (lv_at hl 0 rfl) ?_
    refine r_getR C fl_X8_29 lf_0_3 dX8_undo_28 ?_
    refine r_getRN C fn_X8_149 lf_10_0 dX8_undo_31 ?_
    refine r_aload_n C dX8_undo_34 rfl (lv_at hl 0 rfl) ?_
    refine r_getR C fl_X8_29 lf_0_3 dX8_undo_35 ?_
    refine r_getIN C fn_X8_100 lf_10_2 dX8_undo_38 ?_
    refine r_callVi (As := [.int (σ1 10 2)]) (rest := []) C hl ml_X8_152 rc_11 (gX5_at l C.inj 11 10 row_11 (σ1 10 2) σ1) ⟨Nat.le_of_ble_eq_true rfl, Nat.le_of_ble_eq_true rfl⟩ ⟨Nat.le_of_ble_eq_true rfl, Nat.le_of_ble_eq_true rfl⟩ rfl rfl (Nat.le_of_ble_eq_true rfl) dX8_undo_41 (fun r2 σ3 => ?_)
    refine r_istore_n (lv' := [(1, .int r2), (0, .ref (ad 0))]) C dX8_undo_44 rfl hl (by decide) rfl (fun ls hl => ?_)
    refine r_aload_n C dX8_undo_45 rfl (lv_at hl 1 rfl) ?_
    refine r_getR C fl_X8_29 lf_0_3 dX8_undo_46 ?_
    refine r_getRN C fn_X8_155 lf_10_1 dX8_undo_49 ?_
    refine r_aload_n C dX8_undo_52 rfl (lv_at hl 1 rfl) ?_
    refine r_getR C fl_X8_29 lf_0_3 dX8_undo_53 ?_
    refine r_getIN C fn_X8_100 lf_10_2 dX8_undo_56 ?_
    refine r_callVi (As := [.int (σ3 10 2)]) (rest := []) C hl ml_X8_152 rc_13 (gX5_at l C.inj 13 10 row_13 (σ3 10 2) σ3) ⟨Nat.le_of_ble_eq_true rfl, Nat.le_of_ble_eq_true rfl⟩ ⟨Nat.le_of_ble_eq_true rfl, Nat.le_of_ble_eq_true rfl⟩ rfl rfl (Nat.le_of_ble_eq_true rfl) dX8_undo_59 (fun r4 σ5 => ?_)
    refine r_istore_n (lv' := [(2, .int r4), (1, .int r2), (0, .ref (ad 0))]) C dX8_undo_62 rfl hl (by decide) rfl (fun ls hl => ?_)
    refine r_iload_n C dX8_undo_63 rfl (lv_at hl 1 rfl) ?_
    refine r_iconst (v := (-1)) C dX8_undo_64 (by decide) ?_
    refine r_icmp_ne (tgt := 76) C dX8_undo_65 (by decide) ?_ ?_
    · refine r_aload_n C dX8_undo_76 rfl (lv_at hl 2 rfl) ?_
      refine r_getR C fl_X8_19 lf_0_1 dX8_undo_77 ?_
      refine r_getRN C fn_X8_158 lf_4_0 dX8_undo_80 ?_
      refine r_iload_n C dX8_undo_83 rfl (lv_at hl 1 rfl) ?_
      refine r_iload_n C dX8_undo_84 rfl (lv_at hl 0 rfl) ?_
      refine r_callVv (As := [.int r2, .int r4]) (rest := []) C hl ml_X8_159 rc_5 (gX5_put l C.inj 5 48 row_5 r2 r4 σ5) ⟨Nat.le_of_ble_eq_true rfl, Nat.le_of_ble_eq_true rfl⟩ ⟨Nat.le_of_ble_eq_true rfl, Nat.le_of_ble_eq_true rfl⟩ rfl rfl (Nat.le_of_ble_eq_true rfl) dX8_undo_85 (fun r6 σ7 => ?_)
      refine r_aload_n C dX8_undo_88 rfl (lv_at hl 2 rfl) ?_
      refine r_iconst (v := 0) C dX8_undo_89 (by decide) ?_
      refine r_putI C fl_X8_110 fp_X8_15 (by decide) (by decide) lf_0_15 dX8_undo_90 ?_
      refine r_letm (fun σ8 => ?_)
      refine r_aload_n C dX8_undo_93 rfl (lv_at hl 2 rfl) ?_
      refine r_getR C fl_X8_29 lf_0_3 dX8_undo_94 ?_
      refine r_getIN C fn_X8_100 lf_10_2 dX8_undo_97 ?_
      exact r_iret C rfl dX8_undo_100
    · refine r_aload_n C dX8_undo_68 rfl (lv_at hl 2 rfl) ?_
      refine r_iload_n C dX8_undo_69 rfl (lv_at hl 0 rfl) ?_
      refine r_putI C fl_X8_97 fp_X8_14 rfl rfl lf_0_14 dX8_undo_70 ?_
      refine r_letm (fun σ9 => ?_)
      refine r_goto (tgt := 93) C dX8_undo_73 (by decide) ?_
      refine r_aload_n C dX8_undo_93 rfl (lv_at hl 2 rfl) ?_
      refine r_getR C fl_X8_29 lf_0_3 dX8_undo_94 ?_
      refine r_getIN C fn_X8_100 lf_10_2 dX8_undo_97 ?_
      exact r_iret C rfl dX8_undo_100
  · refine r_bipush (v := (-2)) C dX8_undo_11 (by decide) ?_
    exact r_iret C rfl dX8_undo_13

set_option maxRecDepth 100000 in
def fX8_changes (x1 : Int32) (x2 : Int32) (σ : Mem) : Option (Int32 × Mem) := bnd (fX8_isTree x1 σ) (fun r1 σ2 => if (r1 : Int32) = 0 then some ((-1), σ2) else jn (fun x1 x2 σ3 => bnd (fX8_loadSets x2 σ3) (fun r4 σ5 => bnd (fX8_changesOf x1 σ5) (fun r6 σ7 => some (r6, σ7)))) (fun k26 => if (x2 : Int32) = (-1) then k26 x1 x2 σ2 else bnd (fX4_hasPlace 4 x2 σ2) (fun r8 σ9 => if (r8 : Int32) = 0 then some ((-1), σ9) else k26 x1 x2 σ9)))
set_option maxRecDepth 100000 in
set_option maxHeartbeats 4000000 in
theorem gX8_changes (l : Launch) {D : va_G} {cI cZ : ClassId} {ad : Nat → Nat} {tT : Nat} (hi : INJ ad) (x1 : Int32) (x2 : Int32) (σ : Mem) : GM l D cI cZ ad tT yX8_changes cX8_changes 3 (some .int) 5 112 rvi [.ref (ad 0), .int x1, .int x2] σ (fX8_changes x1 x2 σ) := by
  refine gm_of (lv := [(0, .ref (ad 0)), (1, .int x1), (2, .int x2)]) (own := RX8) hi (by decide +kernel) rfl (Nat.le_of_ble_eq_true rfl) rfl ?_
  intro p e s m args below meth c A C ls hl
  unfold fX8_changes
  refine r_aload_n C dX8_changes_0 rfl (lv_at hl 0 rfl) ?_
  refine r_iload_n C dX8_changes_1 rfl (lv_at hl 1 rfl) ?_
  refine r_callVi (As := [.int x1]) (rest := []) C hl ml_X8_135 rc_0 (gX8_isTree l C.inj x1 σ) ⟨Nat.le_of_ble_eq_true rfl, Nat.le_of_ble_eq_true rfl⟩ ⟨Nat.le_of_ble_eq_true rfl, Nat.le_of_ble_eq_true rfl⟩ rfl rfl (Nat.le_of_ble_eq_true rfl) dX8_changes_2 (fun r1 σ2 => ?_)
  refine r_if_eq (tgt := 24) C dX8_changes_5 (by decide) ?_ ?_
  · refine r_iconst (v := (-1)) C dX8_changes_24 (by decide) ?_
    exact r_iret C rfl dX8_changes_25
  · refine r_iload_n C dX8_changes_8 rfl (lv_at hl 2 rfl) ?_
    refine r_iconst (v := (-1)) C dX8_changes_9 (by decide) ?_
    refine r_jn (fun (k26 : Int32 → Int32 → Mem → Option (Int32 × Mem)) => ∀ (x1 : Int32) (x2 : Int32) (σ : Mem) (ls : Array Slot), lv_has ls 3 [(0, .ref (ad 0)), (1, .int x1), (2, .int x2)] → WM p l e 5 112 s m args below meth c D cI cZ ad A rvi (k26 x1 x2 σ) σ (F0 m 26 ls [])) ?_ ?_
    · intro x1 x2 σ3 ls hl
      refine r_aload_n C dX8_changes_26 rfl (lv_at hl 0 rfl) ?_
      refine r_iload_n C dX8_changes_27 rfl (lv_at hl 2 rfl) ?_
      refine r_callVv (As := [.int x2]) (rest := []) C hl ml_X8_164 rc_0 (gX8_loadSets l C.inj x2 σ3) ⟨Nat.le_of_ble_eq_true rfl, Nat.le_of_ble_eq_true rfl⟩ ⟨Nat.le_of_ble_eq_true rfl, Nat.le_of_ble_eq_true rfl⟩ rfl rfl (Nat.le_of_ble_eq_true rfl) dX8_changes_28 (fun r4 σ5 => ?_)
      refine r_aload_n C dX8_changes_31 rfl (lv_at hl 0 rfl) ?_
      refine r_iload_n C dX8_changes_32 rfl (lv_at hl 1 rfl) ?_
      refine r_callVi (As := [.int x1]) (rest := []) C hl ml_X8_167 rc_0 (gX8_changesOf l C.inj x1 σ5) ⟨Nat.le_of_ble_eq_true rfl, Nat.le_of_ble_eq_true rfl⟩ ⟨Nat.le_of_ble_eq_true rfl, Nat.le_of_ble_eq_true rfl⟩ rfl rfl (Nat.le_of_ble_eq_true rfl) dX8_changes_33 (fun r6 σ7 => ?_)
      exact r_iret C rfl dX8_changes_36
    · intro k26 hk26
      refine r_icmp_eq (tgt := 26) C dX8_changes_10 (by decide) ?_ ?_
      · exact hk26 x1 x2 σ2 ls (lv_sub hl [0, 1, 2] rfl)
      · refine r_aload_n C dX8_changes_13 rfl (lv_at hl 0 rfl) ?_
        refine r_getR C fl_X8_19 lf_0_1 dX8_changes_14 ?_
        refine r_iload_n C dX8_changes_17 rfl (lv_at hl 2 rfl) ?_
        refine r_callVi (As := [.int x2]) (rest := []) C hl ml_X8_161 rc_4 (gX4_hasPlace l C.inj 4 rdg_4 x2 σ2) ⟨Nat.le_of_ble_eq_true rfl, Nat.le_of_ble_eq_true rfl⟩ ⟨Nat.le_of_ble_eq_true rfl, Nat.le_of_ble_eq_true rfl⟩ rfl rfl (Nat.le_of_ble_eq_true rfl) dX8_changes_18 (fun r8 σ9 => ?_)
        refine r_if_ne (tgt := 26) C dX8_changes_21 (by decide) ?_ ?_
        · exact hk26 x1 x2 σ9 ls (lv_sub hl [0, 1, 2] rfl)
        · refine r_iconst (v := (-1)) C dX8_changes_24 (by decide) ?_
          exact r_iret C rfl dX8_changes_25

set_option maxRecDepth 100000 in
def BX8_costFrom_16 (k48 : Int32 → Mem → Option (Int32 × Mem)) (rec : Int32 → Int32 → Mem → Option (Int32 × Mem)) (x2 : Int32) (x3 : Int32) (σ : Mem) : Option (Int32 × Mem) := if (σ 4 2 : Int32) ≤ x3 then k48 x2 σ else bnd (fX0_costAt x3 σ) (fun r3 σ4 => letv (x2 + r3) (fun v5 => rec v5 (x3 + 1) σ4))
def LX8_costFrom_16 (k48 : Int32 → Mem → Option (Int32 × Mem)) : Nat → Int32 → Int32 → Mem → Option (Int32 × Mem)
  | 0 => fun _ _ _ => none
  | n + 1 => BX8_costFrom_16 k48 (LX8_costFrom_16 k48 n)
set_option maxRecDepth 100000 in
set_option maxHeartbeats 4000000 in
theorem wX8_costFrom_16 {p : Program} {l : Launch} {e : Env} {s : State} {m : MethodId} {args : Array Value} {below : List Frame} {meth : Method} {c : Code} {D : va_G} {cI cZ : ClassId} {ad : Nat → Nat} {tT : Nat} {A : Nat → Prop} (C : CX p s m args meth c cX8_costFrom 4 RX8 (some .int) D cI cZ ad tT A) (k48 : Int32 → Mem → Option (Int32 × Mem)) (hk48 : ∀ (x2 : Int32) (σ : Mem) (ls : Array Slot), lv_has ls 4 [(2, .int x2)] → WM p l e 4 95 s m args below meth c D cI cZ ad A rvi (k48 x2 σ) σ (F0 m 48 ls [])) :
    ∀ (n0 : Nat), ∀ (x2 : Int32) (x3 : Int32) (σ : Mem) (ls : Array Slot), lv_has ls 4 [(0, .ref (ad 0)), (2, .int x2), (3, .int x3)] → WM p l e 4 95 s m args below meth c D cI cZ ad A rvi (LX8_costFrom_16 k48 n0 x2 x3 σ) σ (F0 m 16 ls []) := by
  intro n0
  induction n0 with
  | zero => intro x2 x3 σ ls hl; exact r_none
  | succ n0 ih =>
    intro x2 x3 σ ls hl
    show WM p l e 4 95 s m args below meth c D cI cZ ad A rvi (BX8_costFrom_16 k48 (LX8_costFrom_16 k48 n0) x2 x3 σ) σ (F0 m 16 ls [])
    unfold BX8_costFrom_16
    refine r_iload_n C dX8_costFrom_16 rfl (lv_at hl 2 rfl) ?_
    refine r_aload_n C dX8_costFrom_17 rfl (lv_at hl 0 rfl) ?_
    refine r_getR C fl_X8_19 lf_0_1 dX8_costFrom_18 ?_
    refine r_getIN C fn_X8_212 lf_4_2 dX8_costFrom_21 ?_
    refine r_icmp_ge (tgt := 48) C dX8_costFrom_24 (by decide) ?_ ?_
    · exact hk48 x2 σ ls (lv_sub hl [1] rfl)
    · refine r_iload_n C dX8_costFrom_27 rfl (lv_at hl 1 rfl) ?_
      refine r_aload_n C dX8_costFrom_28 rfl (lv_at hl 0 rfl) ?_
      refine r_getR C fl_X8_62 lf_0_8 dX8_costFrom_29 ?_
      refine r_iload_n C dX8_costFrom_32 rfl (lv_at hl 2 rfl) ?_
      refine r_aload_n C dX8_costFrom_33 rfl (lv_at hl 0 rfl) ?_
      refine r_getR C fl_X8_66 lf_0_9 dX8_costFrom_34 ?_
      refine r_callVi (As := [.int x3, .ref (ad 41)]) (rest := [.int x2]) C hl ml_X8_273 rc_30 (gX0_costAt l C.inj x3 σ) ⟨Nat.le_of_ble_eq_true rfl, Nat.le_of_ble_eq_true rfl⟩ ⟨Nat.le_of_ble_eq_true rfl, Nat.le_of_ble_eq_true rfl⟩ rfl rfl (Nat.le_of_ble_eq_true rfl) dX8_costFrom_37 (fun r3 σ4 => ?_)
      refine r_iadd C dX8_costFrom_40 ?_
      refine r_letv (fun v5 => ?_)
      refine r_istore_n (lv' := [(2, .int v5), (0, .ref (ad 0)), (3, .int x3)]) C dX8_costFrom_41 rfl hl (by decide) rfl (fun ls hl => ?_)
      refine r_iinc (v := x3 + 1) (lv' := [(3, .int (x3 + 1)), (2, .int v5), (0, .ref (ad 0))]) C dX8_costFrom_42 hl (k := 2) rfl rfl (by decide) rfl (fun ls hl => ?_)
      refine r_goto (tgt := 16) C dX8_costFrom_45 (by decide) ?_
      exact ih v5 (x3 + 1) σ4 ls (lv_sub hl [2, 1, 0] rfl)
set_option maxRecDepth 100000 in
def fX8_costFrom (x1 : Int32) (σ : Mem) : Option (Int32 × Mem) := bnd (fX0_follow x1 σ) (fun r1 σ2 => LX8_costFrom_16 (fun x2 σ6 => some (x2, σ6)) 300 0 0 σ2)
set_option maxRecDepth 100000 in
set_option maxHeartbeats 4000000 in
theorem gX8_costFrom (l : Launch) {D : va_G} {cI cZ : ClassId} {ad : Nat → Nat} {tT : Nat} (hi : INJ ad) (x1 : Int32) (σ : Mem) : GM l D cI cZ ad tT yX8_costFrom cX8_costFrom 4 (some .int) 4 95 rvi [.ref (ad 0), .int x1] σ (fX8_costFrom x1 σ) := by
  refine gm_of (lv := [(0, .ref (ad 0)), (1, .int x1)]) (own := RX8) hi (by decide +kernel) rfl (Nat.le_of_ble_eq_true rfl) rfl ?_
  intro p e s m args below meth c A C ls hl
  unfold fX8_costFrom
  refine r_aload_n C dX8_costFrom_0 rfl (lv_at hl 0 rfl) ?_
  refine r_getR C fl_X8_62 lf_0_8 dX8_costFrom_1 ?_
  refine r_aload_n C dX8_costFrom_4 rfl (lv_at hl 0 rfl) ?_
  refine r_getR C fl_X8_55 lf_0_7 dX8_costFrom_5 ?_
  refine r_iload_n C dX8_costFrom_8 rfl (lv_at hl 1 rfl) ?_
  refine r_callVv (As := [.ref (ad 25), .int x1]) (rest := []) C hl ml_X8_230 rc_30 (gX0_follow l C.inj x1 σ) ⟨Nat.le_of_ble_eq_true rfl, Nat.le_of_ble_eq_true rfl⟩ ⟨Nat.le_of_ble_eq_true rfl, Nat.le_of_ble_eq_true rfl⟩ rfl rfl (Nat.le_of_ble_eq_true rfl) dX8_costFrom_9 (fun r1 σ2 => ?_)
  refine r_iconst (v := 0) C dX8_costFrom_12 (by decide) ?_
  refine r_istore_n (lv' := [(2, .int 0), (0, .ref (ad 0)), (1, .int x1)]) C dX8_costFrom_13 rfl hl (by decide) rfl (fun ls hl => ?_)
  refine r_iconst (v := 0) C dX8_costFrom_14 (by decide) ?_
  refine r_istore_n (lv' := [(3, .int 0), (2, .int 0), (0, .ref (ad 0)), (1, .int x1)]) C dX8_costFrom_15 rfl hl (by decide) rfl (fun ls hl => ?_)
  refine wX8_costFrom_16  C _ ?_ 300 0 0 σ2 ls (lv_sub hl [2, 1, 0] rfl)
  · intro x2 σ6 ls hl
    refine r_iload_n C dX8_costFrom_48 rfl (lv_at hl 0 rfl) ?_
    exact r_iret C rfl dX8_costFrom_49

set_option maxRecDepth 100000 in
def fX8_directed (x1 : Int32) (x2 : Int32) (σ : Mem) : Option (Int32 × Mem) := bnd (fX8_isTree x1 σ) (fun r1 σ2 => if (r1 : Int32) = 0 then some ((-1), σ2) else if (x2 : Int32) < 0 then some ((-1), σ2) else bnd (fX8_edgesOf (σ2 4 1) σ2) (fun r3 σ4 => if (x2 : Int32) < r3 then bnd (fX8_loadSets (-1) σ4) (fun r5 σ6 => bnd (fX7_grow x1 (σ6 4 1) σ6) (fun r7 σ8 => bnd (fX8_costFrom x2 σ8) (fun r9 σ10 => some (r9, σ10)))) else some ((-1), σ4)))
set_option maxRecDepth 100000 in
set_option maxHeartbeats 4000000 in
theorem gX8_directed (l : Launch) {D : va_G} {cI cZ : ClassId} {ad : Nat → Nat} {tT : Nat} (hi : INJ ad) (x1 : Int32) (x2 : Int32) (σ : Mem) : GM l D cI cZ ad tT yX8_directed cX8_directed 3 (some .int) 5 118 rvi [.ref (ad 0), .int x1, .int x2] σ (fX8_directed x1 x2 σ) := by
  refine gm_of (lv := [(0, .ref (ad 0)), (1, .int x1), (2, .int x2)]) (own := RX8) hi (by decide +kernel) rfl (Nat.le_of_ble_eq_true rfl) rfl ?_
  intro p e s m args below meth c A C ls hl
  unfold fX8_directed
  refine r_aload_n C dX8_directed_0 rfl (lv_at hl 0 rfl) ?_
  refine r_iload_n C dX8_directed_1 rfl (lv_at hl 1 rfl) ?_
  refine r_callVi (As := [.int x1]) (rest := []) C hl ml_X8_135 rc_0 (gX8_isTree l C.inj x1 σ) ⟨Nat.le_of_ble_eq_true rfl, Nat.le_of_ble_eq_true rfl⟩ ⟨Nat.le_of_ble_eq_true rfl, Nat.le_of_ble_eq_true rfl⟩ rfl rfl (Nat.le_of_ble_eq_true rfl) dX8_directed_2 (fun r1 σ2 => ?_)
  refine r_if_eq (tgt := 26) C dX8_directed_5 (by decide) ?_ ?_
  · refine r_iconst (v := (-1)) C dX8_directed_26 (by decide) ?_
    exact r_iret C rfl dX8_directed_27
  · refine r_iload_n C dX8_directed_8 rfl (lv_at hl 2 rfl) ?_
    refine r_if_lt (tgt := 26) C dX8_directed_9 (by decide) ?_ ?_
    · refine r_iconst (v := (-1)) C dX8_directed_26 (by decide) ?_
      exact r_iret C rfl dX8_directed_27
    · refine r_iload_n C dX8_directed_12 rfl (lv_at hl 2 rfl) ?_
      refine r_aload_n C dX8_directed_13 rfl (lv_at hl 0 rfl) ?_
      refine r_getR C fl_X8_19 lf_0_1 dX8_directed_14 ?_
      refine r_getIN C fn_X8_113 lf_4_1 dX8_directed_17 ?_
      refine r_callSi (As := [.int (σ2 4 1)]) (rest := [.int x2]) C hl ml_X8_170 (gX8_edgesOf l C.inj (σ2 4 1) σ2) ⟨Nat.le_of_ble_eq_true rfl, Nat.le_of_ble_eq_true rfl⟩ ⟨Nat.le_of_ble_eq_true rfl, Nat.le_of_ble_eq_true rfl⟩ rfl rfl (Nat.le_of_ble_eq_true rfl) dX8_directed_20 (fun r3 σ4 => ?_)
      refine r_icmp_lt (tgt := 28) C dX8_directed_23 (by decide) ?_ ?_
      · refine r_aload_n C dX8_directed_28 rfl (lv_at hl 0 rfl) ?_
        refine r_iconst (v := (-1)) C dX8_directed_29 (by decide) ?_
        refine r_callVv (As := [.int (-1)]) (rest := []) C hl ml_X8_164 rc_0 (gX8_loadSets l C.inj (-1) σ4) ⟨Nat.le_of_ble_eq_true rfl, Nat.le_of_ble_eq_true rfl⟩ ⟨Nat.le_of_ble_eq_true rfl, Nat.le_of_ble_eq_true rfl⟩ rfl rfl (Nat.le_of_ble_eq_true rfl) dX8_directed_30 (fun r5 σ6 => ?_)
        refine r_aload_n C dX8_directed_33 rfl (lv_at hl 0 rfl) ?_
        refine r_getR C fl_X8_55 lf_0_7 dX8_directed_34 ?_
        refine r_iload_n C dX8_directed_37 rfl (lv_at hl 1 rfl) ?_
        refine r_aload_n C dX8_directed_38 rfl (lv_at hl 0 rfl) ?_
        refine r_getR C fl_X8_19 lf_0_1 dX8_directed_39 ?_
        refine r_getIN C fn_X8_113 lf_4_1 dX8_directed_42 ?_
        refine r_callVv (As := [.int x1, .int (σ6 4 1)]) (rest := []) C hl ml_X8_173 rc_25 (gX7_grow l C.inj x1 (σ6 4 1) σ6) ⟨Nat.le_of_ble_eq_true rfl, Nat.le_of_ble_eq_true rfl⟩ ⟨Nat.le_of_ble_eq_true rfl, Nat.le_of_ble_eq_true rfl⟩ rfl rfl (Nat.le_of_ble_eq_true rfl) dX8_directed_45 (fun r7 σ8 => ?_)
        refine r_aload_n C dX8_directed_48 rfl (lv_at hl 0 rfl) ?_
        refine r_iload_n C dX8_directed_49 rfl (lv_at hl 2 rfl) ?_
        refine r_callVi (As := [.int x2]) (rest := []) C hl ml_X8_176 rc_0 (gX8_costFrom l C.inj x2 σ8) ⟨Nat.le_of_ble_eq_true rfl, Nat.le_of_ble_eq_true rfl⟩ ⟨Nat.le_of_ble_eq_true rfl, Nat.le_of_ble_eq_true rfl⟩ rfl rfl (Nat.le_of_ble_eq_true rfl) dX8_directed_50 (fun r9 σ10 => ?_)
        exact r_iret C rfl dX8_directed_53
      · refine r_iconst (v := (-1)) C dX8_directed_26 (by decide) ?_
        exact r_iret C rfl dX8_directed_27

set_option maxRecDepth 100000 in
def BX8_root_38 (k82 : Int32 → Mem → Option (Int32 × Mem)) (rec : Int32 → Int32 → Int32 → Mem → Option (Int32 × Mem)) (x2 : Int32) (x3 : Int32) (x4 : Int32) (σ : Mem) : Option (Int32 × Mem) := if (σ 25 2 : Int32) ≤ x4 then k82 x3 σ else bnd (fX8_costFrom x4 σ) (fun r7 σ8 => jn (fun x4 x5 σ9 => rec x5 x4 (x4 + 1) σ9) (fun k70 => if (x3 : Int32) = (-9) then k70 x4 r7 σ8 else if (x2 : Int32) ≤ r7 then rec x2 x3 (x4 + 1) σ8 else k70 x4 r7 σ8))
def LX8_root_38 (k82 : Int32 → Mem → Option (Int32 × Mem)) : Nat → Int32 → Int32 → Int32 → Mem → Option (Int32 × Mem)
  | 0 => fun _ _ _ _ => none
  | n + 1 => BX8_root_38 k82 (LX8_root_38 k82 n)
set_option maxRecDepth 100000 in
set_option maxHeartbeats 4000000 in
theorem wX8_root_38 {p : Program} {l : Launch} {e : Env} {s : State} {m : MethodId} {args : Array Value} {below : List Frame} {meth : Method} {c : Code} {D : va_G} {cI cZ : ClassId} {ad : Nat → Nat} {tT : Nat} {A : Nat → Prop} (C : CX p s m args meth c cX8_root 6 RX8 (some .int) D cI cZ ad tT A) (k82 : Int32 → Mem → Option (Int32 × Mem)) (hk82 : ∀ (x3 : Int32) (σ : Mem) (ls : Array Slot), lv_has ls 6 [(3, .int x3)] → WM p l e 5 118 s m args below meth c D cI cZ ad A rvi (k82 x3 σ) σ (F0 m 82 ls [])) :
    ∀ (n0 : Nat), ∀ (x2 : Int32) (x3 : Int32) (x4 : Int32) (σ : Mem) (ls : Array Slot), lv_has ls 6 [(0, .ref (ad 0)), (2, .int x2), (3, .int x3), (4, .int x4)] → WM p l e 5 118 s m args below meth c D cI cZ ad A rvi (LX8_root_38 k82 n0 x2 x3 x4 σ) σ (F0 m 38 ls []) := by
  intro n0
  induction n0 with
  | zero => intro x2 x3 x4 σ ls hl; exact r_none
  | succ n0 ih =>
    intro x2 x3 x4 σ ls hl
    show WM p l e 5 118 s m args below meth c D cI cZ ad A rvi (BX8_root_38 k82 (LX8_root_38 k82 n0) x2 x3 x4 σ) σ (F0 m 38 ls [])
    unfold BX8_root_38
    refine r_iload C dX8_root_38 (lv_at hl 3 rfl) ?_
    refine r_aload_n C dX8_root_40 rfl (lv_at hl 0 rfl) ?_
    refine r_getR C fl_X8_55 lf_0_7 dX8_root_41 ?_
    refine r_getIN C fn_X8_179 lf_25_2 dX8_root_44 ?_
    refine r_icmp_ge (tgt := 82) C dX8_root_47 (by decide) ?_ ?_
    · exact hk82 x3 σ ls (lv_sub hl [2] rfl)
    · refine r_aload_n C dX8_root_50 rfl (lv_at hl 0 rfl) ?_
      refine r_iload C dX8_root_51 (lv_at hl 3 rfl) ?_
      refine r_callVi (As := [.int x4]) (rest := []) C hl ml_X8_176 rc_0 (gX8_costFrom l C.inj x4 σ) ⟨Nat.le_of_ble_eq_true rfl, Nat.le_of_ble_eq_true rfl⟩ ⟨Nat.le_of_ble_eq_true rfl, Nat.le_of_ble_eq_true rfl⟩ rfl rfl (Nat.le_of_ble_eq_true rfl) dX8_root_53 (fun r7 σ8 => ?_)
      refine r_istore (lv' := [(5, .int r7), (0, .ref (ad 0)), (2, .int x2), (3, .int x3), (4, .int x4)]) C dX8_root_56 hl (by decide) rfl (fun ls hl => ?_)
      refine r_iload_n C dX8_root_58 rfl (lv_at hl 3 rfl) ?_
      refine r_bipush (v := (-9)) C dX8_root_59 (by decide) ?_
      refine r_jn (fun (k70 : Int32 → Int32 → Mem → Option (Int32 × Mem)) => ∀ (x4 : Int32) (x5 : Int32) (σ : Mem) (ls : Array Slot), lv_has ls 6 [(0, .ref (ad 0)), (4, .int x4), (5, .int x5)] → WM p l e 5 118 s m args below meth c D cI cZ ad A rvi (k70 x4 x5 σ) σ (F0 m 70 ls [])) ?_ ?_
      · intro x4 x5 σ9 ls hl
        refine r_iload C dX8_root_70 (lv_at hl 2 rfl) ?_
        refine r_istore_n (lv' := [(2, .int x5), (0, .ref (ad 0)), (4, .int x4), (5, .int x5)]) C dX8_root_72 rfl hl (by decide) rfl (fun ls hl => ?_)
        refine r_iload C dX8_root_73 (lv_at hl 2 rfl) ?_
        refine r_istore_n (lv' := [(3, .int x4), (2, .int x5), (0, .ref (ad 0)), (4, .int x4), (5, .int x5)]) C dX8_root_75 rfl hl (by decide) rfl (fun ls hl => ?_)
        refine r_iinc (v := x4 + 1) (lv' := [(4, .int (x4 + 1)), (3, .int x4), (2, .int x5), (0, .ref (ad 0)), (5, .int x5)]) C dX8_root_76 hl (k := 3) rfl rfl (by decide) rfl (fun ls hl => ?_)
        refine r_goto (tgt := 38) C dX8_root_79 (by decide) ?_
        exact ih x5 x4 (x4 + 1) σ9 ls (lv_sub hl [3, 2, 1, 0] rfl)
      · intro k70 hk70
        refine r_icmp_eq (tgt := 70) C dX8_root_61 (by decide) ?_ ?_
        · exact hk70 x4 r7 σ8 ls (lv_sub hl [1, 4, 0] rfl)
        · refine r_iload C dX8_root_64 (lv_at hl 0 rfl) ?_
          refine r_iload_n C dX8_root_66 rfl (lv_at hl 2 rfl) ?_
          refine r_icmp_ge (tgt := 76) C dX8_root_67 (by decide) ?_ ?_
          · refine r_iinc (v := x4 + 1) (lv' := [(4, .int (x4 + 1)), (5, .int r7), (0, .ref (ad 0)), (2, .int x2), (3, .int x3)]) C dX8_root_76 hl (k := 4) rfl rfl (by decide) rfl (fun ls hl => ?_)
            refine r_goto (tgt := 38) C dX8_root_79 (by decide) ?_
            exact ih x2 x3 (x4 + 1) σ8 ls (lv_sub hl [2, 3, 4, 0] rfl)
          · exact hk70 x4 r7 σ8 ls (lv_sub hl [1, 4, 0] rfl)
set_option maxRecDepth 100000 in
def fX8_root (x1 : Int32) (σ : Mem) : Option (Int32 × Mem) := bnd (fX8_isTree x1 σ) (fun r1 σ2 => if (r1 : Int32) = 0 then some ((-1), σ2) else bnd (fX8_loadSets (-1) σ2) (fun r3 σ4 => bnd (fX7_grow x1 (σ4 4 1) σ4) (fun r5 σ6 => LX8_root_38 (fun x3 σ10 => some (x3, σ10)) 300 0 (-9) 0 σ6)))
set_option maxRecDepth 100000 in
set_option maxHeartbeats 4000000 in
theorem gX8_root (l : Launch) {D : va_G} {cI cZ : ClassId} {ad : Nat → Nat} {tT : Nat} (hi : INJ ad) (x1 : Int32) (σ : Mem) : GM l D cI cZ ad tT yX8_root cX8_root 6 (some .int) 5 118 rvi [.ref (ad 0), .int x1] σ (fX8_root x1 σ) := by
  refine gm_of (lv := [(0, .ref (ad 0)), (1, .int x1)]) (own := RX8) hi (by decide +kernel) rfl (Nat.le_of_ble_eq_true rfl) rfl ?_
  intro p e s m args below meth c A C ls hl
  unfold fX8_root
  refine r_aload_n C dX8_root_0 rfl (lv_at hl 0 rfl) ?_
  refine r_iload_n C dX8_root_1 rfl (lv_at hl 1 rfl) ?_
  refine r_callVi (As := [.int x1]) (rest := []) C hl ml_X8_135 rc_0 (gX8_isTree l C.inj x1 σ) ⟨Nat.le_of_ble_eq_true rfl, Nat.le_of_ble_eq_true rfl⟩ ⟨Nat.le_of_ble_eq_true rfl, Nat.le_of_ble_eq_true rfl⟩ rfl rfl (Nat.le_of_ble_eq_true rfl) dX8_root_2 (fun r1 σ2 => ?_)
  refine r_if_ne (tgt := 10) C dX8_root_5 (by decide) ?_ ?_
  · refine r_aload_n C dX8_root_10 rfl (lv_at hl 0 rfl) ?_
    refine r_iconst (v := (-1)) C dX8_root_11 (by decide) ?_
    refine r_callVv (As := [.int (-1)]) (rest := []) C hl ml_X8_164 rc_0 (gX8_loadSets l C.inj (-1) σ2) ⟨Nat.le_of_ble_eq_true rfl, Nat.le_of_ble_eq_true rfl⟩ ⟨Nat.le_of_ble_eq_true rfl, Nat.le_of_ble_eq_true rfl⟩ rfl rfl (Nat.le_of_ble_eq_true rfl) dX8_root_12 (fun r3 σ4 => ?_)
    refine r_aload_n C dX8_root_15 rfl (lv_at hl 0 rfl) ?_
    refine r_getR C fl_X8_55 lf_0_7 dX8_root_16 ?_
    refine r_iload_n C dX8_root_19 rfl (lv_at hl 1 rfl) ?_
    refine r_aload_n C dX8_root_20 rfl (lv_at hl 0 rfl) ?_
    refine r_getR C fl_X8_19 lf_0_1 dX8_root_21 ?_
    refine r_getIN C fn_X8_113 lf_4_1 dX8_root_24 ?_
    refine r_callVv (As := [.int x1, .int (σ4 4 1)]) (rest := []) C hl ml_X8_173 rc_25 (gX7_grow l C.inj x1 (σ4 4 1) σ4) ⟨Nat.le_of_ble_eq_true rfl, Nat.le_of_ble_eq_true rfl⟩ ⟨Nat.le_of_ble_eq_true rfl, Nat.le_of_ble_eq_true rfl⟩ rfl rfl (Nat.le_of_ble_eq_true rfl) dX8_root_27 (fun r5 σ6 => ?_)
    refine r_iconst (v := 0) C dX8_root_30 (by decide) ?_
    refine r_istore_n (lv' := [(2, .int 0), (0, .ref (ad 0)), (1, .int x1)]) C dX8_root_31 rfl hl (by decide) rfl (fun ls hl => ?_)
    refine r_bipush (v := (-9)) C dX8_root_32 (by decide) ?_
    refine r_istore_n (lv' := [(3, .int (-9)), (2, .int 0), (0, .ref (ad 0)), (1, .int x1)]) C dX8_root_34 rfl hl (by decide) rfl (fun ls hl => ?_)
    refine r_iconst (v := 0) C dX8_root_35 (by decide) ?_
    refine r_istore (lv' := [(4, .int 0), (3, .int (-9)), (2, .int 0), (0, .ref (ad 0)), (1, .int x1)]) C dX8_root_36 hl (by decide) rfl (fun ls hl => ?_)
    refine wX8_root_38  C _ ?_ 300 0 (-9) 0 σ6 ls (lv_sub hl [3, 2, 1, 0] rfl)
    · intro x3 σ10 ls hl
      refine r_iload_n C dX8_root_82 rfl (lv_at hl 0 rfl) ?_
      exact r_iret C rfl dX8_root_83
  · refine r_iconst (v := (-1)) C dX8_root_8 (by decide) ?_
    exact r_iret C rfl dX8_root_9

set_option maxRecDepth 100000 in
def BX8_treeWith_17 (k53 : Mem → Option (Int32 × Mem)) (rec : Int32 → Int32 → Int32 → Int32 → Mem → Option (Int32 × Mem)) (x1 : Int32) (x3 : Int32) (x4 : Int32) (x5 : Int32) (σ : Mem) : Option (Int32 × Mem) := if (x4 : Int32) ≤ x5 then k53 σ else bnd (fX5_at 43 105 x5 σ) (fun r3 σ4 => if (r3 : Int32) = x1 then if (x3 : Int32) = 0 then some (x5, σ4) else rec x1 (x3 + (-1)) x4 (x5 + 1) σ4 else rec x1 x3 x4 (x5 + 1) σ4)
def LX8_treeWith_17 (k53 : Mem → Option (Int32 × Mem)) : Nat → Int32 → Int32 → Int32 → Int32 → Mem → Option (Int32 × Mem)
  | 0 => fun _ _ _ _ _ => none
  | n + 1 => BX8_treeWith_17 k53 (LX8_treeWith_17 k53 n)
set_option maxRecDepth 100000 in
set_option maxHeartbeats 4000000 in
theorem wX8_treeWith_17 {p : Program} {l : Launch} {e : Env} {s : State} {m : MethodId} {args : Array Value} {below : List Frame} {meth : Method} {c : Code} {D : va_G} {cI cZ : ClassId} {ad : Nat → Nat} {tT : Nat} {A : Nat → Prop} (C : CX p s m args meth c cX8_treeWith 6 RX8 (some .int) D cI cZ ad tT A) (k53 : Mem → Option (Int32 × Mem)) (hk53 : ∀ (σ : Mem) (ls : Array Slot), lv_has ls 6 [] → WM p l e 1 21 s m args below meth c D cI cZ ad A rvi (k53 σ) σ (F0 m 53 ls [])) :
    ∀ (n0 : Nat), ∀ (x1 : Int32) (x3 : Int32) (x4 : Int32) (x5 : Int32) (σ : Mem) (ls : Array Slot), lv_has ls 6 [(0, .ref (ad 0)), (1, .int x1), (3, .int x3), (4, .int x4), (5, .int x5)] → WM p l e 1 21 s m args below meth c D cI cZ ad A rvi (LX8_treeWith_17 k53 n0 x1 x3 x4 x5 σ) σ (F0 m 17 ls []) := by
  intro n0
  induction n0 with
  | zero => intro x1 x3 x4 x5 σ ls hl; exact r_none
  | succ n0 ih =>
    intro x1 x3 x4 x5 σ ls hl
    show WM p l e 1 21 s m args below meth c D cI cZ ad A rvi (BX8_treeWith_17 k53 (LX8_treeWith_17 k53 n0) x1 x3 x4 x5 σ) σ (F0 m 17 ls [])
    unfold BX8_treeWith_17
    refine r_iload C dX8_treeWith_17 (lv_at hl 4 rfl) ?_
    refine r_iload C dX8_treeWith_19 (lv_at hl 3 rfl) ?_
    refine r_icmp_ge (tgt := 53) C dX8_treeWith_21 (by decide) ?_ ?_
    · exact hk53 σ ls (lv_sub hl [] rfl)
    · refine r_aload_n C dX8_treeWith_24 rfl (lv_at hl 0 rfl) ?_
      refine r_getR C fl_X8_69 lf_0_10 dX8_treeWith_25 ?_
      refine r_iload C dX8_treeWith_28 (lv_at hl 4 rfl) ?_
      refine r_callVi (As := [.int x5]) (rest := []) C hl ml_X8_152 rc_43 (gX5_at l C.inj 43 105 row_43 x5 σ) ⟨Nat.le_of_ble_eq_true rfl, Nat.le_of_ble_eq_true rfl⟩ ⟨Nat.le_of_ble_eq_true rfl, Nat.le_of_ble_eq_true rfl⟩ rfl rfl (Nat.le_of_ble_eq_true rfl) dX8_treeWith_30 (fun r3 σ4 => ?_)
      refine r_iload_n C dX8_treeWith_33 rfl (lv_at hl 1 rfl) ?_
      refine r_icmp_ne (tgt := 47) C dX8_treeWith_34 (by decide) ?_ ?_
      · refine r_iinc (v := x5 + 1) (lv' := [(5, .int (x5 + 1)), (0, .ref (ad 0)), (1, .int x1), (3, .int x3), (4, .int x4)]) C dX8_treeWith_47 hl (k := 4) rfl rfl (by decide) rfl (fun ls hl => ?_)
        refine r_goto (tgt := 17) C dX8_treeWith_50 (by decide) ?_
        exact ih x1 x3 x4 (x5 + 1) σ4 ls (lv_sub hl [1, 2, 3, 4, 0] rfl)
      · refine r_iload_n C dX8_treeWith_37 rfl (lv_at hl 2 rfl) ?_
        refine r_if_ne (tgt := 44) C dX8_treeWith_38 (by decide) ?_ ?_
        · refine r_iinc (v := x3 + (-1)) (lv' := [(3, .int (x3 + (-1))), (0, .ref (ad 0)), (1, .int x1), (4, .int x4), (5, .int x5)]) C dX8_treeWith_44 hl (k := 2) rfl rfl (by decide) rfl (fun ls hl => ?_)
          refine r_iinc (v := x5 + 1) (lv' := [(5, .int (x5 + 1)), (3, .int (x3 + (-1))), (0, .ref (ad 0)), (1, .int x1), (4, .int x4)]) C dX8_treeWith_47 hl (k := 4) rfl rfl (by decide) rfl (fun ls hl => ?_)
          refine r_goto (tgt := 17) C dX8_treeWith_50 (by decide) ?_
          exact ih x1 (x3 + (-1)) x4 (x5 + 1) σ4 ls (lv_sub hl [2, 3, 1, 4, 0] rfl)
        · refine r_iload C dX8_treeWith_41 (lv_at hl 4 rfl) ?_
          exact r_iret C rfl dX8_treeWith_43
set_option maxRecDepth 100000 in
def fX8_treeWith (x1 : Int32) (x2 : Int32) (σ : Mem) : Option (Int32 × Mem) := bnd (fX8_treesOf (σ 4 1) σ) (fun r1 σ2 => LX8_treeWith_17 (fun σ5 => some ((-9), σ5)) 300 x1 x2 r1 0 σ2)
set_option maxRecDepth 100000 in
set_option maxHeartbeats 4000000 in
theorem gX8_treeWith (l : Launch) {D : va_G} {cI cZ : ClassId} {ad : Nat → Nat} {tT : Nat} (hi : INJ ad) (x1 : Int32) (x2 : Int32) (σ : Mem) : GM l D cI cZ ad tT yX8_treeWith cX8_treeWith 6 (some .int) 1 21 rvi [.ref (ad 0), .int x1, .int x2] σ (fX8_treeWith x1 x2 σ) := by
  refine gm_of (lv := [(0, .ref (ad 0)), (1, .int x1), (2, .int x2)]) (own := RX8) hi (by decide +kernel) rfl (Nat.le_of_ble_eq_true rfl) rfl ?_
  intro p e s m args below meth c A C ls hl
  unfold fX8_treeWith
  refine r_iload_n C dX8_treeWith_0 rfl (lv_at hl 2 rfl) ?_
  refine r_istore_n (lv' := [(3, .int x2), (0, .ref (ad 0)), (1, .int x1), (2, .int x2)]) C dX8_treeWith_1 rfl hl (by decide) rfl (fun ls hl => ?_)
  refine r_aload_n C dX8_treeWith_2 rfl (lv_at hl 1 rfl) ?_
  refine r_getR C fl_X8_19 lf_0_1 dX8_treeWith_3 ?_
  refine r_getIN C fn_X8_113 lf_4_1 dX8_treeWith_6 ?_
  refine r_callSi (As := [.int (σ 4 1)]) (rest := []) C hl ml_X8_182 (gX8_treesOf l C.inj (σ 4 1) σ) ⟨Nat.le_of_ble_eq_true rfl, Nat.le_of_ble_eq_true rfl⟩ ⟨Nat.le_of_ble_eq_true rfl, Nat.le_of_ble_eq_true rfl⟩ rfl rfl (Nat.le_of_ble_eq_true rfl) dX8_treeWith_9 (fun r1 σ2 => ?_)
  refine r_istore (lv' := [(4, .int r1), (3, .int x2), (0, .ref (ad 0)), (1, .int x1), (2, .int x2)]) C dX8_treeWith_12 hl (by decide) rfl (fun ls hl => ?_)
  refine r_iconst (v := 0) C dX8_treeWith_14 (by decide) ?_
  refine r_istore (lv' := [(5, .int 0), (4, .int r1), (3, .int x2), (0, .ref (ad 0)), (1, .int x1), (2, .int x2)]) C dX8_treeWith_15 hl (by decide) rfl (fun ls hl => ?_)
  refine wX8_treeWith_17  C _ ?_ 300 x1 x2 r1 0 σ2 ls (lv_sub hl [3, 4, 2, 1, 0] rfl)
  · intro σ5 ls hl
    refine r_bipush (v := (-9)) C dX8_treeWith_53 (by decide) ?_
    exact r_iret C rfl dX8_treeWith_55
