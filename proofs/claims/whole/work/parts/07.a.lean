set_option maxRecDepth 100000 in
def fX5_put (ca : Nat) (na : Nat) (x1 : Int32) (x2 : Int32) (σ : Mem) : Option (Int32 × Mem) := if (x1 : Int32) < 0 then some (0, σ) else if (nI na : Int32) ≤ x1 then some (0, σ) else gd na x1 (letm (stm σ (ca + 1) x1.toNatClampNeg x2) (fun σ1 => some (0, σ1)))
set_option maxRecDepth 100000 in
set_option maxHeartbeats 4000000 in
theorem gX5_put (l : Launch) {D : va_G} {cI cZ : ClassId} {ad : Nat → Nat} {tT : Nat} (hi : INJ ad) (ca : Nat) (na : Nat) (hca : ROW ca na) (x1 : Int32) (x2 : Int32) (σ : Mem) : GM l D cI cZ ad tT yX5_put cX5_put 3 (none) 0 0 rvv [.ref (ad ca), .int x1, .int x2] σ (fX5_put ca na x1 x2 σ) := by
  refine gm_of (lv := [(0, .ref (ad ca)), (1, .int x1), (2, .int x2)]) (own := RX5) hi (by decide +kernel) rfl (Nat.le_of_ble_eq_true rfl) rfl ?_
  intro p e s m args below meth c A C ls hl
  unfold fX5_put
  refine r_iload_n C dX5_put_0 rfl (lv_at hl 1 rfl) ?_
  refine r_if_lt (tgt := 20) C dX5_put_1 (by decide) ?_ ?_
  · exact r_vret C rfl dX5_put_20
  · refine r_iload_n C dX5_put_4 rfl (lv_at hl 1 rfl) ?_
    refine r_aload_n C dX5_put_5 rfl (lv_at hl 0 rfl) ?_
    refine r_getR C fl_X5_13 (lf5 hca) dX5_put_6 ?_
    refine r_alen (v := nI na) C hca.2 rfl dX5_put_9 ?_
    refine r_icmp_ge (tgt := 20) C dX5_put_10 (by decide) ?_ ?_
    · exact r_vret C rfl dX5_put_20
    · refine r_aload_n C dX5_put_13 rfl (lv_at hl 0 rfl) ?_
      refine r_getR C fl_X5_13 (lf5 hca) dX5_put_14 ?_
      refine r_iload_n C dX5_put_17 rfl (lv_at hl 1 rfl) ?_
      refine r_iload_n C dX5_put_18 rfl (lv_at hl 2 rfl) ?_
      refine r_iast C hca.2 dX5_put_19 ?_
      refine r_letm (fun σ1 => ?_)
      exact r_vret C rfl dX5_put_20

set_option maxRecDepth 100000 in
def fX6_append (x1 : Int32) (σ : Mem) : Option (Int32 × Mem) := bnd (fX5_put 2 90 (σ 1 1) x1 σ) (fun r1 σ2 => letm (stm σ2 1 1 ((σ2 1 1) + 1)) (fun σ3 => some (0, σ3)))
set_option maxRecDepth 100000 in
set_option maxHeartbeats 4000000 in
theorem gX6_append (l : Launch) {D : va_G} {cI cZ : ClassId} {ad : Nat → Nat} {tT : Nat} (hi : INJ ad) (x1 : Int32) (σ : Mem) : GM l D cI cZ ad tT yX6_append cX6_append 2 (none) 1 22 rvv [.ref (ad 1), .int x1] σ (fX6_append x1 σ) := by
  refine gm_of (lv := [(0, .ref (ad 1)), (1, .int x1)]) (own := RX6) hi (by decide +kernel) rfl (Nat.le_of_ble_eq_true rfl) rfl ?_
  intro p e s m args below meth c A C ls hl
  unfold fX6_append
  refine r_aload_n C dX6_append_0 rfl (lv_at hl 0 rfl) ?_
  refine r_getR C fl_X6_14 lf_1_0 dX6_append_1 ?_
  refine r_aload_n C dX6_append_4 rfl (lv_at hl 0 rfl) ?_
  refine r_getI C fl_X6_20 lf_1_1 dX6_append_5 ?_
  refine r_iload_n C dX6_append_8 rfl (lv_at hl 1 rfl) ?_
  refine r_callVv (As := [.int (σ 1 1), .int x1]) (rest := []) C hl ml_X6_24 rc_2 (gX5_put l C.inj 2 90 row_2 (σ 1 1) x1 σ) ⟨Nat.le_of_ble_eq_true rfl, Nat.le_of_ble_eq_true rfl⟩ ⟨Nat.le_of_ble_eq_true rfl, Nat.le_of_ble_eq_true rfl⟩ rfl rfl (Nat.le_of_ble_eq_true rfl) dX6_append_9 (fun r1 σ2 => ?_)
  refine r_aload_n C dX6_append_12 rfl (lv_at hl 0 rfl) ?_
  refine r_dup C dX6_append_13 rfl ?_
  refine r_getI C fl_X6_20 lf_1_1 dX6_append_14 ?_
  refine r_iconst (v := 1) C dX6_append_17 (by decide) ?_
  refine r_iadd C dX6_append_18 ?_
  refine r_putI C fl_X6_20 fp_X6_1 rfl rfl lf_1_1 dX6_append_19 ?_
  refine r_letm (fun σ3 => ?_)
  exact r_vret C rfl dX6_append_22

set_option maxRecDepth 100000 in
def fX5_at (ca : Nat) (na : Nat) (x1 : Int32) (σ : Mem) : Option (Int32 × Mem) := if (x1 : Int32) < 0 then some (0, σ) else if (nI na : Int32) ≤ x1 then some (0, σ) else gd na x1 (some (σ (ca + 1) x1.toNatClampNeg, σ))
set_option maxRecDepth 100000 in
set_option maxHeartbeats 4000000 in
theorem gX5_at (l : Launch) {D : va_G} {cI cZ : ClassId} {ad : Nat → Nat} {tT : Nat} (hi : INJ ad) (ca : Nat) (na : Nat) (hca : ROW ca na) (x1 : Int32) (σ : Mem) : GM l D cI cZ ad tT yX5_at cX5_at 2 (some .int) 0 0 rvi [.ref (ad ca), .int x1] σ (fX5_at ca na x1 σ) := by
  refine gm_of (lv := [(0, .ref (ad ca)), (1, .int x1)]) (own := RX5) hi (by decide +kernel) rfl (Nat.le_of_ble_eq_true rfl) rfl ?_
  intro p e s m args below meth c A C ls hl
  unfold fX5_at
  refine r_iload_n C dX5_at_0 rfl (lv_at hl 1 rfl) ?_
  refine r_if_lt (tgt := 22) C dX5_at_1 (by decide) ?_ ?_
  · refine r_iconst (v := 0) C dX5_at_22 (by decide) ?_
    exact r_iret C rfl dX5_at_23
  · refine r_iload_n C dX5_at_4 rfl (lv_at hl 1 rfl) ?_
    refine r_aload_n C dX5_at_5 rfl (lv_at hl 0 rfl) ?_
    refine r_getR C fl_X5_13 (lf5 hca) dX5_at_6 ?_
    refine r_alen (v := nI na) C hca.2 rfl dX5_at_9 ?_
    refine r_icmp_ge (tgt := 22) C dX5_at_10 (by decide) ?_ ?_
    · refine r_iconst (v := 0) C dX5_at_22 (by decide) ?_
      exact r_iret C rfl dX5_at_23
    · refine r_aload_n C dX5_at_13 rfl (lv_at hl 0 rfl) ?_
      refine r_getR C fl_X5_13 (lf5 hca) dX5_at_14 ?_
      refine r_iload_n C dX5_at_17 rfl (lv_at hl 1 rfl) ?_
      refine r_iald C hca.2 dX5_at_18 ?_
      refine r_goto (tgt := 23) C dX5_at_19 (by decide) ?_
      exact r_iret C rfl dX5_at_23

set_option maxRecDepth 100000 in
def fX6_endItem (x1 : Int32) (σ : Mem) : Option (Int32 × Mem) := if (x1 : Int32) < 1 then some (0, σ) else jn (fun x1 σ1 => letm (stm σ1 7 2 x1) (fun σ2 => letm (stm σ2 7 1 ((σ2 7 1) + 1)) (fun σ3 => some (1, σ3)))) (fun k22 => if (σ 7 1 : Int32) ≤ 0 then k22 x1 σ else if (σ 7 2 : Int32) ≤ x1 then k22 x1 σ else some (0, σ))
set_option maxRecDepth 100000 in
set_option maxHeartbeats 4000000 in
theorem gX6_endItem (l : Launch) {D : va_G} {cI cZ : ClassId} {ad : Nat → Nat} {tT : Nat} (hi : INJ ad) (x1 : Int32) (σ : Mem) : GM l D cI cZ ad tT yX6_endItem cX6_endItem 2 (some .boolean) 0 0 rvi [.ref (ad 7), .int x1] σ (fX6_endItem x1 σ) := by
  refine gm_of (lv := [(0, .ref (ad 7)), (1, .int x1)]) (own := RX6) hi (by decide +kernel) rfl (Nat.le_of_ble_eq_true rfl) rfl ?_
  intro p e s m args below meth c A C ls hl
  unfold fX6_endItem
  refine r_iload_n C dX6_endItem_0 rfl (lv_at hl 1 rfl) ?_
  refine r_iconst (v := 1) C dX6_endItem_1 (by decide) ?_
  refine r_icmp_lt (tgt := 20) C dX6_endItem_2 (by decide) ?_ ?_
  · refine r_iconst (v := 0) C dX6_endItem_20 (by decide) ?_
    exact r_zret C rfl (by decide) dX6_endItem_21
  · refine r_aload_n C dX6_endItem_5 rfl (lv_at hl 0 rfl) ?_
    refine r_getIN C fn_X6_28 lf_7_1 dX6_endItem_6 ?_
    refine r_jn (fun (k22 : Int32 → Mem → Option (Int32 × Mem)) => ∀ (x1 : Int32) (σ : Mem) (ls : Array Slot), lv_has ls 2 [(0, .ref (ad 7)), (1, .int x1)] → WM p l e 0 0 s m args below meth c D cI cZ ad A rvi (k22 x1 σ) σ (F0 m 22 ls [])) ?_ ?_
    · intro x1 σ1 ls hl
      refine r_aload_n C dX6_endItem_22 rfl (lv_at hl 0 rfl) ?_
      refine r_iload_n C dX6_endItem_23 rfl (lv_at hl 1 rfl) ?_
      refine r_putIN C fn_X6_33 fp_X4_2 rfl rfl lf_7_2 dX6_endItem_24 ?_
      refine r_letm (fun σ2 => ?_)
      refine r_aload_n C dX6_endItem_27 rfl (lv_at hl 0 rfl) ?_
      refine r_dup C dX6_endItem_28 rfl ?_
      refine r_getIN C fn_X6_28 lf_7_1 dX6_endItem_29 ?_
      refine r_iconst (v := 1) C dX6_endItem_32 (by decide) ?_
      refine r_iadd C dX6_endItem_33 ?_
      refine r_putIN C fn_X6_28 fp_X4_1 rfl rfl lf_7_1 dX6_endItem_34 ?_
      refine r_letm (fun σ3 => ?_)
      refine r_iconst (v := 1) C dX6_endItem_37 (by decide) ?_
      exact r_zret C rfl (by decide) dX6_endItem_38
    · intro k22 hk22
      refine r_if_le (tgt := 22) C dX6_endItem_9 (by decide) ?_ ?_
      · exact hk22 x1 σ ls (lv_sub hl [0, 1] rfl)
      · refine r_iload_n C dX6_endItem_12 rfl (lv_at hl 1 rfl) ?_
        refine r_aload_n C dX6_endItem_13 rfl (lv_at hl 0 rfl) ?_
        refine r_getIN C fn_X6_33 lf_7_2 dX6_endItem_14 ?_
        refine r_icmp_ge (tgt := 22) C dX6_endItem_17 (by decide) ?_ ?_
        · exact hk22 x1 σ ls (lv_sub hl [0, 1] rfl)
        · refine r_iconst (v := 0) C dX6_endItem_20 (by decide) ?_
          exact r_zret C rfl (by decide) dX6_endItem_21

set_option maxRecDepth 100000 in
def fX6_readingFor (x0 : Int32) (σ : Mem) : Option (Int32 × Mem) := if (x0 : Int32) = 63 then some (4, σ) else if (x0 : Int32) < 97 then some ((-1), σ) else if (100 : Int32) < x0 then some ((-1), σ) else some (x0 - 97, σ)
set_option maxRecDepth 100000 in
set_option maxHeartbeats 4000000 in
theorem gX6_readingFor (l : Launch) {D : va_G} {cI cZ : ClassId} {ad : Nat → Nat} {tT : Nat} (hi : INJ ad) (x0 : Int32) (σ : Mem) : GM l D cI cZ ad tT yX6_readingFor cX6_readingFor 1 (some .int) 0 0 rvi [.int x0] σ (fX6_readingFor x0 σ) := by
  refine gm_of (lv := [(0, .int x0)]) (own := RX6) hi (by decide +kernel) rfl (Nat.le_of_ble_eq_true rfl) rfl ?_
  intro p e s m args below meth c A C ls hl
  unfold fX6_readingFor
  refine r_iload_n C dX6_readingFor_0 rfl (lv_at hl 0 rfl) ?_
  refine r_bipush (v := 63) C dX6_readingFor_1 (by decide) ?_
  refine r_icmp_ne (tgt := 8) C dX6_readingFor_3 (by decide) ?_ ?_
  · refine r_iload_n C dX6_readingFor_8 rfl (lv_at hl 0 rfl) ?_
    refine r_bipush (v := 97) C dX6_readingFor_9 (by decide) ?_
    refine r_icmp_lt (tgt := 27) C dX6_readingFor_11 (by decide) ?_ ?_
    · refine r_iconst (v := (-1)) C dX6_readingFor_27 (by decide) ?_
      exact r_iret C rfl dX6_readingFor_28
    · refine r_iload_n C dX6_readingFor_14 rfl (lv_at hl 0 rfl) ?_
      refine r_bipush (v := 100) C dX6_readingFor_15 (by decide) ?_
      refine r_icmp_gt (tgt := 27) C dX6_readingFor_17 (by decide) ?_ ?_
      · refine r_iconst (v := (-1)) C dX6_readingFor_27 (by decide) ?_
        exact r_iret C rfl dX6_readingFor_28
      · refine r_iload_n C dX6_readingFor_20 rfl (lv_at hl 0 rfl) ?_
        refine r_bipush (v := 97) C dX6_readingFor_21 (by decide) ?_
        refine r_isub C dX6_readingFor_23 ?_
        refine r_goto (tgt := 28) C dX6_readingFor_24 (by decide) ?_
        exact r_iret C rfl dX6_readingFor_28
  · refine r_iconst (v := 4) C dX6_readingFor_6 (by decide) ?_
    exact r_iret C rfl dX6_readingFor_7

set_option maxRecDepth 100000 in
def fX6_mostReadings (σ : Mem) : Option (Int32 × Mem) := if (σ 7 1 : Int32) = 0 then some (8, σ) else some (σ 7 2, σ)
set_option maxRecDepth 100000 in
set_option maxHeartbeats 4000000 in
theorem gX6_mostReadings (l : Launch) {D : va_G} {cI cZ : ClassId} {ad : Nat → Nat} {tT : Nat} (hi : INJ ad) (σ : Mem) : GM l D cI cZ ad tT yX6_mostReadings cX6_mostReadings 1 (some .int) 0 0 rvi [.ref (ad 7)] σ (fX6_mostReadings σ) := by
  refine gm_of (lv := [(0, .ref (ad 7))]) (own := RX6) hi (by decide +kernel) rfl (Nat.le_of_ble_eq_true rfl) rfl ?_
  intro p e s m args below meth c A C ls hl
  unfold fX6_mostReadings
  refine r_aload_n C dX6_mostReadings_0 rfl (lv_at hl 0 rfl) ?_
  refine r_getIN C fn_X6_28 lf_7_1 dX6_mostReadings_1 ?_
  refine r_if_ne (tgt := 12) C dX6_mostReadings_4 (by decide) ?_ ?_
  · refine r_aload_n C dX6_mostReadings_12 rfl (lv_at hl 0 rfl) ?_
    refine r_getIN C fn_X6_33 lf_7_2 dX6_mostReadings_13 ?_
    exact r_iret C rfl dX6_mostReadings_16
  · refine r_bipush (v := 8) C dX6_mostReadings_7 (by decide) ?_
    refine r_goto (tgt := 16) C dX6_mostReadings_9 (by decide) ?_
    exact r_iret C rfl dX6_mostReadings_16

set_option maxRecDepth 100000 in
def fX4_cellOf (ca : Nat) (x1 : Int32) (x2 : Int32) (σ : Mem) : Option (Int32 × Mem) := some ((x1 * 8) + x2, σ)
set_option maxRecDepth 100000 in
set_option maxHeartbeats 4000000 in
theorem gX4_cellOf (l : Launch) {D : va_G} {cI cZ : ClassId} {ad : Nat → Nat} {tT : Nat} (hi : INJ ad) (ca : Nat) (hca : RDG ca) (x1 : Int32) (x2 : Int32) (σ : Mem) : GM l D cI cZ ad tT yX4_cellOf cX4_cellOf 3 (some .int) 0 0 rvi [.ref (ad ca), .int x1, .int x2] σ (fX4_cellOf ca x1 x2 σ) := by
  refine gm_of (lv := [(0, .ref (ad ca)), (1, .int x1), (2, .int x2)]) (own := RX4) hi (by decide +kernel) rfl (Nat.le_of_ble_eq_true rfl) rfl ?_
  intro p e s m args below meth c A C ls hl
  unfold fX4_cellOf
  refine r_iload_n C dX4_cellOf_0 rfl (lv_at hl 1 rfl) ?_
  refine r_bipush (v := 8) C dX4_cellOf_1 (by decide) ?_
  refine r_imul C dX4_cellOf_3 ?_
  refine r_iload_n C dX4_cellOf_4 rfl (lv_at hl 2 rfl) ?_
  refine r_iadd C dX4_cellOf_5 ?_
  exact r_iret C rfl dX4_cellOf_6

set_option maxRecDepth 100000 in
def fX4_put (ca : Nat) (x1 : Int32) (x2 : Int32) (x3 : Int32) (σ : Mem) : Option (Int32 × Mem) := bnd (fX4_cellOf ca x1 x2 σ) (fun r1 σ2 => bnd (fX5_put (ca + 1) 48 r1 x3 σ2) (fun r3 σ4 => some (0, σ4)))
set_option maxRecDepth 100000 in
set_option maxHeartbeats 4000000 in
theorem gX4_put (l : Launch) {D : va_G} {cI cZ : ClassId} {ad : Nat → Nat} {tT : Nat} (hi : INJ ad) (ca : Nat) (hca : RDG ca) (x1 : Int32) (x2 : Int32) (x3 : Int32) (σ : Mem) : GM l D cI cZ ad tT yX4_put cX4_put 4 (none) 1 22 rvv [.ref (ad ca), .int x1, .int x2, .int x3] σ (fX4_put ca x1 x2 x3 σ) := by
  refine gm_of (lv := [(0, .ref (ad ca)), (1, .int x1), (2, .int x2), (3, .int x3)]) (own := RX4) hi (by decide +kernel) rfl (Nat.le_of_ble_eq_true rfl) rfl ?_
  intro p e s m args below meth c A C ls hl
  unfold fX4_put
  refine r_aload_n C dX4_put_0 rfl (lv_at hl 0 rfl) ?_
  refine r_getR C fl_X4_14 (lf4_0 hca) dX4_put_1 ?_
  refine r_aload_n C dX4_put_4 rfl (lv_at hl 0 rfl) ?_
  refine r_iload_n C dX4_put_5 rfl (lv_at hl 1 rfl) ?_
  refine r_iload_n C dX4_put_6 rfl (lv_at hl 2 rfl) ?_
  refine r_callVi (As := [.int x1, .int x2]) (rest := [.ref (ad (ca + 1))]) C hl ml_X4_38 (rc4 hca) (gX4_cellOf l C.inj ca hca x1 x2 σ) ⟨Nat.le_of_ble_eq_true rfl, Nat.le_of_ble_eq_true rfl⟩ ⟨Nat.le_of_ble_eq_true rfl, Nat.le_of_ble_eq_true rfl⟩ rfl rfl (Nat.le_of_ble_eq_true rfl) dX4_put_7 (fun r1 σ2 => ?_)
  refine r_iload_n C dX4_put_10 rfl (lv_at hl 3 rfl) ?_
  refine r_callVv (As := [.int r1, .int x3]) (rest := []) C hl ml_X4_46 (rc5 hca.2) (gX5_put l C.inj (ca + 1) 48 hca.2 r1 x3 σ2) ⟨Nat.le_of_ble_eq_true rfl, Nat.le_of_ble_eq_true rfl⟩ ⟨Nat.le_of_ble_eq_true rfl, Nat.le_of_ble_eq_true rfl⟩ rfl rfl (Nat.le_of_ble_eq_true rfl) dX4_put_11 (fun r3 σ4 => ?_)
  exact r_vret C rfl dX4_put_14

set_option maxRecDepth 100000 in
def BX6_tell_17 (k143 : Int32 → Mem → Option (Int32 × Mem)) (rec : Int32 → Int32 → Int32 → Mem → Option (Int32 × Mem)) (x2 : Int32) (x3 : Int32) (x4 : Int32) (σ : Mem) : Option (Int32 × Mem) := if (σ 1 1 : Int32) ≤ x4 then k143 x2 σ else bnd (fX5_at 2 90 x4 σ) (fun r3 σ4 => if (r3 : Int32) = 32 then rec x2 x3 (x4 + 1) σ4 else if (x2 : Int32) = 0 then if (r3 : Int32) = 109 then if (σ4 7 1 : Int32) < 6 then rec 1 0 (x4 + 1) σ4 else some (x4, σ4) else some (x4, σ4) else if (r3 : Int32) = 59 then bnd (fX6_endItem x3 σ4) (fun r11 σ12 => if (r11 : Int32) = 0 then some (x4, σ12) else rec 0 x3 (x4 + 1) σ12) else bnd (fX6_readingFor r3 σ4) (fun r5 σ6 => if (r5 : Int32) < 0 then some (x4, σ6) else bnd (fX6_mostReadings σ6) (fun r7 σ8 => if (x3 : Int32) < r7 then bnd (fX4_put 7 (σ8 7 1) x3 r5 σ8) (fun r9 σ10 => rec x2 (x3 + 1) (x4 + 1) σ10) else some (x4, σ8))))
def LX6_tell_17 (k143 : Int32 → Mem → Option (Int32 × Mem)) : Nat → Int32 → Int32 → Int32 → Mem → Option (Int32 × Mem)
  | 0 => fun _ _ _ _ => none
  | n + 1 => BX6_tell_17 k143 (LX6_tell_17 k143 n)
set_option maxRecDepth 100000 in
set_option maxHeartbeats 4000000 in
theorem wX6_tell_17 {p : Program} {l : Launch} {e : Env} {s : State} {m : MethodId} {args : Array Value} {below : List Frame} {meth : Method} {c : Code} {D : va_G} {cI cZ : ClassId} {ad : Nat → Nat} {tT : Nat} {A : Nat → Prop} (C : CX p s m args meth c cX6_tell 7 RX6 (some .int) D cI cZ ad tT A) (k143 : Int32 → Mem → Option (Int32 × Mem)) (hk143 : ∀ (x2 : Int32) (σ : Mem) (ls : Array Slot), lv_has ls 7 [(0, .ref (ad 1)), (2, .int x2)] → WM p l e 2 45 s m args below meth c D cI cZ ad A rvi (k143 x2 σ) σ (F0 m 143 ls [])) :
    ∀ (n0 : Nat), ∀ (x2 : Int32) (x3 : Int32) (x4 : Int32) (σ : Mem) (ls : Array Slot), lv_has ls 7 [(0, .ref (ad 1)), (1, .ref (ad 7)), (2, .int x2), (3, .int x3), (4, .int x4)] → WM p l e 2 45 s m args below meth c D cI cZ ad A rvi (LX6_tell_17 k143 n0 x2 x3 x4 σ) σ (F0 m 17 ls []) := by
  intro n0
  induction n0 with
  | zero => intro x2 x3 x4 σ ls hl; exact r_none
  | succ n0 ih =>
    intro x2 x3 x4 σ ls hl
    show WM p l e 2 45 s m args below meth c D cI cZ ad A rvi (BX6_tell_17 k143 (LX6_tell_17 k143 n0) x2 x3 x4 σ) σ (F0 m 17 ls [])
    unfold BX6_tell_17
    refine r_iload C dX6_tell_17 (lv_at hl 4 rfl) ?_
    refine r_aload_n C dX6_tell_19 rfl (lv_at hl 0 rfl) ?_
    refine r_getI C fl_X6_20 lf_1_1 dX6_tell_20 ?_
    refine r_icmp_ge (tgt := 143) C dX6_tell_23 (by decide) ?_ ?_
    · exact hk143 x2 σ ls (lv_sub hl [0, 2] rfl)
    · refine r_aload_n C dX6_tell_26 rfl (lv_at hl 0 rfl) ?_
      refine r_getR C fl_X6_14 lf_1_0 dX6_tell_27 ?_
      refine r_iload C dX6_tell_30 (lv_at hl 4 rfl) ?_
      refine r_callVi (As := [.int x4]) (rest := []) C hl ml_X6_36 rc_2 (gX5_at l C.inj 2 90 row_2 x4 σ) ⟨Nat.le_of_ble_eq_true rfl, Nat.le_of_ble_eq_true rfl⟩ ⟨Nat.le_of_ble_eq_true rfl, Nat.le_of_ble_eq_true rfl⟩ rfl rfl (Nat.le_of_ble_eq_true rfl) dX6_tell_32 (fun r3 σ4 => ?_)
      refine r_istore (lv' := [(5, .int r3), (0, .ref (ad 1)), (1, .ref (ad 7)), (2, .int x2), (3, .int x3), (4, .int x4)]) C dX6_tell_35 hl (by decide) rfl (fun ls hl => ?_)
      refine r_iload C dX6_tell_37 (lv_at hl 0 rfl) ?_
      refine r_bipush (v := 32) C dX6_tell_39 (by decide) ?_
      refine r_icmp_ne (tgt := 47) C dX6_tell_41 (by decide) ?_ ?_
      · refine r_iload_n C dX6_tell_47 rfl (lv_at hl 3 rfl) ?_
        refine r_if_ne (tgt := 77) C dX6_tell_48 (by decide) ?_ ?_
        · refine r_iload C dX6_tell_77 (lv_at hl 0 rfl) ?_
          refine r_bipush (v := 59) C dX6_tell_79 (by decide) ?_
          refine r_icmp_ne (tgt := 100) C dX6_tell_81 (by decide) ?_ ?_
          · refine r_iload C dX6_tell_100 (lv_at hl 0 rfl) ?_
            refine r_callSi (As := [.int r3]) (rest := []) C hl ml_X6_44 (gX6_readingFor l C.inj r3 σ4) ⟨Nat.le_of_ble_eq_true rfl, Nat.le_of_ble_eq_true rfl⟩ ⟨Nat.le_of_ble_eq_true rfl, Nat.le_of_ble_eq_true rfl⟩ rfl rfl (Nat.le_of_ble_eq_true rfl) dX6_tell_102 (fun r5 σ6 => ?_)
            refine r_istore (lv' := [(6, .int r5), (5, .int r3), (0, .ref (ad 1)), (1, .ref (ad 7)), (2, .int x2), (3, .int x3), (4, .int x4)]) C dX6_tell_105 hl (by decide) rfl (fun ls hl => ?_)
            refine r_iload C dX6_tell_107 (lv_at hl 0 rfl) ?_
            refine r_if_lt (tgt := 120) C dX6_tell_109 (by decide) ?_ ?_
            · refine r_iload C dX6_tell_120 (lv_at hl 6 rfl) ?_
              exact r_iret C rfl dX6_tell_122
            · refine r_iload_n C dX6_tell_112 rfl (lv_at hl 5 rfl) ?_
              refine r_aload_n C dX6_tell_113 rfl (lv_at hl 3 rfl) ?_
              refine r_callSi (As := [.ref (ad 7)]) (rest := [.int x3]) C hl ml_X6_47 (gX6_mostReadings l C.inj σ6) ⟨Nat.le_of_ble_eq_true rfl, Nat.le_of_ble_eq_true rfl⟩ ⟨Nat.le_of_ble_eq_true rfl, Nat.le_of_ble_eq_true rfl⟩ rfl rfl (Nat.le_of_ble_eq_true rfl) dX6_tell_114 (fun r7 σ8 => ?_)
              refine r_icmp_lt (tgt := 123) C dX6_tell_117 (by decide) ?_ ?_
              · refine r_aload_n C dX6_tell_123 rfl (lv_at hl 3 rfl) ?_
                refine r_aload_n C dX6_tell_124 rfl (lv_at hl 3 rfl) ?_
                refine r_getIN C fn_X6_28 lf_7_1 dX6_tell_125 ?_
                refine r_iload_n C dX6_tell_128 rfl (lv_at hl 5 rfl) ?_
                refine r_iload C dX6_tell_129 (lv_at hl 0 rfl) ?_
                refine r_callVv (As := [.int (σ8 7 1), .int x3, .int r5]) (rest := []) C hl ml_X6_51 rc_7 (gX4_put l C.inj 7 rdg_7 (σ8 7 1) x3 r5 σ8) ⟨Nat.le_of_ble_eq_true rfl, Nat.le_of_ble_eq_true rfl⟩ ⟨Nat.le_of_ble_eq_true rfl, Nat.le_of_ble_eq_true rfl⟩ rfl rfl (Nat.le_of_ble_eq_true rfl) dX6_tell_131 (fun r9 σ10 => ?_)
                refine r_iinc (v := x3 + 1) (lv' := [(3, .int (x3 + 1)), (6, .int r5), (5, .int r3), (0, .ref (ad 1)), (1, .ref (ad 7)), (2, .int x2), (4, .int x4)]) C dX6_tell_134 hl (k := 5) rfl rfl (by decide) rfl (fun ls hl => ?_)
                refine r_iinc (v := x4 + 1) (lv' := [(4, .int (x4 + 1)), (3, .int (x3 + 1)), (6, .int r5), (5, .int r3), (0, .ref (ad 1)), (1, .ref (ad 7)), (2, .int x2)]) C dX6_tell_137 hl (k := 6) rfl rfl (by decide) rfl (fun ls hl => ?_)
                refine r_goto (tgt := 17) C dX6_tell_140 (by decide) ?_
                exact ih x2 (x3 + 1) (x4 + 1) σ10 ls (lv_sub hl [4, 5, 6, 1, 0] rfl)
              · refine r_iload C dX6_tell_120 (lv_at hl 6 rfl) ?_
                exact r_iret C rfl dX6_tell_122
          · refine r_aload_n C dX6_tell_84 rfl (lv_at hl 2 rfl) ?_
            refine r_iload_n C dX6_tell_85 rfl (lv_at hl 4 rfl) ?_
            refine r_callSi (As := [.ref (ad 7), .int x3]) (rest := []) C hl ml_X6_40 (gX6_endItem l C.inj x3 σ4) ⟨Nat.le_of_ble_eq_true rfl, Nat.le_of_ble_eq_true rfl⟩ ⟨Nat.le_of_ble_eq_true rfl, Nat.le_of_ble_eq_true rfl⟩ rfl rfl (Nat.le_of_ble_eq_true rfl) dX6_tell_86 (fun r11 σ12 => ?_)
            refine r_if_ne (tgt := 95) C dX6_tell_89 (by decide) ?_ ?_
            · refine r_iconst (v := 0) C dX6_tell_95 (by decide) ?_
              refine r_istore_n (lv' := [(2, .int 0), (5, .int r3), (0, .ref (ad 1)), (1, .ref (ad 7)), (3, .int x3), (4, .int x4)]) C dX6_tell_96 rfl hl (by decide) rfl (fun ls hl => ?_)
              refine r_goto (tgt := 137) C dX6_tell_97 (by decide) ?_
              refine r_iinc (v := x4 + 1) (lv' := [(4, .int (x4 + 1)), (2, .int 0), (5, .int r3), (0, .ref (ad 1)), (1, .ref (ad 7)), (3, .int x3)]) C dX6_tell_137 hl (k := 5) rfl rfl (by decide) rfl (fun ls hl => ?_)
              refine r_goto (tgt := 17) C dX6_tell_140 (by decide) ?_
              exact ih 0 x3 (x4 + 1) σ12 ls (lv_sub hl [3, 4, 1, 5, 0] rfl)
            · refine r_iload C dX6_tell_92 (lv_at hl 5 rfl) ?_
              exact r_iret C rfl dX6_tell_94
        · refine r_iload C dX6_tell_51 (lv_at hl 0 rfl) ?_
          refine r_bipush (v := 109) C dX6_tell_53 (by decide) ?_
          refine r_icmp_ne (tgt := 67) C dX6_tell_55 (by decide) ?_ ?_
          · refine r_iload C dX6_tell_67 (lv_at hl 5 rfl) ?_
            exact r_iret C rfl dX6_tell_69
          · refine r_aload_n C dX6_tell_58 rfl (lv_at hl 2 rfl) ?_
            refine r_getIN C fn_X6_28 lf_7_1 dX6_tell_59 ?_
            refine r_bipush (v := 6) C dX6_tell_62 (by decide) ?_
            refine r_icmp_lt (tgt := 70) C dX6_tell_64 (by decide) ?_ ?_
            · refine r_iconst (v := 1) C dX6_tell_70 (by decide) ?_
              refine r_istore_n (lv' := [(2, .int 1), (5, .int r3), (0, .ref (ad 1)), (1, .ref (ad 7)), (3, .int x3), (4, .int x4)]) C dX6_tell_71 rfl hl (by decide) rfl (fun ls hl => ?_)
              refine r_iconst (v := 0) C dX6_tell_72 (by decide) ?_
              refine r_istore_n (lv' := [(3, .int 0), (2, .int 1), (5, .int r3), (0, .ref (ad 1)), (1, .ref (ad 7)), (4, .int x4)]) C dX6_tell_73 rfl hl (by decide) rfl (fun ls hl => ?_)
              refine r_goto (tgt := 137) C dX6_tell_74 (by decide) ?_
              refine r_iinc (v := x4 + 1) (lv' := [(4, .int (x4 + 1)), (3, .int 0), (2, .int 1), (5, .int r3), (0, .ref (ad 1)), (1, .ref (ad 7))]) C dX6_tell_137 hl (k := 5) rfl rfl (by decide) rfl (fun ls hl => ?_)
              refine r_goto (tgt := 17) C dX6_tell_140 (by decide) ?_
              exact ih 1 0 (x4 + 1) σ4 ls (lv_sub hl [4, 5, 2, 1, 0] rfl)
            · refine r_iload C dX6_tell_67 (lv_at hl 5 rfl) ?_
              exact r_iret C rfl dX6_tell_69
      · refine r_goto (tgt := 137) C dX6_tell_44 (by decide) ?_
        refine r_iinc (v := x4 + 1) (lv' := [(4, .int (x4 + 1)), (5, .int r3), (0, .ref (ad 1)), (1, .ref (ad 7)), (2, .int x2), (3, .int x3)]) C dX6_tell_137 hl (k := 5) rfl rfl (by decide) rfl (fun ls hl => ?_)
        refine r_goto (tgt := 17) C dX6_tell_140 (by decide) ?_
        exact ih x2 x3 (x4 + 1) σ4 ls (lv_sub hl [2, 3, 4, 5, 0] rfl)
set_option maxRecDepth 100000 in
def fX6_tell (σ : Mem) : Option (Int32 × Mem) := letm (stm σ 7 1 0) (fun σ1 => letm (stm σ1 7 2 0) (fun σ2 => LX6_tell_17 (fun x2 σ13 => if (x2 : Int32) = 0 then some ((-1), σ13) else some (σ13 1 1, σ13)) 300 0 0 0 σ2))
set_option maxRecDepth 100000 in
set_option maxHeartbeats 4000000 in
theorem gX6_tell (l : Launch) {D : va_G} {cI cZ : ClassId} {ad : Nat → Nat} {tT : Nat} (hi : INJ ad) (σ : Mem) : GM l D cI cZ ad tT yX6_tell cX6_tell 7 (some .int) 2 45 rvi [.ref (ad 1), .ref (ad 7)] σ (fX6_tell σ) := by
  refine gm_of (lv := [(0, .ref (ad 1)), (1, .ref (ad 7))]) (own := RX6) hi (by decide +kernel) rfl (Nat.le_of_ble_eq_true rfl) rfl ?_
  intro p e s m args below meth c A C ls hl
  unfold fX6_tell
  refine r_aload_n C dX6_tell_0 rfl (lv_at hl 1 rfl) ?_
  refine r_iconst (v := 0) C dX6_tell_1 (by decide) ?_
  refine r_putIN C fn_X6_28 fp_X4_1 rfl rfl lf_7_1 dX6_tell_2 ?_
  refine r_letm (fun σ1 => ?_)
  refine r_aload_n C dX6_tell_5 rfl (lv_at hl 1 rfl) ?_
  refine r_iconst (v := 0) C dX6_tell_6 (by decide) ?_
  refine r_putIN C fn_X6_33 fp_X4_2 rfl rfl lf_7_2 dX6_tell_7 ?_
  refine r_letm (fun σ2 => ?_)
  refine r_iconst (v := 0) C dX6_tell_10 (by decide) ?_
  refine r_istore_n (lv' := [(2, .int 0), (0, .ref (ad 1)), (1, .ref (ad 7))]) C dX6_tell_11 rfl hl (by decide) rfl (fun ls hl => ?_)
  refine r_iconst (v := 0) C dX6_tell_12 (by decide) ?_
  refine r_istore_n (lv' := [(3, .int 0), (2, .int 0), (0, .ref (ad 1)), (1, .ref (ad 7))]) C dX6_tell_13 rfl hl (by decide) rfl (fun ls hl => ?_)
  refine r_iconst (v := 0) C dX6_tell_14 (by decide) ?_
  refine r_istore (lv' := [(4, .int 0), (3, .int 0), (2, .int 0), (0, .ref (ad 1)), (1, .ref (ad 7))]) C dX6_tell_15 hl (by decide) rfl (fun ls hl => ?_)
  refine wX6_tell_17  C _ ?_ 300 0 0 0 σ2 ls (lv_sub hl [3, 4, 2, 1, 0] rfl)
  · intro x2 σ13 ls hl
    refine r_iload_n C dX6_tell_143 rfl (lv_at hl 1 rfl) ?_
    refine r_if_eq (tgt := 154) C dX6_tell_144 (by decide) ?_ ?_
    · refine r_iconst (v := (-1)) C dX6_tell_154 (by decide) ?_
      exact r_iret C rfl dX6_tell_155
    · refine r_aload_n C dX6_tell_147 rfl (lv_at hl 0 rfl) ?_
      refine r_getI C fl_X6_20 lf_1_1 dX6_tell_148 ?_
      refine r_goto (tgt := 155) C dX6_tell_151 (by decide) ?_
      exact r_iret C rfl dX6_tell_155

set_option maxRecDepth 100000 in
def BX5_fillFrom_2 (ca : Nat) (na : Nat) (cb : Nat) (nb : Nat) (k27 : Mem → Option (Int32 × Mem)) (rec : Int32 → Mem → Option (Int32 × Mem)) (x2 : Int32) (σ : Mem) : Option (Int32 × Mem) := if (nI na : Int32) ≤ x2 then k27 σ else bnd (fX5_at cb nb x2 σ) (fun r1 σ2 => bnd (fX5_put ca na x2 r1 σ2) (fun r3 σ4 => rec (x2 + 1) σ4))
def LX5_fillFrom_2 (ca : Nat) (na : Nat) (cb : Nat) (nb : Nat) (k27 : Mem → Option (Int32 × Mem)) : Nat → Int32 → Mem → Option (Int32 × Mem)
  | 0 => fun _ _ => none
  | n + 1 => BX5_fillFrom_2 ca na cb nb k27 (LX5_fillFrom_2 ca na cb nb k27 n)
set_option maxRecDepth 100000 in
set_option maxHeartbeats 4000000 in
theorem wX5_fillFrom_2 {p : Program} {l : Launch} {e : Env} {s : State} {m : MethodId} {args : Array Value} {below : List Frame} {meth : Method} {c : Code} {D : va_G} {cI cZ : ClassId} {ad : Nat → Nat} {tT : Nat} {A : Nat → Prop} (ca : Nat) (na : Nat) (cb : Nat) (nb : Nat) (hca : ROW ca na) (hcb : ROW cb nb) (C : CX p s m args meth c cX5_fillFrom 3 RX5 (none) D cI cZ ad tT A) (k27 : Mem → Option (Int32 × Mem)) (hk27 : ∀ (σ : Mem) (ls : Array Slot), lv_has ls 3 [] → WM p l e 1 22 s m args below meth c D cI cZ ad A rvv (k27 σ) σ (F0 m 27 ls [])) :
    ∀ (n0 : Nat), ∀ (x2 : Int32) (σ : Mem) (ls : Array Slot), lv_has ls 3 [(0, .ref (ad ca)), (1, .ref (ad cb)), (2, .int x2)] → WM p l e 1 22 s m args below meth c D cI cZ ad A rvv (LX5_fillFrom_2 ca na cb nb k27 n0 x2 σ) σ (F0 m 2 ls []) := by
  intro n0
  induction n0 with
  | zero => intro x2 σ ls hl; exact r_none
  | succ n0 ih =>
    intro x2 σ ls hl
    show WM p l e 1 22 s m args below meth c D cI cZ ad A rvv (BX5_fillFrom_2 ca na cb nb k27 (LX5_fillFrom_2 ca na cb nb k27 n0) x2 σ) σ (F0 m 2 ls [])
    unfold BX5_fillFrom_2
    refine r_iload_n C dX5_fillFrom_2 rfl (lv_at hl 2 rfl) ?_
    refine r_aload_n C dX5_fillFrom_3 rfl (lv_at hl 0 rfl) ?_
    refine r_getR C fl_X5_13 (lf5 hca) dX5_fillFrom_4 ?_
    refine r_alen (v := nI na) C hca.2 rfl dX5_fillFrom_7 ?_
    refine r_icmp_ge (tgt := 27) C dX5_fillFrom_8 (by decide) ?_ ?_
    · exact hk27 σ ls (lv_sub hl [] rfl)
    · refine r_aload_n C dX5_fillFrom_11 rfl (lv_at hl 0 rfl) ?_
      refine r_iload_n C dX5_fillFrom_12 rfl (lv_at hl 2 rfl) ?_
      refine r_aload_n C dX5_fillFrom_13 rfl (lv_at hl 1 rfl) ?_
      refine r_iload_n C dX5_fillFrom_14 rfl (lv_at hl 2 rfl) ?_
      refine r_callVi (As := [.int x2]) (rest := [.int x2, .ref (ad ca)]) C hl ml_X5_19 (rc5 hcb) (gX5_at l C.inj cb nb hcb x2 σ) ⟨Nat.le_of_ble_eq_true rfl, Nat.le_of_ble_eq_true rfl⟩ ⟨Nat.le_of_ble_eq_true rfl, Nat.le_of_ble_eq_true rfl⟩ rfl rfl (Nat.le_of_ble_eq_true rfl) dX5_fillFrom_15 (fun r1 σ2 => ?_)
      refine r_callVv (As := [.int x2, .int r1]) (rest := []) C hl ml_X5_23 (rc5 hca) (gX5_put l C.inj ca na hca x2 r1 σ2) ⟨Nat.le_of_ble_eq_true rfl, Nat.le_of_ble_eq_true rfl⟩ ⟨Nat.le_of_ble_eq_true rfl, Nat.le_of_ble_eq_true rfl⟩ rfl rfl (Nat.le_of_ble_eq_true rfl) dX5_fillFrom_18 (fun r3 σ4 => ?_)
      refine r_iinc (v := x2 + 1) (lv' := [(2, .int (x2 + 1)), (0, .ref (ad ca)), (1, .ref (ad cb))]) C dX5_fillFrom_21 hl (k := 2) rfl rfl (by decide) rfl (fun ls hl => ?_)
      refine r_goto (tgt := 2) C dX5_fillFrom_24 (by decide) ?_
      exact ih (x2 + 1) σ4 ls (lv_sub hl [1, 2, 0] rfl)
set_option maxRecDepth 100000 in
def fX5_fillFrom (ca : Nat) (na : Nat) (cb : Nat) (nb : Nat) (σ : Mem) : Option (Int32 × Mem) := LX5_fillFrom_2 ca na cb nb (fun σ5 => some (0, σ5)) 300 0 σ
set_option maxRecDepth 100000 in
set_option maxHeartbeats 4000000 in
theorem gX5_fillFrom (l : Launch) {D : va_G} {cI cZ : ClassId} {ad : Nat → Nat} {tT : Nat} (hi : INJ ad) (ca : Nat) (na : Nat) (cb : Nat) (nb : Nat) (hca : ROW ca na) (hcb : ROW cb nb) (σ : Mem) : GM l D cI cZ ad tT yX5_fillFrom cX5_fillFrom 3 (none) 1 22 rvv [.ref (ad ca), .ref (ad cb)] σ (fX5_fillFrom ca na cb nb σ) := by
  refine gm_of (lv := [(0, .ref (ad ca)), (1, .ref (ad cb))]) (own := RX5) hi (by decide +kernel) rfl (Nat.le_of_ble_eq_true rfl) rfl ?_
  intro p e s m args below meth c A C ls hl
  unfold fX5_fillFrom
  refine r_iconst (v := 0) C dX5_fillFrom_0 (by decide) ?_
  refine r_istore_n (lv' := [(2, .int 0), (0, .ref (ad ca)), (1, .ref (ad cb))]) C dX5_fillFrom_1 rfl hl (by decide) rfl (fun ls hl => ?_)
  refine wX5_fillFrom_2 ca na cb nb hca hcb C _ ?_ 300 0 σ ls (lv_sub hl [1, 2, 0] rfl)
  · intro σ5 ls hl
    exact r_vret C rfl dX5_fillFrom_27

set_option maxRecDepth 100000 in
def fX4_take (ca : Nat) (cb : Nat) (σ : Mem) : Option (Int32 × Mem) := bnd (fX5_fillFrom (ca + 1) 48 (cb + 1) 48 σ) (fun r1 σ2 => letm (stm σ2 ca 1 (σ2 cb 1)) (fun σ3 => letm (stm σ3 ca 2 (σ3 cb 2)) (fun σ4 => some (0, σ4))))
set_option maxRecDepth 100000 in
set_option maxHeartbeats 4000000 in
theorem gX4_take (l : Launch) {D : va_G} {cI cZ : ClassId} {ad : Nat → Nat} {tT : Nat} (hi : INJ ad) (ca : Nat) (cb : Nat) (hca : RDG ca) (hcb : RDG cb) (σ : Mem) : GM l D cI cZ ad tT yX4_take cX4_take 2 (none) 2 44 rvv [.ref (ad ca), .ref (ad cb)] σ (fX4_take ca cb σ) := by
  refine gm_of (lv := [(0, .ref (ad ca)), (1, .ref (ad cb))]) (own := RX4) hi (by decide +kernel) rfl (Nat.le_of_ble_eq_true rfl) rfl ?_
  intro p e s m args below meth c A C ls hl
  unfold fX4_take
  refine r_aload_n C dX4_take_0 rfl (lv_at hl 0 rfl) ?_
  refine r_getR C fl_X4_14 (lf4_0 hca) dX4_take_1 ?_
  refine r_aload_n C dX4_take_4 rfl (lv_at hl 1 rfl) ?_
  refine r_getR C fl_X4_14 (lf4_0 hcb) dX4_take_5 ?_
  refine r_callVv (As := [.ref (ad (cb + 1))]) (rest := []) C hl ml_X4_50 (rc5 hca.2) (gX5_fillFrom l C.inj (ca + 1) 48 (cb + 1) 48 hca.2 hcb.2 σ) ⟨Nat.le_of_ble_eq_true rfl, Nat.le_of_ble_eq_true rfl⟩ ⟨Nat.le_of_ble_eq_true rfl, Nat.le_of_ble_eq_true rfl⟩ rfl rfl (Nat.le_of_ble_eq_true rfl) dX4_take_8 (fun r1 σ2 => ?_)
  refine r_aload_n C dX4_take_11 rfl (lv_at hl 0 rfl) ?_
  refine r_aload_n C dX4_take_12 rfl (lv_at hl 1 rfl) ?_
  refine r_getI C fl_X4_20 (lf4_1 hcb) dX4_take_13 ?_
  refine r_putI C fl_X4_20 fp_X4_1 rfl rfl (lf4_1 hca) dX4_take_16 ?_
  refine r_letm (fun σ3 => ?_)
  refine r_aload_n C dX4_take_19 rfl (lv_at hl 0 rfl) ?_
  refine r_aload_n C dX4_take_20 rfl (lv_at hl 1 rfl) ?_
  refine r_getI C fl_X4_24 (lf4_2 hcb) dX4_take_21 ?_
  refine r_putI C fl_X4_24 fp_X4_2 rfl rfl (lf4_2 hca) dX4_take_24 ?_
  refine r_letm (fun σ4 => ?_)
  exact r_vret C rfl dX4_take_27

set_option maxRecDepth 100000 in
def fX4_hasCopy (ca : Nat) (x1 : Int32) (σ : Mem) : Option (Int32 × Mem) := if (x1 : Int32) < 0 then some (0, σ) else if (σ ca 1 : Int32) ≤ x1 then some (0, σ) else some (1, σ)
set_option maxRecDepth 100000 in
set_option maxHeartbeats 4000000 in
theorem gX4_hasCopy (l : Launch) {D : va_G} {cI cZ : ClassId} {ad : Nat → Nat} {tT : Nat} (hi : INJ ad) (ca : Nat) (hca : RDG ca) (x1 : Int32) (σ : Mem) : GM l D cI cZ ad tT yX4_hasCopy cX4_hasCopy 2 (some .boolean) 0 0 rvi [.ref (ad ca), .int x1] σ (fX4_hasCopy ca x1 σ) := by
  refine gm_of (lv := [(0, .ref (ad ca)), (1, .int x1)]) (own := RX4) hi (by decide +kernel) rfl (Nat.le_of_ble_eq_true rfl) rfl ?_
  intro p e s m args below meth c A C ls hl
  unfold fX4_hasCopy
  refine r_iload_n C dX4_hasCopy_0 rfl (lv_at hl 1 rfl) ?_
  refine r_if_lt (tgt := 16) C dX4_hasCopy_1 (by decide) ?_ ?_
  · refine r_iconst (v := 0) C dX4_hasCopy_16 (by decide) ?_
    exact r_zret C rfl (by decide) dX4_hasCopy_17
  · refine r_iload_n C dX4_hasCopy_4 rfl (lv_at hl 1 rfl) ?_
    refine r_aload_n C dX4_hasCopy_5 rfl (lv_at hl 0 rfl) ?_
    refine r_getI C fl_X4_20 (lf4_1 hca) dX4_hasCopy_6 ?_
    refine r_icmp_ge (tgt := 16) C dX4_hasCopy_9 (by decide) ?_ ?_
    · refine r_iconst (v := 0) C dX4_hasCopy_16 (by decide) ?_
      exact r_zret C rfl (by decide) dX4_hasCopy_17
    · refine r_iconst (v := 1) C dX4_hasCopy_12 (by decide) ?_
      refine r_goto (tgt := 17) C dX4_hasCopy_13 (by decide) ?_
      exact r_zret C rfl (by decide) dX4_hasCopy_17

set_option maxRecDepth 100000 in
def fX4_hasPlace (ca : Nat) (x1 : Int32) (σ : Mem) : Option (Int32 × Mem) := if (x1 : Int32) < 0 then some (0, σ) else if (σ ca 2 : Int32) ≤ x1 then some (0, σ) else some (1, σ)
set_option maxRecDepth 100000 in
set_option maxHeartbeats 4000000 in
theorem gX4_hasPlace (l : Launch) {D : va_G} {cI cZ : ClassId} {ad : Nat → Nat} {tT : Nat} (hi : INJ ad) (ca : Nat) (hca : RDG ca) (x1 : Int32) (σ : Mem) : GM l D cI cZ ad tT yX4_hasPlace cX4_hasPlace 2 (some .boolean) 0 0 rvi [.ref (ad ca), .int x1] σ (fX4_hasPlace ca x1 σ) := by
  refine gm_of (lv := [(0, .ref (ad ca)), (1, .int x1)]) (own := RX4) hi (by decide +kernel) rfl (Nat.le_of_ble_eq_true rfl) rfl ?_
  intro p e s m args below meth c A C ls hl
  unfold fX4_hasPlace
  refine r_iload_n C dX4_hasPlace_0 rfl (lv_at hl 1 rfl) ?_
  refine r_if_lt (tgt := 16) C dX4_hasPlace_1 (by decide) ?_ ?_
  · refine r_iconst (v := 0) C dX4_hasPlace_16 (by decide) ?_
    exact r_zret C rfl (by decide) dX4_hasPlace_17
  · refine r_iload_n C dX4_hasPlace_4 rfl (lv_at hl 1 rfl) ?_
    refine r_aload_n C dX4_hasPlace_5 rfl (lv_at hl 0 rfl) ?_
    refine r_getI C fl_X4_24 (lf4_2 hca) dX4_hasPlace_6 ?_
    refine r_icmp_ge (tgt := 16) C dX4_hasPlace_9 (by decide) ?_ ?_
    · refine r_iconst (v := 0) C dX4_hasPlace_16 (by decide) ?_
      exact r_zret C rfl (by decide) dX4_hasPlace_17
    · refine r_iconst (v := 1) C dX4_hasPlace_12 (by decide) ?_
      refine r_goto (tgt := 17) C dX4_hasPlace_13 (by decide) ?_
      exact r_zret C rfl (by decide) dX4_hasPlace_17

set_option maxRecDepth 100000 in
def fX4_has (ca : Nat) (x1 : Int32) (x2 : Int32) (σ : Mem) : Option (Int32 × Mem) := bnd (fX4_hasCopy ca x1 σ) (fun r1 σ2 => if (r1 : Int32) = 0 then some (0, σ2) else bnd (fX4_hasPlace ca x2 σ2) (fun r3 σ4 => if (r3 : Int32) = 0 then some (0, σ4) else some (1, σ4)))
set_option maxRecDepth 100000 in
set_option maxHeartbeats 4000000 in
theorem gX4_has (l : Launch) {D : va_G} {cI cZ : ClassId} {ad : Nat → Nat} {tT : Nat} (hi : INJ ad) (ca : Nat) (hca : RDG ca) (x1 : Int32) (x2 : Int32) (σ : Mem) : GM l D cI cZ ad tT yX4_has cX4_has 3 (some .boolean) 1 21 rvi [.ref (ad ca), .int x1, .int x2] σ (fX4_has ca x1 x2 σ) := by
  refine gm_of (lv := [(0, .ref (ad ca)), (1, .int x1), (2, .int x2)]) (own := RX4) hi (by decide +kernel) rfl (Nat.le_of_ble_eq_true rfl) rfl ?_
  intro p e s m args below meth c A C ls hl
  unfold fX4_has
  refine r_aload_n C dX4_has_0 rfl (lv_at hl 0 rfl) ?_
  refine r_iload_n C dX4_has_1 rfl (lv_at hl 1 rfl) ?_
  refine r_callVi (As := [.int x1]) (rest := []) C hl ml_X4_27 (rc4 hca) (gX4_hasCopy l C.inj ca hca x1 σ) ⟨Nat.le_of_ble_eq_true rfl, Nat.le_of_ble_eq_true rfl⟩ ⟨Nat.le_of_ble_eq_true rfl, Nat.le_of_ble_eq_true rfl⟩ rfl rfl (Nat.le_of_ble_eq_true rfl) dX4_has_2 (fun r1 σ2 => ?_)
  refine r_if_eq (tgt := 20) C dX4_has_5 (by decide) ?_ ?_
  · refine r_iconst (v := 0) C dX4_has_20 (by decide) ?_
    exact r_zret C rfl (by decide) dX4_has_21
  · refine r_aload_n C dX4_has_8 rfl (lv_at hl 0 rfl) ?_
    refine r_iload_n C dX4_has_9 rfl (lv_at hl 2 rfl) ?_
    refine r_callVi (As := [.int x2]) (rest := []) C hl ml_X4_31 (rc4 hca) (gX4_hasPlace l C.inj ca hca x2 σ2) ⟨Nat.le_of_ble_eq_true rfl, Nat.le_of_ble_eq_true rfl⟩ ⟨Nat.le_of_ble_eq_true rfl, Nat.le_of_ble_eq_true rfl⟩ rfl rfl (Nat.le_of_ble_eq_true rfl) dX4_has_10 (fun r3 σ4 => ?_)
    refine r_if_eq (tgt := 20) C dX4_has_13 (by decide) ?_ ?_
    · refine r_iconst (v := 0) C dX4_has_20 (by decide) ?_
      exact r_zret C rfl (by decide) dX4_has_21
    · refine r_iconst (v := 1) C dX4_has_16 (by decide) ?_
      refine r_goto (tgt := 21) C dX4_has_17 (by decide) ?_
      exact r_zret C rfl (by decide) dX4_has_21

set_option maxRecDepth 100000 in
def fX4_at (ca : Nat) (x1 : Int32) (x2 : Int32) (σ : Mem) : Option (Int32 × Mem) := bnd (fX4_has ca x1 x2 σ) (fun r1 σ2 => if (r1 : Int32) = 0 then some (4, σ2) else bnd (fX4_cellOf ca x1 x2 σ2) (fun r3 σ4 => bnd (fX5_at (ca + 1) 48 r3 σ4) (fun r5 σ6 => some (r5, σ6))))
set_option maxRecDepth 100000 in
set_option maxHeartbeats 4000000 in
theorem gX4_at (l : Launch) {D : va_G} {cI cZ : ClassId} {ad : Nat → Nat} {tT : Nat} (hi : INJ ad) (ca : Nat) (hca : RDG ca) (x1 : Int32) (x2 : Int32) (σ : Mem) : GM l D cI cZ ad tT yX4_at cX4_at 3 (some .int) 2 43 rvi [.ref (ad ca), .int x1, .int x2] σ (fX4_at ca x1 x2 σ) := by
  refine gm_of (lv := [(0, .ref (ad ca)), (1, .int x1), (2, .int x2)]) (own := RX4) hi (by decide +kernel) rfl (Nat.le_of_ble_eq_true rfl) rfl ?_
  intro p e s m args below meth c A C ls hl
  unfold fX4_at
  refine r_aload_n C dX4_at_0 rfl (lv_at hl 0 rfl) ?_
  refine r_iload_n C dX4_at_1 rfl (lv_at hl 1 rfl) ?_
  refine r_iload_n C dX4_at_2 rfl (lv_at hl 2 rfl) ?_
  refine r_callVi (As := [.int x1, .int x2]) (rest := []) C hl ml_X4_34 (rc4 hca) (gX4_has l C.inj ca hca x1 x2 σ) ⟨Nat.le_of_ble_eq_true rfl, Nat.le_of_ble_eq_true rfl⟩ ⟨Nat.le_of_ble_eq_true rfl, Nat.le_of_ble_eq_true rfl⟩ rfl rfl (Nat.le_of_ble_eq_true rfl) dX4_at_3 (fun r1 σ2 => ?_)
  refine r_if_eq (tgt := 25) C dX4_at_6 (by decide) ?_ ?_
  · refine r_iconst (v := 4) C dX4_at_25 (by decide) ?_
    exact r_iret C rfl dX4_at_26
  · refine r_aload_n C dX4_at_9 rfl (lv_at hl 0 rfl) ?_
    refine r_getR C fl_X4_14 (lf4_0 hca) dX4_at_10 ?_
    refine r_aload_n C dX4_at_13 rfl (lv_at hl 0 rfl) ?_
    refine r_iload_n C dX4_at_14 rfl (lv_at hl 1 rfl) ?_
    refine r_iload_n C dX4_at_15 rfl (lv_at hl 2 rfl) ?_
    refine r_callVi (As := [.int x1, .int x2]) (rest := [.ref (ad (ca + 1))]) C hl ml_X4_38 (rc4 hca) (gX4_cellOf l C.inj ca hca x1 x2 σ2) ⟨Nat.le_of_ble_eq_true rfl, Nat.le_of_ble_eq_true rfl⟩ ⟨Nat.le_of_ble_eq_true rfl, Nat.le_of_ble_eq_true rfl⟩ rfl rfl (Nat.le_of_ble_eq_true rfl) dX4_at_16 (fun r3 σ4 => ?_)
    refine r_callVi (As := [.int r3]) (rest := []) C hl ml_X4_42 (rc5 hca.2) (gX5_at l C.inj (ca + 1) 48 hca.2 r3 σ4) ⟨Nat.le_of_ble_eq_true rfl, Nat.le_of_ble_eq_true rfl⟩ ⟨Nat.le_of_ble_eq_true rfl, Nat.le_of_ble_eq_true rfl⟩ rfl rfl (Nat.le_of_ble_eq_true rfl) dX4_at_19 (fun r5 σ6 => ?_)
    refine r_goto (tgt := 26) C dX4_at_22 (by decide) ?_
    exact r_iret C rfl dX4_at_26

set_option maxRecDepth 100000 in
def BX1_loseOldest_2 (k50 : Mem → Option (Int32 × Mem)) (rec : Int32 → Mem → Option (Int32 × Mem)) (x1 : Int32) (σ : Mem) : Option (Int32 × Mem) := if (10 : Int32) ≤ x1 then k50 σ else bnd (fX5_at 11 10 x1 σ) (fun r1 σ2 => bnd (fX5_put 11 10 (x1 - 1) r1 σ2) (fun r3 σ4 => bnd (fX5_at 13 10 x1 σ4) (fun r5 σ6 => bnd (fX5_put 13 10 (x1 - 1) r5 σ6) (fun r7 σ8 => rec (x1 + 1) σ8))))
def LX1_loseOldest_2 (k50 : Mem → Option (Int32 × Mem)) : Nat → Int32 → Mem → Option (Int32 × Mem)
  | 0 => fun _ _ => none
  | n + 1 => BX1_loseOldest_2 k50 (LX1_loseOldest_2 k50 n)
set_option maxRecDepth 100000 in
set_option maxHeartbeats 4000000 in
theorem wX1_loseOldest_2 {p : Program} {l : Launch} {e : Env} {s : State} {m : MethodId} {args : Array Value} {below : List Frame} {meth : Method} {c : Code} {D : va_G} {cI cZ : ClassId} {ad : Nat → Nat} {tT : Nat} {A : Nat → Prop} (C : CX p s m args meth c cX1_loseOldest 2 RX1 (none) D cI cZ ad tT A) (k50 : Mem → Option (Int32 × Mem)) (hk50 : ∀ (σ : Mem) (ls : Array Slot), lv_has ls 2 [(0, .ref (ad 10))] → WM p l e 1 22 s m args below meth c D cI cZ ad A rvv (k50 σ) σ (F0 m 50 ls [])) :
    ∀ (n0 : Nat), ∀ (x1 : Int32) (σ : Mem) (ls : Array Slot), lv_has ls 2 [(0, .ref (ad 10)), (1, .int x1)] → WM p l e 1 22 s m args below meth c D cI cZ ad A rvv (LX1_loseOldest_2 k50 n0 x1 σ) σ (F0 m 2 ls []) := by
  intro n0
  induction n0 with
  | zero => intro x1 σ ls hl; exact r_none
  | succ n0 ih =>
    intro x1 σ ls hl
    show WM p l e 1 22 s m args below meth c D cI cZ ad A rvv (BX1_loseOldest_2 k50 (LX1_loseOldest_2 k50 n0) x1 σ) σ (F0 m 2 ls [])
    unfold BX1_loseOldest_2
    refine r_iload_n C dX1_loseOldest_2 rfl (lv_at hl 1 rfl) ?_
    refine r_bipush (v := 10) C dX1_loseOldest_3 (by decide) ?_
    refine r_icmp_ge (tgt := 50) C dX1_loseOldest_5 (by decide) ?_ ?_
    · exact hk50 σ ls (lv_sub hl [0] rfl)
    · refine r_aload_n C dX1_loseOldest_8 rfl (lv_at hl 0 rfl) ?_
      refine r_getR C fl_X1_14 lf_10_0 dX1_loseOldest_9 ?_
      refine r_iload_n C dX1_loseOldest_12 rfl (lv_at hl 1 rfl) ?_
      refine r_iconst (v := 1) C dX1_loseOldest_13 (by decide) ?_
      refine r_isub C dX1_loseOldest_14 ?_
      refine r_aload_n C dX1_loseOldest_15 rfl (lv_at hl 0 rfl) ?_
      refine r_getR C fl_X1_14 lf_10_0 dX1_loseOldest_16 ?_
      refine r_iload_n C dX1_loseOldest_19 rfl (lv_at hl 1 rfl) ?_
      refine r_callVi (As := [.int x1]) (rest := [.int (x1 - 1), .ref (ad 11)]) C hl ml_X1_34 rc_11 (gX5_at l C.inj 11 10 row_11 x1 σ) ⟨Nat.le_of_ble_eq_true rfl, Nat.le_of_ble_eq_true rfl⟩ ⟨Nat.le_of_ble_eq_true rfl, Nat.le_of_ble_eq_true rfl⟩ rfl rfl (Nat.le_of_ble_eq_true rfl) dX1_loseOldest_20 (fun r1 σ2 => ?_)
      refine r_callVv (As := [.int (x1 - 1), .int r1]) (rest := []) C hl ml_X1_30 rc_11 (gX5_put l C.inj 11 10 row_11 (x1 - 1) r1 σ2) ⟨Nat.le_of_ble_eq_true rfl, Nat.le_of_ble_eq_true rfl⟩ ⟨Nat.le_of_ble_eq_true rfl, Nat.le_of_ble_eq_true rfl⟩ rfl rfl (Nat.le_of_ble_eq_true rfl) dX1_loseOldest_23 (fun r3 σ4 => ?_)
      refine r_aload_n C dX1_loseOldest_26 rfl (lv_at hl 0 rfl) ?_
      refine r_getR C fl_X1_20 lf_10_1 dX1_loseOldest_27 ?_
      refine r_iload_n C dX1_loseOldest_30 rfl (lv_at hl 1 rfl) ?_
      refine r_iconst (v := 1) C dX1_loseOldest_31 (by decide) ?_
      refine r_isub C dX1_loseOldest_32 ?_
      refine r_aload_n C dX1_loseOldest_33 rfl (lv_at hl 0 rfl) ?_
      refine r_getR C fl_X1_20 lf_10_1 dX1_loseOldest_34 ?_
      refine r_iload_n C dX1_loseOldest_37 rfl (lv_at hl 1 rfl) ?_
      refine r_callVi (As := [.int x1]) (rest := [.int (x1 - 1), .ref (ad 13)]) C hl ml_X1_34 rc_13 (gX5_at l C.inj 13 10 row_13 x1 σ4) ⟨Nat.le_of_ble_eq_true rfl, Nat.le_of_ble_eq_true rfl⟩ ⟨Nat.le_of_ble_eq_true rfl, Nat.le_of_ble_eq_true rfl⟩ rfl rfl (Nat.le_of_ble_eq_true rfl) dX1_loseOldest_38 (fun r5 σ6 => ?_)
      refine r_callVv (As := [.int (x1 - 1), .int r5]) (rest := []) C hl ml_X1_30 rc_13 (gX5_put l C.inj 13 10 row_13 (x1 - 1) r5 σ6) ⟨Nat.le_of_ble_eq_true rfl, Nat.le_of_ble_eq_true rfl⟩ ⟨Nat.le_of_ble_eq_true rfl, Nat.le_of_ble_eq_true rfl⟩ rfl rfl (Nat.le_of_ble_eq_true rfl) dX1_loseOldest_41 (fun r7 σ8 => ?_)
      refine r_iinc (v := x1 + 1) (lv' := [(1, .int (x1 + 1)), (0, .ref (ad 10))]) C dX1_loseOldest_44 hl (k := 1) rfl rfl (by decide) rfl (fun ls hl => ?_)
      refine r_goto (tgt := 2) C dX1_loseOldest_47 (by decide) ?_
      exact ih (x1 + 1) σ8 ls (lv_sub hl [1, 0] rfl)
set_option maxRecDepth 100000 in
def fX1_loseOldest (σ : Mem) : Option (Int32 × Mem) := LX1_loseOldest_2 (fun σ9 => letm (stm σ9 10 2 9) (fun σ10 => some (0, σ10))) 300 1 σ
set_option maxRecDepth 100000 in
set_option maxHeartbeats 4000000 in
theorem gX1_loseOldest (l : Launch) {D : va_G} {cI cZ : ClassId} {ad : Nat → Nat} {tT : Nat} (hi : INJ ad) (σ : Mem) : GM l D cI cZ ad tT yX1_loseOldest cX1_loseOldest 2 (none) 1 22 rvv [.ref (ad 10)] σ (fX1_loseOldest σ) := by
  refine gm_of (lv := [(0, .ref (ad 10))]) (own := RX1) hi (by decide +kernel) rfl (Nat.le_of_ble_eq_true rfl) rfl ?_
  intro p e s m args below meth c A C ls hl
  unfold fX1_loseOldest
  refine r_iconst (v := 1) C dX1_loseOldest_0 (by decide) ?_
  refine r_istore_n (lv' := [(1, .int 1), (0, .ref (ad 10))]) C dX1_loseOldest_1 rfl hl (by decide) rfl (fun ls hl => ?_)
  refine wX1_loseOldest_2  C _ ?_ 300 1 σ ls (lv_sub hl [1, 0] rfl)
  · intro σ9 ls hl
    refine r_aload_n C dX1_loseOldest_50 rfl (lv_at hl 0 rfl) ?_
    refine r_bipush (v := 9) C dX1_loseOldest_51 (by decide) ?_
    refine r_putI C fl_X1_23 fp_X1_2 rfl rfl lf_10_2 dX1_loseOldest_53 ?_
    refine r_letm (fun σ10 => ?_)
    exact r_vret C rfl dX1_loseOldest_56

set_option maxRecDepth 100000 in
def fX1_note (x1 : Int32) (x2 : Int32) (σ : Mem) : Option (Int32 × Mem) := jn (fun x1 x2 σ1 => bnd (fX5_put 11 10 (σ1 10 2) x1 σ1) (fun r2 σ3 => bnd (fX5_put 13 10 (σ3 10 2) x2 σ3) (fun r4 σ5 => letm (stm σ5 10 2 ((σ5 10 2) + 1)) (fun σ6 => some (0, σ6))))) (fun k13 => if (σ 10 2 : Int32) < 10 then k13 x1 x2 σ else bnd (fX1_loseOldest σ) (fun r7 σ8 => k13 x1 x2 σ8))
set_option maxRecDepth 100000 in
set_option maxHeartbeats 4000000 in
theorem gX1_note (l : Launch) {D : va_G} {cI cZ : ClassId} {ad : Nat → Nat} {tT : Nat} (hi : INJ ad) (x1 : Int32) (x2 : Int32) (σ : Mem) : GM l D cI cZ ad tT yX1_note cX1_note 3 (none) 2 43 rvv [.ref (ad 10), .int x1, .int x2] σ (fX1_note x1 x2 σ) := by
  refine gm_of (lv := [(0, .ref (ad 10)), (1, .int x1), (2, .int x2)]) (own := RX1) hi (by decide +kernel) rfl (Nat.le_of_ble_eq_true rfl) rfl ?_
  intro p e s m args below meth c A C ls hl
  unfold fX1_note
  refine r_aload_n C dX1_note_0 rfl (lv_at hl 0 rfl) ?_
  refine r_getI C fl_X1_23 lf_10_2 dX1_note_1 ?_
  refine r_bipush (v := 10) C dX1_note_4 (by decide) ?_
  refine r_jn (fun (k13 : Int32 → Int32 → Mem → Option (Int32 × Mem)) => ∀ (x1 : Int32) (x2 : Int32) (σ : Mem) (ls : Array Slot), lv_has ls 3 [(0, .ref (ad 10)), (1, .int x1), (2, .int x2)] → WM p l e 2 43 s m args below meth c D cI cZ ad A rvv (k13 x1 x2 σ) σ (F0 m 13 ls [])) ?_ ?_
  · intro x1 x2 σ1 ls hl
    refine r_aload_n C dX1_note_13 rfl (lv_at hl 0 rfl) ?_
    refine r_getR C fl_X1_14 lf_10_0 dX1_note_14 ?_
    refine r_aload_n C dX1_note_17 rfl (lv_at hl 0 rfl) ?_
    refine r_getI C fl_X1_23 lf_10_2 dX1_note_18 ?_
    refine r_iload_n C dX1_note_21 rfl (lv_at hl 1 rfl) ?_
    refine r_callVv (As := [.int (σ1 10 2), .int x1]) (rest := []) C hl ml_X1_30 rc_11 (gX5_put l C.inj 11 10 row_11 (σ1 10 2) x1 σ1) ⟨Nat.le_of_ble_eq_true rfl, Nat.le_of_ble_eq_true rfl⟩ ⟨Nat.le_of_ble_eq_true rfl, Nat.le_of_ble_eq_true rfl⟩ rfl rfl (Nat.le_of_ble_eq_true rfl) dX1_note_22 (fun r2 σ3 => ?_)
    refine r_aload_n C dX1_note_25 rfl (lv_at hl 0 rfl) ?_
    refine r_getR C fl_X1_20 lf_10_1 dX1_note_26 ?_
    refine r_aload_n C dX1_note_29 rfl (lv_at hl 0 rfl) ?_
    refine r_getI C fl_X1_23 lf_10_2 dX1_note_30 ?_
    refine r_iload_n C dX1_note_33 rfl (lv_at hl 2 rfl) ?_
    refine r_callVv (As := [.int (σ3 10 2), .int x2]) (rest := []) C hl ml_X1_30 rc_13 (gX5_put l C.inj 13 10 row_13 (σ3 10 2) x2 σ3) ⟨Nat.le_of_ble_eq_true rfl, Nat.le_of_ble_eq_true rfl⟩ ⟨Nat.le_of_ble_eq_true rfl, Nat.le_of_ble_eq_true rfl⟩ rfl rfl (Nat.le_of_ble_eq_true rfl) dX1_note_34 (fun r4 σ5 => ?_)
    refine r_aload_n C dX1_note_37 rfl (lv_at hl 0 rfl) ?_
    refine r_dup C dX1_note_38 rfl ?_
    refine r_getI C fl_X1_23 lf_10_2 dX1_note_39 ?_
    refine r_iconst (v := 1) C dX1_note_42 (by decide) ?_
    refine r_iadd C dX1_note_43 ?_
    refine r_putI C fl_X1_23 fp_X1_2 rfl rfl lf_10_2 dX1_note_44 ?_
    refine r_letm (fun σ6 => ?_)
    exact r_vret C rfl dX1_note_47
  · intro k13 hk13
    refine r_icmp_lt (tgt := 13) C dX1_note_6 (by decide) ?_ ?_
    · exact hk13 x1 x2 σ ls (lv_sub hl [0, 1, 2] rfl)
    · refine r_aload_n C dX1_note_9 rfl (lv_at hl 0 rfl) ?_
      refine r_callVv (As := []) (rest := []) C hl ml_X1_27 rc_10 (gX1_loseOldest l C.inj σ) ⟨Nat.le_of_ble_eq_true rfl, Nat.le_of_ble_eq_true rfl⟩ ⟨Nat.le_of_ble_eq_true rfl, Nat.le_of_ble_eq_true rfl⟩ rfl rfl (Nat.le_of_ble_eq_true rfl) dX1_note_10 (fun r7 σ8 => ?_)
      exact hk13 x1 x2 σ8 ls (lv_sub hl [0, 1, 2] rfl)

set_option maxRecDepth 100000 in
def fX8_treesOf (x0 : Int32) (σ : Mem) : Option (Int32 × Mem) := if (x0 : Int32) < 0 then some (1, σ) else if (7 : Int32) ≤ x0 then some (1, σ) else gd 7 x0 (some (TRi x0.toNatClampNeg, σ))
set_option maxRecDepth 100000 in
set_option maxHeartbeats 4000000 in
theorem gX8_treesOf (l : Launch) {D : va_G} {cI cZ : ClassId} {ad : Nat → Nat} {tT : Nat} (hi : INJ ad) (x0 : Int32) (σ : Mem) : GM l D cI cZ ad tT yX8_treesOf cX8_treesOf 1 (some .int) 0 0 rvi [.int x0] σ (fX8_treesOf x0 σ) := by
  refine gm_of (lv := [(0, .int x0)]) (own := RX8) hi (by decide +kernel) rfl (Nat.le_of_ble_eq_true rfl) rfl ?_
  intro p e s m args below meth c A C ls hl
  unfold fX8_treesOf
  refine r_iload_n C dX8_treesOf_0 rfl (lv_at hl 0 rfl) ?_
  refine r_if_lt (tgt := 20) C dX8_treesOf_1 (by decide) ?_ ?_
  · refine r_iconst (v := 1) C dX8_treesOf_20 (by decide) ?_
    exact r_iret C rfl dX8_treesOf_21
  · refine r_iload_n C dX8_treesOf_4 rfl (lv_at hl 0 rfl) ?_
    refine r_gett C (uw_mk 400 (by decide +kernel) rfl) dX8_treesOf_5 ?_
    refine r_tlen (v := 7) C (by decide) dX8_treesOf_8 ?_
    refine r_icmp_ge (tgt := 20) C dX8_treesOf_9 (by decide) ?_ ?_
    · refine r_iconst (v := 1) C dX8_treesOf_20 (by decide) ?_
      exact r_iret C rfl dX8_treesOf_21
    · refine r_gett C (uw_mk 400 (by decide +kernel) rfl) dX8_treesOf_12 ?_
      refine r_iload_n C dX8_treesOf_15 rfl (lv_at hl 0 rfl) ?_
      refine r_tald C dX8_treesOf_16 ?_
      refine r_goto (tgt := 21) C dX8_treesOf_17 (by decide) ?_
      exact r_iret C rfl dX8_treesOf_21

set_option maxRecDepth 100000 in
def fX8_bitsOf (x0 : Int32) (σ : Mem) : Option (Int32 × Mem) := some ((15 : Int32) <<< (((4 : Int32) * x0) &&& 31), σ)
set_option maxRecDepth 100000 in
set_option maxHeartbeats 4000000 in
theorem gX8_bitsOf (l : Launch) {D : va_G} {cI cZ : ClassId} {ad : Nat → Nat} {tT : Nat} (hi : INJ ad) (x0 : Int32) (σ : Mem) : GM l D cI cZ ad tT yX8_bitsOf cX8_bitsOf 1 (some .int) 0 0 rvi [.int x0] σ (fX8_bitsOf x0 σ) := by
  refine gm_of (lv := [(0, .int x0)]) (own := RX8) hi (by decide +kernel) rfl (Nat.le_of_ble_eq_true rfl) rfl ?_
  intro p e s m args below meth c A C ls hl
  unfold fX8_bitsOf
  refine r_bipush (v := 15) C dX8_bitsOf_0 (by decide) ?_
  refine r_iconst (v := 4) C dX8_bitsOf_2 (by decide) ?_
  refine r_iload_n C dX8_bitsOf_3 rfl (lv_at hl 0 rfl) ?_
  refine r_imul C dX8_bitsOf_4 ?_
  refine r_ishl C dX8_bitsOf_5 ?_
  exact r_iret C rfl dX8_bitsOf_6

set_option maxRecDepth 100000 in
def fX8_bitOf (x0 : Int32) (x1 : Int32) (σ : Mem) : Option (Int32 × Mem) := some ((1 : Int32) <<< ((((4 : Int32) * x0) + x1) &&& 31), σ)
set_option maxRecDepth 100000 in
set_option maxHeartbeats 4000000 in
theorem gX8_bitOf (l : Launch) {D : va_G} {cI cZ : ClassId} {ad : Nat → Nat} {tT : Nat} (hi : INJ ad) (x0 : Int32) (x1 : Int32) (σ : Mem) : GM l D cI cZ ad tT yX8_bitOf cX8_bitOf 2 (some .int) 0 0 rvi [.int x0, .int x1] σ (fX8_bitOf x0 x1 σ) := by
  refine gm_of (lv := [(0, .int x0), (1, .int x1)]) (own := RX8) hi (by decide +kernel) rfl (Nat.le_of_ble_eq_true rfl) rfl ?_
  intro p e s m args below meth c A C ls hl
  unfold fX8_bitOf
  refine r_iconst (v := 1) C dX8_bitOf_0 (by decide) ?_
  refine r_iconst (v := 4) C dX8_bitOf_1 (by decide) ?_
  refine r_iload_n C dX8_bitOf_2 rfl (lv_at hl 0 rfl) ?_
  refine r_imul C dX8_bitOf_3 ?_
  refine r_iload_n C dX8_bitOf_4 rfl (lv_at hl 1 rfl) ?_
  refine r_iadd C dX8_bitOf_5 ?_
  refine r_ishl C dX8_bitOf_6 ?_
  exact r_iret C rfl dX8_bitOf_7

set_option maxRecDepth 100000 in
def BX4_setsOf_4 (ca : Nat) (k48 : Int32 → Mem → Option (Int32 × Mem)) (rec : Int32 → Int32 → Int32 → Mem → Option (Int32 × Mem)) (x1 : Int32) (x2 : Int32) (x3 : Int32) (σ : Mem) : Option (Int32 × Mem) := if (σ ca 2 : Int32) ≤ x3 then k48 x2 σ else bnd (fX4_at ca x1 x3 σ) (fun r1 σ2 => if (r1 : Int32) = 4 then rec x1 x2 (x3 + 1) σ2 else bnd (fX8_bitsOf x3 σ2) (fun r3 σ4 => bnd (fX8_bitOf x3 r1 σ4) (fun r5 σ6 => letv (x2 &&& ((r3 ^^^ (-1)) ||| r5)) (fun v7 => rec x1 v7 (x3 + 1) σ6))))
def LX4_setsOf_4 (ca : Nat) (k48 : Int32 → Mem → Option (Int32 × Mem)) : Nat → Int32 → Int32 → Int32 → Mem → Option (Int32 × Mem)
  | 0 => fun _ _ _ _ => none
  | n + 1 => BX4_setsOf_4 ca k48 (LX4_setsOf_4 ca k48 n)
set_option maxRecDepth 100000 in
set_option maxHeartbeats 4000000 in
theorem wX4_setsOf_4 {p : Program} {l : Launch} {e : Env} {s : State} {m : MethodId} {args : Array Value} {below : List Frame} {meth : Method} {c : Code} {D : va_G} {cI cZ : ClassId} {ad : Nat → Nat} {tT : Nat} {A : Nat → Prop} (ca : Nat) (hca : RDG ca) (C : CX p s m args meth c cX4_setsOf 5 RX4 (some .int) D cI cZ ad tT A) (k48 : Int32 → Mem → Option (Int32 × Mem)) (hk48 : ∀ (x2 : Int32) (σ : Mem) (ls : Array Slot), lv_has ls 5 [(2, .int x2)] → WM p l e 3 65 s m args below meth c D cI cZ ad A rvi (k48 x2 σ) σ (F0 m 48 ls [])) :
    ∀ (n0 : Nat), ∀ (x1 : Int32) (x2 : Int32) (x3 : Int32) (σ : Mem) (ls : Array Slot), lv_has ls 5 [(0, .ref (ad ca)), (1, .int x1), (2, .int x2), (3, .int x3)] → WM p l e 3 65 s m args below meth c D cI cZ ad A rvi (LX4_setsOf_4 ca k48 n0 x1 x2 x3 σ) σ (F0 m 4 ls []) := by
  intro n0
  induction n0 with
  | zero => intro x1 x2 x3 σ ls hl; exact r_none
  | succ n0 ih =>
    intro x1 x2 x3 σ ls hl
    show WM p l e 3 65 s m args below meth c D cI cZ ad A rvi (BX4_setsOf_4 ca k48 (LX4_setsOf_4 ca k48 n0) x1 x2 x3 σ) σ (F0 m 4 ls [])
    unfold BX4_setsOf_4
    refine r_iload_n C dX4_setsOf_4 rfl (lv_at hl 3 rfl) ?_
    refine r_aload_n C dX4_setsOf_5 rfl (lv_at hl 0 rfl) ?_
    refine r_getI C fl_X4_24 (lf4_2 hca) dX4_setsOf_6 ?_
    refine r_icmp_ge (tgt := 48) C dX4_setsOf_9 (by decide) ?_ ?_
    · exact hk48 x2 σ ls (lv_sub hl [2] rfl)
    · refine r_aload_n C dX4_setsOf_12 rfl (lv_at hl 0 rfl) ?_
      refine r_iload_n C dX4_setsOf_13 rfl (lv_at hl 1 rfl) ?_
      refine r_iload_n C dX4_setsOf_14 rfl (lv_at hl 3 rfl) ?_
      refine r_callVi (As := [.int x1, .int x3]) (rest := []) C hl ml_X4_54 (rc4 hca) (gX4_at l C.inj ca hca x1 x3 σ) ⟨Nat.le_of_ble_eq_true rfl, Nat.le_of_ble_eq_true rfl⟩ ⟨Nat.le_of_ble_eq_true rfl, Nat.le_of_ble_eq_true rfl⟩ rfl rfl (Nat.le_of_ble_eq_true rfl) dX4_setsOf_15 (fun r1 σ2 => ?_)
      refine r_istore (lv' := [(4, .int r1), (0, .ref (ad ca)), (1, .int x1), (2, .int x2), (3, .int x3)]) C dX4_setsOf_18 hl (by decide) rfl (fun ls hl => ?_)
      refine r_iload C dX4_setsOf_20 (lv_at hl 0 rfl) ?_
      refine r_iconst (v := 4) C dX4_setsOf_22 (by decide) ?_
      refine r_icmp_eq (tgt := 42) C dX4_setsOf_23 (by decide) ?_ ?_
      · refine r_iinc (v := x3 + 1) (lv' := [(3, .int (x3 + 1)), (4, .int r1), (0, .ref (ad ca)), (1, .int x1), (2, .int x2)]) C dX4_setsOf_42 hl (k := 4) rfl rfl (by decide) rfl (fun ls hl => ?_)
        refine r_goto (tgt := 4) C dX4_setsOf_45 (by decide) ?_
        exact ih x1 x2 (x3 + 1) σ2 ls (lv_sub hl [2, 3, 4, 0] rfl)
      · refine r_iload_n C dX4_setsOf_26 rfl (lv_at hl 3 rfl) ?_
        refine r_iload_n C dX4_setsOf_27 rfl (lv_at hl 4 rfl) ?_
        refine r_callNi (As := [.int x3]) (rest := [.int x2]) C hl ml_X4_56 (gX8_bitsOf l C.inj x3 σ2) ⟨Nat.le_of_ble_eq_true rfl, Nat.le_of_ble_eq_true rfl⟩ ⟨Nat.le_of_ble_eq_true rfl, Nat.le_of_ble_eq_true rfl⟩ rfl rfl (Nat.le_of_ble_eq_true rfl) dX4_setsOf_28 (fun r3 σ4 => ?_)
        refine r_iconst (v := (-1)) C dX4_setsOf_31 (by decide) ?_
        refine r_ixor C dX4_setsOf_32 ?_
        refine r_iload_n C dX4_setsOf_33 rfl (lv_at hl 4 rfl) ?_
        refine r_iload C dX4_setsOf_34 (lv_at hl 0 rfl) ?_
        refine r_callNi (As := [.int x3, .int r1]) (rest := [.int (r3 ^^^ (-1)), .int x2]) C hl ml_X4_59 (gX8_bitOf l C.inj x3 r1 σ4) ⟨Nat.le_of_ble_eq_true rfl, Nat.le_of_ble_eq_true rfl⟩ ⟨Nat.le_of_ble_eq_true rfl, Nat.le_of_ble_eq_true rfl⟩ rfl rfl (Nat.le_of_ble_eq_true rfl) dX4_setsOf_36 (fun r5 σ6 => ?_)
        refine r_ior C dX4_setsOf_39 ?_
        refine r_iand C dX4_setsOf_40 ?_
        refine r_letv (fun v7 => ?_)
        refine r_istore_n (lv' := [(2, .int v7), (4, .int r1), (0, .ref (ad ca)), (1, .int x1), (3, .int x3)]) C dX4_setsOf_41 rfl hl (by decide) rfl (fun ls hl => ?_)
        refine r_iinc (v := x3 + 1) (lv' := [(3, .int (x3 + 1)), (2, .int v7), (4, .int r1), (0, .ref (ad ca)), (1, .int x1)]) C dX4_setsOf_42 hl (k := 4) rfl rfl (by decide) rfl (fun ls hl => ?_)
        refine r_goto (tgt := 4) C dX4_setsOf_45 (by decide) ?_
        exact ih x1 v7 (x3 + 1) σ6 ls (lv_sub hl [3, 4, 1, 0] rfl)
set_option maxRecDepth 100000 in
def fX4_setsOf (ca : Nat) (x1 : Int32) (σ : Mem) : Option (Int32 × Mem) := LX4_setsOf_4 ca (fun x2 σ8 => some (x2, σ8)) 300 x1 (-1) 0 σ
set_option maxRecDepth 100000 in
set_option maxHeartbeats 4000000 in
theorem gX4_setsOf (l : Launch) {D : va_G} {cI cZ : ClassId} {ad : Nat → Nat} {tT : Nat} (hi : INJ ad) (ca : Nat) (hca : RDG ca) (x1 : Int32) (σ : Mem) : GM l D cI cZ ad tT yX4_setsOf cX4_setsOf 5 (some .int) 3 65 rvi [.ref (ad ca), .int x1] σ (fX4_setsOf ca x1 σ) := by
  refine gm_of (lv := [(0, .ref (ad ca)), (1, .int x1)]) (own := RX4) hi (by decide +kernel) rfl (Nat.le_of_ble_eq_true rfl) rfl ?_
  intro p e s m args below meth c A C ls hl
  unfold fX4_setsOf
  refine r_iconst (v := (-1)) C dX4_setsOf_0 (by decide) ?_
  refine r_istore_n (lv' := [(2, .int (-1)), (0, .ref (ad ca)), (1, .int x1)]) C dX4_setsOf_1 rfl hl (by decide) rfl (fun ls hl => ?_)
  refine r_iconst (v := 0) C dX4_setsOf_2 (by decide) ?_
  refine r_istore_n (lv' := [(3, .int 0), (2, .int (-1)), (0, .ref (ad ca)), (1, .int x1)]) C dX4_setsOf_3 rfl hl (by decide) rfl (fun ls hl => ?_)
  refine wX4_setsOf_4 ca hca C _ ?_ 300 x1 (-1) 0 σ ls (lv_sub hl [2, 3, 1, 0] rfl)
  · intro x2 σ8 ls hl
    refine r_iload_n C dX4_setsOf_48 rfl (lv_at hl 0 rfl) ?_
    exact r_iret C rfl dX4_setsOf_49

set_option maxRecDepth 100000 in
def fX7_addEdge (x1 : Int32) (x2 : Int32) (σ : Mem) : Option (Int32 × Mem) := bnd (fX5_put 26 9 (σ 25 2) x1 σ) (fun r1 σ2 => bnd (fX5_put 28 9 (σ2 25 2) x2 σ2) (fun r3 σ4 => letm (stm σ4 25 2 ((σ4 25 2) + 1)) (fun σ5 => some (0, σ5))))
set_option maxRecDepth 100000 in
set_option maxHeartbeats 4000000 in
theorem gX7_addEdge (l : Launch) {D : va_G} {cI cZ : ClassId} {ad : Nat → Nat} {tT : Nat} (hi : INJ ad) (x1 : Int32) (x2 : Int32) (σ : Mem) : GM l D cI cZ ad tT yX7_addEdge cX7_addEdge 3 (none) 1 22 rvv [.ref (ad 25), .int x1, .int x2] σ (fX7_addEdge x1 x2 σ) := by
  refine gm_of (lv := [(0, .ref (ad 25)), (1, .int x1), (2, .int x2)]) (own := RX7) hi (by decide +kernel) rfl (Nat.le_of_ble_eq_true rfl) rfl ?_
  intro p e s m args below meth c A C ls hl
  unfold fX7_addEdge
  refine r_aload_n C dX7_addEdge_0 rfl (lv_at hl 0 rfl) ?_
  refine r_getR C fl_X7_14 lf_25_0 dX7_addEdge_1 ?_
  refine r_aload_n C dX7_addEdge_4 rfl (lv_at hl 0 rfl) ?_
  refine r_getI C fl_X7_23 lf_25_2 dX7_addEdge_5 ?_
  refine r_iload_n C dX7_addEdge_8 rfl (lv_at hl 1 rfl) ?_
  refine r_callVv (As := [.int (σ 25 2), .int x1]) (rest := []) C hl ml_X7_42 rc_26 (gX5_put l C.inj 26 9 row_26 (σ 25 2) x1 σ) ⟨Nat.le_of_ble_eq_true rfl, Nat.le_of_ble_eq_true rfl⟩ ⟨Nat.le_of_ble_eq_true rfl, Nat.le_of_ble_eq_true rfl⟩ rfl rfl (Nat.le_of_ble_eq_true rfl) dX7_addEdge_9 (fun r1 σ2 => ?_)
  refine r_aload_n C dX7_addEdge_12 rfl (lv_at hl 0 rfl) ?_
  refine r_getR C fl_X7_20 lf_25_1 dX7_addEdge_13 ?_
  refine r_aload_n C dX7_addEdge_16 rfl (lv_at hl 0 rfl) ?_
  refine r_getI C fl_X7_23 lf_25_2 dX7_addEdge_17 ?_
  refine r_iload_n C dX7_addEdge_20 rfl (lv_at hl 2 rfl) ?_
  refine r_callVv (As := [.int (σ2 25 2), .int x2]) (rest := []) C hl ml_X7_42 rc_28 (gX5_put l C.inj 28 9 row_28 (σ2 25 2) x2 σ2) ⟨Nat.le_of_ble_eq_true rfl, Nat.le_of_ble_eq_true rfl⟩ ⟨Nat.le_of_ble_eq_true rfl, Nat.le_of_ble_eq_true rfl⟩ rfl rfl (Nat.le_of_ble_eq_true rfl) dX7_addEdge_21 (fun r3 σ4 => ?_)
  refine r_aload_n C dX7_addEdge_24 rfl (lv_at hl 0 rfl) ?_
  refine r_dup C dX7_addEdge_25 rfl ?_
  refine r_getI C fl_X7_23 lf_25_2 dX7_addEdge_26 ?_
  refine r_iconst (v := 1) C dX7_addEdge_29 (by decide) ?_
  refine r_iadd C dX7_addEdge_30 ?_
  refine r_putI C fl_X7_23 fp_X7_2 rfl rfl lf_25_2 dX7_addEdge_31 ?_
  refine r_letm (fun σ5 => ?_)
  exact r_vret C rfl dX7_addEdge_34

set_option maxRecDepth 100000 in
def fX7_edgeOf (x0 : Int32) (x1 : Int32) (σ : Mem) : Option (Int32 × Mem) := if (x1 : Int32) = 3 then some (remi x0 3, σ) else if (x1 : Int32) = 4 then some (remi (x0 / 3) 5, σ) else some (x0 / 15, σ)
set_option maxRecDepth 100000 in
set_option maxHeartbeats 4000000 in
theorem gX7_edgeOf (l : Launch) {D : va_G} {cI cZ : ClassId} {ad : Nat → Nat} {tT : Nat} (hi : INJ ad) (x0 : Int32) (x1 : Int32) (σ : Mem) : GM l D cI cZ ad tT yX7_edgeOf cX7_edgeOf 2 (some .int) 0 0 rvi [.int x0, .int x1] σ (fX7_edgeOf x0 x1 σ) := by
  refine gm_of (lv := [(0, .int x0), (1, .int x1)]) (own := RX7) hi (by decide +kernel) rfl (Nat.le_of_ble_eq_true rfl) rfl ?_
  intro p e s m args below meth c A C ls hl
  unfold fX7_edgeOf
  refine r_iload_n C dX7_edgeOf_0 rfl (lv_at hl 1 rfl) ?_
  refine r_iconst (v := 3) C dX7_edgeOf_1 (by decide) ?_
  refine r_icmp_ne (tgt := 11) C dX7_edgeOf_2 (by decide) ?_ ?_
  · refine r_iload_n C dX7_edgeOf_11 rfl (lv_at hl 1 rfl) ?_
    refine r_iconst (v := 4) C dX7_edgeOf_12 (by decide) ?_
    refine r_icmp_ne (tgt := 24) C dX7_edgeOf_13 (by decide) ?_ ?_
    · refine r_iload_n C dX7_edgeOf_24 rfl (lv_at hl 0 rfl) ?_
      refine r_bipush (v := 15) C dX7_edgeOf_25 (by decide) ?_
      refine r_idiv C dX7_edgeOf_27 (by decide) ?_
      exact r_iret C rfl dX7_edgeOf_28
    · refine r_iload_n C dX7_edgeOf_16 rfl (lv_at hl 0 rfl) ?_
      refine r_iconst (v := 3) C dX7_edgeOf_17 (by decide) ?_
      refine r_idiv C dX7_edgeOf_18 (by decide) ?_
      refine r_iconst (v := 5) C dX7_edgeOf_19 (by decide) ?_
      refine r_irem2 C dX7_edgeOf_20 (by decide) ?_
      refine r_goto (tgt := 28) C dX7_edgeOf_21 (by decide) ?_
      exact r_iret C rfl dX7_edgeOf_28
  · refine r_iload_n C dX7_edgeOf_5 rfl (lv_at hl 0 rfl) ?_
    refine r_iconst (v := 3) C dX7_edgeOf_6 (by decide) ?_
    refine r_irem2 C dX7_edgeOf_7 (by decide) ?_
    refine r_goto (tgt := 28) C dX7_edgeOf_8 (by decide) ?_
    exact r_iret C rfl dX7_edgeOf_28

set_option maxRecDepth 100000 in
def fX7_hang (x1 : Int32) (x2 : Int32) (σ : Mem) : Option (Int32 × Mem) := letv (((6 : Int32) + x1) - 2) (fun v1 => bnd (fX5_at 28 9 x2 σ) (fun r2 σ3 => bnd (fX5_put 28 9 x2 v1 σ3) (fun r4 σ5 => bnd (fX7_addEdge v1 r2 σ5) (fun r6 σ7 => bnd (fX7_addEdge v1 x1 σ7) (fun r8 σ9 => some (0, σ9))))))
set_option maxRecDepth 100000 in
set_option maxHeartbeats 4000000 in
theorem gX7_hang (l : Launch) {D : va_G} {cI cZ : ClassId} {ad : Nat → Nat} {tT : Nat} (hi : INJ ad) (x1 : Int32) (x2 : Int32) (σ : Mem) : GM l D cI cZ ad tT yX7_hang cX7_hang 5 (none) 2 44 rvv [.ref (ad 25), .int x1, .int x2] σ (fX7_hang x1 x2 σ) := by
  refine gm_of (lv := [(0, .ref (ad 25)), (1, .int x1), (2, .int x2)]) (own := RX7) hi (by decide +kernel) rfl (Nat.le_of_ble_eq_true rfl) rfl ?_
  intro p e s m args below meth c A C ls hl
  unfold fX7_hang
  refine r_bipush (v := 6) C dX7_hang_0 (by decide) ?_
  refine r_iload_n C dX7_hang_2 rfl (lv_at hl 1 rfl) ?_
  refine r_iadd C dX7_hang_3 ?_
  refine r_iconst (v := 2) C dX7_hang_4 (by decide) ?_
  refine r_isub C dX7_hang_5 ?_
  refine r_letv (fun v1 => ?_)
  refine r_istore_n (lv' := [(3, .int v1), (0, .ref (ad 25)), (1, .int x1), (2, .int x2)]) C dX7_hang_6 rfl hl (by decide) rfl (fun ls hl => ?_)
  refine r_aload_n C dX7_hang_7 rfl (lv_at hl 1 rfl) ?_
  refine r_getR C fl_X7_20 lf_25_1 dX7_hang_8 ?_
  refine r_iload_n C dX7_hang_11 rfl (lv_at hl 3 rfl) ?_
  refine r_callVi (As := [.int x2]) (rest := []) C hl ml_X7_38 rc_28 (gX5_at l C.inj 28 9 row_28 x2 σ) ⟨Nat.le_of_ble_eq_true rfl, Nat.le_of_ble_eq_true rfl⟩ ⟨Nat.le_of_ble_eq_true rfl, Nat.le_of_ble_eq_true rfl⟩ rfl rfl (Nat.le_of_ble_eq_true rfl) dX7_hang_12 (fun r2 σ3 => ?_)
  refine r_istore (lv' := [(4, .int r2), (3, .int v1), (0, .ref (ad 25)), (1, .int x1), (2, .int x2)]) C dX7_hang_15 hl (by decide) rfl (fun ls hl => ?_)
  refine r_aload_n C dX7_hang_17 rfl (lv_at hl 2 rfl) ?_
  refine r_getR C fl_X7_20 lf_25_1 dX7_hang_18 ?_
  refine r_iload_n C dX7_hang_21 rfl (lv_at hl 4 rfl) ?_
  refine r_iload_n C dX7_hang_22 rfl (lv_at hl 1 rfl) ?_
  refine r_callVv (As := [.int x2, .int v1]) (rest := []) C hl ml_X7_42 rc_28 (gX5_put l C.inj 28 9 row_28 x2 v1 σ3) ⟨Nat.le_of_ble_eq_true rfl, Nat.le_of_ble_eq_true rfl⟩ ⟨Nat.le_of_ble_eq_true rfl, Nat.le_of_ble_eq_true rfl⟩ rfl rfl (Nat.le_of_ble_eq_true rfl) dX7_hang_23 (fun r4 σ5 => ?_)
  refine r_aload_n C dX7_hang_26 rfl (lv_at hl 2 rfl) ?_
  refine r_iload_n C dX7_hang_27 rfl (lv_at hl 1 rfl) ?_
  refine r_iload C dX7_hang_28 (lv_at hl 0 rfl) ?_
  refine r_callVv (As := [.int v1, .int r2]) (rest := []) C hl ml_X7_27 rc_25 (gX7_addEdge l C.inj v1 r2 σ5) ⟨Nat.le_of_ble_eq_true rfl, Nat.le_of_ble_eq_true rfl⟩ ⟨Nat.le_of_ble_eq_true rfl, Nat.le_of_ble_eq_true rfl⟩ rfl rfl (Nat.le_of_ble_eq_true rfl) dX7_hang_30 (fun r6 σ7 => ?_)
  refine r_aload_n C dX7_hang_33 rfl (lv_at hl 2 rfl) ?_
  refine r_iload_n C dX7_hang_34 rfl (lv_at hl 1 rfl) ?_
  refine r_iload_n C dX7_hang_35 rfl (lv_at hl 3 rfl) ?_
  refine r_callVv (As := [.int v1, .int x1]) (rest := []) C hl ml_X7_27 rc_25 (gX7_addEdge l C.inj v1 x1 σ7) ⟨Nat.le_of_ble_eq_true rfl, Nat.le_of_ble_eq_true rfl⟩ ⟨Nat.le_of_ble_eq_true rfl, Nat.le_of_ble_eq_true rfl⟩ rfl rfl (Nat.le_of_ble_eq_true rfl) dX7_hang_36 (fun r8 σ9 => ?_)
  exact r_vret C rfl dX7_hang_39

set_option maxRecDepth 100000 in
def BX7_grow_24 (k42 : Int32 → Int32 → Mem → Option (Int32 × Mem)) (rec : Int32 → Int32 → Int32 → Mem → Option (Int32 × Mem)) (x1 : Int32) (x2 : Int32) (x3 : Int32) (σ : Mem) : Option (Int32 × Mem) := if (3 : Int32) ≤ x3 then k42 x1 x2 σ else bnd (fX7_addEdge x3 6 σ) (fun r3 σ4 => rec x1 x2 (x3 + 1) σ4)
def LX7_grow_24 (k42 : Int32 → Int32 → Mem → Option (Int32 × Mem)) : Nat → Int32 → Int32 → Int32 → Mem → Option (Int32 × Mem)
  | 0 => fun _ _ _ _ => none
  | n + 1 => BX7_grow_24 k42 (LX7_grow_24 k42 n)
set_option maxRecDepth 100000 in
set_option maxHeartbeats 4000000 in
theorem wX7_grow_24 {p : Program} {l : Launch} {e : Env} {s : State} {m : MethodId} {args : Array Value} {below : List Frame} {meth : Method} {c : Code} {D : va_G} {cI cZ : ClassId} {ad : Nat → Nat} {tT : Nat} {A : Nat → Prop} (C : CX p s m args meth c cX7_grow 4 RX7 (none) D cI cZ ad tT A) (k42 : Int32 → Int32 → Mem → Option (Int32 × Mem)) (hk42 : ∀ (x1 : Int32) (x2 : Int32) (σ : Mem) (ls : Array Slot), lv_has ls 4 [(0, .ref (ad 25)), (1, .int x1), (2, .int x2)] → WM p l e 3 68 s m args below meth c D cI cZ ad A rvv (k42 x1 x2 σ) σ (F0 m 42 ls [])) :
    ∀ (n0 : Nat), ∀ (x1 : Int32) (x2 : Int32) (x3 : Int32) (σ : Mem) (ls : Array Slot), lv_has ls 4 [(0, .ref (ad 25)), (1, .int x1), (2, .int x2), (3, .int x3)] → WM p l e 3 68 s m args below meth c D cI cZ ad A rvv (LX7_grow_24 k42 n0 x1 x2 x3 σ) σ (F0 m 24 ls []) := by
  intro n0
  induction n0 with
  | zero => intro x1 x2 x3 σ ls hl; exact r_none
  | succ n0 ih =>
    intro x1 x2 x3 σ ls hl
    show WM p l e 3 68 s m args below meth c D cI cZ ad A rvv (BX7_grow_24 k42 (LX7_grow_24 k42 n0) x1 x2 x3 σ) σ (F0 m 24 ls [])
    unfold BX7_grow_24
    refine r_iload_n C dX7_grow_24 rfl (lv_at hl 3 rfl) ?_
    refine r_iconst (v := 3) C dX7_grow_25 (by decide) ?_
    refine r_icmp_ge (tgt := 42) C dX7_grow_26 (by decide) ?_ ?_
    · exact hk42 x1 x2 σ ls (lv_sub hl [0, 1, 2] rfl)
    · refine r_aload_n C dX7_grow_29 rfl (lv_at hl 0 rfl) ?_
      refine r_iload_n C dX7_grow_30 rfl (lv_at hl 3 rfl) ?_
      refine r_bipush (v := 6) C dX7_grow_31 (by decide) ?_
      refine r_callVv (As := [.int x3, .int 6]) (rest := []) C hl ml_X7_27 rc_25 (gX7_addEdge l C.inj x3 6 σ) ⟨Nat.le_of_ble_eq_true rfl, Nat.le_of_ble_eq_true rfl⟩ ⟨Nat.le_of_ble_eq_true rfl, Nat.le_of_ble_eq_true rfl⟩ rfl rfl (Nat.le_of_ble_eq_true rfl) dX7_grow_33 (fun r3 σ4 => ?_)
      refine r_iinc (v := x3 + 1) (lv' := [(3, .int (x3 + 1)), (0, .ref (ad 25)), (1, .int x1), (2, .int x2)]) C dX7_grow_36 hl (k := 3) rfl rfl (by decide) rfl (fun ls hl => ?_)
      refine r_goto (tgt := 24) C dX7_grow_39 (by decide) ?_
      exact ih x1 x2 (x3 + 1) σ4 ls (lv_sub hl [1, 2, 3, 0] rfl)
set_option maxRecDepth 100000 in
def BX7_grow_44 (k65 : Mem → Option (Int32 × Mem)) (rec : Int32 → Int32 → Int32 → Mem → Option (Int32 × Mem)) (x1 : Int32) (x2 : Int32) (x3 : Int32) (σ : Mem) : Option (Int32 × Mem) := if (x2 : Int32) ≤ x3 then k65 σ else bnd (fX7_edgeOf x1 x3 σ) (fun r6 σ7 => bnd (fX7_hang x3 r6 σ7) (fun r8 σ9 => rec x1 x2 (x3 + 1) σ9))
def LX7_grow_44 (k65 : Mem → Option (Int32 × Mem)) : Nat → Int32 → Int32 → Int32 → Mem → Option (Int32 × Mem)
  | 0 => fun _ _ _ _ => none
  | n + 1 => BX7_grow_44 k65 (LX7_grow_44 k65 n)
set_option maxRecDepth 100000 in
set_option maxHeartbeats 4000000 in
theorem wX7_grow_44 {p : Program} {l : Launch} {e : Env} {s : State} {m : MethodId} {args : Array Value} {below : List Frame} {meth : Method} {c : Code} {D : va_G} {cI cZ : ClassId} {ad : Nat → Nat} {tT : Nat} {A : Nat → Prop} (C : CX p s m args meth c cX7_grow 4 RX7 (none) D cI cZ ad tT A) (k65 : Mem → Option (Int32 × Mem)) (hk65 : ∀ (σ : Mem) (ls : Array Slot), lv_has ls 4 [] → WM p l e 3 68 s m args below meth c D cI cZ ad A rvv (k65 σ) σ (F0 m 65 ls [])) :
    ∀ (n0 : Nat), ∀ (x1 : Int32) (x2 : Int32) (x3 : Int32) (σ : Mem) (ls : Array Slot), lv_has ls 4 [(0, .ref (ad 25)), (1, .int x1), (2, .int x2), (3, .int x3)] → WM p l e 3 68 s m args below meth c D cI cZ ad A rvv (LX7_grow_44 k65 n0 x1 x2 x3 σ) σ (F0 m 44 ls []) := by
  intro n0
  induction n0 with
  | zero => intro x1 x2 x3 σ ls hl; exact r_none
  | succ n0 ih =>
    intro x1 x2 x3 σ ls hl
    show WM p l e 3 68 s m args below meth c D cI cZ ad A rvv (BX7_grow_44 k65 (LX7_grow_44 k65 n0) x1 x2 x3 σ) σ (F0 m 44 ls [])
    unfold BX7_grow_44
    refine r_iload_n C dX7_grow_44 rfl (lv_at hl 3 rfl) ?_
    refine r_iload_n C dX7_grow_45 rfl (lv_at hl 2 rfl) ?_
    refine r_icmp_ge (tgt := 65) C dX7_grow_46 (by decide) ?_ ?_
    · exact hk65 σ ls (lv_sub hl [] rfl)
    · refine r_aload_n C dX7_grow_49 rfl (lv_at hl 0 rfl) ?_
      refine r_iload_n C dX7_grow_50 rfl (lv_at hl 3 rfl) ?_
      refine r_iload_n C dX7_grow_51 rfl (lv_at hl 1 rfl) ?_
      refine r_iload_n C dX7_grow_52 rfl (lv_at hl 3 rfl) ?_
      refine r_callSi (As := [.int x1, .int x3]) (rest := [.int x3, .ref (ad 25)]) C hl ml_X7_31 (gX7_edgeOf l C.inj x1 x3 σ) ⟨Nat.le_of_ble_eq_true rfl, Nat.le_of_ble_eq_true rfl⟩ ⟨Nat.le_of_ble_eq_true rfl, Nat.le_of_ble_eq_true rfl⟩ rfl rfl (Nat.le_of_ble_eq_true rfl) dX7_grow_53 (fun r6 σ7 => ?_)
      refine r_callVv (As := [.int x3, .int r6]) (rest := []) C hl ml_X7_35 rc_25 (gX7_hang l C.inj x3 r6 σ7) ⟨Nat.le_of_ble_eq_true rfl, Nat.le_of_ble_eq_true rfl⟩ ⟨Nat.le_of_ble_eq_true rfl, Nat.le_of_ble_eq_true rfl⟩ rfl rfl (Nat.le_of_ble_eq_true rfl) dX7_grow_56 (fun r8 σ9 => ?_)
      refine r_iinc (v := x3 + 1) (lv' := [(3, .int (x3 + 1)), (0, .ref (ad 25)), (1, .int x1), (2, .int x2)]) C dX7_grow_59 hl (k := 3) rfl rfl (by decide) rfl (fun ls hl => ?_)
      refine r_goto (tgt := 44) C dX7_grow_62 (by decide) ?_
      exact ih x1 x2 (x3 + 1) σ9 ls (lv_sub hl [1, 2, 3, 0] rfl)
set_option maxRecDepth 100000 in
def fX7_grow (x1 : Int32) (x2 : Int32) (σ : Mem) : Option (Int32 × Mem) := letm (stm σ 25 2 0) (fun σ1 => jn (fun x1 x2 σ2 => if (3 : Int32) ≤ x2 then LX7_grow_24 (fun x1 x2 σ5 => LX7_grow_44 (fun σ10 => some (0, σ10)) 300 x1 x2 3 σ5) 300 x1 x2 0 σ2 else some (0, σ2)) (fun k16 => if (x2 : Int32) = 2 then bnd (fX7_addEdge 0 1 σ1) (fun r11 σ12 => k16 x1 x2 σ12) else k16 x1 x2 σ1))
set_option maxRecDepth 100000 in
set_option maxHeartbeats 4000000 in
theorem gX7_grow (l : Launch) {D : va_G} {cI cZ : ClassId} {ad : Nat → Nat} {tT : Nat} (hi : INJ ad) (x1 : Int32) (x2 : Int32) (σ : Mem) : GM l D cI cZ ad tT yX7_grow cX7_grow 4 (none) 3 68 rvv [.ref (ad 25), .int x1, .int x2] σ (fX7_grow x1 x2 σ) := by
  refine gm_of (lv := [(0, .ref (ad 25)), (1, .int x1), (2, .int x2)]) (own := RX7) hi (by decide +kernel) rfl (Nat.le_of_ble_eq_true rfl) rfl ?_
  intro p e s m args below meth c A C ls hl
  unfold fX7_grow
  refine r_aload_n C dX7_grow_0 rfl (lv_at hl 0 rfl) ?_
  refine r_iconst (v := 0) C dX7_grow_1 (by decide) ?_
  refine r_putI C fl_X7_23 fp_X7_2 rfl rfl lf_25_2 dX7_grow_2 ?_
  refine r_letm (fun σ1 => ?_)
  refine r_iload_n C dX7_grow_5 rfl (lv_at hl 2 rfl) ?_
  refine r_iconst (v := 2) C dX7_grow_6 (by decide) ?_
  refine r_jn (fun (k16 : Int32 → Int32 → Mem → Option (Int32 × Mem)) => ∀ (x1 : Int32) (x2 : Int32) (σ : Mem) (ls : Array Slot), lv_has ls 4 [(0, .ref (ad 25)), (1, .int x1), (2, .int x2)] → WM p l e 3 68 s m args below meth c D cI cZ ad A rvv (k16 x1 x2 σ) σ (F0 m 16 ls [])) ?_ ?_
  · intro x1 x2 σ2 ls hl
    refine r_iload_n C dX7_grow_16 rfl (lv_at hl 2 rfl) ?_
    refine r_iconst (v := 3) C dX7_grow_17 (by decide) ?_
    refine r_icmp_ge (tgt := 22) C dX7_grow_18 (by decide) ?_ ?_
    · refine r_iconst (v := 0) C dX7_grow_22 (by decide) ?_
      refine r_istore_n (lv' := [(3, .int 0), (0, .ref (ad 25)), (1, .int x1), (2, .int x2)]) C dX7_grow_23 rfl hl (by decide) rfl (fun ls hl => ?_)
      refine wX7_grow_24  C _ ?_ 300 x1 x2 0 σ2 ls (lv_sub hl [1, 2, 3, 0] rfl)
      · intro x1 x2 σ5 ls hl
        refine r_iconst (v := 3) C dX7_grow_42 (by decide) ?_
        refine r_istore_n (lv' := [(3, .int 3), (0, .ref (ad 25)), (1, .int x1), (2, .int x2)]) C dX7_grow_43 rfl hl (by decide) rfl (fun ls hl => ?_)
        refine wX7_grow_44  C _ ?_ 300 x1 x2 3 σ5 ls (lv_sub hl [1, 2, 3, 0] rfl)
        · intro σ10 ls hl
          exact r_vret C rfl dX7_grow_65
    · exact r_vret C rfl dX7_grow_21
  · intro k16 hk16
    refine r_icmp_ne (tgt := 16) C dX7_grow_7 (by decide) ?_ ?_
    · exact hk16 x1 x2 σ1 ls (lv_sub hl [0, 1, 2] rfl)
    · refine r_aload_n C dX7_grow_10 rfl (lv_at hl 0 rfl) ?_
      refine r_iconst (v := 0) C dX7_grow_11 (by decide) ?_
      refine r_iconst (v := 1) C dX7_grow_12 (by decide) ?_
      refine r_callVv (As := [.int 0, .int 1]) (rest := []) C hl ml_X7_27 rc_25 (gX7_addEdge l C.inj 0 1 σ1) ⟨Nat.le_of_ble_eq_true rfl, Nat.le_of_ble_eq_true rfl⟩ ⟨Nat.le_of_ble_eq_true rfl, Nat.le_of_ble_eq_true rfl⟩ rfl rfl (Nat.le_of_ble_eq_true rfl) dX7_grow_13 (fun r11 σ12 => ?_)
      exact hk16 x1 x2 σ12 ls (lv_sub hl [0, 1, 2] rfl)

set_option maxRecDepth 100000 in
def fX7_weightOf (x0 : Int32) (σ : Mem) : Option (Int32 × Mem) := if (x0 : Int32) = 3 then some (1, σ) else if (x0 : Int32) = 4 then some (3, σ) else some (15, σ)
set_option maxRecDepth 100000 in
set_option maxHeartbeats 4000000 in
theorem gX7_weightOf (l : Launch) {D : va_G} {cI cZ : ClassId} {ad : Nat → Nat} {tT : Nat} (hi : INJ ad) (x0 : Int32) (σ : Mem) : GM l D cI cZ ad tT yX7_weightOf cX7_weightOf 1 (some .int) 0 0 rvi [.int x0] σ (fX7_weightOf x0 σ) := by
  refine gm_of (lv := [(0, .int x0)]) (own := RX7) hi (by decide +kernel) rfl (Nat.le_of_ble_eq_true rfl) rfl ?_
  intro p e s m args below meth c A C ls hl
  unfold fX7_weightOf
  refine r_iload_n C dX7_weightOf_0 rfl (lv_at hl 0 rfl) ?_
  refine r_iconst (v := 3) C dX7_weightOf_1 (by decide) ?_
  refine r_icmp_ne (tgt := 9) C dX7_weightOf_2 (by decide) ?_ ?_
  · refine r_iload_n C dX7_weightOf_9 rfl (lv_at hl 0 rfl) ?_
    refine r_iconst (v := 4) C dX7_weightOf_10 (by decide) ?_
    refine r_icmp_ne (tgt := 18) C dX7_weightOf_11 (by decide) ?_ ?_
    · refine r_bipush (v := 15) C dX7_weightOf_18 (by decide) ?_
      exact r_iret C rfl dX7_weightOf_20
    · refine r_iconst (v := 3) C dX7_weightOf_14 (by decide) ?_
      refine r_goto (tgt := 20) C dX7_weightOf_15 (by decide) ?_
      exact r_iret C rfl dX7_weightOf_20
  · refine r_iconst (v := 1) C dX7_weightOf_5 (by decide) ?_
    refine r_goto (tgt := 20) C dX7_weightOf_6 (by decide) ?_
    exact r_iret C rfl dX7_weightOf_20

set_option maxRecDepth 100000 in
def fX8_edgesOf (x0 : Int32) (σ : Mem) : Option (Int32 × Mem) := if (3 : Int32) ≤ x0 then some (((2 : Int32) * x0) - 3, σ) else some (mx (x0 - 1) 0, σ)
set_option maxRecDepth 100000 in
set_option maxHeartbeats 4000000 in
theorem gX8_edgesOf (l : Launch) {D : va_G} {cI cZ : ClassId} {ad : Nat → Nat} {tT : Nat} (hi : INJ ad) (x0 : Int32) (σ : Mem) : GM l D cI cZ ad tT yX8_edgesOf cX8_edgesOf 1 (some .int) 1 21 rvi [.int x0] σ (fX8_edgesOf x0 σ) := by
  refine gm_of (lv := [(0, .int x0)]) (own := RX8) hi (by decide +kernel) rfl (Nat.le_of_ble_eq_true rfl) rfl ?_
  intro p e s m args below meth c A C ls hl
  unfold fX8_edgesOf
  refine r_iload_n C dX8_edgesOf_0 rfl (lv_at hl 0 rfl) ?_
  refine r_iconst (v := 3) C dX8_edgesOf_1 (by decide) ?_
  refine r_icmp_ge (tgt := 15) C dX8_edgesOf_2 (by decide) ?_ ?_
  · refine r_iconst (v := 2) C dX8_edgesOf_15 (by decide) ?_
    refine r_iload_n C dX8_edgesOf_16 rfl (lv_at hl 0 rfl) ?_
    refine r_imul C dX8_edgesOf_17 ?_
    refine r_iconst (v := 3) C dX8_edgesOf_18 (by decide) ?_
    refine r_isub C dX8_edgesOf_19 ?_
    exact r_iret C rfl dX8_edgesOf_20
  · refine r_iload_n C dX8_edgesOf_5 rfl (lv_at hl 0 rfl) ?_
    refine r_iconst (v := 1) C dX8_edgesOf_6 (by decide) ?_
    refine r_isub C dX8_edgesOf_7 ?_
    refine r_iconst (v := 0) C dX8_edgesOf_8 (by decide) ?_
    refine r_mmax2 C hl ml_X8_255 ⟨Nat.le_of_ble_eq_true rfl, Nat.le_of_ble_eq_true rfl, Nat.le_of_ble_eq_true rfl, Nat.le_of_ble_eq_true rfl⟩ dX8_edgesOf_9 ?_
    refine r_goto (tgt := 20) C dX8_edgesOf_12 (by decide) ?_
    exact r_iret C rfl dX8_edgesOf_20
