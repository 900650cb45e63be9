def fX8_imageOf0 (x1 : Int32) (σ : Mem) : Option (Int32 × Mem) := if (x1 : Int32) = 0 then some (0, σ) else none
def fX8_imageOf1 (x1 : Int32) (σ : Mem) : Option (Int32 × Mem) := if (x1 : Int32) = 0 then none else some (0, σ)
theorem gX8_imageOf0 (l : Launch) {D : va_G} {cI cZ : ClassId} {ad : Nat → Nat} {tT : Nat} (hi : INJ ad) (x1 : Int32) (σ : Mem) : GM l D cI cZ ad tT yX8_imageOf cX8_imageOf 2 (some (.object "StemmaTree$Image")) 0 0 (fun _ => some (.ref (ad 15))) [.ref (ad 0), .int x1] σ (fX8_imageOf0 x1 σ) := by
  refine gm_of (lv := [(0, .ref (ad 0)), (1, .int x1)]) (own := RX8) hi (by decide +kernel) rfl (Nat.le_of_ble_eq_true rfl) rfl ?_
  intro p e s m args below meth c A C ls hl
  unfold fX8_imageOf0
  refine r_iload_n C dX8_imageOf_0 rfl (lv_at hl 1 rfl) ?_
  refine r_if_ne (tgt := 11) C dX8_imageOf_1 (by decide) ?_ ?_
  · exact r_none
  · refine r_aload_n C dX8_imageOf_4 rfl (lv_at hl 0 rfl) ?_
    refine r_getR C fl_X8_36 lf_0_4 dX8_imageOf_5 ?_
    refine r_goto (tgt := 15) C dX8_imageOf_8 (by decide) ?_
    exact r_aret C rfl ⟨_, rfl⟩ dX8_imageOf_15
theorem gX8_imageOf1 (l : Launch) {D : va_G} {cI cZ : ClassId} {ad : Nat → Nat} {tT : Nat} (hi : INJ ad) (x1 : Int32) (σ : Mem) : GM l D cI cZ ad tT yX8_imageOf cX8_imageOf 2 (some (.object "StemmaTree$Image")) 0 0 (fun _ => some (.ref (ad 19))) [.ref (ad 0), .int x1] σ (fX8_imageOf1 x1 σ) := by
  refine gm_of (lv := [(0, .ref (ad 0)), (1, .int x1)]) (own := RX8) hi (by decide +kernel) rfl (Nat.le_of_ble_eq_true rfl) rfl ?_
  intro p e s m args below meth c A C ls hl
  unfold fX8_imageOf1
  refine r_iload_n C dX8_imageOf_0 rfl (lv_at hl 1 rfl) ?_
  refine r_if_ne (tgt := 11) C dX8_imageOf_1 (by decide) ?_ ?_
  · refine r_aload_n C dX8_imageOf_11 rfl (lv_at hl 0 rfl) ?_
    refine r_getR C fl_X8_40 lf_0_5 dX8_imageOf_12 ?_
    exact r_aret C rfl ⟨_, rfl⟩ dX8_imageOf_15
  · exact r_none
