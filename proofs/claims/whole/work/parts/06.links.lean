def ROW (c n : Nat) : Prop := LY[c]? = some (.inr (5, [some (c + 1)])) ∧ LY[c + 1]? = some (.inl (true, n))
def RDG (c : Nat) : Prop := LY[c]? = some (.inr (4, [some (c + 1), none, none])) ∧ ROW (c + 1) 48
theorem lf5 {c n : Nat} (h : ROW c n) : LF c 5 0 (some (c + 1)) := ⟨_, h.1, rfl⟩
theorem lf4_0 {c : Nat} (h : RDG c) : LF c 4 0 (some (c + 1)) := ⟨_, h.1, rfl⟩
theorem lf4_1 {c : Nat} (h : RDG c) : LF c 4 1 none := ⟨_, h.1, rfl⟩
theorem lf4_2 {c : Nat} (h : RDG c) : LF c 4 2 none := ⟨_, h.1, rfl⟩
theorem rc5 {c n : Nat} (h : ROW c n) : RCV c RX5 := ⟨5, _, TX5, 1, h.1, rfl⟩
theorem rc4 {c : Nat} (h : RDG c) : RCV c RX4 := ⟨4, _, TX4, 3, h.1, rfl⟩
theorem rc_0 : RCV 0 RX8 := ⟨8, _, TX8, 16, rfl, rfl⟩
theorem lf_0_0 : LF 0 8 0 (some 1) := ⟨_, rfl, rfl⟩
theorem lf_0_1 : LF 0 8 1 (some 4) := ⟨_, rfl, rfl⟩
theorem lf_0_2 : LF 0 8 2 (some 7) := ⟨_, rfl, rfl⟩
theorem lf_0_3 : LF 0 8 3 (some 10) := ⟨_, rfl, rfl⟩
theorem lf_0_4 : LF 0 8 4 (some 15) := ⟨_, rfl, rfl⟩
theorem lf_0_5 : LF 0 8 5 (some 19) := ⟨_, rfl, rfl⟩
theorem lf_0_6 : LF 0 8 6 (some 23) := ⟨_, rfl, rfl⟩
theorem lf_0_7 : LF 0 8 7 (some 25) := ⟨_, rfl, rfl⟩
theorem lf_0_8 : LF 0 8 8 (some 30) := ⟨_, rfl, rfl⟩
theorem lf_0_9 : LF 0 8 9 (some 41) := ⟨_, rfl, rfl⟩
theorem lf_0_10 : LF 0 8 10 (some 43) := ⟨_, rfl, rfl⟩
theorem lf_0_11 : LF 0 8 11 (some 45) := ⟨_, rfl, rfl⟩
theorem lf_0_12 : LF 0 8 12 (some 47) := ⟨_, rfl, rfl⟩
theorem lf_0_13 : LF 0 8 13 (none) := ⟨_, rfl, rfl⟩
theorem lf_0_14 : LF 0 8 14 (none) := ⟨_, rfl, rfl⟩
theorem lf_0_15 : LF 0 8 15 (none) := ⟨_, rfl, rfl⟩
theorem rc_1 : RCV 1 RX6 := ⟨6, _, TX6, 2, rfl, rfl⟩
theorem lf_1_0 : LF 1 6 0 (some 2) := ⟨_, rfl, rfl⟩
theorem lf_1_1 : LF 1 6 1 (none) := ⟨_, rfl, rfl⟩
theorem rc_2 : RCV 2 RX5 := ⟨5, _, TX5, 1, rfl, rfl⟩
theorem lf_2_0 : LF 2 5 0 (some 3) := ⟨_, rfl, rfl⟩
theorem row_2 : ROW 2 90 := ⟨rfl, rfl⟩
theorem la_3 : LY[3]? = some (.inl (true, 90)) := rfl
theorem rc_4 : RCV 4 RX4 := ⟨4, _, TX4, 3, rfl, rfl⟩
theorem lf_4_0 : LF 4 4 0 (some 5) := ⟨_, rfl, rfl⟩
theorem lf_4_1 : LF 4 4 1 (none) := ⟨_, rfl, rfl⟩
theorem lf_4_2 : LF 4 4 2 (none) := ⟨_, rfl, rfl⟩
theorem rc_5 : RCV 5 RX5 := ⟨5, _, TX5, 1, rfl, rfl⟩
theorem lf_5_0 : LF 5 5 0 (some 6) := ⟨_, rfl, rfl⟩
theorem row_5 : ROW 5 48 := ⟨rfl, rfl⟩
theorem la_6 : LY[6]? = some (.inl (true, 48)) := rfl
theorem rc_7 : RCV 7 RX4 := ⟨4, _, TX4, 3, rfl, rfl⟩
theorem lf_7_0 : LF 7 4 0 (some 8) := ⟨_, rfl, rfl⟩
theorem lf_7_1 : LF 7 4 1 (none) := ⟨_, rfl, rfl⟩
theorem lf_7_2 : LF 7 4 2 (none) := ⟨_, rfl, rfl⟩
theorem rc_8 : RCV 8 RX5 := ⟨5, _, TX5, 1, rfl, rfl⟩
theorem lf_8_0 : LF 8 5 0 (some 9) := ⟨_, rfl, rfl⟩
theorem row_8 : ROW 8 48 := ⟨rfl, rfl⟩
theorem la_9 : LY[9]? = some (.inl (true, 48)) := rfl
theorem rc_10 : RCV 10 RX1 := ⟨1, _, TX1, 3, rfl, rfl⟩
theorem lf_10_0 : LF 10 1 0 (some 11) := ⟨_, rfl, rfl⟩
theorem lf_10_1 : LF 10 1 1 (some 13) := ⟨_, rfl, rfl⟩
theorem lf_10_2 : LF 10 1 2 (none) := ⟨_, rfl, rfl⟩
theorem rc_11 : RCV 11 RX5 := ⟨5, _, TX5, 1, rfl, rfl⟩
theorem lf_11_0 : LF 11 5 0 (some 12) := ⟨_, rfl, rfl⟩
theorem row_11 : ROW 11 10 := ⟨rfl, rfl⟩
theorem la_12 : LY[12]? = some (.inl (true, 10)) := rfl
theorem rc_13 : RCV 13 RX5 := ⟨5, _, TX5, 1, rfl, rfl⟩
theorem lf_13_0 : LF 13 5 0 (some 14) := ⟨_, rfl, rfl⟩
theorem row_13 : ROW 13 10 := ⟨rfl, rfl⟩
theorem la_14 : LY[14]? = some (.inl (true, 10)) := rfl
theorem rc_15 : RCV 15 RX2 := ⟨2, _, TX2, 3, rfl, rfl⟩
theorem lf_15_0 : LF 15 2 0 (some 16) := ⟨_, rfl, rfl⟩
theorem lf_15_1 : LF 15 2 1 (none) := ⟨_, rfl, rfl⟩
theorem lf_15_2 : LF 15 2 2 (none) := ⟨_, rfl, rfl⟩
theorem rc_16 : RCV 16 RX4 := ⟨4, _, TX4, 3, rfl, rfl⟩
theorem lf_16_0 : LF 16 4 0 (some 17) := ⟨_, rfl, rfl⟩
theorem lf_16_1 : LF 16 4 1 (none) := ⟨_, rfl, rfl⟩
theorem lf_16_2 : LF 16 4 2 (none) := ⟨_, rfl, rfl⟩
theorem rc_17 : RCV 17 RX5 := ⟨5, _, TX5, 1, rfl, rfl⟩
theorem lf_17_0 : LF 17 5 0 (some 18) := ⟨_, rfl, rfl⟩
theorem row_17 : ROW 17 48 := ⟨rfl, rfl⟩
theorem la_18 : LY[18]? = some (.inl (true, 48)) := rfl
theorem rc_19 : RCV 19 RX2 := ⟨2, _, TX2, 3, rfl, rfl⟩
theorem lf_19_0 : LF 19 2 0 (some 20) := ⟨_, rfl, rfl⟩
theorem lf_19_1 : LF 19 2 1 (none) := ⟨_, rfl, rfl⟩
theorem lf_19_2 : LF 19 2 2 (none) := ⟨_, rfl, rfl⟩
theorem rc_20 : RCV 20 RX4 := ⟨4, _, TX4, 3, rfl, rfl⟩
theorem lf_20_0 : LF 20 4 0 (some 21) := ⟨_, rfl, rfl⟩
theorem lf_20_1 : LF 20 4 1 (none) := ⟨_, rfl, rfl⟩
theorem lf_20_2 : LF 20 4 2 (none) := ⟨_, rfl, rfl⟩
theorem rc_21 : RCV 21 RX5 := ⟨5, _, TX5, 1, rfl, rfl⟩
theorem lf_21_0 : LF 21 5 0 (some 22) := ⟨_, rfl, rfl⟩
theorem row_21 : ROW 21 48 := ⟨rfl, rfl⟩
theorem la_22 : LY[22]? = some (.inl (true, 48)) := rfl
theorem rc_23 : RCV 23 RX5 := ⟨5, _, TX5, 1, rfl, rfl⟩
theorem lf_23_0 : LF 23 5 0 (some 24) := ⟨_, rfl, rfl⟩
theorem row_23 : ROW 23 6 := ⟨rfl, rfl⟩
theorem la_24 : LY[24]? = some (.inl (true, 6)) := rfl
theorem rc_25 : RCV 25 RX7 := ⟨7, _, TX7, 3, rfl, rfl⟩
theorem lf_25_0 : LF 25 7 0 (some 26) := ⟨_, rfl, rfl⟩
theorem lf_25_1 : LF 25 7 1 (some 28) := ⟨_, rfl, rfl⟩
theorem lf_25_2 : LF 25 7 2 (none) := ⟨_, rfl, rfl⟩
theorem rc_26 : RCV 26 RX5 := ⟨5, _, TX5, 1, rfl, rfl⟩
theorem lf_26_0 : LF 26 5 0 (some 27) := ⟨_, rfl, rfl⟩
theorem row_26 : ROW 26 9 := ⟨rfl, rfl⟩
theorem la_27 : LY[27]? = some (.inl (true, 9)) := rfl
theorem rc_28 : RCV 28 RX5 := ⟨5, _, TX5, 1, rfl, rfl⟩
theorem lf_28_0 : LF 28 5 0 (some 29) := ⟨_, rfl, rfl⟩
theorem row_28 : ROW 28 9 := ⟨rfl, rfl⟩
theorem la_29 : LY[29]? = some (.inl (true, 9)) := rfl
theorem rc_30 : RCV 30 RX0 := ⟨0, _, TX0, 6, rfl, rfl⟩
theorem lf_30_0 : LF 30 0 0 (some 31) := ⟨_, rfl, rfl⟩
theorem lf_30_1 : LF 30 0 1 (some 33) := ⟨_, rfl, rfl⟩
theorem lf_30_2 : LF 30 0 2 (some 35) := ⟨_, rfl, rfl⟩
theorem lf_30_3 : LF 30 0 3 (some 37) := ⟨_, rfl, rfl⟩
theorem lf_30_4 : LF 30 0 4 (some 39) := ⟨_, rfl, rfl⟩
theorem lf_30_5 : LF 30 0 5 (none) := ⟨_, rfl, rfl⟩
theorem rc_31 : RCV 31 RX5 := ⟨5, _, TX5, 1, rfl, rfl⟩
theorem lf_31_0 : LF 31 5 0 (some 32) := ⟨_, rfl, rfl⟩
theorem row_31 : ROW 31 11 := ⟨rfl, rfl⟩
theorem la_32 : LY[32]? = some (.inl (true, 11)) := rfl
theorem rc_33 : RCV 33 RX5 := ⟨5, _, TX5, 1, rfl, rfl⟩
theorem lf_33_0 : LF 33 5 0 (some 34) := ⟨_, rfl, rfl⟩
theorem row_33 : ROW 33 11 := ⟨rfl, rfl⟩
theorem la_34 : LY[34]? = some (.inl (true, 11)) := rfl
theorem rc_35 : RCV 35 RX5 := ⟨5, _, TX5, 1, rfl, rfl⟩
theorem lf_35_0 : LF 35 5 0 (some 36) := ⟨_, rfl, rfl⟩
theorem row_35 : ROW 35 11 := ⟨rfl, rfl⟩
theorem la_36 : LY[36]? = some (.inl (true, 11)) := rfl
theorem rc_37 : RCV 37 RX5 := ⟨5, _, TX5, 1, rfl, rfl⟩
theorem lf_37_0 : LF 37 5 0 (some 38) := ⟨_, rfl, rfl⟩
theorem row_37 : ROW 37 11 := ⟨rfl, rfl⟩
theorem la_38 : LY[38]? = some (.inl (true, 11)) := rfl
theorem rc_39 : RCV 39 RX5 := ⟨5, _, TX5, 1, rfl, rfl⟩
theorem lf_39_0 : LF 39 5 0 (some 40) := ⟨_, rfl, rfl⟩
theorem row_39 : ROW 39 44 := ⟨rfl, rfl⟩
theorem la_40 : LY[40]? = some (.inl (true, 44)) := rfl
theorem rc_41 : RCV 41 RX5 := ⟨5, _, TX5, 1, rfl, rfl⟩
theorem lf_41_0 : LF 41 5 0 (some 42) := ⟨_, rfl, rfl⟩
theorem row_41 : ROW 41 6 := ⟨rfl, rfl⟩
theorem la_42 : LY[42]? = some (.inl (true, 6)) := rfl
theorem rc_43 : RCV 43 RX5 := ⟨5, _, TX5, 1, rfl, rfl⟩
theorem lf_43_0 : LF 43 5 0 (some 44) := ⟨_, rfl, rfl⟩
theorem row_43 : ROW 43 105 := ⟨rfl, rfl⟩
theorem la_44 : LY[44]? = some (.inl (true, 105)) := rfl
theorem rc_45 : RCV 45 RX5 := ⟨5, _, TX5, 1, rfl, rfl⟩
theorem lf_45_0 : LF 45 5 0 (some 46) := ⟨_, rfl, rfl⟩
theorem row_45 : ROW 45 49 := ⟨rfl, rfl⟩
theorem la_46 : LY[46]? = some (.inl (true, 49)) := rfl
theorem rc_47 : RCV 47 RX3 := ⟨3, _, TX3, 5, rfl, rfl⟩
theorem lf_47_0 : LF 47 3 0 (some 48) := ⟨_, rfl, rfl⟩
theorem lf_47_1 : LF 47 3 1 (none) := ⟨_, rfl, rfl⟩
theorem lf_47_2 : LF 47 3 2 (none) := ⟨_, rfl, rfl⟩
theorem lf_47_3 : LF 47 3 3 (none) := ⟨_, rfl, rfl⟩
theorem lf_47_4 : LF 47 3 4 (none) := ⟨_, rfl, rfl⟩
theorem rc_48 : RCV 48 RX5 := ⟨5, _, TX5, 1, rfl, rfl⟩
theorem lf_48_0 : LF 48 5 0 (some 49) := ⟨_, rfl, rfl⟩
theorem row_48 : ROW 48 6 := ⟨rfl, rfl⟩
theorem la_49 : LY[49]? = some (.inl (true, 6)) := rfl
theorem rc_50 : RCV 50 RX9 := ⟨9, _, TX9, 27, rfl, rfl⟩
theorem lf_50_0 : LF 50 9 0 (none) := ⟨_, rfl, rfl⟩
theorem lf_50_1 : LF 50 9 1 (none) := ⟨_, rfl, rfl⟩
theorem lf_50_2 : LF 50 9 2 (some 51) := ⟨_, rfl, rfl⟩
theorem lf_50_3 : LF 50 9 3 (none) := ⟨_, rfl, rfl⟩
theorem lf_50_4 : LF 50 9 4 (none) := ⟨_, rfl, rfl⟩
theorem lf_50_5 : LF 50 9 5 (some 52) := ⟨_, rfl, rfl⟩
theorem lf_50_6 : LF 50 9 6 (none) := ⟨_, rfl, rfl⟩
theorem lf_50_7 : LF 50 9 7 (some 53) := ⟨_, rfl, rfl⟩
theorem lf_50_8 : LF 50 9 8 (some 54) := ⟨_, rfl, rfl⟩
theorem lf_50_9 : LF 50 9 9 (some 55) := ⟨_, rfl, rfl⟩
theorem lf_50_10 : LF 50 9 10 (none) := ⟨_, rfl, rfl⟩
theorem lf_50_11 : LF 50 9 11 (some 56) := ⟨_, rfl, rfl⟩
theorem lf_50_12 : LF 50 9 12 (none) := ⟨_, rfl, rfl⟩
theorem lf_50_13 : LF 50 9 13 (none) := ⟨_, rfl, rfl⟩
theorem lf_50_14 : LF 50 9 14 (none) := ⟨_, rfl, rfl⟩
theorem lf_50_15 : LF 50 9 15 (none) := ⟨_, rfl, rfl⟩
theorem lf_50_16 : LF 50 9 16 (none) := ⟨_, rfl, rfl⟩
theorem lf_50_17 : LF 50 9 17 (none) := ⟨_, rfl, rfl⟩
theorem lf_50_18 : LF 50 9 18 (some 57) := ⟨_, rfl, rfl⟩
theorem lf_50_19 : LF 50 9 19 (none) := ⟨_, rfl, rfl⟩
theorem lf_50_20 : LF 50 9 20 (none) := ⟨_, rfl, rfl⟩
theorem lf_50_21 : LF 50 9 21 (some 58) := ⟨_, rfl, rfl⟩
theorem lf_50_22 : LF 50 9 22 (some 59) := ⟨_, rfl, rfl⟩
theorem lf_50_23 : LF 50 9 23 (some 60) := ⟨_, rfl, rfl⟩
theorem lf_50_24 : LF 50 9 24 (some 61) := ⟨_, rfl, rfl⟩
theorem lf_50_25 : LF 50 9 25 (some 62) := ⟨_, rfl, rfl⟩
theorem lf_50_26 : LF 50 9 26 (some 63) := ⟨_, rfl, rfl⟩
theorem la_51 : LY[51]? = some (.inl (true, 49)) := rfl
theorem la_52 : LY[52]? = some (.inl (true, 490)) := rfl
theorem la_53 : LY[53]? = some (.inl (true, 6)) := rfl
theorem la_54 : LY[54]? = some (.inl (false, 2)) := rfl
theorem la_55 : LY[55]? = some (.inl (true, 98)) := rfl
theorem la_56 : LY[56]? = some (.inl (true, 90)) := rfl
theorem la_57 : LY[57]? = some (.inl (true, 48)) := rfl
theorem la_58 : LY[58]? = some (.inl (true, 10)) := rfl
theorem la_59 : LY[59]? = some (.inl (true, 10)) := rfl
theorem la_60 : LY[60]? = some (.inl (true, 44)) := rfl
theorem la_61 : LY[61]? = some (.inl (false, 10)) := rfl
theorem la_62 : LY[62]? = some (.inl (true, 105)) := rfl
theorem la_63 : LY[63]? = some (.inl (true, 5)) := rfl
theorem rdg_4 : RDG 4 := ⟨rfl, rfl, rfl⟩
theorem rdg_7 : RDG 7 := ⟨rfl, rfl, rfl⟩
theorem rdg_16 : RDG 16 := ⟨rfl, rfl, rfl⟩
theorem rdg_20 : RDG 20 := ⟨rfl, rfl, rfl⟩
theorem uwX0 : ∀ w ∈ u_ws RX0 TX0 6, w ∈ UW := uw_all [205, 207, 209, 211, 213, 215] (by decide +kernel) (by decide +kernel)
theorem uwX1 : ∀ w ∈ u_ws RX1 TX1 3, w ∈ UW := uw_all [141, 143, 145] (by decide +kernel) (by decide +kernel)
theorem uwX2 : ∀ w ∈ u_ws RX2 TX2 3, w ∈ UW := uw_all [160, 162, 164] (by decide +kernel) (by decide +kernel)
theorem uwX3 : ∀ w ∈ u_ws RX3 TX3 5, w ∈ UW := uw_all [235, 237, 239, 241, 243] (by decide +kernel) (by decide +kernel)
theorem uwX4 : ∀ w ∈ u_ws RX4 TX4 3, w ∈ UW := uw_all [120, 122, 124] (by decide +kernel) (by decide +kernel)
theorem uwX5 : ∀ w ∈ u_ws RX5 TX5 1, w ∈ UW := uw_all [90] (by decide +kernel) (by decide +kernel)
theorem uwX6 : ∀ w ∈ u_ws RX6 TX6 2, w ∈ UW := uw_all [97, 99] (by decide +kernel) (by decide +kernel)
theorem uwX7 : ∀ w ∈ u_ws RX7 TX7 3, w ∈ UW := uw_all [184, 186, 188] (by decide +kernel) (by decide +kernel)
theorem uwX8 : ∀ w ∈ u_ws RX8 TX8 16, w ∈ UW := uw_all [262, 264, 266, 268, 270, 272, 274, 276, 278, 280, 282, 284, 286, 288, 290, 292] (by decide +kernel) (by decide +kernel)
theorem uwX9 : ∀ w ∈ u_ws RX9 TX9 27, w ∈ UW := uw_all [675, 677, 679, 681, 683, 685, 687, 689, 691, 693, 695, 697, 699, 701, 703, 705, 707, 709, 711, 713, 715, 717, 719, 721, 723, 725, 727] (by decide +kernel) (by decide +kernel)
theorem fl_X0_14 : FLD RX0 14 0 0 := ⟨RX0, TX0, 6, rfl, uwX0, by decide, uw_mk 199 (by decide +kernel) rfl⟩
theorem fl_X0_20 : FLD RX0 20 0 1 := ⟨RX0, TX0, 6, rfl, uwX0, by decide, uw_mk 200 (by decide +kernel) rfl⟩
theorem fl_X0_23 : FLD RX0 23 0 2 := ⟨RX0, TX0, 6, rfl, uwX0, by decide, uw_mk 201 (by decide +kernel) rfl⟩
theorem fl_X0_26 : FLD RX0 26 0 3 := ⟨RX0, TX0, 6, rfl, uwX0, by decide, uw_mk 202 (by decide +kernel) rfl⟩
theorem fl_X0_29 : FLD RX0 29 0 4 := ⟨RX0, TX0, 6, rfl, uwX0, by decide, uw_mk 203 (by decide +kernel) rfl⟩
theorem fl_X0_32 : FLD RX0 32 0 5 := ⟨RX0, TX0, 6, rfl, uwX0, by decide, uw_mk 204 (by decide +kernel) rfl⟩
theorem fl_X1_14 : FLD RX1 14 1 0 := ⟨RX1, TX1, 3, rfl, uwX1, by decide, uw_mk 135 (by decide +kernel) rfl⟩
theorem fl_X1_20 : FLD RX1 20 1 1 := ⟨RX1, TX1, 3, rfl, uwX1, by decide, uw_mk 137 (by decide +kernel) rfl⟩
theorem fl_X1_23 : FLD RX1 23 1 2 := ⟨RX1, TX1, 3, rfl, uwX1, by decide, uw_mk 139 (by decide +kernel) rfl⟩
theorem fl_X3_14 : FLD RX3 14 3 0 := ⟨RX3, TX3, 5, rfl, uwX3, by decide, uw_mk 226 (by decide +kernel) rfl⟩
theorem fl_X3_50 : FLD RX3 50 3 1 := ⟨RX3, TX3, 5, rfl, uwX3, by decide, uw_mk 227 (by decide +kernel) rfl⟩
theorem fl_X3_57 : FLD RX3 57 3 2 := ⟨RX3, TX3, 5, rfl, uwX3, by decide, uw_mk 229 (by decide +kernel) rfl⟩
theorem fl_X3_60 : FLD RX3 60 3 3 := ⟨RX3, TX3, 5, rfl, uwX3, by decide, uw_mk 231 (by decide +kernel) rfl⟩
theorem fl_X3_63 : FLD RX3 63 3 4 := ⟨RX3, TX3, 5, rfl, uwX3, by decide, uw_mk 233 (by decide +kernel) rfl⟩
theorem fl_X4_14 : FLD RX4 14 4 0 := ⟨RX4, TX4, 3, rfl, uwX4, by decide, uw_mk 110 (by decide +kernel) rfl⟩
theorem fl_X4_20 : FLD RX4 20 4 1 := ⟨RX4, TX4, 3, rfl, uwX4, by decide, uw_mk 113 (by decide +kernel) rfl⟩
theorem fl_X4_24 : FLD RX4 24 4 2 := ⟨RX4, TX4, 3, rfl, uwX4, by decide, uw_mk 117 (by decide +kernel) rfl⟩
theorem fl_X5_13 : FLD RX5 13 5 0 := ⟨RX5, TX5, 1, rfl, uwX5, by decide, uw_mk 89 (by decide +kernel) rfl⟩
theorem fl_X6_14 : FLD RX6 14 6 0 := ⟨RX6, TX6, 2, rfl, uwX6, by decide, uw_mk 94 (by decide +kernel) rfl⟩
theorem fl_X6_20 : FLD RX6 20 6 1 := ⟨RX6, TX6, 2, rfl, uwX6, by decide, uw_mk 95 (by decide +kernel) rfl⟩
theorem fl_X7_14 : FLD RX7 14 7 0 := ⟨RX7, TX7, 3, rfl, uwX7, by decide, uw_mk 177 (by decide +kernel) rfl⟩
theorem fl_X7_20 : FLD RX7 20 7 1 := ⟨RX7, TX7, 3, rfl, uwX7, by decide, uw_mk 179 (by decide +kernel) rfl⟩
theorem fl_X7_23 : FLD RX7 23 7 2 := ⟨RX7, TX7, 3, rfl, uwX7, by decide, uw_mk 182 (by decide +kernel) rfl⟩
theorem fl_X8_12 : FLD RX8 12 8 0 := ⟨RX8, TX8, 16, rfl, uwX8, by decide, uw_mk 246 (by decide +kernel) rfl⟩
theorem fl_X8_19 : FLD RX8 19 8 1 := ⟨RX8, TX8, 16, rfl, uwX8, by decide, uw_mk 247 (by decide +kernel) rfl⟩
theorem fl_X8_23 : FLD RX8 23 8 2 := ⟨RX8, TX8, 16, rfl, uwX8, by decide, uw_mk 248 (by decide +kernel) rfl⟩
theorem fl_X8_29 : FLD RX8 29 8 3 := ⟨RX8, TX8, 16, rfl, uwX8, by decide, uw_mk 249 (by decide +kernel) rfl⟩
theorem fl_X8_36 : FLD RX8 36 8 4 := ⟨RX8, TX8, 16, rfl, uwX8, by decide, uw_mk 250 (by decide +kernel) rfl⟩
theorem fl_X8_40 : FLD RX8 40 8 5 := ⟨RX8, TX8, 16, rfl, uwX8, by decide, uw_mk 251 (by decide +kernel) rfl⟩
theorem fl_X8_48 : FLD RX8 48 8 6 := ⟨RX8, TX8, 16, rfl, uwX8, by decide, uw_mk 252 (by decide +kernel) rfl⟩
theorem fl_X8_55 : FLD RX8 55 8 7 := ⟨RX8, TX8, 16, rfl, uwX8, by decide, uw_mk 253 (by decide +kernel) rfl⟩
theorem fl_X8_62 : FLD RX8 62 8 8 := ⟨RX8, TX8, 16, rfl, uwX8, by decide, uw_mk 254 (by decide +kernel) rfl⟩
theorem fl_X8_66 : FLD RX8 66 8 9 := ⟨RX8, TX8, 16, rfl, uwX8, by decide, uw_mk 255 (by decide +kernel) rfl⟩
theorem fl_X8_69 : FLD RX8 69 8 10 := ⟨RX8, TX8, 16, rfl, uwX8, by decide, uw_mk 256 (by decide +kernel) rfl⟩
theorem fl_X8_72 : FLD RX8 72 8 11 := ⟨RX8, TX8, 16, rfl, uwX8, by decide, uw_mk 257 (by decide +kernel) rfl⟩
theorem fl_X8_78 : FLD RX8 78 8 12 := ⟨RX8, TX8, 16, rfl, uwX8, by decide, uw_mk 258 (by decide +kernel) rfl⟩
theorem fl_X8_97 : FLD RX8 97 8 14 := ⟨RX8, TX8, 16, rfl, uwX8, by decide, uw_mk 260 (by decide +kernel) rfl⟩
theorem fl_X8_103 : FLD RX8 103 8 13 := ⟨RX8, TX8, 16, rfl, uwX8, by decide, uw_mk 259 (by decide +kernel) rfl⟩
theorem fl_X8_110 : FLD RX8 110 8 15 := ⟨RX8, TX8, 16, rfl, uwX8, by decide, uw_mk 261 (by decide +kernel) rfl⟩
theorem fl_X9_7 : FLD RX9 7 9 2 := ⟨RX9, TX9, 27, rfl, uwX9, by decide, uw_mk 650 (by decide +kernel) rfl⟩
theorem fl_X9_13 : FLD RX9 13 9 5 := ⟨RX9, TX9, 27, rfl, uwX9, by decide, uw_mk 653 (by decide +kernel) rfl⟩
theorem fl_X9_16 : FLD RX9 16 9 7 := ⟨RX9, TX9, 27, rfl, uwX9, by decide, uw_mk 655 (by decide +kernel) rfl⟩
theorem fl_X9_19 : FLD RX9 19 9 8 := ⟨RX9, TX9, 27, rfl, uwX9, by decide, uw_mk 656 (by decide +kernel) rfl⟩
theorem fl_X9_23 : FLD RX9 23 9 9 := ⟨RX9, TX9, 27, rfl, uwX9, by decide, uw_mk 657 (by decide +kernel) rfl⟩
theorem fl_X9_26 : FLD RX9 26 9 11 := ⟨RX9, TX9, 27, rfl, uwX9, by decide, uw_mk 659 (by decide +kernel) rfl⟩
theorem fl_X9_29 : FLD RX9 29 9 18 := ⟨RX9, TX9, 27, rfl, uwX9, by decide, uw_mk 666 (by decide +kernel) rfl⟩
theorem fl_X9_32 : FLD RX9 32 9 21 := ⟨RX9, TX9, 27, rfl, uwX9, by decide, uw_mk 669 (by decide +kernel) rfl⟩
theorem fl_X9_35 : FLD RX9 35 9 22 := ⟨RX9, TX9, 27, rfl, uwX9, by decide, uw_mk 670 (by decide +kernel) rfl⟩
theorem fl_X9_38 : FLD RX9 38 9 23 := ⟨RX9, TX9, 27, rfl, uwX9, by decide, uw_mk 671 (by decide +kernel) rfl⟩
theorem fl_X9_41 : FLD RX9 41 9 24 := ⟨RX9, TX9, 27, rfl, uwX9, by decide, uw_mk 672 (by decide +kernel) rfl⟩
theorem fl_X9_44 : FLD RX9 44 9 25 := ⟨RX9, TX9, 27, rfl, uwX9, by decide, uw_mk 673 (by decide +kernel) rfl⟩
theorem fl_X9_47 : FLD RX9 47 9 26 := ⟨RX9, TX9, 27, rfl, uwX9, by decide, uw_mk 674 (by decide +kernel) rfl⟩
theorem fl_X9_54 : FLD RX9 54 9 10 := ⟨RX9, TX9, 27, rfl, uwX9, by decide, uw_mk 658 (by decide +kernel) rfl⟩
theorem fl_X9_58 : FLD RX9 58 9 12 := ⟨RX9, TX9, 27, rfl, uwX9, by decide, uw_mk 660 (by decide +kernel) rfl⟩
theorem fl_X9_64 : FLD RX9 64 9 13 := ⟨RX9, TX9, 27, rfl, uwX9, by decide, uw_mk 661 (by decide +kernel) rfl⟩
theorem fl_X9_67 : FLD RX9 67 9 14 := ⟨RX9, TX9, 27, rfl, uwX9, by decide, uw_mk 662 (by decide +kernel) rfl⟩
theorem fl_X9_73 : FLD RX9 73 9 16 := ⟨RX9, TX9, 27, rfl, uwX9, by decide, uw_mk 664 (by decide +kernel) rfl⟩
theorem fl_X9_76 : FLD RX9 76 9 17 := ⟨RX9, TX9, 27, rfl, uwX9, by decide, uw_mk 665 (by decide +kernel) rfl⟩
theorem fl_X9_83 : FLD RX9 83 9 15 := ⟨RX9, TX9, 27, rfl, uwX9, by decide, uw_mk 663 (by decide +kernel) rfl⟩
theorem fl_X9_86 : FLD RX9 86 9 0 := ⟨RX9, TX9, 27, rfl, uwX9, by decide, uw_mk 648 (by decide +kernel) rfl⟩
theorem fl_X9_89 : FLD RX9 89 9 1 := ⟨RX9, TX9, 27, rfl, uwX9, by decide, uw_mk 649 (by decide +kernel) rfl⟩
theorem fl_X9_92 : FLD RX9 92 9 3 := ⟨RX9, TX9, 27, rfl, uwX9, by decide, uw_mk 651 (by decide +kernel) rfl⟩
theorem fl_X9_95 : FLD RX9 95 9 6 := ⟨RX9, TX9, 27, rfl, uwX9, by decide, uw_mk 654 (by decide +kernel) rfl⟩
theorem fl_X9_109 : FLD RX9 109 9 19 := ⟨RX9, TX9, 27, rfl, uwX9, by decide, uw_mk 667 (by decide +kernel) rfl⟩
theorem fl_X9_112 : FLD RX9 112 9 20 := ⟨RX9, TX9, 27, rfl, uwX9, by decide, uw_mk 668 (by decide +kernel) rfl⟩
theorem fl_X9_176 : FLD RX9 176 9 4 := ⟨RX9, TX9, 27, rfl, uwX9, by decide, uw_mk 652 (by decide +kernel) rfl⟩
theorem fn_X0_36 : FLN RX0 36 7 2 := ⟨RX7, TX7, 3, "StemmaTree", rfl, uwX7, by decide, List.mem_of_getElem? (i := 16) rfl⟩
theorem fn_X0_48 : FLN RX0 48 7 0 := ⟨RX7, TX7, 3, "StemmaTree", rfl, uwX7, by decide, List.mem_of_getElem? (i := 14) rfl⟩
theorem fn_X0_55 : FLN RX0 55 7 1 := ⟨RX7, TX7, 3, "StemmaTree", rfl, uwX7, by decide, List.mem_of_getElem? (i := 15) rfl⟩
theorem fn_X3_20 : FLN RX3 20 4 1 := ⟨RX4, TX4, 3, "StemmaTree", rfl, uwX4, by decide, List.mem_of_getElem? (i := 2) rfl⟩
theorem fn_X3_26 : FLN RX3 26 4 2 := ⟨RX4, TX4, 3, "StemmaTree", rfl, uwX4, by decide, List.mem_of_getElem? (i := 5) rfl⟩
theorem fn_X6_28 : FLN RX6 28 4 1 := ⟨RX4, TX4, 3, "StemmaTree", rfl, uwX4, by decide, List.mem_of_getElem? (i := 3) rfl⟩
theorem fn_X6_33 : FLN RX6 33 4 2 := ⟨RX4, TX4, 3, "StemmaTree", rfl, uwX4, by decide, List.mem_of_getElem? (i := 6) rfl⟩
theorem fn_X8_82 : FLN RX8 82 6 1 := ⟨RX6, TX6, 2, "StemmaTree", rfl, uwX6, by decide, List.mem_of_getElem? (i := 0) rfl⟩
theorem fn_X8_100 : FLN RX8 100 1 2 := ⟨RX1, TX1, 3, "StemmaTree", rfl, uwX1, by decide, List.mem_of_getElem? (i := 10) rfl⟩
theorem fn_X8_106 : FLN RX8 106 2 2 := ⟨RX2, TX2, 3, "StemmaTree", rfl, uwX2, by decide, List.mem_of_getElem? (i := 13) rfl⟩
theorem fn_X8_113 : FLN RX8 113 4 1 := ⟨RX4, TX4, 3, "StemmaTree", rfl, uwX4, by decide, List.mem_of_getElem? (i := 4) rfl⟩
theorem fn_X8_149 : FLN RX8 149 1 0 := ⟨RX1, TX1, 3, "StemmaTree", rfl, uwX1, by decide, List.mem_of_getElem? (i := 8) rfl⟩
theorem fn_X8_155 : FLN RX8 155 1 1 := ⟨RX1, TX1, 3, "StemmaTree", rfl, uwX1, by decide, List.mem_of_getElem? (i := 9) rfl⟩
theorem fn_X8_158 : FLN RX8 158 4 0 := ⟨RX4, TX4, 3, "StemmaTree", rfl, uwX4, by decide, List.mem_of_getElem? (i := 1) rfl⟩
theorem fn_X8_179 : FLN RX8 179 7 2 := ⟨RX7, TX7, 3, "StemmaTree", rfl, uwX7, by decide, List.mem_of_getElem? (i := 17) rfl⟩
theorem fn_X8_212 : FLN RX8 212 4 2 := ⟨RX4, TX4, 3, "StemmaTree", rfl, uwX4, by decide, List.mem_of_getElem? (i := 7) rfl⟩
theorem fn_X8_218 : FLN RX8 218 3 1 := ⟨RX3, TX3, 5, "StemmaTree", rfl, uwX3, by decide, List.mem_of_getElem? (i := 18) rfl⟩
theorem fn_X8_221 : FLN RX8 221 3 2 := ⟨RX3, TX3, 5, "StemmaTree", rfl, uwX3, by decide, List.mem_of_getElem? (i := 19) rfl⟩
theorem fn_X8_224 : FLN RX8 224 3 3 := ⟨RX3, TX3, 5, "StemmaTree", rfl, uwX3, by decide, List.mem_of_getElem? (i := 20) rfl⟩
theorem fn_X8_227 : FLN RX8 227 3 4 := ⟨RX3, TX3, 5, "StemmaTree", rfl, uwX3, by decide, List.mem_of_getElem? (i := 21) rfl⟩
theorem fn_X8_241 : FLN RX8 241 2 0 := ⟨RX2, TX2, 3, "StemmaTree", rfl, uwX2, by decide, List.mem_of_getElem? (i := 11) rfl⟩
theorem fn_X8_244 : FLN RX8 244 2 1 := ⟨RX2, TX2, 3, "StemmaTree", rfl, uwX2, by decide, List.mem_of_getElem? (i := 12) rfl⟩
theorem fp_X0_5 : FPT 0 5 .int := ⟨RX0, TX0, 6, tyX0, rfl, tyX0_ok, nmX0, rfl, by decide +kernel⟩
theorem fp_X1_2 : FPT 1 2 .int := ⟨RX1, TX1, 3, tyX1, rfl, tyX1_ok, nmX1, rfl, by decide +kernel⟩
theorem fp_X2_1 : FPT 2 1 .int := ⟨RX2, TX2, 3, tyX2, rfl, tyX2_ok, nmX2, rfl, by decide +kernel⟩
theorem fp_X2_2 : FPT 2 2 .boolean := ⟨RX2, TX2, 3, tyX2, rfl, tyX2_ok, nmX2, rfl, by decide +kernel⟩
theorem fp_X3_1 : FPT 3 1 .int := ⟨RX3, TX3, 5, tyX3, rfl, tyX3_ok, nmX3, rfl, by decide +kernel⟩
theorem fp_X3_2 : FPT 3 2 .int := ⟨RX3, TX3, 5, tyX3, rfl, tyX3_ok, nmX3, rfl, by decide +kernel⟩
theorem fp_X3_3 : FPT 3 3 .int := ⟨RX3, TX3, 5, tyX3, rfl, tyX3_ok, nmX3, rfl, by decide +kernel⟩
theorem fp_X3_4 : FPT 3 4 .int := ⟨RX3, TX3, 5, tyX3, rfl, tyX3_ok, nmX3, rfl, by decide +kernel⟩
theorem fp_X4_1 : FPT 4 1 .int := ⟨RX4, TX4, 3, tyX4, rfl, tyX4_ok, nmX4, rfl, by decide +kernel⟩
theorem fp_X4_2 : FPT 4 2 .int := ⟨RX4, TX4, 3, tyX4, rfl, tyX4_ok, nmX4, rfl, by decide +kernel⟩
theorem fp_X6_1 : FPT 6 1 .int := ⟨RX6, TX6, 2, tyX6, rfl, tyX6_ok, nmX6, rfl, by decide +kernel⟩
theorem fp_X7_2 : FPT 7 2 .int := ⟨RX7, TX7, 3, tyX7, rfl, tyX7_ok, nmX7, rfl, by decide +kernel⟩
theorem fp_X8_13 : FPT 8 13 .int := ⟨RX8, TX8, 16, tyX8, rfl, tyX8_ok, nmX8, rfl, by decide +kernel⟩
theorem fp_X8_14 : FPT 8 14 .int := ⟨RX8, TX8, 16, tyX8, rfl, tyX8_ok, nmX8, rfl, by decide +kernel⟩
theorem fp_X8_15 : FPT 8 15 .boolean := ⟨RX8, TX8, 16, tyX8, rfl, tyX8_ok, nmX8, rfl, by decide +kernel⟩
theorem fp_X9_0 : FPT 9 0 .int := ⟨RX9, TX9, 27, tyX9, rfl, tyX9_ok, nmX9, rfl, by decide +kernel⟩
theorem fp_X9_1 : FPT 9 1 .int := ⟨RX9, TX9, 27, tyX9, rfl, tyX9_ok, nmX9, rfl, by decide +kernel⟩
theorem fp_X9_3 : FPT 9 3 .int := ⟨RX9, TX9, 27, tyX9, rfl, tyX9_ok, nmX9, rfl, by decide +kernel⟩
theorem fp_X9_4 : FPT 9 4 .int := ⟨RX9, TX9, 27, tyX9, rfl, tyX9_ok, nmX9, rfl, by decide +kernel⟩
theorem fp_X9_6 : FPT 9 6 .int := ⟨RX9, TX9, 27, tyX9, rfl, tyX9_ok, nmX9, rfl, by decide +kernel⟩
theorem fp_X9_10 : FPT 9 10 .int := ⟨RX9, TX9, 27, tyX9, rfl, tyX9_ok, nmX9, rfl, by decide +kernel⟩
theorem fp_X9_12 : FPT 9 12 .int := ⟨RX9, TX9, 27, tyX9, rfl, tyX9_ok, nmX9, rfl, by decide +kernel⟩
theorem fp_X9_13 : FPT 9 13 .int := ⟨RX9, TX9, 27, tyX9, rfl, tyX9_ok, nmX9, rfl, by decide +kernel⟩
theorem fp_X9_14 : FPT 9 14 .int := ⟨RX9, TX9, 27, tyX9, rfl, tyX9_ok, nmX9, rfl, by decide +kernel⟩
theorem fp_X9_15 : FPT 9 15 .int := ⟨RX9, TX9, 27, tyX9, rfl, tyX9_ok, nmX9, rfl, by decide +kernel⟩
theorem fp_X9_16 : FPT 9 16 .int := ⟨RX9, TX9, 27, tyX9, rfl, tyX9_ok, nmX9, rfl, by decide +kernel⟩
theorem fp_X9_17 : FPT 9 17 .int := ⟨RX9, TX9, 27, tyX9, rfl, tyX9_ok, nmX9, rfl, by decide +kernel⟩
theorem fp_X9_19 : FPT 9 19 .int := ⟨RX9, TX9, 27, tyX9, rfl, tyX9_ok, nmX9, rfl, by decide +kernel⟩
theorem fp_X9_20 : FPT 9 20 .int := ⟨RX9, TX9, 27, tyX9, rfl, tyX9_ok, nmX9, rfl, by decide +kernel⟩
set_option maxRecDepth 20000 in
theorem ml_X0_75 : Cond.methodLink RX0 75 Lib.Math.min.name ∈ UW ∧ Cond.static Lib.Math.min.name ∈ UW ∧ Cond.initialized "java/lang/Math" ∈ UW ∧ Cond.code Lib.Math.min.name Lib.Math.min.code 2 (some .int) ∈ UW := ⟨uw_mk 523 (by decide +kernel) rfl, uw_mk 524 (by decide +kernel) rfl, uw_mk 57 (by decide +kernel) rfl, uw_mk 525 (by decide +kernel) rfl⟩
set_option maxRecDepth 20000 in
theorem ml_X3_45 : Cond.methodLink RX3 45 Lib.Math.min.name ∈ UW ∧ Cond.static Lib.Math.min.name ∈ UW ∧ Cond.initialized "java/lang/Math" ∈ UW ∧ Cond.code Lib.Math.min.name Lib.Math.min.code 2 (some .int) ∈ UW := ⟨uw_mk 589 (by decide +kernel) rfl, uw_mk 524 (by decide +kernel) rfl, uw_mk 57 (by decide +kernel) rfl, uw_mk 525 (by decide +kernel) rfl⟩
set_option maxRecDepth 20000 in
theorem ml_X8_255 : Cond.methodLink RX8 255 Lib.Math.max.name ∈ UW ∧ Cond.static Lib.Math.max.name ∈ UW ∧ Cond.initialized "java/lang/Math" ∈ UW ∧ Cond.code Lib.Math.max.name Lib.Math.max.code 2 (some .int) ∈ UW := ⟨uw_mk 505 (by decide +kernel) rfl, uw_mk 87 (by decide +kernel) rfl, uw_mk 57 (by decide +kernel) rfl, uw_mk 88 (by decide +kernel) rfl⟩
set_option maxRecDepth 20000 in
theorem ml_X0_81 : MLSN RX0 81 yX8_bitOf cX8_bitOf 2 (some .int) 2 := ⟨⟨"StemmaTree", List.mem_of_getElem? (i := 32) rfl⟩, uw_mk 428 (by decide +kernel) rfl, uw_mk 54 (by decide +kernel) rfl, uw_mk 429 rfl rfl, ⟨by decide +kernel, by decide +kernel, by decide +kernel⟩⟩
set_option maxRecDepth 20000 in
theorem ml_X4_56 : MLSN RX4 56 yX8_bitsOf cX8_bitsOf 1 (some .int) 1 := ⟨⟨"StemmaTree", List.mem_of_getElem? (i := 30) rfl⟩, uw_mk 425 (by decide +kernel) rfl, uw_mk 54 (by decide +kernel) rfl, uw_mk 426 rfl rfl, ⟨by decide +kernel, by decide +kernel, by decide +kernel⟩⟩
set_option maxRecDepth 20000 in
theorem ml_X4_59 : MLSN RX4 59 yX8_bitOf cX8_bitOf 2 (some .int) 2 := ⟨⟨"StemmaTree", List.mem_of_getElem? (i := 31) rfl⟩, uw_mk 428 (by decide +kernel) rfl, uw_mk 54 (by decide +kernel) rfl, uw_mk 429 rfl rfl, ⟨by decide +kernel, by decide +kernel, by decide +kernel⟩⟩
set_option maxRecDepth 20000 in
theorem ml_X0_62 : MLS RX0 62 yX0_emptyPlaces cX0_emptyPlaces 3 (some .int) 1 := ⟨uw_mk 470 (by decide +kernel) rfl, uw_mk 471 (by decide +kernel) rfl, uw_mk 62 (by decide +kernel) rfl, uw_mk 472 rfl rfl, ⟨by decide +kernel, by decide +kernel, by decide +kernel⟩⟩
set_option maxRecDepth 20000 in
theorem ml_X0_65 : MLS RX0 65 yJ6_bitCount_0f7a4 cJ6_bitCount_0f7a4 1 (some .int) 1 := ⟨uw_mk 474 (by decide +kernel) rfl, uw_mk 475 (by decide +kernel) rfl, uw_mk 65 (by decide +kernel) rfl, uw_mk 476 rfl rfl, ⟨by decide +kernel, by decide +kernel, by decide +kernel⟩⟩
set_option maxRecDepth 20000 in
theorem ml_X3_40 : MLS RX3 40 yJ6_bitCount_0f7a4 cJ6_bitCount_0f7a4 1 (some .int) 1 := ⟨uw_mk 588 (by decide +kernel) rfl, uw_mk 475 (by decide +kernel) rfl, uw_mk 65 (by decide +kernel) rfl, uw_mk 476 rfl rfl, ⟨by decide +kernel, by decide +kernel, by decide +kernel⟩⟩
set_option maxRecDepth 20000 in
theorem ml_X6_40 : MLS RX6 40 yX6_endItem cX6_endItem 2 (some .boolean) 2 := ⟨uw_mk 323 (by decide +kernel) rfl, uw_mk 324 (by decide +kernel) rfl, uw_mk 55 (by decide +kernel) rfl, uw_mk 325 rfl rfl, ⟨by decide +kernel, by decide +kernel, by decide +kernel⟩⟩
set_option maxRecDepth 20000 in
theorem ml_X6_44 : MLS RX6 44 yX6_readingFor cX6_readingFor 1 (some .int) 1 := ⟨uw_mk 326 (by decide +kernel) rfl, uw_mk 327 (by decide +kernel) rfl, uw_mk 55 (by decide +kernel) rfl, uw_mk 328 rfl rfl, ⟨by decide +kernel, by decide +kernel, by decide +kernel⟩⟩
set_option maxRecDepth 20000 in
theorem ml_X6_47 : MLS RX6 47 yX6_mostReadings cX6_mostReadings 1 (some .int) 1 := ⟨uw_mk 329 (by decide +kernel) rfl, uw_mk 330 (by decide +kernel) rfl, uw_mk 55 (by decide +kernel) rfl, uw_mk 331 rfl rfl, ⟨by decide +kernel, by decide +kernel, by decide +kernel⟩⟩
set_option maxRecDepth 20000 in
theorem ml_X7_31 : MLS RX7 31 yX7_edgeOf cX7_edgeOf 2 (some .int) 2 := ⟨uw_mk 444 (by decide +kernel) rfl, uw_mk 445 (by decide +kernel) rfl, uw_mk 61 (by decide +kernel) rfl, uw_mk 446 rfl rfl, ⟨by decide +kernel, by decide +kernel, by decide +kernel⟩⟩
set_option maxRecDepth 20000 in
theorem ml_X8_170 : MLS RX8 170 yX8_edgesOf cX8_edgesOf 1 (some .int) 1 := ⟨uw_mk 502 (by decide +kernel) rfl, uw_mk 503 (by decide +kernel) rfl, uw_mk 54 (by decide +kernel) rfl, uw_mk 504 rfl rfl, ⟨by decide +kernel, by decide +kernel, by decide +kernel⟩⟩
set_option maxRecDepth 20000 in
theorem ml_X8_182 : MLS RX8 182 yX8_treesOf cX8_treesOf 1 (some .int) 1 := ⟨uw_mk 397 (by decide +kernel) rfl, uw_mk 398 (by decide +kernel) rfl, uw_mk 54 (by decide +kernel) rfl, uw_mk 399 rfl rfl, ⟨by decide +kernel, by decide +kernel, by decide +kernel⟩⟩
set_option maxRecDepth 20000 in
theorem ml_X8_263 : MLS RX8 263 yX8_bitsOf cX8_bitsOf 1 (some .int) 1 := ⟨uw_mk 430 (by decide +kernel) rfl, uw_mk 425 (by decide +kernel) rfl, uw_mk 54 (by decide +kernel) rfl, uw_mk 426 rfl rfl, ⟨by decide +kernel, by decide +kernel, by decide +kernel⟩⟩
set_option maxRecDepth 20000 in
theorem ml_X8_270 : MLS RX8 270 yX8_bitOf cX8_bitOf 2 (some .int) 2 := ⟨uw_mk 559 (by decide +kernel) rfl, uw_mk 428 (by decide +kernel) rfl, uw_mk 54 (by decide +kernel) rfl, uw_mk 429 rfl rfl, ⟨by decide +kernel, by decide +kernel, by decide +kernel⟩⟩
set_option maxRecDepth 20000 in
theorem ml_X8_277 : MLS RX8 277 yX7_edgeOf cX7_edgeOf 2 (some .int) 2 := ⟨uw_mk 485 (by decide +kernel) rfl, uw_mk 445 (by decide +kernel) rfl, uw_mk 61 (by decide +kernel) rfl, uw_mk 446 rfl rfl, ⟨by decide +kernel, by decide +kernel, by decide +kernel⟩⟩
set_option maxRecDepth 20000 in
theorem ml_X8_280 : MLS RX8 280 yX7_weightOf cX7_weightOf 1 (some .int) 1 := ⟨uw_mk 486 (by decide +kernel) rfl, uw_mk 487 (by decide +kernel) rfl, uw_mk 61 (by decide +kernel) rfl, uw_mk 488 rfl rfl, ⟨by decide +kernel, by decide +kernel, by decide +kernel⟩⟩
set_option maxRecDepth 20000 in
theorem ml_X8_283 : MLS RX8 283 yJ6_bitCount_0f7a4 cJ6_bitCount_0f7a4 1 (some .int) 1 := ⟨uw_mk 546 (by decide +kernel) rfl, uw_mk 475 (by decide +kernel) rfl, uw_mk 65 (by decide +kernel) rfl, uw_mk 476 rfl rfl, ⟨by decide +kernel, by decide +kernel, by decide +kernel⟩⟩
set_option maxRecDepth 20000 in
theorem ml_X9_50 : MLS RX9 50 yX9_in cX9_in 3 (some .boolean) 3 := ⟨uw_mk 735 (by decide +kernel) rfl, uw_mk 736 (by decide +kernel) rfl, uw_mk 64 (by decide +kernel) rfl, uw_mk 737 rfl rfl, ⟨by decide +kernel, by decide +kernel, by decide +kernel⟩⟩
set_option maxRecDepth 20000 in
theorem ml_X9_119 : MLS RX9 119 yX9_edgeOf cX9_edgeOf 2 (some .int) 2 := ⟨uw_mk 798 (by decide +kernel) rfl, uw_mk 799 (by decide +kernel) rfl, uw_mk 64 (by decide +kernel) rfl, uw_mk 800 rfl rfl, ⟨by decide +kernel, by decide +kernel, by decide +kernel⟩⟩
set_option maxRecDepth 20000 in
theorem ml_X9_122 : MLS RX9 122 yX9_between cX9_between 3 (some .int) 3 := ⟨uw_mk 821 (by decide +kernel) rfl, uw_mk 822 (by decide +kernel) rfl, uw_mk 64 (by decide +kernel) rfl, uw_mk 823 rfl rfl, ⟨by decide +kernel, by decide +kernel, by decide +kernel⟩⟩
set_option maxRecDepth 20000 in
theorem ml_X9_169 : MLS RX9 169 yX9_has cX9_has 2 (some .boolean) 2 := ⟨uw_mk 860 (by decide +kernel) rfl, uw_mk 861 (by decide +kernel) rfl, uw_mk 64 (by decide +kernel) rfl, uw_mk 862 rfl rfl, ⟨by decide +kernel, by decide +kernel, by decide +kernel⟩⟩
set_option maxRecDepth 20000 in
theorem ml_X9_185 : MLS RX9 185 yX9_isNear cX9_isNear 4 (some .boolean) 2 := ⟨uw_mk 883 (by decide +kernel) rfl, uw_mk 884 (by decide +kernel) rfl, uw_mk 64 (by decide +kernel) rfl, uw_mk 885 rfl rfl, ⟨by decide +kernel, by decide +kernel, by decide +kernel⟩⟩
set_option maxRecDepth 20000 in
theorem ml_X0_41 : MLV RX0 41 yX0_append cX0_append 3 (none) 2 := ⟨uw_mk 456 (by decide +kernel) rfl, uw_mk 458 (by decide +kernel) rfl, uw_mk 8 (by decide +kernel) rfl, uw_mk 62 (by decide +kernel) rfl, uw_mk 459 rfl rfl, ⟨by decide +kernel, by decide +kernel, by decide +kernel⟩⟩
set_option maxRecDepth 20000 in
theorem ml_X0_45 : MLV RX0 45 yX5_put cX5_put 3 (none) 2 := ⟨uw_mk 460 (by decide +kernel) rfl, uw_mk 304 (by decide +kernel) rfl, uw_mk 305 (by decide +kernel) rfl, uw_mk 56 (by decide +kernel) rfl, uw_mk 306 rfl rfl, ⟨by decide +kernel, by decide +kernel, by decide +kernel⟩⟩
set_option maxRecDepth 20000 in
theorem ml_X0_51 : MLV RX0 51 yX5_at cX5_at 2 (some .int) 1 := ⟨uw_mk 461 (by decide +kernel) rfl, uw_mk 320 (by decide +kernel) rfl, uw_mk 321 (by decide +kernel) rfl, uw_mk 56 (by decide +kernel) rfl, uw_mk 322 rfl rfl, ⟨by decide +kernel, by decide +kernel, by decide +kernel⟩⟩
set_option maxRecDepth 20000 in
theorem ml_X0_58 : MLV RX0 58 yX0_appendBelow cX0_appendBelow 5 (none) 3 := ⟨uw_mk 462 (by decide +kernel) rfl, uw_mk 464 (by decide +kernel) rfl, uw_mk 9 (by decide +kernel) rfl, uw_mk 62 (by decide +kernel) rfl, uw_mk 465 rfl rfl, ⟨by decide +kernel, by decide +kernel, by decide +kernel⟩⟩
set_option maxRecDepth 20000 in
theorem ml_X0_71 : MLV RX0 71 yX0_costOf cX0_costOf 6 (some .int) 4 := ⟨uw_mk 514 (by decide +kernel) rfl, uw_mk 516 (by decide +kernel) rfl, uw_mk 12 (by decide +kernel) rfl, uw_mk 62 (by decide +kernel) rfl, uw_mk 517 rfl rfl, ⟨by decide +kernel, by decide +kernel, by decide +kernel⟩⟩
set_option maxRecDepth 20000 in
theorem ml_X0_84 : MLV RX0 84 yX0_costDown cX0_costDown 6 (some .int) 2 := ⟨uw_mk 519 (by decide +kernel) rfl, uw_mk 521 (by decide +kernel) rfl, uw_mk 13 (by decide +kernel) rfl, uw_mk 62 (by decide +kernel) rfl, uw_mk 522 rfl rfl, ⟨by decide +kernel, by decide +kernel, by decide +kernel⟩⟩
set_option maxRecDepth 20000 in
theorem ml_X1_27 : MLV RX1 27 yX1_loseOldest cX1_loseOldest 2 (none) 0 := ⟨uw_mk 382 (by decide +kernel) rfl, uw_mk 384 (by decide +kernel) rfl, uw_mk 0 (by decide +kernel) rfl, uw_mk 59 (by decide +kernel) rfl, uw_mk 385 rfl rfl, ⟨by decide +kernel, by decide +kernel, by decide +kernel⟩⟩
set_option maxRecDepth 20000 in
theorem ml_X1_30 : MLV RX1 30 yX5_put cX5_put 3 (none) 2 := ⟨uw_mk 387 (by decide +kernel) rfl, uw_mk 304 (by decide +kernel) rfl, uw_mk 305 (by decide +kernel) rfl, uw_mk 56 (by decide +kernel) rfl, uw_mk 306 rfl rfl, ⟨by decide +kernel, by decide +kernel, by decide +kernel⟩⟩
set_option maxRecDepth 20000 in
theorem ml_X1_34 : MLV RX1 34 yX5_at cX5_at 2 (some .int) 1 := ⟨uw_mk 386 (by decide +kernel) rfl, uw_mk 320 (by decide +kernel) rfl, uw_mk 321 (by decide +kernel) rfl, uw_mk 56 (by decide +kernel) rfl, uw_mk 322 rfl rfl, ⟨by decide +kernel, by decide +kernel, by decide +kernel⟩⟩
set_option maxRecDepth 20000 in
theorem ml_X3_29 : MLV RX3 29 yX4_at cX4_at 3 (some .int) 2 := ⟨uw_mk 581 (by decide +kernel) rfl, uw_mk 368 (by decide +kernel) rfl, uw_mk 369 (by decide +kernel) rfl, uw_mk 58 (by decide +kernel) rfl, uw_mk 370 rfl rfl, ⟨by decide +kernel, by decide +kernel, by decide +kernel⟩⟩
set_option maxRecDepth 20000 in
theorem ml_X3_33 : MLV RX3 33 yX5_put cX5_put 3 (none) 2 := ⟨uw_mk 582 (by decide +kernel) rfl, uw_mk 304 (by decide +kernel) rfl, uw_mk 305 (by decide +kernel) rfl, uw_mk 56 (by decide +kernel) rfl, uw_mk 306 rfl rfl, ⟨by decide +kernel, by decide +kernel, by decide +kernel⟩⟩
set_option maxRecDepth 20000 in
theorem ml_X3_37 : MLV RX3 37 yX5_at cX5_at 2 (some .int) 1 := ⟨uw_mk 587 (by decide +kernel) rfl, uw_mk 320 (by decide +kernel) rfl, uw_mk 321 (by decide +kernel) rfl, uw_mk 56 (by decide +kernel) rfl, uw_mk 322 rfl rfl, ⟨by decide +kernel, by decide +kernel, by decide +kernel⟩⟩
set_option maxRecDepth 20000 in
theorem ml_X3_53 : MLV RX3 53 yX3_tryTwo cX3_tryTwo 7 (none) 3 := ⟨uw_mk 594 (by decide +kernel) rfl, uw_mk 596 (by decide +kernel) rfl, uw_mk 19 (by decide +kernel) rfl, uw_mk 63 (by decide +kernel) rfl, uw_mk 597 rfl rfl, ⟨by decide +kernel, by decide +kernel, by decide +kernel⟩⟩
set_option maxRecDepth 20000 in
theorem ml_X4_27 : MLV RX4 27 yX4_hasCopy cX4_hasCopy 2 (some .boolean) 1 := ⟨uw_mk 359 (by decide +kernel) rfl, uw_mk 360 (by decide +kernel) rfl, uw_mk 361 (by decide +kernel) rfl, uw_mk 58 (by decide +kernel) rfl, uw_mk 362 rfl rfl, ⟨by decide +kernel, by decide +kernel, by decide +kernel⟩⟩
set_option maxRecDepth 20000 in
theorem ml_X4_31 : MLV RX4 31 yX4_hasPlace cX4_hasPlace 2 (some .boolean) 1 := ⟨uw_mk 363 (by decide +kernel) rfl, uw_mk 364 (by decide +kernel) rfl, uw_mk 365 (by decide +kernel) rfl, uw_mk 58 (by decide +kernel) rfl, uw_mk 366 rfl rfl, ⟨by decide +kernel, by decide +kernel, by decide +kernel⟩⟩
set_option maxRecDepth 20000 in
theorem ml_X4_34 : MLV RX4 34 yX4_has cX4_has 3 (some .boolean) 2 := ⟨uw_mk 371 (by decide +kernel) rfl, uw_mk 356 (by decide +kernel) rfl, uw_mk 357 (by decide +kernel) rfl, uw_mk 58 (by decide +kernel) rfl, uw_mk 358 rfl rfl, ⟨by decide +kernel, by decide +kernel, by decide +kernel⟩⟩
set_option maxRecDepth 20000 in
theorem ml_X4_38 : MLV RX4 38 yX4_cellOf cX4_cellOf 3 (some .int) 2 := ⟨uw_mk 336 (by decide +kernel) rfl, uw_mk 337 (by decide +kernel) rfl, uw_mk 338 (by decide +kernel) rfl, uw_mk 58 (by decide +kernel) rfl, uw_mk 339 rfl rfl, ⟨by decide +kernel, by decide +kernel, by decide +kernel⟩⟩
set_option maxRecDepth 20000 in
theorem ml_X4_42 : MLV RX4 42 yX5_at cX5_at 2 (some .int) 1 := ⟨uw_mk 372 (by decide +kernel) rfl, uw_mk 320 (by decide +kernel) rfl, uw_mk 321 (by decide +kernel) rfl, uw_mk 56 (by decide +kernel) rfl, uw_mk 322 rfl rfl, ⟨by decide +kernel, by decide +kernel, by decide +kernel⟩⟩
set_option maxRecDepth 20000 in
theorem ml_X4_46 : MLV RX4 46 yX5_put cX5_put 3 (none) 2 := ⟨uw_mk 340 (by decide +kernel) rfl, uw_mk 304 (by decide +kernel) rfl, uw_mk 305 (by decide +kernel) rfl, uw_mk 56 (by decide +kernel) rfl, uw_mk 306 rfl rfl, ⟨by decide +kernel, by decide +kernel, by decide +kernel⟩⟩
set_option maxRecDepth 20000 in
theorem ml_X4_50 : MLV RX4 50 yX5_fillFrom cX5_fillFrom 3 (none) 1 := ⟨uw_mk 345 (by decide +kernel) rfl, uw_mk 346 (by decide +kernel) rfl, uw_mk 347 (by decide +kernel) rfl, uw_mk 56 (by decide +kernel) rfl, uw_mk 348 rfl rfl, ⟨by decide +kernel, by decide +kernel, by decide +kernel⟩⟩
set_option maxRecDepth 20000 in
theorem ml_X4_54 : MLV RX4 54 yX4_at cX4_at 3 (some .int) 2 := ⟨uw_mk 423 (by decide +kernel) rfl, uw_mk 368 (by decide +kernel) rfl, uw_mk 369 (by decide +kernel) rfl, uw_mk 58 (by decide +kernel) rfl, uw_mk 370 rfl rfl, ⟨by decide +kernel, by decide +kernel, by decide +kernel⟩⟩
set_option maxRecDepth 20000 in
theorem ml_X5_19 : MLV RX5 19 yX5_at cX5_at 2 (some .int) 1 := ⟨uw_mk 349 (by decide +kernel) rfl, uw_mk 320 (by decide +kernel) rfl, uw_mk 321 (by decide +kernel) rfl, uw_mk 56 (by decide +kernel) rfl, uw_mk 322 rfl rfl, ⟨by decide +kernel, by decide +kernel, by decide +kernel⟩⟩
set_option maxRecDepth 20000 in
theorem ml_X5_23 : MLV RX5 23 yX5_put cX5_put 3 (none) 2 := ⟨uw_mk 350 (by decide +kernel) rfl, uw_mk 304 (by decide +kernel) rfl, uw_mk 305 (by decide +kernel) rfl, uw_mk 56 (by decide +kernel) rfl, uw_mk 306 rfl rfl, ⟨by decide +kernel, by decide +kernel, by decide +kernel⟩⟩
set_option maxRecDepth 20000 in
theorem ml_X6_24 : MLV RX6 24 yX5_put cX5_put 3 (none) 2 := ⟨uw_mk 303 (by decide +kernel) rfl, uw_mk 304 (by decide +kernel) rfl, uw_mk 305 (by decide +kernel) rfl, uw_mk 56 (by decide +kernel) rfl, uw_mk 306 rfl rfl, ⟨by decide +kernel, by decide +kernel, by decide +kernel⟩⟩
set_option maxRecDepth 20000 in
theorem ml_X6_36 : MLV RX6 36 yX5_at cX5_at 2 (some .int) 1 := ⟨uw_mk 319 (by decide +kernel) rfl, uw_mk 320 (by decide +kernel) rfl, uw_mk 321 (by decide +kernel) rfl, uw_mk 56 (by decide +kernel) rfl, uw_mk 322 rfl rfl, ⟨by decide +kernel, by decide +kernel, by decide +kernel⟩⟩
set_option maxRecDepth 20000 in
theorem ml_X6_51 : MLV RX6 51 yX4_put cX4_put 4 (none) 3 := ⟨uw_mk 332 (by decide +kernel) rfl, uw_mk 333 (by decide +kernel) rfl, uw_mk 334 (by decide +kernel) rfl, uw_mk 58 (by decide +kernel) rfl, uw_mk 335 rfl rfl, ⟨by decide +kernel, by decide +kernel, by decide +kernel⟩⟩
set_option maxRecDepth 20000 in
theorem ml_X7_27 : MLV RX7 27 yX7_addEdge cX7_addEdge 3 (none) 2 := ⟨uw_mk 439 (by decide +kernel) rfl, uw_mk 441 (by decide +kernel) rfl, uw_mk 6 (by decide +kernel) rfl, uw_mk 61 (by decide +kernel) rfl, uw_mk 442 rfl rfl, ⟨by decide +kernel, by decide +kernel, by decide +kernel⟩⟩
set_option maxRecDepth 20000 in
theorem ml_X7_35 : MLV RX7 35 yX7_hang cX7_hang 5 (none) 2 := ⟨uw_mk 447 (by decide +kernel) rfl, uw_mk 449 (by decide +kernel) rfl, uw_mk 7 (by decide +kernel) rfl, uw_mk 61 (by decide +kernel) rfl, uw_mk 450 rfl rfl, ⟨by decide +kernel, by decide +kernel, by decide +kernel⟩⟩
set_option maxRecDepth 20000 in
theorem ml_X7_38 : MLV RX7 38 yX5_at cX5_at 2 (some .int) 1 := ⟨uw_mk 451 (by decide +kernel) rfl, uw_mk 320 (by decide +kernel) rfl, uw_mk 321 (by decide +kernel) rfl, uw_mk 56 (by decide +kernel) rfl, uw_mk 322 rfl rfl, ⟨by decide +kernel, by decide +kernel, by decide +kernel⟩⟩
set_option maxRecDepth 20000 in
theorem ml_X7_42 : MLV RX7 42 yX5_put cX5_put 3 (none) 2 := ⟨uw_mk 443 (by decide +kernel) rfl, uw_mk 304 (by decide +kernel) rfl, uw_mk 305 (by decide +kernel) rfl, uw_mk 56 (by decide +kernel) rfl, uw_mk 306 rfl rfl, ⟨by decide +kernel, by decide +kernel, by decide +kernel⟩⟩
set_option maxRecDepth 20000 in
theorem ml_X8_86 : MLV RX8 86 yX6_append cX6_append 2 (none) 1 := ⟨uw_mk 299 (by decide +kernel) rfl, uw_mk 300 (by decide +kernel) rfl, uw_mk 301 (by decide +kernel) rfl, uw_mk 55 (by decide +kernel) rfl, uw_mk 302 rfl rfl, ⟨by decide +kernel, by decide +kernel, by decide +kernel⟩⟩
set_option maxRecDepth 20000 in
theorem ml_X8_89 : MLV RX8 89 yX6_tell cX6_tell 7 (some .int) 1 := ⟨uw_mk 315 (by decide +kernel) rfl, uw_mk 316 (by decide +kernel) rfl, uw_mk 317 (by decide +kernel) rfl, uw_mk 55 (by decide +kernel) rfl, uw_mk 318 rfl rfl, ⟨by decide +kernel, by decide +kernel, by decide +kernel⟩⟩
set_option maxRecDepth 20000 in
theorem ml_X8_93 : MLV RX8 93 yX4_take cX4_take 2 (none) 1 := ⟨uw_mk 341 (by decide +kernel) rfl, uw_mk 342 (by decide +kernel) rfl, uw_mk 343 (by decide +kernel) rfl, uw_mk 58 (by decide +kernel) rfl, uw_mk 344 rfl rfl, ⟨by decide +kernel, by decide +kernel, by decide +kernel⟩⟩
set_option maxRecDepth 20000 in
theorem ml_X8_116 : MLV RX8 116 yX4_has cX4_has 3 (some .boolean) 2 := ⟨uw_mk 355 (by decide +kernel) rfl, uw_mk 356 (by decide +kernel) rfl, uw_mk 357 (by decide +kernel) rfl, uw_mk 58 (by decide +kernel) rfl, uw_mk 358 rfl rfl, ⟨by decide +kernel, by decide +kernel, by decide +kernel⟩⟩
set_option maxRecDepth 20000 in
theorem ml_X8_120 : MLV RX8 120 yX4_at cX4_at 3 (some .int) 2 := ⟨uw_mk 367 (by decide +kernel) rfl, uw_mk 368 (by decide +kernel) rfl, uw_mk 369 (by decide +kernel) rfl, uw_mk 58 (by decide +kernel) rfl, uw_mk 370 rfl rfl, ⟨by decide +kernel, by decide +kernel, by decide +kernel⟩⟩
set_option maxRecDepth 20000 in
theorem ml_X8_124 : MLV RX8 124 yX4_cellOf cX4_cellOf 3 (some .int) 2 := ⟨uw_mk 377 (by decide +kernel) rfl, uw_mk 337 (by decide +kernel) rfl, uw_mk 338 (by decide +kernel) rfl, uw_mk 58 (by decide +kernel) rfl, uw_mk 339 rfl rfl, ⟨by decide +kernel, by decide +kernel, by decide +kernel⟩⟩
set_option maxRecDepth 20000 in
theorem ml_X8_127 : MLV RX8 127 yX1_note cX1_note 3 (none) 2 := ⟨uw_mk 378 (by decide +kernel) rfl, uw_mk 379 (by decide +kernel) rfl, uw_mk 380 (by decide +kernel) rfl, uw_mk 59 (by decide +kernel) rfl, uw_mk 381 rfl rfl, ⟨by decide +kernel, by decide +kernel, by decide +kernel⟩⟩
set_option maxRecDepth 20000 in
theorem ml_X8_131 : MLV RX8 131 yX4_put cX4_put 4 (none) 3 := ⟨uw_mk 388 (by decide +kernel) rfl, uw_mk 333 (by decide +kernel) rfl, uw_mk 334 (by decide +kernel) rfl, uw_mk 58 (by decide +kernel) rfl, uw_mk 335 rfl rfl, ⟨by decide +kernel, by decide +kernel, by decide +kernel⟩⟩
set_option maxRecDepth 20000 in
theorem ml_X8_135 : MLV RX8 135 yX8_isTree cX8_isTree 2 (some .boolean) 1 := ⟨uw_mk 393 (by decide +kernel) rfl, uw_mk 395 (by decide +kernel) rfl, uw_mk 1 (by decide +kernel) rfl, uw_mk 54 (by decide +kernel) rfl, uw_mk 396 rfl rfl, ⟨by decide +kernel, by decide +kernel, by decide +kernel⟩⟩
set_option maxRecDepth 20000 in
theorem ml_X8_139 : MLV RX8 139 yX8_becomeTree cX8_becomeTree 2 (none) 1 := ⟨uw_mk 402 (by decide +kernel) rfl, uw_mk 404 (by decide +kernel) rfl, uw_mk 2 (by decide +kernel) rfl, uw_mk 54 (by decide +kernel) rfl, uw_mk 405 rfl rfl, ⟨by decide +kernel, by decide +kernel, by decide +kernel⟩⟩
set_option maxRecDepth 20000 in
theorem ml_X8_142 : MLV RX8 142 yX8_weighTrees cX8_weighTrees 4 (none) 0 := ⟨uw_mk 410 (by decide +kernel) rfl, uw_mk 412 (by decide +kernel) rfl, uw_mk 3 (by decide +kernel) rfl, uw_mk 54 (by decide +kernel) rfl, uw_mk 413 rfl rfl, ⟨by decide +kernel, by decide +kernel, by decide +kernel⟩⟩
set_option maxRecDepth 20000 in
theorem ml_X8_145 : MLV RX8 145 yX8_betterTree cX8_betterTree 9 (some .int) 0 := ⟨uw_mk 481 (by decide +kernel) rfl, uw_mk 483 (by decide +kernel) rfl, uw_mk 10 (by decide +kernel) rfl, uw_mk 54 (by decide +kernel) rfl, uw_mk 484 rfl rfl, ⟨by decide +kernel, by decide +kernel, by decide +kernel⟩⟩
set_option maxRecDepth 20000 in
theorem ml_X8_152 : MLV RX8 152 yX5_at cX5_at 2 (some .int) 1 := ⟨uw_mk 480 (by decide +kernel) rfl, uw_mk 320 (by decide +kernel) rfl, uw_mk 321 (by decide +kernel) rfl, uw_mk 56 (by decide +kernel) rfl, uw_mk 322 rfl rfl, ⟨by decide +kernel, by decide +kernel, by decide +kernel⟩⟩
set_option maxRecDepth 20000 in
theorem ml_X8_159 : MLV RX8 159 yX5_put cX5_put 3 (none) 2 := ⟨uw_mk 414 (by decide +kernel) rfl, uw_mk 304 (by decide +kernel) rfl, uw_mk 305 (by decide +kernel) rfl, uw_mk 56 (by decide +kernel) rfl, uw_mk 306 rfl rfl, ⟨by decide +kernel, by decide +kernel, by decide +kernel⟩⟩
set_option maxRecDepth 20000 in
theorem ml_X8_161 : MLV RX8 161 yX4_hasPlace cX4_hasPlace 2 (some .boolean) 1 := ⟨uw_mk 497 (by decide +kernel) rfl, uw_mk 364 (by decide +kernel) rfl, uw_mk 365 (by decide +kernel) rfl, uw_mk 58 (by decide +kernel) rfl, uw_mk 366 rfl rfl, ⟨by decide +kernel, by decide +kernel, by decide +kernel⟩⟩
set_option maxRecDepth 20000 in
theorem ml_X8_164 : MLV RX8 164 yX8_loadSets cX8_loadSets 4 (none) 1 := ⟨uw_mk 415 (by decide +kernel) rfl, uw_mk 417 (by decide +kernel) rfl, uw_mk 4 (by decide +kernel) rfl, uw_mk 54 (by decide +kernel) rfl, uw_mk 418 rfl rfl, ⟨by decide +kernel, by decide +kernel, by decide +kernel⟩⟩
set_option maxRecDepth 20000 in
theorem ml_X8_167 : MLV RX8 167 yX8_changesOf cX8_changesOf 2 (some .int) 1 := ⟨uw_mk 431 (by decide +kernel) rfl, uw_mk 433 (by decide +kernel) rfl, uw_mk 5 (by decide +kernel) rfl, uw_mk 54 (by decide +kernel) rfl, uw_mk 434 rfl rfl, ⟨by decide +kernel, by decide +kernel, by decide +kernel⟩⟩
set_option maxRecDepth 20000 in
theorem ml_X8_173 : MLV RX8 173 yX7_grow cX7_grow 4 (none) 2 := ⟨uw_mk 435 (by decide +kernel) rfl, uw_mk 436 (by decide +kernel) rfl, uw_mk 437 (by decide +kernel) rfl, uw_mk 61 (by decide +kernel) rfl, uw_mk 438 rfl rfl, ⟨by decide +kernel, by decide +kernel, by decide +kernel⟩⟩
set_option maxRecDepth 20000 in
theorem ml_X8_176 : MLV RX8 176 yX8_costFrom cX8_costFrom 4 (some .int) 1 := ⟨uw_mk 506 (by decide +kernel) rfl, uw_mk 508 (by decide +kernel) rfl, uw_mk 11 (by decide +kernel) rfl, uw_mk 54 (by decide +kernel) rfl, uw_mk 509 rfl rfl, ⟨by decide +kernel, by decide +kernel, by decide +kernel⟩⟩
set_option maxRecDepth 20000 in
theorem ml_X8_185 : MLV RX8 185 yX8_treeWith cX8_treeWith 6 (some .int) 2 := ⟨uw_mk 534 (by decide +kernel) rfl, uw_mk 536 (by decide +kernel) rfl, uw_mk 14 (by decide +kernel) rfl, uw_mk 54 (by decide +kernel) rfl, uw_mk 537 rfl rfl, ⟨by decide +kernel, by decide +kernel, by decide +kernel⟩⟩
set_option maxRecDepth 20000 in
theorem ml_X8_188 : MLV RX8 188 yX8_bound cX8_bound 6 (some .int) 0 := ⟨uw_mk 542 (by decide +kernel) rfl, uw_mk 544 (by decide +kernel) rfl, uw_mk 15 (by decide +kernel) rfl, uw_mk 54 (by decide +kernel) rfl, uw_mk 545 rfl rfl, ⟨by decide +kernel, by decide +kernel, by decide +kernel⟩⟩
set_option maxRecDepth 20000 in
theorem ml_X8_191 : MLV RX8 191 yX8_fewestChanges cX8_fewestChanges 2 (some .int) 0 := ⟨uw_mk 547 (by decide +kernel) rfl, uw_mk 549 (by decide +kernel) rfl, uw_mk 16 (by decide +kernel) rfl, uw_mk 54 (by decide +kernel) rfl, uw_mk 550 rfl rfl, ⟨by decide +kernel, by decide +kernel, by decide +kernel⟩⟩
set_option maxRecDepth 20000 in
theorem ml_X8_194 : MLV RX8 194 yX8_changesIf cX8_changesIf 6 (some .int) 3 := ⟨uw_mk 555 (by decide +kernel) rfl, uw_mk 557 (by decide +kernel) rfl, uw_mk 17 (by decide +kernel) rfl, uw_mk 54 (by decide +kernel) rfl, uw_mk 558 rfl rfl, ⟨by decide +kernel, by decide +kernel, by decide +kernel⟩⟩
set_option maxRecDepth 20000 in
theorem ml_X8_198 : MLV RX8 198 yX8_inQuarrel cX8_inQuarrel 7 (some .boolean) 2 := ⟨uw_mk 564 (by decide +kernel) rfl, uw_mk 566 (by decide +kernel) rfl, uw_mk 18 (by decide +kernel) rfl, uw_mk 54 (by decide +kernel) rfl, uw_mk 567 rfl rfl, ⟨by decide +kernel, by decide +kernel, by decide +kernel⟩⟩
set_option maxRecDepth 20000 in
theorem ml_X8_201 : MLV RX8 201 yX4_hasCopy cX4_hasCopy 2 (some .boolean) 1 := ⟨uw_mk 576 (by decide +kernel) rfl, uw_mk 360 (by decide +kernel) rfl, uw_mk 361 (by decide +kernel) rfl, uw_mk 58 (by decide +kernel) rfl, uw_mk 362 rfl rfl, ⟨by decide +kernel, by decide +kernel, by decide +kernel⟩⟩
set_option maxRecDepth 20000 in
theorem ml_X8_204 : MLV RX8 204 yX3_compare cX3_compare 8 (none) 2 := ⟨uw_mk 577 (by decide +kernel) rfl, uw_mk 578 (by decide +kernel) rfl, uw_mk 579 (by decide +kernel) rfl, uw_mk 63 (by decide +kernel) rfl, uw_mk 580 rfl rfl, ⟨by decide +kernel, by decide +kernel, by decide +kernel⟩⟩
set_option maxRecDepth 20000 in
theorem ml_X8_208 : MLV RX8 208 yX3_plain cX3_plain 5 (some .int) 2 := ⟨uw_mk 583 (by decide +kernel) rfl, uw_mk 584 (by decide +kernel) rfl, uw_mk 585 (by decide +kernel) rfl, uw_mk 63 (by decide +kernel) rfl, uw_mk 586 rfl rfl, ⟨by decide +kernel, by decide +kernel, by decide +kernel⟩⟩
set_option maxRecDepth 20000 in
theorem ml_X8_215 : MLV RX8 215 yX3_find cX3_find 5 (none) 2 := ⟨uw_mk 590 (by decide +kernel) rfl, uw_mk 591 (by decide +kernel) rfl, uw_mk 592 (by decide +kernel) rfl, uw_mk 63 (by decide +kernel) rfl, uw_mk 593 rfl rfl, ⟨by decide +kernel, by decide +kernel, by decide +kernel⟩⟩
set_option maxRecDepth 20000 in
theorem ml_X8_230 : MLV RX8 230 yX0_follow cX0_follow 4 (none) 2 := ⟨uw_mk 452 (by decide +kernel) rfl, uw_mk 453 (by decide +kernel) rfl, uw_mk 454 (by decide +kernel) rfl, uw_mk 62 (by decide +kernel) rfl, uw_mk 455 rfl rfl, ⟨by decide +kernel, by decide +kernel, by decide +kernel⟩⟩
set_option maxRecDepth 20000 in
theorem ml_X8_234 : MLV RX8 234 yX8_mayBeMisread cX8_mayBeMisread 4 (some .boolean) 1 := ⟨uw_mk 610 (by decide +kernel) rfl, uw_mk 612 (by decide +kernel) rfl, uw_mk 20 (by decide +kernel) rfl, uw_mk 54 (by decide +kernel) rfl, uw_mk 613 rfl rfl, ⟨by decide +kernel, by decide +kernel, by decide +kernel⟩⟩
set_option maxRecDepth 20000 in
theorem ml_X8_237 : MLV RX8 237 yX8_imageOf cX8_imageOf 2 (some (.object "StemmaTree$Image")) 1 := ⟨uw_mk 622 (by decide +kernel) rfl, uw_mk 624 (by decide +kernel) rfl, uw_mk 22 (by decide +kernel) rfl, uw_mk 54 (by decide +kernel) rfl, uw_mk 625 rfl rfl, ⟨by decide +kernel, by decide +kernel, by decide +kernel⟩⟩
set_option maxRecDepth 20000 in
theorem ml_X8_245 : MLV RX8 245 yX8_lostOnes cX8_lostOnes 4 (some .int) 0 := ⟨uw_mk 634 (by decide +kernel) rfl, uw_mk 636 (by decide +kernel) rfl, uw_mk 23 (by decide +kernel) rfl, uw_mk 54 (by decide +kernel) rfl, uw_mk 637 rfl rfl, ⟨by decide +kernel, by decide +kernel, by decide +kernel⟩⟩
set_option maxRecDepth 20000 in
theorem ml_X8_248 : MLV RX8 248 yX8_quarrels cX8_quarrels 4 (some .int) 0 := ⟨uw_mk 638 (by decide +kernel) rfl, uw_mk 640 (by decide +kernel) rfl, uw_mk 24 (by decide +kernel) rfl, uw_mk 54 (by decide +kernel) rfl, uw_mk 641 rfl rfl, ⟨by decide +kernel, by decide +kernel, by decide +kernel⟩⟩
set_option maxRecDepth 20000 in
theorem ml_X8_260 : MLV RX8 260 yX4_setsOf cX4_setsOf 5 (some .int) 1 := ⟨uw_mk 419 (by decide +kernel) rfl, uw_mk 420 (by decide +kernel) rfl, uw_mk 421 (by decide +kernel) rfl, uw_mk 58 (by decide +kernel) rfl, uw_mk 422 rfl rfl, ⟨by decide +kernel, by decide +kernel, by decide +kernel⟩⟩
set_option maxRecDepth 20000 in
theorem ml_X8_266 : MLV RX8 266 yX0_changesOver cX0_changesOver 9 (some .int) 1 := ⟨uw_mk 466 (by decide +kernel) rfl, uw_mk 467 (by decide +kernel) rfl, uw_mk 468 (by decide +kernel) rfl, uw_mk 62 (by decide +kernel) rfl, uw_mk 469 rfl rfl, ⟨by decide +kernel, by decide +kernel, by decide +kernel⟩⟩
set_option maxRecDepth 20000 in
theorem ml_X8_273 : MLV RX8 273 yX0_costAt cX0_costAt 5 (some .int) 2 := ⟨uw_mk 510 (by decide +kernel) rfl, uw_mk 511 (by decide +kernel) rfl, uw_mk 512 (by decide +kernel) rfl, uw_mk 62 (by decide +kernel) rfl, uw_mk 513 rfl rfl, ⟨by decide +kernel, by decide +kernel, by decide +kernel⟩⟩
set_option maxRecDepth 20000 in
theorem ml_X8_288 : MLV RX8 288 yX8_allSeenIs cX8_allSeenIs 3 (some .boolean) 1 := ⟨uw_mk 614 (by decide +kernel) rfl, uw_mk 616 (by decide +kernel) rfl, uw_mk 21 (by decide +kernel) rfl, uw_mk 54 (by decide +kernel) rfl, uw_mk 617 rfl rfl, ⟨by decide +kernel, by decide +kernel, by decide +kernel⟩⟩
set_option maxRecDepth 20000 in
theorem ml_X9_61 : MLV RX9 61 yX9_blanks cX9_blanks 1 (none) 0 := ⟨uw_mk 746 (by decide +kernel) rfl, uw_mk 748 (by decide +kernel) rfl, uw_mk 25 (by decide +kernel) rfl, uw_mk 64 (by decide +kernel) rfl, uw_mk 749 rfl rfl, ⟨by decide +kernel, by decide +kernel, by decide +kernel⟩⟩
set_option maxRecDepth 20000 in
theorem ml_X9_70 : MLV RX9 70 yX9_next cX9_next 1 (none) 0 := ⟨uw_mk 754 (by decide +kernel) rfl, uw_mk 756 (by decide +kernel) rfl, uw_mk 27 (by decide +kernel) rfl, uw_mk 64 (by decide +kernel) rfl, uw_mk 757 rfl rfl, ⟨by decide +kernel, by decide +kernel, by decide +kernel⟩⟩
set_option maxRecDepth 20000 in
theorem ml_X9_79 : MLV RX9 79 yX9_readsCopy cX9_readsCopy 3 (some .boolean) 0 := ⟨uw_mk 750 (by decide +kernel) rfl, uw_mk 752 (by decide +kernel) rfl, uw_mk 26 (by decide +kernel) rfl, uw_mk 64 (by decide +kernel) rfl, uw_mk 753 rfl rfl, ⟨by decide +kernel, by decide +kernel, by decide +kernel⟩⟩
set_option maxRecDepth 20000 in
theorem ml_X9_98 : MLV RX9 98 yX9_isCopy cX9_isCopy 2 (some .boolean) 1 := ⟨uw_mk 762 (by decide +kernel) rfl, uw_mk 764 (by decide +kernel) rfl, uw_mk 28 (by decide +kernel) rfl, uw_mk 64 (by decide +kernel) rfl, uw_mk 765 rfl rfl, ⟨by decide +kernel, by decide +kernel, by decide +kernel⟩⟩
set_option maxRecDepth 20000 in
theorem ml_X9_102 : MLV RX9 102 yX9_isPlace cX9_isPlace 2 (some .boolean) 1 := ⟨uw_mk 766 (by decide +kernel) rfl, uw_mk 768 (by decide +kernel) rfl, uw_mk 29 (by decide +kernel) rfl, uw_mk 64 (by decide +kernel) rfl, uw_mk 769 rfl rfl, ⟨by decide +kernel, by decide +kernel, by decide +kernel⟩⟩
set_option maxRecDepth 20000 in
theorem ml_X9_105 : MLV RX9 105 yX9_readingOf cX9_readingOf 3 (some .int) 2 := ⟨uw_mk 770 (by decide +kernel) rfl, uw_mk 772 (by decide +kernel) rfl, uw_mk 30 (by decide +kernel) rfl, uw_mk 64 (by decide +kernel) rfl, uw_mk 773 rfl rfl, ⟨by decide +kernel, by decide +kernel, by decide +kernel⟩⟩
set_option maxRecDepth 20000 in
theorem ml_X9_115 : MLV RX9 115 yX9_edge cX9_edge 3 (none) 2 := ⟨uw_mk 794 (by decide +kernel) rfl, uw_mk 796 (by decide +kernel) rfl, uw_mk 35 (by decide +kernel) rfl, uw_mk 64 (by decide +kernel) rfl, uw_mk 797 rfl rfl, ⟨by decide +kernel, by decide +kernel, by decide +kernel⟩⟩
set_option maxRecDepth 20000 in
theorem ml_X9_126 : MLV RX9 126 yX9_layLeaves cX9_layLeaves 5 (none) 1 := ⟨uw_mk 809 (by decide +kernel) rfl, uw_mk 811 (by decide +kernel) rfl, uw_mk 38 (by decide +kernel) rfl, uw_mk 64 (by decide +kernel) rfl, uw_mk 812 rfl rfl, ⟨by decide +kernel, by decide +kernel, by decide +kernel⟩⟩
set_option maxRecDepth 20000 in
theorem ml_X9_130 : MLV RX9 130 yX9_lastEdge cX9_lastEdge 4 (some .int) 1 := ⟨uw_mk 813 (by decide +kernel) rfl, uw_mk 815 (by decide +kernel) rfl, uw_mk 39 (by decide +kernel) rfl, uw_mk 64 (by decide +kernel) rfl, uw_mk 816 rfl rfl, ⟨by decide +kernel, by decide +kernel, by decide +kernel⟩⟩
set_option maxRecDepth 20000 in
theorem ml_X9_134 : MLV RX9 134 yX9_takes cX9_takes 8 (none) 3 := ⟨uw_mk 817 (by decide +kernel) rfl, uw_mk 819 (by decide +kernel) rfl, uw_mk 40 (by decide +kernel) rfl, uw_mk 64 (by decide +kernel) rfl, uw_mk 820 rfl rfl, ⟨by decide +kernel, by decide +kernel, by decide +kernel⟩⟩
set_option maxRecDepth 20000 in
theorem ml_X9_138 : MLV RX9 138 yX9_least cX9_least 4 (some .int) 1 := ⟨uw_mk 824 (by decide +kernel) rfl, uw_mk 826 (by decide +kernel) rfl, uw_mk 41 (by decide +kernel) rfl, uw_mk 64 (by decide +kernel) rfl, uw_mk 827 rfl rfl, ⟨by decide +kernel, by decide +kernel, by decide +kernel⟩⟩
set_option maxRecDepth 20000 in
theorem ml_X9_141 : MLV RX9 141 yX9_costFrom cX9_costFrom 7 (some .int) 3 := ⟨uw_mk 805 (by decide +kernel) rfl, uw_mk 807 (by decide +kernel) rfl, uw_mk 37 (by decide +kernel) rfl, uw_mk 64 (by decide +kernel) rfl, uw_mk 808 rfl rfl, ⟨by decide +kernel, by decide +kernel, by decide +kernel⟩⟩
set_option maxRecDepth 20000 in
theorem ml_X9_144 : MLV RX9 144 yX9_layTree cX9_layTree 5 (none) 1 := ⟨uw_mk 790 (by decide +kernel) rfl, uw_mk 792 (by decide +kernel) rfl, uw_mk 34 (by decide +kernel) rfl, uw_mk 64 (by decide +kernel) rfl, uw_mk 793 rfl rfl, ⟨by decide +kernel, by decide +kernel, by decide +kernel⟩⟩
set_option maxRecDepth 20000 in
theorem ml_X9_147 : MLV RX9 147 yX9_changesAt cX9_changesAt 2 (some .int) 1 := ⟨uw_mk 801 (by decide +kernel) rfl, uw_mk 803 (by decide +kernel) rfl, uw_mk 36 (by decide +kernel) rfl, uw_mk 64 (by decide +kernel) rfl, uw_mk 804 rfl rfl, ⟨by decide +kernel, by decide +kernel, by decide +kernel⟩⟩
set_option maxRecDepth 20000 in
theorem ml_X9_150 : MLV RX9 150 yX9_trees cX9_trees 1 (some .int) 0 := ⟨uw_mk 782 (by decide +kernel) rfl, uw_mk 784 (by decide +kernel) rfl, uw_mk 32 (by decide +kernel) rfl, uw_mk 64 (by decide +kernel) rfl, uw_mk 785 rfl rfl, ⟨by decide +kernel, by decide +kernel, by decide +kernel⟩⟩
set_option maxRecDepth 20000 in
theorem ml_X9_154 : MLV RX9 154 yX9_isTree cX9_isTree 2 (some .boolean) 1 := ⟨uw_mk 778 (by decide +kernel) rfl, uw_mk 780 (by decide +kernel) rfl, uw_mk 31 (by decide +kernel) rfl, uw_mk 64 (by decide +kernel) rfl, uw_mk 781 rfl rfl, ⟨by decide +kernel, by decide +kernel, by decide +kernel⟩⟩
set_option maxRecDepth 20000 in
theorem ml_X9_157 : MLV RX9 157 yX9_changesOf cX9_changesOf 4 (some .int) 1 := ⟨uw_mk 786 (by decide +kernel) rfl, uw_mk 788 (by decide +kernel) rfl, uw_mk 33 (by decide +kernel) rfl, uw_mk 64 (by decide +kernel) rfl, uw_mk 789 rfl rfl, ⟨by decide +kernel, by decide +kernel, by decide +kernel⟩⟩
set_option maxRecDepth 20000 in
theorem ml_X9_160 : MLV RX9 160 yX9_edges cX9_edges 1 (some .int) 0 := ⟨uw_mk 832 (by decide +kernel) rfl, uw_mk 834 (by decide +kernel) rfl, uw_mk 42 (by decide +kernel) rfl, uw_mk 64 (by decide +kernel) rfl, uw_mk 835 rfl rfl, ⟨by decide +kernel, by decide +kernel, by decide +kernel⟩⟩
set_option maxRecDepth 20000 in
theorem ml_X9_163 : MLV RX9 163 yX9_directedOf cX9_directedOf 6 (some .int) 2 := ⟨uw_mk 836 (by decide +kernel) rfl, uw_mk 838 (by decide +kernel) rfl, uw_mk 43 (by decide +kernel) rfl, uw_mk 64 (by decide +kernel) rfl, uw_mk 839 rfl rfl, ⟨by decide +kernel, by decide +kernel, by decide +kernel⟩⟩
set_option maxRecDepth 20000 in
theorem ml_X9_166 : MLV RX9 166 yX9_fewest cX9_fewest 3 (some .int) 0 := ⟨uw_mk 848 (by decide +kernel) rfl, uw_mk 850 (by decide +kernel) rfl, uw_mk 44 (by decide +kernel) rfl, uw_mk 64 (by decide +kernel) rfl, uw_mk 851 rfl rfl, ⟨by decide +kernel, by decide +kernel, by decide +kernel⟩⟩
set_option maxRecDepth 20000 in
theorem ml_X9_173 : MLV RX9 173 yX9_bound cX9_bound 6 (some .int) 0 := ⟨uw_mk 856 (by decide +kernel) rfl, uw_mk 858 (by decide +kernel) rfl, uw_mk 45 (by decide +kernel) rfl, uw_mk 64 (by decide +kernel) rfl, uw_mk 859 rfl rfl, ⟨by decide +kernel, by decide +kernel, by decide +kernel⟩⟩
set_option maxRecDepth 20000 in
theorem ml_X9_179 : MLV RX9 179 yX9_remember cX9_remember 2 (none) 0 := ⟨uw_mk 871 (by decide +kernel) rfl, uw_mk 873 (by decide +kernel) rfl, uw_mk 47 (by decide +kernel) rfl, uw_mk 64 (by decide +kernel) rfl, uw_mk 874 rfl rfl, ⟨by decide +kernel, by decide +kernel, by decide +kernel⟩⟩
set_option maxRecDepth 20000 in
theorem ml_X9_182 : MLV RX9 182 yX9_becomes cX9_becomes 4 (some .int) 2 := ⟨uw_mk 867 (by decide +kernel) rfl, uw_mk 869 (by decide +kernel) rfl, uw_mk 46 (by decide +kernel) rfl, uw_mk 64 (by decide +kernel) rfl, uw_mk 870 rfl rfl, ⟨by decide +kernel, by decide +kernel, by decide +kernel⟩⟩
set_option maxRecDepth 20000 in
theorem ml_X9_188 : MLV RX9 188 yX9_isTold cX9_isTold 7 (some .boolean) 4 := ⟨uw_mk 902 (by decide +kernel) rfl, uw_mk 904 (by decide +kernel) rfl, uw_mk 49 (by decide +kernel) rfl, uw_mk 64 (by decide +kernel) rfl, uw_mk 905 rfl rfl, ⟨by decide +kernel, by decide +kernel, by decide +kernel⟩⟩
set_option maxRecDepth 20000 in
theorem ml_X9_192 : MLV RX9 192 yX9_quarrels cX9_quarrels 9 (some .boolean) 2 := ⟨uw_mk 898 (by decide +kernel) rfl, uw_mk 900 (by decide +kernel) rfl, uw_mk 48 (by decide +kernel) rfl, uw_mk 64 (by decide +kernel) rfl, uw_mk 901 rfl rfl, ⟨by decide +kernel, by decide +kernel, by decide +kernel⟩⟩
set_option maxRecDepth 20000 in
theorem ml_X9_195 : MLV RX9 195 yX9_unlikes cX9_unlikes 9 (some .int) 4 := ⟨uw_mk 914 (by decide +kernel) rfl, uw_mk 916 (by decide +kernel) rfl, uw_mk 50 (by decide +kernel) rfl, uw_mk 64 (by decide +kernel) rfl, uw_mk 917 rfl rfl, ⟨by decide +kernel, by decide +kernel, by decide +kernel⟩⟩
set_option maxRecDepth 20000 in
theorem ml_X9_199 : MLV RX9 199 yX9_isSeen cX9_isSeen 4 (some .boolean) 1 := ⟨uw_mk 930 (by decide +kernel) rfl, uw_mk 932 (by decide +kernel) rfl, uw_mk 51 (by decide +kernel) rfl, uw_mk 64 (by decide +kernel) rfl, uw_mk 933 rfl rfl, ⟨by decide +kernel, by decide +kernel, by decide +kernel⟩⟩
set_option maxRecDepth 20000 in
theorem ml_X9_202 : MLV RX9 202 yX9_ofAll cX9_ofAll 5 (some .int) 1 := ⟨uw_mk 946 (by decide +kernel) rfl, uw_mk 948 (by decide +kernel) rfl, uw_mk 52 (by decide +kernel) rfl, uw_mk 64 (by decide +kernel) rfl, uw_mk 949 rfl rfl, ⟨by decide +kernel, by decide +kernel, by decide +kernel⟩⟩
