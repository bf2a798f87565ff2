theorem ka_I : Cond.arrayClass .int ∈ gT := tb1 45 rfl rfl
theorem ka_Z : Cond.arrayClass .boolean ∈ gT := tb5 74 rfl rfl
theorem oi_X11_3 : Cond.methodLink RX11 3 objectInit ∈ gT ∧ Cond.instanceMethod objectInit ∈ gT ∧ Cond.code objectInit ⟨#[0xb1]⟩ 1 none ∈ gT := ⟨tb1 26 rfl rfl, tb1 27 rfl rfl, tb1 28 rfl rfl⟩
theorem nw_X11_9 : NW RX11 9 8 2 [.null, .int 0] := ⟨_, _, tyX8, rfl, inX8, tyX8_ok, tb1 29 rfl rfl, tb1 30 rfl rfl, tb1 2 rfl rfl, by decide +kernel⟩
theorem oi_X8_3 : Cond.methodLink RX8 3 objectInit ∈ gT ∧ Cond.instanceMethod objectInit ∈ gT ∧ Cond.code objectInit ⟨#[0xb1]⟩ 1 none ∈ gT := ⟨tb1 34 rfl rfl, tb1 27 rfl rfl, tb1 28 rfl rfl⟩
theorem fpF_X8_9 : FP RX8 9 8 0 true (.array .int) := ⟨_, _, _, tyX8, rfl, inX8, by decide, tb1 35 rfl rfl, tyX8_ok, nmX8, rfl, by decide +kernel, fun h => by first | rfl | cases h⟩
theorem mn_X11_11 : MN RX11 11 "UnaskedGuests" yX8_init cX8_init 1 0 := ⟨by decide +kernel, tb1 32 rfl rfl, tb1 2 rfl rfl, tb1 33 rfl rfl, rfl, by decide +kernel⟩
theorem fpF_X11_12 : FP RX11 12 11 0 true (.object "UnaskedGuests$Tape") := ⟨_, _, _, tyX11, rfl, inX11, by decide, tb2 85 rfl rfl, tyX11_ok, nmX11, rfl, by decide +kernel, fun h => by first | rfl | cases h⟩
theorem nw_X11_16 : NW RX11 16 9 8 [.null, .null, .int 0, .int 0, .int 0, .int 0, .int 0, .int 0] := ⟨_, _, tyX9, rfl, inX9, tyX9_ok, tb1 46 rfl rfl, tb1 47 rfl rfl, tb1 3 rfl rfl, by decide +kernel⟩
theorem oi_X9_3 : Cond.methodLink RX9 3 objectInit ∈ gT ∧ Cond.instanceMethod objectInit ∈ gT ∧ Cond.code objectInit ⟨#[0xb1]⟩ 1 none ∈ gT := ⟨tb1 51 rfl rfl, tb1 27 rfl rfl, tb1 28 rfl rfl⟩
theorem nw_X9_9 : NW RX9 9 1 8 [.int 0, .int 0, .int 0, .null, .null, .null, .null, .null] := ⟨_, _, tyX1, rfl, inX1, tyX1_ok, tb1 52 rfl rfl, tb1 53 rfl rfl, tb1 4 rfl rfl, by decide +kernel⟩
theorem oi_X1_3 : Cond.methodLink RX1 3 objectInit ∈ gT ∧ Cond.instanceMethod objectInit ∈ gT ∧ Cond.code objectInit ⟨#[0xb1]⟩ 1 none ∈ gT := ⟨tb1 57 rfl rfl, tb1 27 rfl rfl, tb1 28 rfl rfl⟩
theorem fpF_X1_21 : FP RX1 21 1 3 true (.array .int) := ⟨_, _, _, tyX1, rfl, inX1, by decide, tb1 74 rfl rfl, tyX1_ok, nmX1, rfl, by decide +kernel, fun h => by first | rfl | cases h⟩
theorem fpF_X1_25 : FP RX1 25 1 4 true (.array .int) := ⟨_, _, _, tyX1, rfl, inX1, by decide, tb1 76 rfl rfl, tyX1_ok, nmX1, rfl, by decide +kernel, fun h => by first | rfl | cases h⟩
theorem fpF_X1_28 : FP RX1 28 1 5 true (.array .int) := ⟨_, _, _, tyX1, rfl, inX1, by decide, tb1 80 rfl rfl, tyX1_ok, nmX1, rfl, by decide +kernel, fun h => by first | rfl | cases h⟩
theorem fpF_X1_31 : FP RX1 31 1 6 true (.array .int) := ⟨_, _, _, tyX1, rfl, inX1, by decide, tb1 84 rfl rfl, tyX1_ok, nmX1, rfl, by decide +kernel, fun h => by first | rfl | cases h⟩
theorem fpF_X1_34 : FP RX1 34 1 7 true (.array .int) := ⟨_, _, _, tyX1, rfl, inX1, by decide, tb1 88 rfl rfl, tyX1_ok, nmX1, rfl, by decide +kernel, fun h => by first | rfl | cases h⟩
theorem mn_X9_11 : MN RX9 11 "UnaskedGuests" yX1_init cX1_init 1 0 := ⟨by decide +kernel, tb1 55 rfl rfl, tb1 4 rfl rfl, tb1 56 rfl rfl, rfl, by decide +kernel⟩
theorem fpF_X9_12 : FP RX9 12 9 1 true (.object "UnaskedGuests$County") := ⟨_, _, _, tyX9, rfl, inX9, by decide, tb1 107 rfl rfl, tyX9_ok, nmX9, rfl, by decide +kernel, fun h => by first | rfl | cases h⟩
theorem fpF_X9_37 : FP RX9 37 9 0 true (.object "UnaskedGuests$Tape") := ⟨_, _, _, tyX9, rfl, inX9, by decide, tb1 106 rfl rfl, tyX9_ok, nmX9, rfl, by decide +kernel, fun h => by first | rfl | cases h⟩
theorem mi_X11_18 : MI RX11 18 yX9_init cX9_init 2 1 := ⟨tb1 48 rfl rfl, tb1 49 rfl rfl, tb1 3 rfl rfl, tb1 50 rfl rfl, rfl, by decide +kernel⟩
theorem fpF_X11_21 : FP RX11 21 11 1 true (.object "UnaskedGuests$TextReader") := ⟨_, _, _, tyX11, rfl, inX11, by decide, tb2 86 rfl rfl, tyX11_ok, nmX11, rfl, by decide +kernel, fun h => by first | rfl | cases h⟩
theorem nw_X11_25 : NW RX11 25 1 8 [.int 0, .int 0, .int 0, .null, .null, .null, .null, .null] := ⟨_, _, tyX1, rfl, inX1, tyX1_ok, tb1 133 rfl rfl, tb1 53 rfl rfl, tb1 4 rfl rfl, by decide +kernel⟩
theorem mn_X11_27 : MN RX11 27 "UnaskedGuests" yX1_init cX1_init 1 0 := ⟨by decide +kernel, tb1 55 rfl rfl, tb1 4 rfl rfl, tb1 56 rfl rfl, rfl, by decide +kernel⟩
theorem fpF_X11_28 : FP RX11 28 11 2 true (.object "UnaskedGuests$County") := ⟨_, _, _, tyX11, rfl, inX11, by decide, tb2 87 rfl rfl, tyX11_ok, nmX11, rfl, by decide +kernel, fun h => by first | rfl | cases h⟩
theorem nw_X11_32 : NW RX11 32 7 4 [.int 0, .null, .null, .null] := ⟨_, _, tyX7, rfl, inX7, tyX7_ok, tb1 135 rfl rfl, tb1 136 rfl rfl, tb1 5 rfl rfl, by decide +kernel⟩
theorem oi_X7_3 : Cond.methodLink RX7 3 objectInit ∈ gT ∧ Cond.instanceMethod objectInit ∈ gT ∧ Cond.code objectInit ⟨#[0xb1]⟩ 1 none ∈ gT := ⟨tb1 140 rfl rfl, tb1 27 rfl rfl, tb1 28 rfl rfl⟩
theorem fpF_X7_15 : FP RX7 15 7 1 true (.array .int) := ⟨_, _, _, tyX7, rfl, inX7, by decide, tb1 143 rfl rfl, tyX7_ok, nmX7, rfl, by decide +kernel, fun h => by first | rfl | cases h⟩
theorem fpF_X7_19 : FP RX7 19 7 2 true (.array .int) := ⟨_, _, _, tyX7, rfl, inX7, by decide, tb1 144 rfl rfl, tyX7_ok, nmX7, rfl, by decide +kernel, fun h => by first | rfl | cases h⟩
theorem fpF_X7_22 : FP RX7 22 7 3 true (.array .int) := ⟨_, _, _, tyX7, rfl, inX7, by decide, tb1 145 rfl rfl, tyX7_ok, nmX7, rfl, by decide +kernel, fun h => by first | rfl | cases h⟩
theorem mn_X11_34 : MN RX11 34 "UnaskedGuests" yX7_init cX7_init 1 0 := ⟨by decide +kernel, tb1 138 rfl rfl, tb1 5 rfl rfl, tb1 139 rfl rfl, rfl, by decide +kernel⟩
theorem fpF_X11_35 : FP RX11 35 11 3 true (.object "UnaskedGuests$Sightings") := ⟨_, _, _, tyX11, rfl, inX11, by decide, tb2 88 rfl rfl, tyX11_ok, nmX11, rfl, by decide +kernel, fun h => by first | rfl | cases h⟩
theorem nw_X11_39 : NW RX11 39 10 6 [.null, .null, .null, .int 0, .int 0, .int 0] := ⟨_, _, tyX10, rfl, inX10, tyX10_ok, tb1 155 rfl rfl, tb1 156 rfl rfl, tb1 6 rfl rfl, by decide +kernel⟩
theorem oi_X10_3 : Cond.methodLink RX10 3 objectInit ∈ gT ∧ Cond.instanceMethod objectInit ∈ gT ∧ Cond.code objectInit ⟨#[0xb1]⟩ 1 none ∈ gT := ⟨tb1 160 rfl rfl, tb1 27 rfl rfl, tb1 28 rfl rfl⟩
theorem nw_X10_9 : NW RX10 9 1 8 [.int 0, .int 0, .int 0, .null, .null, .null, .null, .null] := ⟨_, _, tyX1, rfl, inX1, tyX1_ok, tb1 161 rfl rfl, tb1 53 rfl rfl, tb1 4 rfl rfl, by decide +kernel⟩
theorem mn_X10_11 : MN RX10 11 "UnaskedGuests" yX1_init cX1_init 1 0 := ⟨by decide +kernel, tb1 55 rfl rfl, tb1 4 rfl rfl, tb1 56 rfl rfl, rfl, by decide +kernel⟩
theorem fpF_X10_12 : FP RX10 12 10 1 true (.object "UnaskedGuests$County") := ⟨_, _, _, tyX10, rfl, inX10, by decide, tb1 190 rfl rfl, tyX10_ok, nmX10, rfl, by decide +kernel, fun h => by first | rfl | cases h⟩
theorem nw_X10_18 : NW RX10 18 2 4 [.null, .null, .int 0, .int 0] := ⟨_, _, tyX2, rfl, inX2, tyX2_ok, tb1 163 rfl rfl, tb1 164 rfl rfl, tb1 7 rfl rfl, by decide +kernel⟩
theorem oi_X2_3 : Cond.methodLink RX2 3 objectInit ∈ gT ∧ Cond.instanceMethod objectInit ∈ gT ∧ Cond.code objectInit ⟨#[0xb1]⟩ 1 none ∈ gT := ⟨tb1 168 rfl rfl, tb1 27 rfl rfl, tb1 28 rfl rfl⟩
theorem fpF_X2_9 : FP RX2 9 2 0 true (.array .int) := ⟨_, _, _, tyX2, rfl, inX2, by decide, tb1 169 rfl rfl, tyX2_ok, nmX2, rfl, by decide +kernel, fun h => by first | rfl | cases h⟩
theorem fpF_X2_15 : FP RX2 15 2 1 true (.array .int) := ⟨_, _, _, tyX2, rfl, inX2, by decide, tb1 172 rfl rfl, tyX2_ok, nmX2, rfl, by decide +kernel, fun h => by first | rfl | cases h⟩
theorem mn_X10_20 : MN RX10 20 "UnaskedGuests" yX2_init cX2_init 1 0 := ⟨by decide +kernel, tb1 166 rfl rfl, tb1 7 rfl rfl, tb1 167 rfl rfl, rfl, by decide +kernel⟩
theorem fpF_X10_21 : FP RX10 21 10 2 true (.object "UnaskedGuests$Evening") := ⟨_, _, _, tyX10, rfl, inX10, by decide, tb1 195 rfl rfl, tyX10_ok, nmX10, rfl, by decide +kernel, fun h => by first | rfl | cases h⟩
theorem fpF_X10_35 : FP RX10 35 10 0 true (.object "UnaskedGuests$County") := ⟨_, _, _, tyX10, rfl, inX10, by decide, tb1 189 rfl rfl, tyX10_ok, nmX10, rfl, by decide +kernel, fun h => by first | rfl | cases h⟩
theorem mi_X11_41 : MI RX11 41 yX10_init cX10_init 2 1 := ⟨tb1 157 rfl rfl, tb1 158 rfl rfl, tb1 6 rfl rfl, tb1 159 rfl rfl, rfl, by decide +kernel⟩
theorem fpF_X11_44 : FP RX11 44 11 4 true (.object "UnaskedGuests$Trial") := ⟨_, _, _, tyX11, rfl, inX11, by decide, tb2 89 rfl rfl, tyX11_ok, nmX11, rfl, by decide +kernel, fun h => by first | rfl | cases h⟩
theorem nw_X11_48 : NW RX11 48 0 4 [.null, .null, .int 0, .int 0] := ⟨_, _, tyX0, rfl, inX0, tyX0_ok, tb1 218 rfl rfl, tb1 219 rfl rfl, tb1 8 rfl rfl, by decide +kernel⟩
theorem oi_X0_3 : Cond.methodLink RX0 3 objectInit ∈ gT ∧ Cond.instanceMethod objectInit ∈ gT ∧ Cond.code objectInit ⟨#[0xb1]⟩ 1 none ∈ gT := ⟨tb1 223 rfl rfl, tb1 27 rfl rfl, tb1 28 rfl rfl⟩
theorem fpF_X0_18 : FP RX0 18 0 0 true (.object "UnaskedGuests$County") := ⟨_, _, _, tyX0, rfl, inX0, by decide, tb1 224 rfl rfl, tyX0_ok, nmX0, rfl, by decide +kernel, fun h => by first | rfl | cases h⟩
theorem fpF_X0_22 : FP RX0 22 0 1 true (.object "UnaskedGuests$Trial") := ⟨_, _, _, tyX0, rfl, inX0, by decide, tb1 225 rfl rfl, tyX0_ok, nmX0, rfl, by decide +kernel, fun h => by first | rfl | cases h⟩
theorem mi_X11_50 : MI RX11 50 yX0_init cX0_init 3 2 := ⟨tb1 220 rfl rfl, tb1 221 rfl rfl, tb1 8 rfl rfl, tb1 222 rfl rfl, rfl, by decide +kernel⟩
theorem fpF_X11_53 : FP RX11 53 11 5 true (.object "UnaskedGuests$Advice") := ⟨_, _, _, tyX11, rfl, inX11, by decide, tb2 90 rfl rfl, tyX11_ok, nmX11, rfl, by decide +kernel, fun h => by first | rfl | cases h⟩
theorem nw_X11_57 : NW RX11 57 5 2 [.null, .null] := ⟨_, _, tyX5, rfl, inX5, tyX5_ok, tb1 239 rfl rfl, tb2 0 rfl rfl, tb1 9 rfl rfl, by decide +kernel⟩
theorem oi_X5_3 : Cond.methodLink RX5 3 objectInit ∈ gT ∧ Cond.instanceMethod objectInit ∈ gT ∧ Cond.code objectInit ⟨#[0xb1]⟩ 1 none ∈ gT := ⟨tb2 4 rfl rfl, tb1 27 rfl rfl, tb1 28 rfl rfl⟩
theorem fpF_X5_9 : FP RX5 9 5 0 true (.object "UnaskedGuests$County") := ⟨_, _, _, tyX5, rfl, inX5, by decide, tb2 5 rfl rfl, tyX5_ok, nmX5, rfl, by decide +kernel, fun h => by first | rfl | cases h⟩
theorem fpF_X5_15 : FP RX5 15 5 1 true (.object "UnaskedGuests$Trial") := ⟨_, _, _, tyX5, rfl, inX5, by decide, tb2 6 rfl rfl, tyX5_ok, nmX5, rfl, by decide +kernel, fun h => by first | rfl | cases h⟩
theorem mi_X11_59 : MI RX11 59 yX5_init cX5_init 3 2 := ⟨tb2 1 rfl rfl, tb2 2 rfl rfl, tb1 9 rfl rfl, tb2 3 rfl rfl, rfl, by decide +kernel⟩
theorem fpF_X11_60 : FP RX11 60 11 6 true (.object "UnaskedGuests$Odds") := ⟨_, _, _, tyX11, rfl, inX11, by decide, tb2 91 rfl rfl, tyX11_ok, nmX11, rfl, by decide +kernel, fun h => by first | rfl | cases h⟩
theorem nw_X11_64 : NW RX11 64 3 6 [.null, .null, .null, .null, .int 0, .int 0] := ⟨_, _, tyX3, rfl, inX3, tyX3_ok, tb2 12 rfl rfl, tb2 13 rfl rfl, tb1 10 rfl rfl, by decide +kernel⟩
theorem oi_X3_3 : Cond.methodLink RX3 3 objectInit ∈ gT ∧ Cond.instanceMethod objectInit ∈ gT ∧ Cond.code objectInit ⟨#[0xb1]⟩ 1 none ∈ gT := ⟨tb2 17 rfl rfl, tb1 27 rfl rfl, tb1 28 rfl rfl⟩
theorem kcl_X3_9 : Cond.classLink RX3 9 "[[I" ∈ gT := tb2 18 rfl rfl
theorem fpF_X3_11 : FP RX3 11 3 3 true (.array (.array .int)) := ⟨_, _, _, tyX3, rfl, inX3, by decide, tb2 23 rfl rfl, tyX3_ok, nmX3, rfl, by decide +kernel, fun h => by first | rfl | cases h⟩
theorem fpF_X3_23 : FP RX3 23 3 0 true (.object "UnaskedGuests$County") := ⟨_, _, _, tyX3, rfl, inX3, by decide, tb2 20 rfl rfl, tyX3_ok, nmX3, rfl, by decide +kernel, fun h => by first | rfl | cases h⟩
theorem fpF_X3_27 : FP RX3 27 3 1 true (.object "UnaskedGuests$Sightings") := ⟨_, _, _, tyX3, rfl, inX3, by decide, tb2 21 rfl rfl, tyX3_ok, nmX3, rfl, by decide +kernel, fun h => by first | rfl | cases h⟩
theorem fpF_X3_31 : FP RX3 31 3 2 true (.object "UnaskedGuests$Trial") := ⟨_, _, _, tyX3, rfl, inX3, by decide, tb2 22 rfl rfl, tyX3_ok, nmX3, rfl, by decide +kernel, fun h => by first | rfl | cases h⟩
theorem mi_X11_66 : MI RX11 66 yX3_init cX3_init 4 3 := ⟨tb2 14 rfl rfl, tb2 15 rfl rfl, tb1 10 rfl rfl, tb2 16 rfl rfl, rfl, by decide +kernel⟩
theorem fpF_X11_69 : FP RX11 69 11 7 true (.object "UnaskedGuests$Guess") := ⟨_, _, _, tyX11, rfl, inX11, by decide, tb2 92 rfl rfl, tyX11_ok, nmX11, rfl, by decide +kernel, fun h => by first | rfl | cases h⟩
theorem kcl_X11_73 : Cond.classLink RX11 73 "UnaskedGuests$Image" ∈ gT := tb2 41 rfl rfl
theorem fpF_X11_75 : FP RX11 75 11 8 true (.array (.object "UnaskedGuests$Image")) := ⟨_, _, _, tyX11, rfl, inX11, by decide, tb2 93 rfl rfl, tyX11_ok, nmX11, rfl, by decide +kernel, fun h => by first | rfl | cases h⟩
theorem kcl_X11_79 : Cond.classLink RX11 79 "UnaskedGuests$Sheet" ∈ gT := tb2 43 rfl rfl
theorem fpF_X11_81 : FP RX11 81 11 9 true (.array (.object "UnaskedGuests$Sheet")) := ⟨_, _, _, tyX11, rfl, inX11, by decide, tb2 94 rfl rfl, tyX11_ok, nmX11, rfl, by decide +kernel, fun h => by first | rfl | cases h⟩
theorem nw_X11_73 : NW RX11 73 4 3 [.null, .null, .int 0] := ⟨_, _, tyX4, rfl, inX4, tyX4_ok, tb2 41 rfl rfl, tb2 45 rfl rfl, tb1 11 rfl rfl, by decide +kernel⟩
theorem oi_X4_1 : Cond.methodLink RX4 1 objectInit ∈ gT ∧ Cond.instanceMethod objectInit ∈ gT ∧ Cond.code objectInit ⟨#[0xb1]⟩ 1 none ∈ gT := ⟨tb2 49 rfl rfl, tb1 27 rfl rfl, tb1 28 rfl rfl⟩
theorem nw_X4_7 : NW RX4 7 1 8 [.int 0, .int 0, .int 0, .null, .null, .null, .null, .null] := ⟨_, _, tyX1, rfl, inX1, tyX1_ok, tb2 50 rfl rfl, tb1 53 rfl rfl, tb1 4 rfl rfl, by decide +kernel⟩
theorem mn_X4_9 : MN RX4 9 "UnaskedGuests" yX1_init cX1_init 1 0 := ⟨by decide +kernel, tb1 55 rfl rfl, tb1 4 rfl rfl, tb1 56 rfl rfl, rfl, by decide +kernel⟩
theorem fpF_X4_10 : FP RX4 10 4 0 true (.object "UnaskedGuests$County") := ⟨_, _, _, tyX4, rfl, inX4, by decide, tb2 54 rfl rfl, tyX4_ok, nmX4, rfl, by decide +kernel, fun h => by first | rfl | cases h⟩
theorem nw_X4_16 : NW RX4 16 7 4 [.int 0, .null, .null, .null] := ⟨_, _, tyX7, rfl, inX7, tyX7_ok, tb2 52 rfl rfl, tb1 136 rfl rfl, tb1 5 rfl rfl, by decide +kernel⟩
theorem mn_X4_18 : MN RX4 18 "UnaskedGuests" yX7_init cX7_init 1 0 := ⟨by decide +kernel, tb1 138 rfl rfl, tb1 5 rfl rfl, tb1 139 rfl rfl, rfl, by decide +kernel⟩
theorem fpF_X4_19 : FP RX4 19 4 1 true (.object "UnaskedGuests$Sightings") := ⟨_, _, _, tyX4, rfl, inX4, by decide, tb2 56 rfl rfl, tyX4_ok, nmX4, rfl, by decide +kernel, fun h => by first | rfl | cases h⟩
theorem fp_X4_23 : FP RX4 23 4 2 false .boolean := ⟨_, _, _, tyX4, rfl, inX4, by decide, tb2 58 rfl rfl, tyX4_ok, nmX4, rfl, by decide +kernel, fun h => by first | rfl | cases h⟩
theorem mn_X11_89 : MN RX11 89 "UnaskedGuests" yX4_init cX4_init 1 0 := ⟨by decide +kernel, tb2 47 rfl rfl, tb1 11 rfl rfl, tb2 48 rfl rfl, rfl, by decide +kernel⟩
theorem nw_X11_79 : NW RX11 79 6 3 [.null, .int 0, .int 0] := ⟨_, _, tyX6, rfl, inX6, tyX6_ok, tb2 43 rfl rfl, tb2 67 rfl rfl, tb1 12 rfl rfl, by decide +kernel⟩
theorem oi_X6_3 : Cond.methodLink RX6 3 objectInit ∈ gT ∧ Cond.instanceMethod objectInit ∈ gT ∧ Cond.code objectInit ⟨#[0xb1]⟩ 1 none ∈ gT := ⟨tb2 71 rfl rfl, tb1 27 rfl rfl, tb1 28 rfl rfl⟩
theorem fpF_X6_9 : FP RX6 9 6 0 true (.array .int) := ⟨_, _, _, tyX6, rfl, inX6, by decide, tb2 72 rfl rfl, tyX6_ok, nmX6, rfl, by decide +kernel, fun h => by first | rfl | cases h⟩
theorem mn_X11_90 : MN RX11 90 "UnaskedGuests" yX6_init cX6_init 1 0 := ⟨by decide +kernel, tb2 69 rfl rfl, tb1 12 rfl rfl, tb2 70 rfl rfl, rfl, by decide +kernel⟩
theorem dX8_init_0 : decode cX8_init 0 = .ok (.aload_n 0, 1) := by decide +kernel
theorem dX8_init_1 : decode cX8_init 1 = .ok (.invokespecial 3, 3) := by decide +kernel
theorem dX8_init_4 : decode cX8_init 4 = .ok (.aload_n 0, 1) := by decide +kernel
theorem dX8_init_5 : decode cX8_init 5 = .ok (.sipush 160, 3) := by decide +kernel
theorem dX8_init_8 : decode cX8_init 8 = .ok (.newarray .int, 2) := by decide +kernel
theorem dX8_init_10 : decode cX8_init 10 = .ok (.putfield 9, 3) := by decide +kernel
theorem dX8_init_13 : decode cX8_init 13 = .ok (.aload_n 0, 1) := by decide +kernel
theorem dX8_init_14 : decode cX8_init 14 = .ok (.iconst 0, 1) := by decide +kernel
theorem dX8_init_15 : decode cX8_init 15 = .ok (.putfield 15, 3) := by decide +kernel
theorem dX8_init_18 : decode cX8_init 18 = .ok (.return_, 1) := by decide +kernel
abbrev rm_X8_init : Room := { frames := 1, cells := 1, slots := 160, locals := 12 }
set_option maxHeartbeats 4000000 in
set_option maxRecDepth 100000 in
theorem c_X8_init (E : Ev) (a : Nat) : Mc E yX8_init cX8_init 1 rm_X8_init [.ref a] [(a, .inr (8, [.null, .int 0]))] (fun w => ∃ q1 : Nat, w = [oX8 a q1 0, aI E q1 160 (fun _ => 0)]) := by
  refine Mc.intro (lv := [(0, .ref a)]) (by decide +kernel) rfl (Nat.le_of_ble_eq_true rfl) rfl (fun X C hi hN K => ?_)
  have C : CX E X cX8_init RX8 1 rm_X8_init := C
  refine g_aload_n (pc := 0) C dX8_init_0 0 rfl ?_
  refine g_objInit (pc := 1) C oi_X8_3 (by decide) (Nat.le_of_ble_eq_true rfl) dX8_init_1 ?_
  refine g_aload_n (pc := 4) C dX8_init_4 0 rfl ?_
  refine g_sipush (pc := 5) (v := 160) C dX8_init_5 (by decide) ?_
  refine g_newI (pc := 8) 160 C ka_I (by decide) (by decide) (by decide) (by decide) (by decide) dX8_init_8 (fun q1 => ?_)
  refine g_eqw (ws' := [(a, .inr (8, [.null, .int 0])), aI E q1 160 (fun _ => 0)]) rfl ?_
  refine g_putF (pc := 10) (ws' := [oX8 a q1 0, aI E q1 160 (fun _ => 0)]) 0 C hi fpF_X8_9 rfl rfl rfl (Nat.le_of_ble_eq_true rfl) rfl dX8_init_10 ?_
  refine g_aload_n (pc := 13) C dX8_init_13 0 rfl ?_
  refine g_iconst (pc := 14) (v := 0) C dX8_init_14 (by decide) ?_
  refine g_put (pc := 15) (ws' := [oX8 a q1 0, aI E q1 160 (fun _ => 0)]) 0 C fp_X8_15 rfl rfl rfl (Nat.le_of_ble_eq_true rfl) rfl dX8_init_15 ?_
  refine g_wid (k := 1) (m := 160) (by decide) (by decide) ?_
  exact g_vret (pc := 18) C (K _ ⟨q1, rfl⟩) dX8_init_18
theorem dX1_init_0 : decode cX1_init 0 = .ok (.aload_n 0, 1) := by decide +kernel
theorem dX1_init_1 : decode cX1_init 1 = .ok (.invokespecial 3, 3) := by decide +kernel
theorem dX1_init_4 : decode cX1_init 4 = .ok (.aload_n 0, 1) := by decide +kernel
theorem dX1_init_5 : decode cX1_init 5 = .ok (.iconst 0, 1) := by decide +kernel
theorem dX1_init_6 : decode cX1_init 6 = .ok (.putfield 9, 3) := by decide +kernel
theorem dX1_init_9 : decode cX1_init 9 = .ok (.aload_n 0, 1) := by decide +kernel
theorem dX1_init_10 : decode cX1_init 10 = .ok (.iconst 0, 1) := by decide +kernel
theorem dX1_init_11 : decode cX1_init 11 = .ok (.putfield 15, 3) := by decide +kernel
theorem dX1_init_14 : decode cX1_init 14 = .ok (.aload_n 0, 1) := by decide +kernel
theorem dX1_init_15 : decode cX1_init 15 = .ok (.iconst 0, 1) := by decide +kernel
theorem dX1_init_16 : decode cX1_init 16 = .ok (.putfield 18, 3) := by decide +kernel
theorem dX1_init_19 : decode cX1_init 19 = .ok (.aload_n 0, 1) := by decide +kernel
theorem dX1_init_20 : decode cX1_init 20 = .ok (.iconst 4, 1) := by decide +kernel
theorem dX1_init_21 : decode cX1_init 21 = .ok (.newarray .int, 2) := by decide +kernel
theorem dX1_init_23 : decode cX1_init 23 = .ok (.putfield 21, 3) := by decide +kernel
theorem dX1_init_26 : decode cX1_init 26 = .ok (.aload_n 0, 1) := by decide +kernel
theorem dX1_init_27 : decode cX1_init 27 = .ok (.bipush 6, 2) := by decide +kernel
theorem dX1_init_29 : decode cX1_init 29 = .ok (.newarray .int, 2) := by decide +kernel
theorem dX1_init_31 : decode cX1_init 31 = .ok (.putfield 25, 3) := by decide +kernel
theorem dX1_init_34 : decode cX1_init 34 = .ok (.aload_n 0, 1) := by decide +kernel
theorem dX1_init_35 : decode cX1_init 35 = .ok (.bipush 6, 2) := by decide +kernel
theorem dX1_init_37 : decode cX1_init 37 = .ok (.newarray .int, 2) := by decide +kernel
theorem dX1_init_39 : decode cX1_init 39 = .ok (.putfield 28, 3) := by decide +kernel
theorem dX1_init_42 : decode cX1_init 42 = .ok (.aload_n 0, 1) := by decide +kernel
theorem dX1_init_43 : decode cX1_init 43 = .ok (.bipush 6, 2) := by decide +kernel
theorem dX1_init_45 : decode cX1_init 45 = .ok (.newarray .int, 2) := by decide +kernel
theorem dX1_init_47 : decode cX1_init 47 = .ok (.putfield 31, 3) := by decide +kernel
theorem dX1_init_50 : decode cX1_init 50 = .ok (.aload_n 0, 1) := by decide +kernel
theorem dX1_init_51 : decode cX1_init 51 = .ok (.bipush 24, 2) := by decide +kernel
theorem dX1_init_53 : decode cX1_init 53 = .ok (.newarray .int, 2) := by decide +kernel
theorem dX1_init_55 : decode cX1_init 55 = .ok (.putfield 34, 3) := by decide +kernel
theorem dX1_init_58 : decode cX1_init 58 = .ok (.return_, 1) := by decide +kernel
abbrev rm_X1_init : Room := { frames := 1, cells := 5, slots := 46, locals := 12 }
set_option maxHeartbeats 4000000 in
set_option maxRecDepth 100000 in
theorem c_X1_init (E : Ev) (a : Nat) : Mc E yX1_init cX1_init 1 rm_X1_init [.ref a] [(a, .inr (1, [.int 0, .int 0, .int 0, .null, .null, .null, .null, .null]))] (fun w => ∃ q1 q2 q3 q4 q5 : Nat, w = [oX1 a 0 0 0 q1 q2 q3 q4 q5, aI E q1 4 (fun _ => 0), aI E q2 6 (fun _ => 0), aI E q3 6 (fun _ => 0), aI E q4 6 (fun _ => 0), aI E q5 24 (fun _ => 0)]) := by
  refine Mc.intro (lv := [(0, .ref a)]) (by decide +kernel) rfl (Nat.le_of_ble_eq_true rfl) rfl (fun X C hi hN K => ?_)
  have C : CX E X cX1_init RX1 1 rm_X1_init := C
  refine g_aload_n (pc := 0) C dX1_init_0 0 rfl ?_
  refine g_objInit (pc := 1) C oi_X1_3 (by decide) (Nat.le_of_ble_eq_true rfl) dX1_init_1 ?_
  refine g_aload_n (pc := 4) C dX1_init_4 0 rfl ?_
  refine g_iconst (pc := 5) (v := 0) C dX1_init_5 (by decide) ?_
  refine g_put (pc := 6) (ws' := [(a, .inr (1, [.int 0, .int 0, .int 0, .null, .null, .null, .null, .null]))]) 0 C fp_X1_9 rfl rfl rfl (Nat.le_of_ble_eq_true rfl) rfl dX1_init_6 ?_
  refine g_aload_n (pc := 9) C dX1_init_9 0 rfl ?_
  refine g_iconst (pc := 10) (v := 0) C dX1_init_10 (by decide) ?_
  refine g_put (pc := 11) (ws' := [(a, .inr (1, [.int 0, .int 0, .int 0, .null, .null, .null, .null, .null]))]) 0 C fp_X1_15 rfl rfl rfl (Nat.le_of_ble_eq_true rfl) rfl dX1_init_11 ?_
  refine g_aload_n (pc := 14) C dX1_init_14 0 rfl ?_
  refine g_iconst (pc := 15) (v := 0) C dX1_init_15 (by decide) ?_
  refine g_put (pc := 16) (ws' := [(a, .inr (1, [.int 0, .int 0, .int 0, .null, .null, .null, .null, .null]))]) 0 C fp_X1_18 rfl rfl rfl (Nat.le_of_ble_eq_true rfl) rfl dX1_init_16 ?_
  refine g_aload_n (pc := 19) C dX1_init_19 0 rfl ?_
  refine g_iconst (pc := 20) (v := 4) C dX1_init_20 (by decide) ?_
  refine g_newI (pc := 21) 4 C ka_I (by decide) (by decide) (by decide) (by decide) (by decide) dX1_init_21 (fun q1 => ?_)
  refine g_eqw (ws' := [(a, .inr (1, [.int 0, .int 0, .int 0, .null, .null, .null, .null, .null])), aI E q1 4 (fun _ => 0)]) rfl ?_
  refine g_putF (pc := 23) (ws' := [(a, .inr (1, [.int 0, .int 0, .int 0, .ref q1, .null, .null, .null, .null])), aI E q1 4 (fun _ => 0)]) 0 C hi fpF_X1_21 rfl rfl rfl (Nat.le_of_ble_eq_true rfl) rfl dX1_init_23 ?_
  refine g_aload_n (pc := 26) C dX1_init_26 0 rfl ?_
  refine g_bipush (pc := 27) (v := 6) C dX1_init_27 (by decide) ?_
  refine g_newI (pc := 29) 6 C ka_I (by decide) (by decide) (by decide) (by decide) (by decide) dX1_init_29 (fun q2 => ?_)
  refine g_eqw (ws' := [(a, .inr (1, [.int 0, .int 0, .int 0, .ref q1, .null, .null, .null, .null])), aI E q1 4 (fun _ => 0), aI E q2 6 (fun _ => 0)]) rfl ?_
  refine g_putF (pc := 31) (ws' := [(a, .inr (1, [.int 0, .int 0, .int 0, .ref q1, .ref q2, .null, .null, .null])), aI E q1 4 (fun _ => 0), aI E q2 6 (fun _ => 0)]) 0 C hi fpF_X1_25 rfl rfl rfl (Nat.le_of_ble_eq_true rfl) rfl dX1_init_31 ?_
  refine g_aload_n (pc := 34) C dX1_init_34 0 rfl ?_
  refine g_bipush (pc := 35) (v := 6) C dX1_init_35 (by decide) ?_
  refine g_newI (pc := 37) 6 C ka_I (by decide) (by decide) (by decide) (by decide) (by decide) dX1_init_37 (fun q3 => ?_)
  refine g_eqw (ws' := [(a, .inr (1, [.int 0, .int 0, .int 0, .ref q1, .ref q2, .null, .null, .null])), aI E q1 4 (fun _ => 0), aI E q2 6 (fun _ => 0), aI E q3 6 (fun _ => 0)]) rfl ?_
  refine g_putF (pc := 39) (ws' := [(a, .inr (1, [.int 0, .int 0, .int 0, .ref q1, .ref q2, .ref q3, .null, .null])), aI E q1 4 (fun _ => 0), aI E q2 6 (fun _ => 0), aI E q3 6 (fun _ => 0)]) 0 C hi fpF_X1_28 rfl rfl rfl (Nat.le_of_ble_eq_true rfl) rfl dX1_init_39 ?_
  refine g_aload_n (pc := 42) C dX1_init_42 0 rfl ?_
  refine g_bipush (pc := 43) (v := 6) C dX1_init_43 (by decide) ?_
  refine g_newI (pc := 45) 6 C ka_I (by decide) (by decide) (by decide) (by decide) (by decide) dX1_init_45 (fun q4 => ?_)
  refine g_eqw (ws' := [(a, .inr (1, [.int 0, .int 0, .int 0, .ref q1, .ref q2, .ref q3, .null, .null])), aI E q1 4 (fun _ => 0), aI E q2 6 (fun _ => 0), aI E q3 6 (fun _ => 0), aI E q4 6 (fun _ => 0)]) rfl ?_
  refine g_putF (pc := 47) (ws' := [(a, .inr (1, [.int 0, .int 0, .int 0, .ref q1, .ref q2, .ref q3, .ref q4, .null])), aI E q1 4 (fun _ => 0), aI E q2 6 (fun _ => 0), aI E q3 6 (fun _ => 0), aI E q4 6 (fun _ => 0)]) 0 C hi fpF_X1_31 rfl rfl rfl (Nat.le_of_ble_eq_true rfl) rfl dX1_init_47 ?_
  refine g_aload_n (pc := 50) C dX1_init_50 0 rfl ?_
  refine g_bipush (pc := 51) (v := 24) C dX1_init_51 (by decide) ?_
  refine g_newI (pc := 53) 24 C ka_I (by decide) (by decide) (by decide) (by decide) (by decide) dX1_init_53 (fun q5 => ?_)
  refine g_eqw (ws' := [(a, .inr (1, [.int 0, .int 0, .int 0, .ref q1, .ref q2, .ref q3, .ref q4, .null])), aI E q1 4 (fun _ => 0), aI E q2 6 (fun _ => 0), aI E q3 6 (fun _ => 0), aI E q4 6 (fun _ => 0), aI E q5 24 (fun _ => 0)]) rfl ?_
  refine g_putF (pc := 55) (ws' := [oX1 a 0 0 0 q1 q2 q3 q4 q5, aI E q1 4 (fun _ => 0), aI E q2 6 (fun _ => 0), aI E q3 6 (fun _ => 0), aI E q4 6 (fun _ => 0), aI E q5 24 (fun _ => 0)]) 0 C hi fpF_X1_34 rfl rfl rfl (Nat.le_of_ble_eq_true rfl) rfl dX1_init_55 ?_
  refine g_wid (k := 5) (m := 46) (by decide) (by decide) ?_
  exact g_vret (pc := 58) C (K _ ⟨q1, q2, q3, q4, q5, rfl⟩) dX1_init_58
theorem dX9_init_0 : decode cX9_init 0 = .ok (.aload_n 0, 1) := by decide +kernel
theorem dX9_init_1 : decode cX9_init 1 = .ok (.invokespecial 3, 3) := by decide +kernel
theorem dX9_init_4 : decode cX9_init 4 = .ok (.aload_n 0, 1) := by decide +kernel
theorem dX9_init_5 : decode cX9_init 5 = .ok (.new 9, 3) := by decide +kernel
theorem dX9_init_8 : decode cX9_init 8 = .ok (.dup, 1) := by decide +kernel
theorem dX9_init_9 : decode cX9_init 9 = .ok (.invokespecial 11, 3) := by decide +kernel
theorem dX9_init_12 : decode cX9_init 12 = .ok (.putfield 12, 3) := by decide +kernel
theorem dX9_init_15 : decode cX9_init 15 = .ok (.aload_n 0, 1) := by decide +kernel
theorem dX9_init_16 : decode cX9_init 16 = .ok (.iconst 0, 1) := by decide +kernel
theorem dX9_init_17 : decode cX9_init 17 = .ok (.putfield 18, 3) := by decide +kernel
theorem dX9_init_20 : decode cX9_init 20 = .ok (.aload_n 0, 1) := by decide +kernel
theorem dX9_init_21 : decode cX9_init 21 = .ok (.iconst 0, 1) := by decide +kernel
theorem dX9_init_22 : decode cX9_init 22 = .ok (.putfield 22, 3) := by decide +kernel
theorem dX9_init_25 : decode cX9_init 25 = .ok (.aload_n 0, 1) := by decide +kernel
theorem dX9_init_26 : decode cX9_init 26 = .ok (.iconst 0, 1) := by decide +kernel
theorem dX9_init_27 : decode cX9_init 27 = .ok (.putfield 25, 3) := by decide +kernel
theorem dX9_init_30 : decode cX9_init 30 = .ok (.aload_n 0, 1) := by decide +kernel
theorem dX9_init_31 : decode cX9_init 31 = .ok (.iconst 0, 1) := by decide +kernel
theorem dX9_init_32 : decode cX9_init 32 = .ok (.putfield 28, 3) := by decide +kernel
theorem dX9_init_35 : decode cX9_init 35 = .ok (.aload_n 0, 1) := by decide +kernel
theorem dX9_init_36 : decode cX9_init 36 = .ok (.iconst 3, 1) := by decide +kernel
theorem dX9_init_37 : decode cX9_init 37 = .ok (.putfield 31, 3) := by decide +kernel
theorem dX9_init_40 : decode cX9_init 40 = .ok (.aload_n 0, 1) := by decide +kernel
theorem dX9_init_41 : decode cX9_init 41 = .ok (.iconst 0, 1) := by decide +kernel
theorem dX9_init_42 : decode cX9_init 42 = .ok (.putfield 34, 3) := by decide +kernel
theorem dX9_init_45 : decode cX9_init 45 = .ok (.aload_n 0, 1) := by decide +kernel
theorem dX9_init_46 : decode cX9_init 46 = .ok (.aload_n 1, 1) := by decide +kernel
theorem dX9_init_47 : decode cX9_init 47 = .ok (.putfield 37, 3) := by decide +kernel
theorem dX9_init_50 : decode cX9_init 50 = .ok (.return_, 1) := by decide +kernel
abbrev rm_X9_init : Room := { frames := 2, cells := 6, slots := 54, locals := 32 }
set_option maxHeartbeats 4000000 in
set_option maxRecDepth 100000 in
theorem c_X9_init (E : Ev) (a p0 : Nat) : Mc E yX9_init cX9_init 2 rm_X9_init [.ref a, .ref p0] [(a, .inr (9, [.null, .null, .int 0, .int 0, .int 0, .int 0, .int 0, .int 0]))] (fun w => ∃ q1 q2 q3 q4 q5 q6 : Nat, w = [oX9 a p0 q1 0 0 0 0 3 0, oX1 q1 0 0 0 q2 q3 q4 q5 q6, aI E q2 4 (fun _ => 0), aI E q3 6 (fun _ => 0), aI E q4 6 (fun _ => 0), aI E q5 6 (fun _ => 0), aI E q6 24 (fun _ => 0)]) := by
  refine Mc.intro (lv := [(0, .ref a), (1, .ref p0)]) (by decide +kernel) rfl (Nat.le_of_ble_eq_true rfl) rfl (fun X C hi hN K => ?_)
  have C : CX E X cX9_init RX9 2 rm_X9_init := C
  refine g_aload_n (pc := 0) C dX9_init_0 0 rfl ?_
  refine g_objInit (pc := 1) C oi_X9_3 (by decide) (Nat.le_of_ble_eq_true rfl) dX9_init_1 ?_
  refine g_aload_n (pc := 4) C dX9_init_4 0 rfl ?_
  refine g_new (pc := 5) C nw_X9_9 (by decide) (by decide) dX9_init_5 (fun q1 => ?_)
  refine g_eqw (ws' := [(a, .inr (9, [.null, .null, .int 0, .int 0, .int 0, .int 0, .int 0, .int 0])), (q1, .inr (1, [.int 0, .int 0, .int 0, .null, .null, .null, .null, .null]))]) rfl ?_
  refine g_dup (pc := 8) C dX9_init_8 rfl ?_
  refine g_callN (pc := 9) (wr := [(a, .inr (9, [.null, .null, .int 0, .int 0, .int 0, .int 0, .int 0, .int 0]))]) (st := [.ref q1, .ref a]) C hN mn_X9_11 (c_X1_init E q1) [1] [0] rfl rfl rfl (by decide +kernel) (by decide) ⟨by decide, by decide⟩ ⟨by decide, by decide⟩ rfl rfl (Nat.le_of_ble_eq_true rfl) dX9_init_9 (fun w' hw' => ?_)
  obtain ⟨q2, q3, q4, q5, q6, rfl⟩ := hw'
  refine g_eqw (ws' := [(a, .inr (9, [.null, .null, .int 0, .int 0, .int 0, .int 0, .int 0, .int 0])), oX1 q1 0 0 0 q2 q3 q4 q5 q6, aI E q2 4 (fun _ => 0), aI E q3 6 (fun _ => 0), aI E q4 6 (fun _ => 0), aI E q5 6 (fun _ => 0), aI E q6 24 (fun _ => 0)]) rfl ?_
  refine g_putF (pc := 12) (ws' := [(a, .inr (9, [.null, .ref q1, .int 0, .int 0, .int 0, .int 0, .int 0, .int 0])), oX1 q1 0 0 0 q2 q3 q4 q5 q6, aI E q2 4 (fun _ => 0), aI E q3 6 (fun _ => 0), aI E q4 6 (fun _ => 0), aI E q5 6 (fun _ => 0), aI E q6 24 (fun _ => 0)]) 0 C hi fpF_X9_12 rfl rfl rfl (Nat.le_of_ble_eq_true rfl) rfl dX9_init_12 ?_
  refine g_aload_n (pc := 15) C dX9_init_15 0 rfl ?_
  refine g_iconst (pc := 16) (v := 0) C dX9_init_16 (by decide) ?_
  refine g_put (pc := 17) (ws' := [(a, .inr (9, [.null, .ref q1, .int 0, .int 0, .int 0, .int 0, .int 0, .int 0])), oX1 q1 0 0 0 q2 q3 q4 q5 q6, aI E q2 4 (fun _ => 0), aI E q3 6 (fun _ => 0), aI E q4 6 (fun _ => 0), aI E q5 6 (fun _ => 0), aI E q6 24 (fun _ => 0)]) 0 C fp_X9_18 rfl rfl rfl (Nat.le_of_ble_eq_true rfl) rfl dX9_init_17 ?_
  refine g_aload_n (pc := 20) C dX9_init_20 0 rfl ?_
  refine g_iconst (pc := 21) (v := 0) C dX9_init_21 (by decide) ?_
  refine g_put (pc := 22) (ws' := [(a, .inr (9, [.null, .ref q1, .int 0, .int 0, .int 0, .int 0, .int 0, .int 0])), oX1 q1 0 0 0 q2 q3 q4 q5 q6, aI E q2 4 (fun _ => 0), aI E q3 6 (fun _ => 0), aI E q4 6 (fun _ => 0), aI E q5 6 (fun _ => 0), aI E q6 24 (fun _ => 0)]) 0 C fp_X9_22 rfl rfl rfl (Nat.le_of_ble_eq_true rfl) rfl dX9_init_22 ?_
  refine g_aload_n (pc := 25) C dX9_init_25 0 rfl ?_
  refine g_iconst (pc := 26) (v := 0) C dX9_init_26 (by decide) ?_
  refine g_put (pc := 27) (ws' := [(a, .inr (9, [.null, .ref q1, .int 0, .int 0, .int 0, .int 0, .int 0, .int 0])), oX1 q1 0 0 0 q2 q3 q4 q5 q6, aI E q2 4 (fun _ => 0), aI E q3 6 (fun _ => 0), aI E q4 6 (fun _ => 0), aI E q5 6 (fun _ => 0), aI E q6 24 (fun _ => 0)]) 0 C fp_X9_25 rfl rfl rfl (Nat.le_of_ble_eq_true rfl) rfl dX9_init_27 ?_
  refine g_aload_n (pc := 30) C dX9_init_30 0 rfl ?_
  refine g_iconst (pc := 31) (v := 0) C dX9_init_31 (by decide) ?_
  refine g_put (pc := 32) (ws' := [(a, .inr (9, [.null, .ref q1, .int 0, .int 0, .int 0, .int 0, .int 0, .int 0])), oX1 q1 0 0 0 q2 q3 q4 q5 q6, aI E q2 4 (fun _ => 0), aI E q3 6 (fun _ => 0), aI E q4 6 (fun _ => 0), aI E q5 6 (fun _ => 0), aI E q6 24 (fun _ => 0)]) 0 C fp_X9_28 rfl rfl rfl (Nat.le_of_ble_eq_true rfl) rfl dX9_init_32 ?_
  refine g_aload_n (pc := 35) C dX9_init_35 0 rfl ?_
  refine g_iconst (pc := 36) (v := 3) C dX9_init_36 (by decide) ?_
  refine g_put (pc := 37) (ws' := [(a, .inr (9, [.null, .ref q1, .int 0, .int 0, .int 0, .int 0, .int 3, .int 0])), oX1 q1 0 0 0 q2 q3 q4 q5 q6, aI E q2 4 (fun _ => 0), aI E q3 6 (fun _ => 0), aI E q4 6 (fun _ => 0), aI E q5 6 (fun _ => 0), aI E q6 24 (fun _ => 0)]) 0 C fp_X9_31 rfl rfl rfl (Nat.le_of_ble_eq_true rfl) rfl dX9_init_37 ?_
  refine g_aload_n (pc := 40) C dX9_init_40 0 rfl ?_
  refine g_iconst (pc := 41) (v := 0) C dX9_init_41 (by decide) ?_
  refine g_put (pc := 42) (ws' := [(a, .inr (9, [.null, .ref q1, .int 0, .int 0, .int 0, .int 0, .int 3, .int 0])), oX1 q1 0 0 0 q2 q3 q4 q5 q6, aI E q2 4 (fun _ => 0), aI E q3 6 (fun _ => 0), aI E q4 6 (fun _ => 0), aI E q5 6 (fun _ => 0), aI E q6 24 (fun _ => 0)]) 0 C fp_X9_34 rfl rfl rfl (Nat.le_of_ble_eq_true rfl) rfl dX9_init_42 ?_
  refine g_aload_n (pc := 45) C dX9_init_45 0 rfl ?_
  refine g_aload_n (pc := 46) C dX9_init_46 1 rfl ?_
  refine g_putF (pc := 47) (ws' := [oX9 a p0 q1 0 0 0 0 3 0, oX1 q1 0 0 0 q2 q3 q4 q5 q6, aI E q2 4 (fun _ => 0), aI E q3 6 (fun _ => 0), aI E q4 6 (fun _ => 0), aI E q5 6 (fun _ => 0), aI E q6 24 (fun _ => 0)]) 0 C hi fpF_X9_37 rfl rfl rfl (Nat.le_of_ble_eq_true rfl) rfl dX9_init_47 ?_
  refine g_wid (k := 6) (m := 54) (by decide) (by decide) ?_
  exact g_vret (pc := 50) C (K _ ⟨q1, q2, q3, q4, q5, q6, rfl⟩) dX9_init_50
theorem dX7_init_0 : decode cX7_init 0 = .ok (.aload_n 0, 1) := by decide +kernel
theorem dX7_init_1 : decode cX7_init 1 = .ok (.invokespecial 3, 3) := by decide +kernel
theorem dX7_init_4 : decode cX7_init 4 = .ok (.aload_n 0, 1) := by decide +kernel
theorem dX7_init_5 : decode cX7_init 5 = .ok (.iconst 0, 1) := by decide +kernel
theorem dX7_init_6 : decode cX7_init 6 = .ok (.putfield 9, 3) := by decide +kernel
theorem dX7_init_9 : decode cX7_init 9 = .ok (.aload_n 0, 1) := by decide +kernel
theorem dX7_init_10 : decode cX7_init 10 = .ok (.bipush 6, 2) := by decide +kernel
theorem dX7_init_12 : decode cX7_init 12 = .ok (.newarray .int, 2) := by decide +kernel
theorem dX7_init_14 : decode cX7_init 14 = .ok (.putfield 15, 3) := by decide +kernel
theorem dX7_init_17 : decode cX7_init 17 = .ok (.aload_n 0, 1) := by decide +kernel
theorem dX7_init_18 : decode cX7_init 18 = .ok (.bipush 6, 2) := by decide +kernel
theorem dX7_init_20 : decode cX7_init 20 = .ok (.newarray .int, 2) := by decide +kernel
theorem dX7_init_22 : decode cX7_init 22 = .ok (.putfield 19, 3) := by decide +kernel
theorem dX7_init_25 : decode cX7_init 25 = .ok (.aload_n 0, 1) := by decide +kernel
theorem dX7_init_26 : decode cX7_init 26 = .ok (.bipush 6, 2) := by decide +kernel
theorem dX7_init_28 : decode cX7_init 28 = .ok (.newarray .int, 2) := by decide +kernel
theorem dX7_init_30 : decode cX7_init 30 = .ok (.putfield 22, 3) := by decide +kernel
theorem dX7_init_33 : decode cX7_init 33 = .ok (.return_, 1) := by decide +kernel
abbrev rm_X7_init : Room := { frames := 1, cells := 3, slots := 18, locals := 12 }
set_option maxHeartbeats 4000000 in
set_option maxRecDepth 100000 in
theorem c_X7_init (E : Ev) (a : Nat) : Mc E yX7_init cX7_init 1 rm_X7_init [.ref a] [(a, .inr (7, [.int 0, .null, .null, .null]))] (fun w => ∃ q1 q2 q3 : Nat, w = [oX7 a 0 q1 q2 q3, aI E q1 6 (fun _ => 0), aI E q2 6 (fun _ => 0), aI E q3 6 (fun _ => 0)]) := by
  refine Mc.intro (lv := [(0, .ref a)]) (by decide +kernel) rfl (Nat.le_of_ble_eq_true rfl) rfl (fun X C hi hN K => ?_)
  have C : CX E X cX7_init RX7 1 rm_X7_init := C
  refine g_aload_n (pc := 0) C dX7_init_0 0 rfl ?_
  refine g_objInit (pc := 1) C oi_X7_3 (by decide) (Nat.le_of_ble_eq_true rfl) dX7_init_1 ?_
  refine g_aload_n (pc := 4) C dX7_init_4 0 rfl ?_
  refine g_iconst (pc := 5) (v := 0) C dX7_init_5 (by decide) ?_
  refine g_put (pc := 6) (ws' := [(a, .inr (7, [.int 0, .null, .null, .null]))]) 0 C fp_X7_9 rfl rfl rfl (Nat.le_of_ble_eq_true rfl) rfl dX7_init_6 ?_
  refine g_aload_n (pc := 9) C dX7_init_9 0 rfl ?_
  refine g_bipush (pc := 10) (v := 6) C dX7_init_10 (by decide) ?_
  refine g_newI (pc := 12) 6 C ka_I (by decide) (by decide) (by decide) (by decide) (by decide) dX7_init_12 (fun q1 => ?_)
  refine g_eqw (ws' := [(a, .inr (7, [.int 0, .null, .null, .null])), aI E q1 6 (fun _ => 0)]) rfl ?_
  refine g_putF (pc := 14) (ws' := [(a, .inr (7, [.int 0, .ref q1, .null, .null])), aI E q1 6 (fun _ => 0)]) 0 C hi fpF_X7_15 rfl rfl rfl (Nat.le_of_ble_eq_true rfl) rfl dX7_init_14 ?_
  refine g_aload_n (pc := 17) C dX7_init_17 0 rfl ?_
  refine g_bipush (pc := 18) (v := 6) C dX7_init_18 (by decide) ?_
  refine g_newI (pc := 20) 6 C ka_I (by decide) (by decide) (by decide) (by decide) (by decide) dX7_init_20 (fun q2 => ?_)
  refine g_eqw (ws' := [(a, .inr (7, [.int 0, .ref q1, .null, .null])), aI E q1 6 (fun _ => 0), aI E q2 6 (fun _ => 0)]) rfl ?_
  refine g_putF (pc := 22) (ws' := [(a, .inr (7, [.int 0, .ref q1, .ref q2, .null])), aI E q1 6 (fun _ => 0), aI E q2 6 (fun _ => 0)]) 0 C hi fpF_X7_19 rfl rfl rfl (Nat.le_of_ble_eq_true rfl) rfl dX7_init_22 ?_
  refine g_aload_n (pc := 25) C dX7_init_25 0 rfl ?_
  refine g_bipush (pc := 26) (v := 6) C dX7_init_26 (by decide) ?_
  refine g_newI (pc := 28) 6 C ka_I (by decide) (by decide) (by decide) (by decide) (by decide) dX7_init_28 (fun q3 => ?_)
  refine g_eqw (ws' := [(a, .inr (7, [.int 0, .ref q1, .ref q2, .null])), aI E q1 6 (fun _ => 0), aI E q2 6 (fun _ => 0), aI E q3 6 (fun _ => 0)]) rfl ?_
  refine g_putF (pc := 30) (ws' := [oX7 a 0 q1 q2 q3, aI E q1 6 (fun _ => 0), aI E q2 6 (fun _ => 0), aI E q3 6 (fun _ => 0)]) 0 C hi fpF_X7_22 rfl rfl rfl (Nat.le_of_ble_eq_true rfl) rfl dX7_init_30 ?_
  refine g_wid (k := 3) (m := 18) (by decide) (by decide) ?_
  exact g_vret (pc := 33) C (K _ ⟨q1, q2, q3, rfl⟩) dX7_init_33
theorem dX2_init_0 : decode cX2_init 0 = .ok (.aload_n 0, 1) := by decide +kernel
theorem dX2_init_1 : decode cX2_init 1 = .ok (.invokespecial 3, 3) := by decide +kernel
theorem dX2_init_4 : decode cX2_init 4 = .ok (.aload_n 0, 1) := by decide +kernel
theorem dX2_init_5 : decode cX2_init 5 = .ok (.iconst 4, 1) := by decide +kernel
theorem dX2_init_6 : decode cX2_init 6 = .ok (.newarray .int, 2) := by decide +kernel
theorem dX2_init_8 : decode cX2_init 8 = .ok (.putfield 9, 3) := by decide +kernel
theorem dX2_init_11 : decode cX2_init 11 = .ok (.aload_n 0, 1) := by decide +kernel
theorem dX2_init_12 : decode cX2_init 12 = .ok (.iconst 4, 1) := by decide +kernel
theorem dX2_init_13 : decode cX2_init 13 = .ok (.newarray .int, 2) := by decide +kernel
theorem dX2_init_15 : decode cX2_init 15 = .ok (.putfield 15, 3) := by decide +kernel
theorem dX2_init_18 : decode cX2_init 18 = .ok (.aload_n 0, 1) := by decide +kernel
theorem dX2_init_19 : decode cX2_init 19 = .ok (.iconst 0, 1) := by decide +kernel
theorem dX2_init_20 : decode cX2_init 20 = .ok (.putfield 18, 3) := by decide +kernel
theorem dX2_init_23 : decode cX2_init 23 = .ok (.aload_n 0, 1) := by decide +kernel
theorem dX2_init_24 : decode cX2_init 24 = .ok (.iconst 0, 1) := by decide +kernel
theorem dX2_init_25 : decode cX2_init 25 = .ok (.putfield 22, 3) := by decide +kernel
theorem dX2_init_28 : decode cX2_init 28 = .ok (.return_, 1) := by decide +kernel
abbrev rm_X2_init : Room := { frames := 1, cells := 2, slots := 8, locals := 12 }
set_option maxHeartbeats 4000000 in
set_option maxRecDepth 100000 in
theorem c_X2_init (E : Ev) (a : Nat) : Mc E yX2_init cX2_init 1 rm_X2_init [.ref a] [(a, .inr (2, [.null, .null, .int 0, .int 0]))] (fun w => ∃ q1 q2 : Nat, w = [oX2 a q1 q2 0 0, aI E q1 4 (fun _ => 0), aI E q2 4 (fun _ => 0)]) := by
  refine Mc.intro (lv := [(0, .ref a)]) (by decide +kernel) rfl (Nat.le_of_ble_eq_true rfl) rfl (fun X C hi hN K => ?_)
  have C : CX E X cX2_init RX2 1 rm_X2_init := C
  refine g_aload_n (pc := 0) C dX2_init_0 0 rfl ?_
  refine g_objInit (pc := 1) C oi_X2_3 (by decide) (Nat.le_of_ble_eq_true rfl) dX2_init_1 ?_
  refine g_aload_n (pc := 4) C dX2_init_4 0 rfl ?_
  refine g_iconst (pc := 5) (v := 4) C dX2_init_5 (by decide) ?_
  refine g_newI (pc := 6) 4 C ka_I (by decide) (by decide) (by decide) (by decide) (by decide) dX2_init_6 (fun q1 => ?_)
  refine g_eqw (ws' := [(a, .inr (2, [.null, .null, .int 0, .int 0])), aI E q1 4 (fun _ => 0)]) rfl ?_
  refine g_putF (pc := 8) (ws' := [(a, .inr (2, [.ref q1, .null, .int 0, .int 0])), aI E q1 4 (fun _ => 0)]) 0 C hi fpF_X2_9 rfl rfl rfl (Nat.le_of_ble_eq_true rfl) rfl dX2_init_8 ?_
  refine g_aload_n (pc := 11) C dX2_init_11 0 rfl ?_
  refine g_iconst (pc := 12) (v := 4) C dX2_init_12 (by decide) ?_
  refine g_newI (pc := 13) 4 C ka_I (by decide) (by decide) (by decide) (by decide) (by decide) dX2_init_13 (fun q2 => ?_)
  refine g_eqw (ws' := [(a, .inr (2, [.ref q1, .null, .int 0, .int 0])), aI E q1 4 (fun _ => 0), aI E q2 4 (fun _ => 0)]) rfl ?_
  refine g_putF (pc := 15) (ws' := [oX2 a q1 q2 0 0, aI E q1 4 (fun _ => 0), aI E q2 4 (fun _ => 0)]) 0 C hi fpF_X2_15 rfl rfl rfl (Nat.le_of_ble_eq_true rfl) rfl dX2_init_15 ?_
  refine g_aload_n (pc := 18) C dX2_init_18 0 rfl ?_
  refine g_iconst (pc := 19) (v := 0) C dX2_init_19 (by decide) ?_
  refine g_put (pc := 20) (ws' := [oX2 a q1 q2 0 0, aI E q1 4 (fun _ => 0), aI E q2 4 (fun _ => 0)]) 0 C fp_X2_18 rfl rfl rfl (Nat.le_of_ble_eq_true rfl) rfl dX2_init_20 ?_
  refine g_aload_n (pc := 23) C dX2_init_23 0 rfl ?_
  refine g_iconst (pc := 24) (v := 0) C dX2_init_24 (by decide) ?_
  refine g_put (pc := 25) (ws' := [oX2 a q1 q2 0 0, aI E q1 4 (fun _ => 0), aI E q2 4 (fun _ => 0)]) 0 C fp_X2_22 rfl rfl rfl (Nat.le_of_ble_eq_true rfl) rfl dX2_init_25 ?_
  refine g_wid (k := 2) (m := 8) (by decide) (by decide) ?_
  exact g_vret (pc := 28) C (K _ ⟨q1, q2, rfl⟩) dX2_init_28
theorem dX10_init_0 : decode cX10_init 0 = .ok (.aload_n 0, 1) := by decide +kernel
theorem dX10_init_1 : decode cX10_init 1 = .ok (.invokespecial 3, 3) := by decide +kernel
theorem dX10_init_4 : decode cX10_init 4 = .ok (.aload_n 0, 1) := by decide +kernel
theorem dX10_init_5 : decode cX10_init 5 = .ok (.new 9, 3) := by decide +kernel
theorem dX10_init_8 : decode cX10_init 8 = .ok (.dup, 1) := by decide +kernel
theorem dX10_init_9 : decode cX10_init 9 = .ok (.invokespecial 11, 3) := by decide +kernel
theorem dX10_init_12 : decode cX10_init 12 = .ok (.putfield 12, 3) := by decide +kernel
theorem dX10_init_15 : decode cX10_init 15 = .ok (.aload_n 0, 1) := by decide +kernel
theorem dX10_init_16 : decode cX10_init 16 = .ok (.new 18, 3) := by decide +kernel
theorem dX10_init_19 : decode cX10_init 19 = .ok (.dup, 1) := by decide +kernel
theorem dX10_init_20 : decode cX10_init 20 = .ok (.invokespecial 20, 3) := by decide +kernel
theorem dX10_init_23 : decode cX10_init 23 = .ok (.putfield 21, 3) := by decide +kernel
theorem dX10_init_26 : decode cX10_init 26 = .ok (.aload_n 0, 1) := by decide +kernel
theorem dX10_init_27 : decode cX10_init 27 = .ok (.iconst 0, 1) := by decide +kernel
theorem dX10_init_28 : decode cX10_init 28 = .ok (.putfield 25, 3) := by decide +kernel
theorem dX10_init_31 : decode cX10_init 31 = .ok (.aload_n 0, 1) := by decide +kernel
theorem dX10_init_32 : decode cX10_init 32 = .ok (.iconst 0, 1) := by decide +kernel
theorem dX10_init_33 : decode cX10_init 33 = .ok (.putfield 29, 3) := by decide +kernel
theorem dX10_init_36 : decode cX10_init 36 = .ok (.aload_n 0, 1) := by decide +kernel
theorem dX10_init_37 : decode cX10_init 37 = .ok (.bipush (-4), 2) := by decide +kernel
theorem dX10_init_39 : decode cX10_init 39 = .ok (.putfield 32, 3) := by decide +kernel
theorem dX10_init_42 : decode cX10_init 42 = .ok (.aload_n 0, 1) := by decide +kernel
theorem dX10_init_43 : decode cX10_init 43 = .ok (.aload_n 1, 1) := by decide +kernel
theorem dX10_init_44 : decode cX10_init 44 = .ok (.putfield 35, 3) := by decide +kernel
theorem dX10_init_47 : decode cX10_init 47 = .ok (.return_, 1) := by decide +kernel
abbrev rm_X10_init : Room := { frames := 2, cells := 9, slots := 66, locals := 32 }
set_option maxHeartbeats 4000000 in
set_option maxRecDepth 100000 in
theorem c_X10_init (E : Ev) (a p0 : Nat) : Mc E yX10_init cX10_init 2 rm_X10_init [.ref a, .ref p0] [(a, .inr (10, [.null, .null, .null, .int 0, .int 0, .int 0]))] (fun w => ∃ q1 q2 q3 q4 q5 q6 q7 q8 q9 : Nat, w = [oX10 a p0 q1 q7 0 0 ((-4)), oX1 q1 0 0 0 q2 q3 q4 q5 q6, aI E q2 4 (fun _ => 0), aI E q3 6 (fun _ => 0), aI E q4 6 (fun _ => 0), aI E q5 6 (fun _ => 0), aI E q6 24 (fun _ => 0), oX2 q7 q8 q9 0 0, aI E q8 4 (fun _ => 0), aI E q9 4 (fun _ => 0)]) := by
  refine Mc.intro (lv := [(0, .ref a), (1, .ref p0)]) (by decide +kernel) rfl (Nat.le_of_ble_eq_true rfl) rfl (fun X C hi hN K => ?_)
  have C : CX E X cX10_init RX10 2 rm_X10_init := C
  refine g_aload_n (pc := 0) C dX10_init_0 0 rfl ?_
  refine g_objInit (pc := 1) C oi_X10_3 (by decide) (Nat.le_of_ble_eq_true rfl) dX10_init_1 ?_
  refine g_aload_n (pc := 4) C dX10_init_4 0 rfl ?_
  refine g_new (pc := 5) C nw_X10_9 (by decide) (by decide) dX10_init_5 (fun q1 => ?_)
  refine g_eqw (ws' := [(a, .inr (10, [.null, .null, .null, .int 0, .int 0, .int 0])), (q1, .inr (1, [.int 0, .int 0, .int 0, .null, .null, .null, .null, .null]))]) rfl ?_
  refine g_dup (pc := 8) C dX10_init_8 rfl ?_
  refine g_callN (pc := 9) (wr := [(a, .inr (10, [.null, .null, .null, .int 0, .int 0, .int 0]))]) (st := [.ref q1, .ref a]) C hN mn_X10_11 (c_X1_init E q1) [1] [0] rfl rfl rfl (by decide +kernel) (by decide) ⟨by decide, by decide⟩ ⟨by decide, by decide⟩ rfl rfl (Nat.le_of_ble_eq_true rfl) dX10_init_9 (fun w' hw' => ?_)
  obtain ⟨q2, q3, q4, q5, q6, rfl⟩ := hw'
  refine g_eqw (ws' := [(a, .inr (10, [.null, .null, .null, .int 0, .int 0, .int 0])), oX1 q1 0 0 0 q2 q3 q4 q5 q6, aI E q2 4 (fun _ => 0), aI E q3 6 (fun _ => 0), aI E q4 6 (fun _ => 0), aI E q5 6 (fun _ => 0), aI E q6 24 (fun _ => 0)]) rfl ?_
  refine g_putF (pc := 12) (ws' := [(a, .inr (10, [.null, .ref q1, .null, .int 0, .int 0, .int 0])), oX1 q1 0 0 0 q2 q3 q4 q5 q6, aI E q2 4 (fun _ => 0), aI E q3 6 (fun _ => 0), aI E q4 6 (fun _ => 0), aI E q5 6 (fun _ => 0), aI E q6 24 (fun _ => 0)]) 0 C hi fpF_X10_12 rfl rfl rfl (Nat.le_of_ble_eq_true rfl) rfl dX10_init_12 ?_
  refine g_aload_n (pc := 15) C dX10_init_15 0 rfl ?_
  refine g_new (pc := 16) C nw_X10_18 (by decide) (by decide) dX10_init_16 (fun q7 => ?_)
  refine g_eqw (ws' := [(a, .inr (10, [.null, .ref q1, .null, .int 0, .int 0, .int 0])), oX1 q1 0 0 0 q2 q3 q4 q5 q6, aI E q2 4 (fun _ => 0), aI E q3 6 (fun _ => 0), aI E q4 6 (fun _ => 0), aI E q5 6 (fun _ => 0), aI E q6 24 (fun _ => 0), (q7, .inr (2, [.null, .null, .int 0, .int 0]))]) rfl ?_
  refine g_dup (pc := 19) C dX10_init_19 rfl ?_
  refine g_callN (pc := 20) (wr := [(a, .inr (10, [.null, .ref q1, .null, .int 0, .int 0, .int 0])), oX1 q1 0 0 0 q2 q3 q4 q5 q6, aI E q2 4 (fun _ => 0), aI E q3 6 (fun _ => 0), aI E q4 6 (fun _ => 0), aI E q5 6 (fun _ => 0), aI E q6 24 (fun _ => 0)]) (st := [.ref q7, .ref a]) C hN mn_X10_20 (c_X2_init E q7) [7] [0, 1, 2, 3, 4, 5, 6] rfl rfl rfl (by decide +kernel) (by decide) ⟨by decide, by decide⟩ ⟨by decide, by decide⟩ rfl rfl (Nat.le_of_ble_eq_true rfl) dX10_init_20 (fun w' hw' => ?_)
  obtain ⟨q8, q9, rfl⟩ := hw'
  refine g_eqw (ws' := [(a, .inr (10, [.null, .ref q1, .null, .int 0, .int 0, .int 0])), oX1 q1 0 0 0 q2 q3 q4 q5 q6, aI E q2 4 (fun _ => 0), aI E q3 6 (fun _ => 0), aI E q4 6 (fun _ => 0), aI E q5 6 (fun _ => 0), aI E q6 24 (fun _ => 0), oX2 q7 q8 q9 0 0, aI E q8 4 (fun _ => 0), aI E q9 4 (fun _ => 0)]) rfl ?_
  refine g_putF (pc := 23) (ws' := [(a, .inr (10, [.null, .ref q1, .ref q7, .int 0, .int 0, .int 0])), oX1 q1 0 0 0 q2 q3 q4 q5 q6, aI E q2 4 (fun _ => 0), aI E q3 6 (fun _ => 0), aI E q4 6 (fun _ => 0), aI E q5 6 (fun _ => 0), aI E q6 24 (fun _ => 0), oX2 q7 q8 q9 0 0, aI E q8 4 (fun _ => 0), aI E q9 4 (fun _ => 0)]) 0 C hi fpF_X10_21 rfl rfl rfl (Nat.le_of_ble_eq_true rfl) rfl dX10_init_23 ?_
  refine g_aload_n (pc := 26) C dX10_init_26 0 rfl ?_
  refine g_iconst (pc := 27) (v := 0) C dX10_init_27 (by decide) ?_
  refine g_put (pc := 28) (ws' := [(a, .inr (10, [.null, .ref q1, .ref q7, .int 0, .int 0, .int 0])), oX1 q1 0 0 0 q2 q3 q4 q5 q6, aI E q2 4 (fun _ => 0), aI E q3 6 (fun _ => 0), aI E q4 6 (fun _ => 0), aI E q5 6 (fun _ => 0), aI E q6 24 (fun _ => 0), oX2 q7 q8 q9 0 0, aI E q8 4 (fun _ => 0), aI E q9 4 (fun _ => 0)]) 0 C fp_X10_25 rfl rfl rfl (Nat.le_of_ble_eq_true rfl) rfl dX10_init_28 ?_
  refine g_aload_n (pc := 31) C dX10_init_31 0 rfl ?_
  refine g_iconst (pc := 32) (v := 0) C dX10_init_32 (by decide) ?_
  refine g_put (pc := 33) (ws' := [(a, .inr (10, [.null, .ref q1, .ref q7, .int 0, .int 0, .int 0])), oX1 q1 0 0 0 q2 q3 q4 q5 q6, aI E q2 4 (fun _ => 0), aI E q3 6 (fun _ => 0), aI E q4 6 (fun _ => 0), aI E q5 6 (fun _ => 0), aI E q6 24 (fun _ => 0), oX2 q7 q8 q9 0 0, aI E q8 4 (fun _ => 0), aI E q9 4 (fun _ => 0)]) 0 C fp_X10_29 rfl rfl rfl (Nat.le_of_ble_eq_true rfl) rfl dX10_init_33 ?_
  refine g_aload_n (pc := 36) C dX10_init_36 0 rfl ?_
  refine g_bipush (pc := 37) (v := (-4)) C dX10_init_37 (by decide) ?_
  refine g_put (pc := 39) (ws' := [(a, .inr (10, [.null, .ref q1, .ref q7, .int 0, .int 0, .int ((-4))])), oX1 q1 0 0 0 q2 q3 q4 q5 q6, aI E q2 4 (fun _ => 0), aI E q3 6 (fun _ => 0), aI E q4 6 (fun _ => 0), aI E q5 6 (fun _ => 0), aI E q6 24 (fun _ => 0), oX2 q7 q8 q9 0 0, aI E q8 4 (fun _ => 0), aI E q9 4 (fun _ => 0)]) 0 C fp_X10_32 rfl rfl rfl (Nat.le_of_ble_eq_true rfl) rfl dX10_init_39 ?_
  refine g_aload_n (pc := 42) C dX10_init_42 0 rfl ?_
  refine g_aload_n (pc := 43) C dX10_init_43 1 rfl ?_
  refine g_putF (pc := 44) (ws' := [oX10 a p0 q1 q7 0 0 ((-4)), oX1 q1 0 0 0 q2 q3 q4 q5 q6, aI E q2 4 (fun _ => 0), aI E q3 6 (fun _ => 0), aI E q4 6 (fun _ => 0), aI E q5 6 (fun _ => 0), aI E q6 24 (fun _ => 0), oX2 q7 q8 q9 0 0, aI E q8 4 (fun _ => 0), aI E q9 4 (fun _ => 0)]) 0 C hi fpF_X10_35 rfl rfl rfl (Nat.le_of_ble_eq_true rfl) rfl dX10_init_44 ?_
  refine g_wid (k := 9) (m := 66) (by decide) (by decide) ?_
  exact g_vret (pc := 47) C (K _ ⟨q1, q2, q3, q4, q5, q6, q7, q8, q9, rfl⟩) dX10_init_47
theorem dX0_init_0 : decode cX0_init 0 = .ok (.aload_n 0, 1) := by decide +kernel
theorem dX0_init_1 : decode cX0_init 1 = .ok (.invokespecial 3, 3) := by decide +kernel
theorem dX0_init_4 : decode cX0_init 4 = .ok (.aload_n 0, 1) := by decide +kernel
theorem dX0_init_5 : decode cX0_init 5 = .ok (.bipush (-4), 2) := by decide +kernel
theorem dX0_init_7 : decode cX0_init 7 = .ok (.putfield 9, 3) := by decide +kernel
theorem dX0_init_10 : decode cX0_init 10 = .ok (.aload_n 0, 1) := by decide +kernel
theorem dX0_init_11 : decode cX0_init 11 = .ok (.iconst 0, 1) := by decide +kernel
theorem dX0_init_12 : decode cX0_init 12 = .ok (.putfield 15, 3) := by decide +kernel
theorem dX0_init_15 : decode cX0_init 15 = .ok (.aload_n 0, 1) := by decide +kernel
theorem dX0_init_16 : decode cX0_init 16 = .ok (.aload_n 1, 1) := by decide +kernel
theorem dX0_init_17 : decode cX0_init 17 = .ok (.putfield 18, 3) := by decide +kernel
theorem dX0_init_20 : decode cX0_init 20 = .ok (.aload_n 0, 1) := by decide +kernel
theorem dX0_init_21 : decode cX0_init 21 = .ok (.aload_n 2, 1) := by decide +kernel
theorem dX0_init_22 : decode cX0_init 22 = .ok (.putfield 22, 3) := by decide +kernel
theorem dX0_init_25 : decode cX0_init 25 = .ok (.return_, 1) := by decide +kernel
abbrev rm_X0_init : Room := { frames := 1, cells := 0, slots := 0, locals := 12 }
set_option maxHeartbeats 4000000 in
set_option maxRecDepth 100000 in
theorem c_X0_init (E : Ev) (a p0 p1 : Nat) : Mc E yX0_init cX0_init 3 rm_X0_init [.ref a, .ref p0, .ref p1] [(a, .inr (0, [.null, .null, .int 0, .int 0]))] (fun w => w = [oX0 a p0 p1 ((-4)) 0]) := by
  refine Mc.intro (lv := [(0, .ref a), (1, .ref p0), (2, .ref p1)]) (by decide +kernel) rfl (Nat.le_of_ble_eq_true rfl) rfl (fun X C hi hN K => ?_)
  have C : CX E X cX0_init RX0 3 rm_X0_init := C
  refine g_aload_n (pc := 0) C dX0_init_0 0 rfl ?_
  refine g_objInit (pc := 1) C oi_X0_3 (by decide) (Nat.le_of_ble_eq_true rfl) dX0_init_1 ?_
  refine g_aload_n (pc := 4) C dX0_init_4 0 rfl ?_
  refine g_bipush (pc := 5) (v := (-4)) C dX0_init_5 (by decide) ?_
  refine g_put (pc := 7) (ws' := [(a, .inr (0, [.null, .null, .int ((-4)), .int 0]))]) 0 C fp_X0_9 rfl rfl rfl (Nat.le_of_ble_eq_true rfl) rfl dX0_init_7 ?_
  refine g_aload_n (pc := 10) C dX0_init_10 0 rfl ?_
  refine g_iconst (pc := 11) (v := 0) C dX0_init_11 (by decide) ?_
  refine g_put (pc := 12) (ws' := [(a, .inr (0, [.null, .null, .int ((-4)), .int 0]))]) 0 C fp_X0_15 rfl rfl rfl (Nat.le_of_ble_eq_true rfl) rfl dX0_init_12 ?_
  refine g_aload_n (pc := 15) C dX0_init_15 0 rfl ?_
  refine g_aload_n (pc := 16) C dX0_init_16 1 rfl ?_
  refine g_putF (pc := 17) (ws' := [(a, .inr (0, [.ref p0, .null, .int ((-4)), .int 0]))]) 0 C hi fpF_X0_18 rfl rfl rfl (Nat.le_of_ble_eq_true rfl) rfl dX0_init_17 ?_
  refine g_aload_n (pc := 20) C dX0_init_20 0 rfl ?_
  refine g_aload_n (pc := 21) C dX0_init_21 2 rfl ?_
  refine g_putF (pc := 22) (ws' := [oX0 a p0 p1 ((-4)) 0]) 0 C hi fpF_X0_22 rfl rfl rfl (Nat.le_of_ble_eq_true rfl) rfl dX0_init_22 ?_
  refine g_wid (k := 0) (m := 0) (by decide) (by decide) ?_
  exact g_vret (pc := 25) C (K _ rfl) dX0_init_25
theorem dX5_init_0 : decode cX5_init 0 = .ok (.aload_n 0, 1) := by decide +kernel
theorem dX5_init_1 : decode cX5_init 1 = .ok (.invokespecial 3, 3) := by decide +kernel
theorem dX5_init_4 : decode cX5_init 4 = .ok (.aload_n 0, 1) := by decide +kernel
theorem dX5_init_5 : decode cX5_init 5 = .ok (.aload_n 1, 1) := by decide +kernel
theorem dX5_init_6 : decode cX5_init 6 = .ok (.putfield 9, 3) := by decide +kernel
theorem dX5_init_9 : decode cX5_init 9 = .ok (.aload_n 0, 1) := by decide +kernel
theorem dX5_init_10 : decode cX5_init 10 = .ok (.aload_n 2, 1) := by decide +kernel
theorem dX5_init_11 : decode cX5_init 11 = .ok (.putfield 15, 3) := by decide +kernel
theorem dX5_init_14 : decode cX5_init 14 = .ok (.return_, 1) := by decide +kernel
abbrev rm_X5_init : Room := { frames := 1, cells := 0, slots := 0, locals := 12 }
set_option maxHeartbeats 4000000 in
set_option maxRecDepth 100000 in
theorem c_X5_init (E : Ev) (a p0 p1 : Nat) : Mc E yX5_init cX5_init 3 rm_X5_init [.ref a, .ref p0, .ref p1] [(a, .inr (5, [.null, .null]))] (fun w => w = [oX5 a p0 p1]) := by
  refine Mc.intro (lv := [(0, .ref a), (1, .ref p0), (2, .ref p1)]) (by decide +kernel) rfl (Nat.le_of_ble_eq_true rfl) rfl (fun X C hi hN K => ?_)
  have C : CX E X cX5_init RX5 3 rm_X5_init := C
  refine g_aload_n (pc := 0) C dX5_init_0 0 rfl ?_
  refine g_objInit (pc := 1) C oi_X5_3 (by decide) (Nat.le_of_ble_eq_true rfl) dX5_init_1 ?_
  refine g_aload_n (pc := 4) C dX5_init_4 0 rfl ?_
  refine g_aload_n (pc := 5) C dX5_init_5 1 rfl ?_
  refine g_putF (pc := 6) (ws' := [(a, .inr (5, [.ref p0, .null]))]) 0 C hi fpF_X5_9 rfl rfl rfl (Nat.le_of_ble_eq_true rfl) rfl dX5_init_6 ?_
  refine g_aload_n (pc := 9) C dX5_init_9 0 rfl ?_
  refine g_aload_n (pc := 10) C dX5_init_10 2 rfl ?_
  refine g_putF (pc := 11) (ws' := [oX5 a p0 p1]) 0 C hi fpF_X5_15 rfl rfl rfl (Nat.le_of_ble_eq_true rfl) rfl dX5_init_11 ?_
  refine g_wid (k := 0) (m := 0) (by decide) (by decide) ?_
  exact g_vret (pc := 14) C (K _ rfl) dX5_init_14
theorem dX3_init_0 : decode cX3_init 0 = .ok (.aload_n 0, 1) := by decide +kernel
theorem dX3_init_1 : decode cX3_init 1 = .ok (.invokespecial 3, 3) := by decide +kernel
theorem dX3_init_4 : decode cX3_init 4 = .ok (.aload_n 0, 1) := by decide +kernel
theorem dX3_init_5 : decode cX3_init 5 = .ok (.iconst 4, 1) := by decide +kernel
theorem dX3_init_6 : decode cX3_init 6 = .ok (.bipush 40, 2) := by decide +kernel
theorem dX3_init_8 : decode cX3_init 8 = .ok (.multianewarray 9 2, 4) := by decide +kernel
theorem dX3_init_12 : decode cX3_init 12 = .ok (.putfield 11, 3) := by decide +kernel
theorem dX3_init_15 : decode cX3_init 15 = .ok (.aload_n 0, 1) := by decide +kernel
theorem dX3_init_16 : decode cX3_init 16 = .ok (.bipush (-4), 2) := by decide +kernel
theorem dX3_init_18 : decode cX3_init 18 = .ok (.putfield 16, 3) := by decide +kernel
theorem dX3_init_21 : decode cX3_init 21 = .ok (.aload_n 0, 1) := by decide +kernel
theorem dX3_init_22 : decode cX3_init 22 = .ok (.iconst 0, 1) := by decide +kernel
theorem dX3_init_23 : decode cX3_init 23 = .ok (.putfield 20, 3) := by decide +kernel
theorem dX3_init_26 : decode cX3_init 26 = .ok (.aload_n 0, 1) := by decide +kernel
theorem dX3_init_27 : decode cX3_init 27 = .ok (.aload_n 1, 1) := by decide +kernel
theorem dX3_init_28 : decode cX3_init 28 = .ok (.putfield 23, 3) := by decide +kernel
theorem dX3_init_31 : decode cX3_init 31 = .ok (.aload_n 0, 1) := by decide +kernel
theorem dX3_init_32 : decode cX3_init 32 = .ok (.aload_n 2, 1) := by decide +kernel
theorem dX3_init_33 : decode cX3_init 33 = .ok (.putfield 27, 3) := by decide +kernel
theorem dX3_init_36 : decode cX3_init 36 = .ok (.aload_n 0, 1) := by decide +kernel
theorem dX3_init_37 : decode cX3_init 37 = .ok (.aload_n 3, 1) := by decide +kernel
theorem dX3_init_38 : decode cX3_init 38 = .ok (.putfield 31, 3) := by decide +kernel
theorem dX3_init_41 : decode cX3_init 41 = .ok (.return_, 1) := by decide +kernel
abbrev rm_X3_init : Room := { frames := 1, cells := 5, slots := 164, locals := 12 }
set_option maxHeartbeats 4000000 in
set_option maxRecDepth 100000 in
theorem c_X3_init (E : Ev) (a p0 p1 p2 : Nat) : Mc E yX3_init cX3_init 4 rm_X3_init [.ref a, .ref p0, .ref p1, .ref p2] [(a, .inr (3, [.null, .null, .null, .null, .int 0, .int 0]))] (fun w => ∃ q1 q2 q3 q4 q5 : Nat, w = [oX3 a p0 p1 p2 q1 ((-4)) 0, aQ E 4 q1 [q2, q3, q4, q5], aI E q2 40 (fun _ => 0), aI E q3 40 (fun _ => 0), aI E q4 40 (fun _ => 0), aI E q5 40 (fun _ => 0)]) := by
  refine Mc.intro (lv := [(0, .ref a), (1, .ref p0), (2, .ref p1), (3, .ref p2)]) (by decide +kernel) rfl (Nat.le_of_ble_eq_true rfl) rfl (fun X C hi hN K => ?_)
  have C : CX E X cX3_init RX3 4 rm_X3_init := C
  refine g_aload_n (pc := 0) C dX3_init_0 0 rfl ?_
  refine g_objInit (pc := 1) C oi_X3_3 (by decide) (Nat.le_of_ble_eq_true rfl) dX3_init_1 ?_
  refine g_aload_n (pc := 4) C dX3_init_4 0 rfl ?_
  refine g_iconst (pc := 5) (v := 4) C dX3_init_5 (by decide) ?_
  refine g_bipush (pc := 6) (v := 40) C dX3_init_6 (by decide) ?_
  refine g_mna (pc := 8) C hN kcl_X3_9 ka_I (by decide) (by decide) (by decide) (by decide) (by decide) (by decide) dX3_init_8 (fun q1 q2 q3 q4 q5 => ?_)
  refine g_eqw (ws' := [(a, .inr (3, [.null, .null, .null, .null, .int 0, .int 0])), aQ E 4 q1 [q2, q3, q4, q5], aI E q2 40 (fun _ => 0), aI E q3 40 (fun _ => 0), aI E q4 40 (fun _ => 0), aI E q5 40 (fun _ => 0)]) rfl ?_
  refine g_putF (pc := 12) (ws' := [(a, .inr (3, [.null, .null, .null, .ref q1, .int 0, .int 0])), aQ E 4 q1 [q2, q3, q4, q5], aI E q2 40 (fun _ => 0), aI E q3 40 (fun _ => 0), aI E q4 40 (fun _ => 0), aI E q5 40 (fun _ => 0)]) 0 C hi fpF_X3_11 rfl rfl rfl (Nat.le_of_ble_eq_true rfl) rfl dX3_init_12 ?_
  refine g_aload_n (pc := 15) C dX3_init_15 0 rfl ?_
  refine g_bipush (pc := 16) (v := (-4)) C dX3_init_16 (by decide) ?_
  refine g_put (pc := 18) (ws' := [(a, .inr (3, [.null, .null, .null, .ref q1, .int ((-4)), .int 0])), aQ E 4 q1 [q2, q3, q4, q5], aI E q2 40 (fun _ => 0), aI E q3 40 (fun _ => 0), aI E q4 40 (fun _ => 0), aI E q5 40 (fun _ => 0)]) 0 C fp_X3_16 rfl rfl rfl (Nat.le_of_ble_eq_true rfl) rfl dX3_init_18 ?_
  refine g_aload_n (pc := 21) C dX3_init_21 0 rfl ?_
  refine g_iconst (pc := 22) (v := 0) C dX3_init_22 (by decide) ?_
  refine g_put (pc := 23) (ws' := [(a, .inr (3, [.null, .null, .null, .ref q1, .int ((-4)), .int 0])), aQ E 4 q1 [q2, q3, q4, q5], aI E q2 40 (fun _ => 0), aI E q3 40 (fun _ => 0), aI E q4 40 (fun _ => 0), aI E q5 40 (fun _ => 0)]) 0 C fp_X3_20 rfl rfl rfl (Nat.le_of_ble_eq_true rfl) rfl dX3_init_23 ?_
  refine g_aload_n (pc := 26) C dX3_init_26 0 rfl ?_
  refine g_aload_n (pc := 27) C dX3_init_27 1 rfl ?_
  refine g_putF (pc := 28) (ws' := [(a, .inr (3, [.ref p0, .null, .null, .ref q1, .int ((-4)), .int 0])), aQ E 4 q1 [q2, q3, q4, q5], aI E q2 40 (fun _ => 0), aI E q3 40 (fun _ => 0), aI E q4 40 (fun _ => 0), aI E q5 40 (fun _ => 0)]) 0 C hi fpF_X3_23 rfl rfl rfl (Nat.le_of_ble_eq_true rfl) rfl dX3_init_28 ?_
  refine g_aload_n (pc := 31) C dX3_init_31 0 rfl ?_
  refine g_aload_n (pc := 32) C dX3_init_32 2 rfl ?_
  refine g_putF (pc := 33) (ws' := [(a, .inr (3, [.ref p0, .ref p1, .null, .ref q1, .int ((-4)), .int 0])), aQ E 4 q1 [q2, q3, q4, q5], aI E q2 40 (fun _ => 0), aI E q3 40 (fun _ => 0), aI E q4 40 (fun _ => 0), aI E q5 40 (fun _ => 0)]) 0 C hi fpF_X3_27 rfl rfl rfl (Nat.le_of_ble_eq_true rfl) rfl dX3_init_33 ?_
  refine g_aload_n (pc := 36) C dX3_init_36 0 rfl ?_
  refine g_aload_n (pc := 37) C dX3_init_37 3 rfl ?_
  refine g_putF (pc := 38) (ws' := [oX3 a p0 p1 p2 q1 ((-4)) 0, aQ E 4 q1 [q2, q3, q4, q5], aI E q2 40 (fun _ => 0), aI E q3 40 (fun _ => 0), aI E q4 40 (fun _ => 0), aI E q5 40 (fun _ => 0)]) 0 C hi fpF_X3_31 rfl rfl rfl (Nat.le_of_ble_eq_true rfl) rfl dX3_init_38 ?_
  refine g_wid (k := 5) (m := 164) (by decide) (by decide) ?_
  exact g_vret (pc := 41) C (K _ ⟨q1, q2, q3, q4, q5, rfl⟩) dX3_init_41
theorem dX4_init_0 : decode cX4_init 0 = .ok (.aload_n 0, 1) := by decide +kernel
theorem dX4_init_1 : decode cX4_init 1 = .ok (.invokespecial 1, 3) := by decide +kernel
theorem dX4_init_4 : decode cX4_init 4 = .ok (.aload_n 0, 1) := by decide +kernel
theorem dX4_init_5 : decode cX4_init 5 = .ok (.new 7, 3) := by decide +kernel
theorem dX4_init_8 : decode cX4_init 8 = .ok (.dup, 1) := by decide +kernel
theorem dX4_init_9 : decode cX4_init 9 = .ok (.invokespecial 9, 3) := by decide +kernel
theorem dX4_init_12 : decode cX4_init 12 = .ok (.putfield 10, 3) := by decide +kernel
theorem dX4_init_15 : decode cX4_init 15 = .ok (.aload_n 0, 1) := by decide +kernel
theorem dX4_init_16 : decode cX4_init 16 = .ok (.new 16, 3) := by decide +kernel
theorem dX4_init_19 : decode cX4_init 19 = .ok (.dup, 1) := by decide +kernel
theorem dX4_init_20 : decode cX4_init 20 = .ok (.invokespecial 18, 3) := by decide +kernel
theorem dX4_init_23 : decode cX4_init 23 = .ok (.putfield 19, 3) := by decide +kernel
theorem dX4_init_26 : decode cX4_init 26 = .ok (.aload_n 0, 1) := by decide +kernel
theorem dX4_init_27 : decode cX4_init 27 = .ok (.iconst 0, 1) := by decide +kernel
theorem dX4_init_28 : decode cX4_init 28 = .ok (.putfield 23, 3) := by decide +kernel
theorem dX4_init_31 : decode cX4_init 31 = .ok (.return_, 1) := by decide +kernel
abbrev rm_X4_init : Room := { frames := 2, cells := 10, slots := 76, locals := 32 }
set_option maxHeartbeats 4000000 in
set_option maxRecDepth 100000 in
theorem c_X4_init (E : Ev) (a : Nat) : Mc E yX4_init cX4_init 1 rm_X4_init [.ref a] [(a, .inr (4, [.null, .null, .int 0]))] (fun w => ∃ q1 q2 q3 q4 q5 q6 q7 q8 q9 q10 : Nat, w = [oX4 a q1 q7 0, oX1 q1 0 0 0 q2 q3 q4 q5 q6, aI E q2 4 (fun _ => 0), aI E q3 6 (fun _ => 0), aI E q4 6 (fun _ => 0), aI E q5 6 (fun _ => 0), aI E q6 24 (fun _ => 0), oX7 q7 0 q8 q9 q10, aI E q8 6 (fun _ => 0), aI E q9 6 (fun _ => 0), aI E q10 6 (fun _ => 0)]) := by
  refine Mc.intro (lv := [(0, .ref a)]) (by decide +kernel) rfl (Nat.le_of_ble_eq_true rfl) rfl (fun X C hi hN K => ?_)
  have C : CX E X cX4_init RX4 1 rm_X4_init := C
  refine g_aload_n (pc := 0) C dX4_init_0 0 rfl ?_
  refine g_objInit (pc := 1) C oi_X4_1 (by decide) (Nat.le_of_ble_eq_true rfl) dX4_init_1 ?_
  refine g_aload_n (pc := 4) C dX4_init_4 0 rfl ?_
  refine g_new (pc := 5) C nw_X4_7 (by decide) (by decide) dX4_init_5 (fun q1 => ?_)
  refine g_eqw (ws' := [(a, .inr (4, [.null, .null, .int 0])), (q1, .inr (1, [.int 0, .int 0, .int 0, .null, .null, .null, .null, .null]))]) rfl ?_
  refine g_dup (pc := 8) C dX4_init_8 rfl ?_
  refine g_callN (pc := 9) (wr := [(a, .inr (4, [.null, .null, .int 0]))]) (st := [.ref q1, .ref a]) C hN mn_X4_9 (c_X1_init E q1) [1] [0] rfl rfl rfl (by decide +kernel) (by decide) ⟨by decide, by decide⟩ ⟨by decide, by decide⟩ rfl rfl (Nat.le_of_ble_eq_true rfl) dX4_init_9 (fun w' hw' => ?_)
  obtain ⟨q2, q3, q4, q5, q6, rfl⟩ := hw'
  refine g_eqw (ws' := [(a, .inr (4, [.null, .null, .int 0])), oX1 q1 0 0 0 q2 q3 q4 q5 q6, aI E q2 4 (fun _ => 0), aI E q3 6 (fun _ => 0), aI E q4 6 (fun _ => 0), aI E q5 6 (fun _ => 0), aI E q6 24 (fun _ => 0)]) rfl ?_
  refine g_putF (pc := 12) (ws' := [(a, .inr (4, [.ref q1, .null, .int 0])), oX1 q1 0 0 0 q2 q3 q4 q5 q6, aI E q2 4 (fun _ => 0), aI E q3 6 (fun _ => 0), aI E q4 6 (fun _ => 0), aI E q5 6 (fun _ => 0), aI E q6 24 (fun _ => 0)]) 0 C hi fpF_X4_10 rfl rfl rfl (Nat.le_of_ble_eq_true rfl) rfl dX4_init_12 ?_
  refine g_aload_n (pc := 15) C dX4_init_15 0 rfl ?_
  refine g_new (pc := 16) C nw_X4_16 (by decide) (by decide) dX4_init_16 (fun q7 => ?_)
  refine g_eqw (ws' := [(a, .inr (4, [.ref q1, .null, .int 0])), oX1 q1 0 0 0 q2 q3 q4 q5 q6, aI E q2 4 (fun _ => 0), aI E q3 6 (fun _ => 0), aI E q4 6 (fun _ => 0), aI E q5 6 (fun _ => 0), aI E q6 24 (fun _ => 0), (q7, .inr (7, [.int 0, .null, .null, .null]))]) rfl ?_
  refine g_dup (pc := 19) C dX4_init_19 rfl ?_
  refine g_callN (pc := 20) (wr := [(a, .inr (4, [.ref q1, .null, .int 0])), oX1 q1 0 0 0 q2 q3 q4 q5 q6, aI E q2 4 (fun _ => 0), aI E q3 6 (fun _ => 0), aI E q4 6 (fun _ => 0), aI E q5 6 (fun _ => 0), aI E q6 24 (fun _ => 0)]) (st := [.ref q7, .ref a]) C hN mn_X4_18 (c_X7_init E q7) [7] [0, 1, 2, 3, 4, 5, 6] rfl rfl rfl (by decide +kernel) (by decide) ⟨by decide, by decide⟩ ⟨by decide, by decide⟩ rfl rfl (Nat.le_of_ble_eq_true rfl) dX4_init_20 (fun w' hw' => ?_)
  obtain ⟨q8, q9, q10, rfl⟩ := hw'
  refine g_eqw (ws' := [(a, .inr (4, [.ref q1, .null, .int 0])), oX1 q1 0 0 0 q2 q3 q4 q5 q6, aI E q2 4 (fun _ => 0), aI E q3 6 (fun _ => 0), aI E q4 6 (fun _ => 0), aI E q5 6 (fun _ => 0), aI E q6 24 (fun _ => 0), oX7 q7 0 q8 q9 q10, aI E q8 6 (fun _ => 0), aI E q9 6 (fun _ => 0), aI E q10 6 (fun _ => 0)]) rfl ?_
  refine g_putF (pc := 23) (ws' := [oX4 a q1 q7 0, oX1 q1 0 0 0 q2 q3 q4 q5 q6, aI E q2 4 (fun _ => 0), aI E q3 6 (fun _ => 0), aI E q4 6 (fun _ => 0), aI E q5 6 (fun _ => 0), aI E q6 24 (fun _ => 0), oX7 q7 0 q8 q9 q10, aI E q8 6 (fun _ => 0), aI E q9 6 (fun _ => 0), aI E q10 6 (fun _ => 0)]) 0 C hi fpF_X4_19 rfl rfl rfl (Nat.le_of_ble_eq_true rfl) rfl dX4_init_23 ?_
  refine g_aload_n (pc := 26) C dX4_init_26 0 rfl ?_
  refine g_iconst (pc := 27) (v := 0) C dX4_init_27 (by decide) ?_
  refine g_put (pc := 28) (ws' := [oX4 a q1 q7 0, oX1 q1 0 0 0 q2 q3 q4 q5 q6, aI E q2 4 (fun _ => 0), aI E q3 6 (fun _ => 0), aI E q4 6 (fun _ => 0), aI E q5 6 (fun _ => 0), aI E q6 24 (fun _ => 0), oX7 q7 0 q8 q9 q10, aI E q8 6 (fun _ => 0), aI E q9 6 (fun _ => 0), aI E q10 6 (fun _ => 0)]) 0 C fp_X4_23 rfl rfl rfl (Nat.le_of_ble_eq_true rfl) rfl dX4_init_28 ?_
  refine g_wid (k := 10) (m := 76) (by decide) (by decide) ?_
  exact g_vret (pc := 31) C (K _ ⟨q1, q2, q3, q4, q5, q6, q7, q8, q9, q10, rfl⟩) dX4_init_31
theorem dX6_init_0 : decode cX6_init 0 = .ok (.aload_n 0, 1) := by decide +kernel
theorem dX6_init_1 : decode cX6_init 1 = .ok (.invokespecial 3, 3) := by decide +kernel
theorem dX6_init_4 : decode cX6_init 4 = .ok (.aload_n 0, 1) := by decide +kernel
theorem dX6_init_5 : decode cX6_init 5 = .ok (.bipush 40, 2) := by decide +kernel
theorem dX6_init_7 : decode cX6_init 7 = .ok (.newarray .int, 2) := by decide +kernel
theorem dX6_init_9 : decode cX6_init 9 = .ok (.putfield 9, 3) := by decide +kernel
theorem dX6_init_12 : decode cX6_init 12 = .ok (.aload_n 0, 1) := by decide +kernel
theorem dX6_init_13 : decode cX6_init 13 = .ok (.iconst 0, 1) := by decide +kernel
theorem dX6_init_14 : decode cX6_init 14 = .ok (.putfield 15, 3) := by decide +kernel
theorem dX6_init_17 : decode cX6_init 17 = .ok (.aload_n 0, 1) := by decide +kernel
theorem dX6_init_18 : decode cX6_init 18 = .ok (.iconst (-1), 1) := by decide +kernel
theorem dX6_init_19 : decode cX6_init 19 = .ok (.putfield 19, 3) := by decide +kernel
theorem dX6_init_22 : decode cX6_init 22 = .ok (.return_, 1) := by decide +kernel
abbrev rm_X6_init : Room := { frames := 1, cells := 1, slots := 40, locals := 12 }
set_option maxHeartbeats 4000000 in
set_option maxRecDepth 100000 in
theorem c_X6_init (E : Ev) (a : Nat) : Mc E yX6_init cX6_init 1 rm_X6_init [.ref a] [(a, .inr (6, [.null, .int 0, .int 0]))] (fun w => ∃ q1 : Nat, w = [oX6 a q1 0 ((-1)), aI E q1 40 (fun _ => 0)]) := by
  refine Mc.intro (lv := [(0, .ref a)]) (by decide +kernel) rfl (Nat.le_of_ble_eq_true rfl) rfl (fun X C hi hN K => ?_)
  have C : CX E X cX6_init RX6 1 rm_X6_init := C
  refine g_aload_n (pc := 0) C dX6_init_0 0 rfl ?_
  refine g_objInit (pc := 1) C oi_X6_3 (by decide) (Nat.le_of_ble_eq_true rfl) dX6_init_1 ?_
  refine g_aload_n (pc := 4) C dX6_init_4 0 rfl ?_
  refine g_bipush (pc := 5) (v := 40) C dX6_init_5 (by decide) ?_
  refine g_newI (pc := 7) 40 C ka_I (by decide) (by decide) (by decide) (by decide) (by decide) dX6_init_7 (fun q1 => ?_)
  refine g_eqw (ws' := [(a, .inr (6, [.null, .int 0, .int 0])), aI E q1 40 (fun _ => 0)]) rfl ?_
  refine g_putF (pc := 9) (ws' := [oX6 a q1 0 0, aI E q1 40 (fun _ => 0)]) 0 C hi fpF_X6_9 rfl rfl rfl (Nat.le_of_ble_eq_true rfl) rfl dX6_init_9 ?_
  refine g_aload_n (pc := 12) C dX6_init_12 0 rfl ?_
  refine g_iconst (pc := 13) (v := 0) C dX6_init_13 (by decide) ?_
  refine g_put (pc := 14) (ws' := [oX6 a q1 0 0, aI E q1 40 (fun _ => 0)]) 0 C fp_X6_15 rfl rfl rfl (Nat.le_of_ble_eq_true rfl) rfl dX6_init_14 ?_
  refine g_aload_n (pc := 17) C dX6_init_17 0 rfl ?_
  refine g_iconst (pc := 18) (v := (-1)) C dX6_init_18 (by decide) ?_
  refine g_put (pc := 19) (ws' := [oX6 a q1 0 ((-1)), aI E q1 40 (fun _ => 0)]) 0 C fp_X6_19 rfl rfl rfl (Nat.le_of_ble_eq_true rfl) rfl dX6_init_19 ?_
  refine g_wid (k := 1) (m := 40) (by decide) (by decide) ?_
  exact g_vret (pc := 22) C (K _ ⟨q1, rfl⟩) dX6_init_22
theorem dX11_init_0 : decode cX11_init 0 = .ok (.aload_n 0, 1) := by decide +kernel
theorem dX11_init_1 : decode cX11_init 1 = .ok (.invokespecial 3, 3) := by decide +kernel
theorem dX11_init_4 : decode cX11_init 4 = .ok (.aload_n 0, 1) := by decide +kernel
theorem dX11_init_5 : decode cX11_init 5 = .ok (.new 9, 3) := by decide +kernel
theorem dX11_init_8 : decode cX11_init 8 = .ok (.dup, 1) := by decide +kernel
theorem dX11_init_9 : decode cX11_init 9 = .ok (.invokespecial 11, 3) := by decide +kernel
theorem dX11_init_12 : decode cX11_init 12 = .ok (.putfield 12, 3) := by decide +kernel
theorem dX11_init_15 : decode cX11_init 15 = .ok (.aload_n 0, 1) := by decide +kernel
theorem dX11_init_16 : decode cX11_init 16 = .ok (.new 16, 3) := by decide +kernel
theorem dX11_init_19 : decode cX11_init 19 = .ok (.dup, 1) := by decide +kernel
theorem dX11_init_20 : decode cX11_init 20 = .ok (.aload_n 0, 1) := by decide +kernel
theorem dX11_init_21 : decode cX11_init 21 = .ok (.getfield 12, 3) := by decide +kernel
theorem dX11_init_24 : decode cX11_init 24 = .ok (.invokespecial 18, 3) := by decide +kernel
theorem dX11_init_27 : decode cX11_init 27 = .ok (.putfield 21, 3) := by decide +kernel
theorem dX11_init_30 : decode cX11_init 30 = .ok (.aload_n 0, 1) := by decide +kernel
theorem dX11_init_31 : decode cX11_init 31 = .ok (.new 25, 3) := by decide +kernel
theorem dX11_init_34 : decode cX11_init 34 = .ok (.dup, 1) := by decide +kernel
theorem dX11_init_35 : decode cX11_init 35 = .ok (.invokespecial 27, 3) := by decide +kernel
theorem dX11_init_38 : decode cX11_init 38 = .ok (.putfield 28, 3) := by decide +kernel
theorem dX11_init_41 : decode cX11_init 41 = .ok (.aload_n 0, 1) := by decide +kernel
theorem dX11_init_42 : decode cX11_init 42 = .ok (.new 32, 3) := by decide +kernel
theorem dX11_init_45 : decode cX11_init 45 = .ok (.dup, 1) := by decide +kernel
theorem dX11_init_46 : decode cX11_init 46 = .ok (.invokespecial 34, 3) := by decide +kernel
theorem dX11_init_49 : decode cX11_init 49 = .ok (.putfield 35, 3) := by decide +kernel
theorem dX11_init_52 : decode cX11_init 52 = .ok (.aload_n 0, 1) := by decide +kernel
theorem dX11_init_53 : decode cX11_init 53 = .ok (.new 39, 3) := by decide +kernel
theorem dX11_init_56 : decode cX11_init 56 = .ok (.dup, 1) := by decide +kernel
theorem dX11_init_57 : decode cX11_init 57 = .ok (.aload_n 0, 1) := by decide +kernel
theorem dX11_init_58 : decode cX11_init 58 = .ok (.getfield 28, 3) := by decide +kernel
theorem dX11_init_61 : decode cX11_init 61 = .ok (.invokespecial 41, 3) := by decide +kernel
theorem dX11_init_64 : decode cX11_init 64 = .ok (.putfield 44, 3) := by decide +kernel
theorem dX11_init_67 : decode cX11_init 67 = .ok (.aload_n 0, 1) := by decide +kernel
theorem dX11_init_68 : decode cX11_init 68 = .ok (.new 48, 3) := by decide +kernel
theorem dX11_init_71 : decode cX11_init 71 = .ok (.dup, 1) := by decide +kernel
theorem dX11_init_72 : decode cX11_init 72 = .ok (.aload_n 0, 1) := by decide +kernel
theorem dX11_init_73 : decode cX11_init 73 = .ok (.getfield 28, 3) := by decide +kernel
theorem dX11_init_76 : decode cX11_init 76 = .ok (.aload_n 0, 1) := by decide +kernel
theorem dX11_init_77 : decode cX11_init 77 = .ok (.getfield 44, 3) := by decide +kernel
theorem dX11_init_80 : decode cX11_init 80 = .ok (.invokespecial 50, 3) := by decide +kernel
theorem dX11_init_83 : decode cX11_init 83 = .ok (.putfield 53, 3) := by decide +kernel
theorem dX11_init_86 : decode cX11_init 86 = .ok (.aload_n 0, 1) := by decide +kernel
theorem dX11_init_87 : decode cX11_init 87 = .ok (.new 57, 3) := by decide +kernel
theorem dX11_init_90 : decode cX11_init 90 = .ok (.dup, 1) := by decide +kernel
theorem dX11_init_91 : decode cX11_init 91 = .ok (.aload_n 0, 1) := by decide +kernel
theorem dX11_init_92 : decode cX11_init 92 = .ok (.getfield 28, 3) := by decide +kernel
theorem dX11_init_95 : decode cX11_init 95 = .ok (.aload_n 0, 1) := by decide +kernel
theorem dX11_init_96 : decode cX11_init 96 = .ok (.getfield 44, 3) := by decide +kernel
theorem dX11_init_99 : decode cX11_init 99 = .ok (.invokespecial 59, 3) := by decide +kernel
theorem dX11_init_102 : decode cX11_init 102 = .ok (.putfield 60, 3) := by decide +kernel
theorem dX11_init_105 : decode cX11_init 105 = .ok (.aload_n 0, 1) := by decide +kernel
theorem dX11_init_106 : decode cX11_init 106 = .ok (.new 64, 3) := by decide +kernel
theorem dX11_init_109 : decode cX11_init 109 = .ok (.dup, 1) := by decide +kernel
theorem dX11_init_110 : decode cX11_init 110 = .ok (.aload_n 0, 1) := by decide +kernel
theorem dX11_init_111 : decode cX11_init 111 = .ok (.getfield 28, 3) := by decide +kernel
theorem dX11_init_114 : decode cX11_init 114 = .ok (.aload_n 0, 1) := by decide +kernel
theorem dX11_init_115 : decode cX11_init 115 = .ok (.getfield 35, 3) := by decide +kernel
theorem dX11_init_118 : decode cX11_init 118 = .ok (.aload_n 0, 1) := by decide +kernel
theorem dX11_init_119 : decode cX11_init 119 = .ok (.getfield 44, 3) := by decide +kernel
theorem dX11_init_122 : decode cX11_init 122 = .ok (.invokespecial 66, 3) := by decide +kernel
theorem dX11_init_125 : decode cX11_init 125 = .ok (.putfield 69, 3) := by decide +kernel
theorem dX11_init_128 : decode cX11_init 128 = .ok (.aload_n 0, 1) := by decide +kernel
theorem dX11_init_129 : decode cX11_init 129 = .ok (.iconst 2, 1) := by decide +kernel
theorem dX11_init_130 : decode cX11_init 130 = .ok (.anewarray 73, 3) := by decide +kernel
theorem dX11_init_133 : decode cX11_init 133 = .ok (.putfield 75, 3) := by decide +kernel
theorem dX11_init_136 : decode cX11_init 136 = .ok (.aload_n 0, 1) := by decide +kernel
theorem dX11_init_137 : decode cX11_init 137 = .ok (.iconst 4, 1) := by decide +kernel
theorem dX11_init_138 : decode cX11_init 138 = .ok (.anewarray 79, 3) := by decide +kernel
theorem dX11_init_141 : decode cX11_init 141 = .ok (.putfield 81, 3) := by decide +kernel
theorem dX11_init_144 : decode cX11_init 144 = .ok (.aload_n 0, 1) := by decide +kernel
theorem dX11_init_145 : decode cX11_init 145 = .ok (.iconst 0, 1) := by decide +kernel
theorem dX11_init_146 : decode cX11_init 146 = .ok (.putfield 85, 3) := by decide +kernel
theorem dX11_init_149 : decode cX11_init 149 = .ok (.iconst 0, 1) := by decide +kernel
theorem dX11_init_150 : decode cX11_init 150 = .ok (.istore_n 1, 1) := by decide +kernel
theorem dX11_init_151 : decode cX11_init 151 = .ok (.iload_n 1, 1) := by decide +kernel
theorem dX11_init_152 : decode cX11_init 152 = .ok (.iconst 2, 1) := by decide +kernel
theorem dX11_init_153 : decode cX11_init 153 = .ok (.if_icmp .ge 22, 3) := by decide +kernel
theorem dX11_init_156 : decode cX11_init 156 = .ok (.aload_n 0, 1) := by decide +kernel
theorem dX11_init_157 : decode cX11_init 157 = .ok (.getfield 75, 3) := by decide +kernel
theorem dX11_init_160 : decode cX11_init 160 = .ok (.iload_n 1, 1) := by decide +kernel
theorem dX11_init_161 : decode cX11_init 161 = .ok (.new 73, 3) := by decide +kernel
theorem dX11_init_164 : decode cX11_init 164 = .ok (.dup, 1) := by decide +kernel
theorem dX11_init_165 : decode cX11_init 165 = .ok (.invokespecial 89, 3) := by decide +kernel
theorem dX11_init_168 : decode cX11_init 168 = .ok (.aastore, 1) := by decide +kernel
theorem dX11_init_169 : decode cX11_init 169 = .ok (.iinc 1 1, 3) := by decide +kernel
theorem dX11_init_172 : decode cX11_init 172 = .ok (.goto (-21), 3) := by decide +kernel
theorem dX11_init_175 : decode cX11_init 175 = .ok (.iconst 0, 1) := by decide +kernel
theorem dX11_init_176 : decode cX11_init 176 = .ok (.istore_n 1, 1) := by decide +kernel
theorem dX11_init_177 : decode cX11_init 177 = .ok (.iload_n 1, 1) := by decide +kernel
theorem dX11_init_178 : decode cX11_init 178 = .ok (.iconst 4, 1) := by decide +kernel
theorem dX11_init_179 : decode cX11_init 179 = .ok (.if_icmp .ge 22, 3) := by decide +kernel
theorem dX11_init_182 : decode cX11_init 182 = .ok (.aload_n 0, 1) := by decide +kernel
theorem dX11_init_183 : decode cX11_init 183 = .ok (.getfield 81, 3) := by decide +kernel
theorem dX11_init_186 : decode cX11_init 186 = .ok (.iload_n 1, 1) := by decide +kernel
theorem dX11_init_187 : decode cX11_init 187 = .ok (.new 79, 3) := by decide +kernel
theorem dX11_init_190 : decode cX11_init 190 = .ok (.dup, 1) := by decide +kernel
theorem dX11_init_191 : decode cX11_init 191 = .ok (.invokespecial 90, 3) := by decide +kernel
theorem dX11_init_194 : decode cX11_init 194 = .ok (.aastore, 1) := by decide +kernel
theorem dX11_init_195 : decode cX11_init 195 = .ok (.iinc 1 1, 3) := by decide +kernel
theorem dX11_init_198 : decode cX11_init 198 = .ok (.goto (-21), 3) := by decide +kernel
theorem dX11_init_201 : decode cX11_init 201 = .ok (.return_, 1) := by decide +kernel
abbrev rm_X11_init : Room := { frames := 3, cells := 69, slots := 884, locals := 53 }
set_option maxHeartbeats 4000000 in
set_option maxRecDepth 100000 in
theorem c_X11_init (E : Ev) (a : Nat) : Mc E yX11_init cX11_init 2 rm_X11_init [.ref a] [(a, .inr (11, [.null, .null, .null, .null, .null, .null, .null, .null, .null, .null, .int 0]))] (fun w => ∃ q1 q2 q3 q4 q5 q6 q7 q8 q9 q10 q11 q12 q13 q14 q15 q16 q17 q18 q19 q20 q21 q22 q23 q24 q25 q26 q27 q28 q29 q30 q31 q32 q33 q34 q35 q36 q37 q38 q39 q40 q41 q42 q43 q44 q45 q46 q47 q48 q49 q50 q51 q52 q53 q54 q55 q56 q57 q58 q59 q60 q61 q62 q63 q64 q65 q66 q67 q68 q69 : Nat, w = [oX11 a q1 q3 q10 q16 q20 q30 q31 q32 q38 q39 0, oX8 q1 q2 0, aI E q2 160 (fun _ => 0), oX9 q3 q1 q4 0 0 0 0 3 0, oX1 q4 0 0 0 q5 q6 q7 q8 q9, aI E q5 4 (fun _ => 0), aI E q6 6 (fun _ => 0), aI E q7 6 (fun _ => 0), aI E q8 6 (fun _ => 0), aI E q9 24 (fun _ => 0), oX1 q10 0 0 0 q11 q12 q13 q14 q15, aI E q11 4 (fun _ => 0), aI E q12 6 (fun _ => 0), aI E q13 6 (fun _ => 0), aI E q14 6 (fun _ => 0), aI E q15 24 (fun _ => 0), oX7 q16 0 q17 q18 q19, aI E q17 6 (fun _ => 0), aI E q18 6 (fun _ => 0), aI E q19 6 (fun _ => 0), oX10 q20 q10 q21 q27 0 0 ((-4)), oX1 q21 0 0 0 q22 q23 q24 q25 q26, aI E q22 4 (fun _ => 0), aI E q23 6 (fun _ => 0), aI E q24 6 (fun _ => 0), aI E q25 6 (fun _ => 0), aI E q26 24 (fun _ => 0), oX2 q27 q28 q29 0 0, aI E q28 4 (fun _ => 0), aI E q29 4 (fun _ => 0), oX0 q30 q10 q20 ((-4)) 0, oX5 q31 q10 q20, oX3 q32 q10 q16 q20 q33 ((-4)) 0, aQ E 4 q33 [q34, q35, q36, q37], aI E q34 40 (fun _ => 0), aI E q35 40 (fun _ => 0), aI E q36 40 (fun _ => 0), aI E q37 40 (fun _ => 0), aQ E 2 q38 [q40, q51], aQ E 3 q39 [q62, q64, q66, q68], oX4 q40 q41 q47 0, oX1 q41 0 0 0 q42 q43 q44 q45 q46, aI E q42 4 (fun _ => 0), aI E q43 6 (fun _ => 0), aI E q44 6 (fun _ => 0), aI E q45 6 (fun _ => 0), aI E q46 24 (fun _ => 0), oX7 q47 0 q48 q49 q50, aI E q48 6 (fun _ => 0), aI E q49 6 (fun _ => 0), aI E q50 6 (fun _ => 0), oX4 q51 q52 q58 0, oX1 q52 0 0 0 q53 q54 q55 q56 q57, aI E q53 4 (fun _ => 0), aI E q54 6 (fun _ => 0), aI E q55 6 (fun _ => 0), aI E q56 6 (fun _ => 0), aI E q57 24 (fun _ => 0), oX7 q58 0 q59 q60 q61, aI E q59 6 (fun _ => 0), aI E q60 6 (fun _ => 0), aI E q61 6 (fun _ => 0), oX6 q62 q63 0 ((-1)), aI E q63 40 (fun _ => 0), oX6 q64 q65 0 ((-1)), aI E q65 40 (fun _ => 0), oX6 q66 q67 0 ((-1)), aI E q67 40 (fun _ => 0), oX6 q68 q69 0 ((-1)), aI E q69 40 (fun _ => 0)]) := by
  refine Mc.intro (lv := [(0, .ref a)]) (by decide +kernel) rfl (Nat.le_of_ble_eq_true rfl) rfl (fun X C hi hN K => ?_)
  have C : CX E X cX11_init RX11 2 rm_X11_init := C
  refine g_aload_n (pc := 0) C dX11_init_0 0 rfl ?_
  refine g_objInit (pc := 1) C oi_X11_3 (by decide) (Nat.le_of_ble_eq_true rfl) dX11_init_1 ?_
  refine g_aload_n (pc := 4) C dX11_init_4 0 rfl ?_
  refine g_new (pc := 5) C nw_X11_9 (by decide) (by decide) dX11_init_5 (fun q1 => ?_)
  refine g_eqw (ws' := [(a, .inr (11, [.null, .null, .null, .null, .null, .null, .null, .null, .null, .null, .int 0])), (q1, .inr (8, [.null, .int 0]))]) rfl ?_
  refine g_dup (pc := 8) C dX11_init_8 rfl ?_
  refine g_callN (pc := 9) (wr := [(a, .inr (11, [.null, .null, .null, .null, .null, .null, .null, .null, .null, .null, .int 0]))]) (st := [.ref q1, .ref a]) C hN mn_X11_11 (c_X8_init E q1) [1] [0] rfl rfl rfl (by decide +kernel) (by decide) ⟨by decide, by decide⟩ ⟨by decide, by decide⟩ rfl rfl (Nat.le_of_ble_eq_true rfl) dX11_init_9 (fun w' hw' => ?_)
  obtain ⟨q2, rfl⟩ := hw'
  refine g_eqw (ws' := [(a, .inr (11, [.null, .null, .null, .null, .null, .null, .null, .null, .null, .null, .int 0])), oX8 q1 q2 0, aI E q2 160 (fun _ => 0)]) rfl ?_
  refine g_putF (pc := 12) (ws' := [(a, .inr (11, [.ref q1, .null, .null, .null, .null, .null, .null, .null, .null, .null, .int 0])), oX8 q1 q2 0, aI E q2 160 (fun _ => 0)]) 0 C hi fpF_X11_12 rfl rfl rfl (Nat.le_of_ble_eq_true rfl) rfl dX11_init_12 ?_
  refine g_aload_n (pc := 15) C dX11_init_15 0 rfl ?_
  refine g_new (pc := 16) C nw_X11_16 (by decide) (by decide) dX11_init_16 (fun q3 => ?_)
  refine g_eqw (ws' := [(a, .inr (11, [.ref q1, .null, .null, .null, .null, .null, .null, .null, .null, .null, .int 0])), oX8 q1 q2 0, aI E q2 160 (fun _ => 0), (q3, .inr (9, [.null, .null, .int 0, .int 0, .int 0, .int 0, .int 0, .int 0]))]) rfl ?_
  refine g_dup (pc := 19) C dX11_init_19 rfl ?_
  refine g_aload_n (pc := 20) C dX11_init_20 0 rfl ?_
  refine g_get (pc := 21) 0 C fl_X11_12 rfl rfl dX11_init_21 ?_
  refine g_callI (pc := 24) (wr := [(a, .inr (11, [.ref q1, .null, .null, .null, .null, .null, .null, .null, .null, .null, .int 0])), oX8 q1 q2 0, aI E q2 160 (fun _ => 0)]) (st := [.ref q3, .ref a]) C hN mi_X11_18 (c_X9_init E q3 q1) [3] [0, 1, 2] rfl rfl rfl (by decide +kernel) (by decide) ⟨by decide, by decide⟩ ⟨by decide, by decide⟩ rfl rfl (Nat.le_of_ble_eq_true rfl) dX11_init_24 (fun w' hw' => ?_)
  obtain ⟨q4, q5, q6, q7, q8, q9, rfl⟩ := hw'
  refine g_eqw (ws' := [(a, .inr (11, [.ref q1, .null, .null, .null, .null, .null, .null, .null, .null, .null, .int 0])), oX8 q1 q2 0, aI E q2 160 (fun _ => 0), oX9 q3 q1 q4 0 0 0 0 3 0, oX1 q4 0 0 0 q5 q6 q7 q8 q9, aI E q5 4 (fun _ => 0), aI E q6 6 (fun _ => 0), aI E q7 6 (fun _ => 0), aI E q8 6 (fun _ => 0), aI E q9 24 (fun _ => 0)]) rfl ?_
  refine g_putF (pc := 27) (ws' := [(a, .inr (11, [.ref q1, .ref q3, .null, .null, .null, .null, .null, .null, .null, .null, .int 0])), oX8 q1 q2 0, aI E q2 160 (fun _ => 0), oX9 q3 q1 q4 0 0 0 0 3 0, oX1 q4 0 0 0 q5 q6 q7 q8 q9, aI E q5 4 (fun _ => 0), aI E q6 6 (fun _ => 0), aI E q7 6 (fun _ => 0), aI E q8 6 (fun _ => 0), aI E q9 24 (fun _ => 0)]) 0 C hi fpF_X11_21 rfl rfl rfl (Nat.le_of_ble_eq_true rfl) rfl dX11_init_27 ?_
  refine g_aload_n (pc := 30) C dX11_init_30 0 rfl ?_
  refine g_new (pc := 31) C nw_X11_25 (by decide) (by decide) dX11_init_31 (fun q10 => ?_)
  refine g_eqw (ws' := [(a, .inr (11, [.ref q1, .ref q3, .null, .null, .null, .null, .null, .null, .null, .null, .int 0])), oX8 q1 q2 0, aI E q2 160 (fun _ => 0), oX9 q3 q1 q4 0 0 0 0 3 0, oX1 q4 0 0 0 q5 q6 q7 q8 q9, aI E q5 4 (fun _ => 0), aI E q6 6 (fun _ => 0), aI E q7 6 (fun _ => 0), aI E q8 6 (fun _ => 0), aI E q9 24 (fun _ => 0), (q10, .inr (1, [.int 0, .int 0, .int 0, .null, .null, .null, .null, .null]))]) rfl ?_
  refine g_dup (pc := 34) C dX11_init_34 rfl ?_
  refine g_callN (pc := 35) (wr := [(a, .inr (11, [.ref q1, .ref q3, .null, .null, .null, .null, .null, .null, .null, .null, .int 0])), oX8 q1 q2 0, aI E q2 160 (fun _ => 0), oX9 q3 q1 q4 0 0 0 0 3 0, oX1 q4 0 0 0 q5 q6 q7 q8 q9, aI E q5 4 (fun _ => 0), aI E q6 6 (fun _ => 0), aI E q7 6 (fun _ => 0), aI E q8 6 (fun _ => 0), aI E q9 24 (fun _ => 0)]) (st := [.ref q10, .ref a]) C hN mn_X11_27 (c_X1_init E q10) [10] [0, 1, 2, 3, 4, 5, 6, 7, 8, 9] rfl rfl rfl (by decide +kernel) (by decide) ⟨by decide, by decide⟩ ⟨by decide, by decide⟩ rfl rfl (Nat.le_of_ble_eq_true rfl) dX11_init_35 (fun w' hw' => ?_)
  obtain ⟨q11, q12, q13, q14, q15, rfl⟩ := hw'
  refine g_eqw (ws' := [(a, .inr (11, [.ref q1, .ref q3, .null, .null, .null, .null, .null, .null, .null, .null, .int 0])), oX8 q1 q2 0, aI E q2 160 (fun _ => 0), oX9 q3 q1 q4 0 0 0 0 3 0, oX1 q4 0 0 0 q5 q6 q7 q8 q9, aI E q5 4 (fun _ => 0), aI E q6 6 (fun _ => 0), aI E q7 6 (fun _ => 0), aI E q8 6 (fun _ => 0), aI E q9 24 (fun _ => 0), oX1 q10 0 0 0 q11 q12 q13 q14 q15, aI E q11 4 (fun _ => 0), aI E q12 6 (fun _ => 0), aI E q13 6 (fun _ => 0), aI E q14 6 (fun _ => 0), aI E q15 24 (fun _ => 0)]) rfl ?_
  refine g_putF (pc := 38) (ws' := [(a, .inr (11, [.ref q1, .ref q3, .ref q10, .null, .null, .null, .null, .null, .null, .null, .int 0])), oX8 q1 q2 0, aI E q2 160 (fun _ => 0), oX9 q3 q1 q4 0 0 0 0 3 0, oX1 q4 0 0 0 q5 q6 q7 q8 q9, aI E q5 4 (fun _ => 0), aI E q6 6 (fun _ => 0), aI E q7 6 (fun _ => 0), aI E q8 6 (fun _ => 0), aI E q9 24 (fun _ => 0), oX1 q10 0 0 0 q11 q12 q13 q14 q15, aI E q11 4 (fun _ => 0), aI E q12 6 (fun _ => 0), aI E q13 6 (fun _ => 0), aI E q14 6 (fun _ => 0), aI E q15 24 (fun _ => 0)]) 0 C hi fpF_X11_28 rfl rfl rfl (Nat.le_of_ble_eq_true rfl) rfl dX11_init_38 ?_
  refine g_aload_n (pc := 41) C dX11_init_41 0 rfl ?_
  refine g_new (pc := 42) C nw_X11_32 (by decide) (by decide) dX11_init_42 (fun q16 => ?_)
  refine g_eqw (ws' := [(a, .inr (11, [.ref q1, .ref q3, .ref q10, .null, .null, .null, .null, .null, .null, .null, .int 0])), oX8 q1 q2 0, aI E q2 160 (fun _ => 0), oX9 q3 q1 q4 0 0 0 0 3 0, oX1 q4 0 0 0 q5 q6 q7 q8 q9, aI E q5 4 (fun _ => 0), aI E q6 6 (fun _ => 0), aI E q7 6 (fun _ => 0), aI E q8 6 (fun _ => 0), aI E q9 24 (fun _ => 0), oX1 q10 0 0 0 q11 q12 q13 q14 q15, aI E q11 4 (fun _ => 0), aI E q12 6 (fun _ => 0), aI E q13 6 (fun _ => 0), aI E q14 6 (fun _ => 0), aI E q15 24 (fun _ => 0), (q16, .inr (7, [.int 0, .null, .null, .null]))]) rfl ?_
  refine g_dup (pc := 45) C dX11_init_45 rfl ?_
  refine g_callN (pc := 46) (wr := [(a, .inr (11, [.ref q1, .ref q3, .ref q10, .null, .null, .null, .null, .null, .null, .null, .int 0])), oX8 q1 q2 0, aI E q2 160 (fun _ => 0), oX9 q3 q1 q4 0 0 0 0 3 0, oX1 q4 0 0 0 q5 q6 q7 q8 q9, aI E q5 4 (fun _ => 0), aI E q6 6 (fun _ => 0), aI E q7 6 (fun _ => 0), aI E q8 6 (fun _ => 0), aI E q9 24 (fun _ => 0), oX1 q10 0 0 0 q11 q12 q13 q14 q15, aI E q11 4 (fun _ => 0), aI E q12 6 (fun _ => 0), aI E q13 6 (fun _ => 0), aI E q14 6 (fun _ => 0), aI E q15 24 (fun _ => 0)]) (st := [.ref q16, .ref a]) C hN mn_X11_34 (c_X7_init E q16) [16] [0, 1, 2, 3, 4, 5, 6, 7, 8, 9, 10, 11, 12, 13, 14, 15] rfl rfl rfl (by decide +kernel) (by decide) ⟨by decide, by decide⟩ ⟨by decide, by decide⟩ rfl rfl (Nat.le_of_ble_eq_true rfl) dX11_init_46 (fun w' hw' => ?_)
  obtain ⟨q17, q18, q19, rfl⟩ := hw'
  refine g_eqw (ws' := [(a, .inr (11, [.ref q1, .ref q3, .ref q10, .null, .null, .null, .null, .null, .null, .null, .int 0])), oX8 q1 q2 0, aI E q2 160 (fun _ => 0), oX9 q3 q1 q4 0 0 0 0 3 0, oX1 q4 0 0 0 q5 q6 q7 q8 q9, aI E q5 4 (fun _ => 0), aI E q6 6 (fun _ => 0), aI E q7 6 (fun _ => 0), aI E q8 6 (fun _ => 0), aI E q9 24 (fun _ => 0), oX1 q10 0 0 0 q11 q12 q13 q14 q15, aI E q11 4 (fun _ => 0), aI E q12 6 (fun _ => 0), aI E q13 6 (fun _ => 0), aI E q14 6 (fun _ => 0), aI E q15 24 (fun _ => 0), oX7 q16 0 q17 q18 q19, aI E q17 6 (fun _ => 0), aI E q18 6 (fun _ => 0), aI E q19 6 (fun _ => 0)]) rfl ?_
  refine g_putF (pc := 49) (ws' := [(a, .inr (11, [.ref q1, .ref q3, .ref q10, .ref q16, .null, .null, .null, .null, .null, .null, .int 0])), oX8 q1 q2 0, aI E q2 160 (fun _ => 0), oX9 q3 q1 q4 0 0 0 0 3 0, oX1 q4 0 0 0 q5 q6 q7 q8 q9, aI E q5 4 (fun _ => 0), aI E q6 6 (fun _ => 0), aI E q7 6 (fun _ => 0), aI E q8 6 (fun _ => 0), aI E q9 24 (fun _ => 0), oX1 q10 0 0 0 q11 q12 q13 q14 q15, aI E q11 4 (fun _ => 0), aI E q12 6 (fun _ => 0), aI E q13 6 (fun _ => 0), aI E q14 6 (fun _ => 0), aI E q15 24 (fun _ => 0), oX7 q16 0 q17 q18 q19, aI E q17 6 (fun _ => 0), aI E q18 6 (fun _ => 0), aI E q19 6 (fun _ => 0)]) 0 C hi fpF_X11_35 rfl rfl rfl (Nat.le_of_ble_eq_true rfl) rfl dX11_init_49 ?_
  refine g_aload_n (pc := 52) C dX11_init_52 0 rfl ?_
  refine g_new (pc := 53) C nw_X11_39 (by decide) (by decide) dX11_init_53 (fun q20 => ?_)
  refine g_eqw (ws' := [(a, .inr (11, [.ref q1, .ref q3, .ref q10, .ref q16, .null, .null, .null, .null, .null, .null, .int 0])), oX8 q1 q2 0, aI E q2 160 (fun _ => 0), oX9 q3 q1 q4 0 0 0 0 3 0, oX1 q4 0 0 0 q5 q6 q7 q8 q9, aI E q5 4 (fun _ => 0), aI E q6 6 (fun _ => 0), aI E q7 6 (fun _ => 0), aI E q8 6 (fun _ => 0), aI E q9 24 (fun _ => 0), oX1 q10 0 0 0 q11 q12 q13 q14 q15, aI E q11 4 (fun _ => 0), aI E q12 6 (fun _ => 0), aI E q13 6 (fun _ => 0), aI E q14 6 (fun _ => 0), aI E q15 24 (fun _ => 0), oX7 q16 0 q17 q18 q19, aI E q17 6 (fun _ => 0), aI E q18 6 (fun _ => 0), aI E q19 6 (fun _ => 0), (q20, .inr (10, [.null, .null, .null, .int 0, .int 0, .int 0]))]) rfl ?_
  refine g_dup (pc := 56) C dX11_init_56 rfl ?_
  refine g_aload_n (pc := 57) C dX11_init_57 0 rfl ?_
  refine g_get (pc := 58) 0 C fl_X11_28 rfl rfl dX11_init_58 ?_
  refine g_callI (pc := 61) (wr := [(a, .inr (11, [.ref q1, .ref q3, .ref q10, .ref q16, .null, .null, .null, .null, .null, .null, .int 0])), oX8 q1 q2 0, aI E q2 160 (fun _ => 0), oX9 q3 q1 q4 0 0 0 0 3 0, oX1 q4 0 0 0 q5 q6 q7 q8 q9, aI E q5 4 (fun _ => 0), aI E q6 6 (fun _ => 0), aI E q7 6 (fun _ => 0), aI E q8 6 (fun _ => 0), aI E q9 24 (fun _ => 0), oX1 q10 0 0 0 q11 q12 q13 q14 q15, aI E q11 4 (fun _ => 0), aI E q12 6 (fun _ => 0), aI E q13 6 (fun _ => 0), aI E q14 6 (fun _ => 0), aI E q15 24 (fun _ => 0), oX7 q16 0 q17 q18 q19, aI E q17 6 (fun _ => 0), aI E q18 6 (fun _ => 0), aI E q19 6 (fun _ => 0)]) (st := [.ref q20, .ref a]) C hN mi_X11_41 (c_X10_init E q20 q10) [20] [0, 1, 2, 3, 4, 5, 6, 7, 8, 9, 10, 11, 12, 13, 14, 15, 16, 17, 18, 19] rfl rfl rfl (by decide +kernel) (by decide) ⟨by decide, by decide⟩ ⟨by decide, by decide⟩ rfl rfl (Nat.le_of_ble_eq_true rfl) dX11_init_61 (fun w' hw' => ?_)
  obtain ⟨q21, q22, q23, q24, q25, q26, q27, q28, q29, rfl⟩ := hw'
  refine g_eqw (ws' := [(a, .inr (11, [.ref q1, .ref q3, .ref q10, .ref q16, .null, .null, .null, .null, .null, .null, .int 0])), oX8 q1 q2 0, aI E q2 160 (fun _ => 0), oX9 q3 q1 q4 0 0 0 0 3 0, oX1 q4 0 0 0 q5 q6 q7 q8 q9, aI E q5 4 (fun _ => 0), aI E q6 6 (fun _ => 0), aI E q7 6 (fun _ => 0), aI E q8 6 (fun _ => 0), aI E q9 24 (fun _ => 0), oX1 q10 0 0 0 q11 q12 q13 q14 q15, aI E q11 4 (fun _ => 0), aI E q12 6 (fun _ => 0), aI E q13 6 (fun _ => 0), aI E q14 6 (fun _ => 0), aI E q15 24 (fun _ => 0), oX7 q16 0 q17 q18 q19, aI E q17 6 (fun _ => 0), aI E q18 6 (fun _ => 0), aI E q19 6 (fun _ => 0), oX10 q20 q10 q21 q27 0 0 ((-4)), oX1 q21 0 0 0 q22 q23 q24 q25 q26, aI E q22 4 (fun _ => 0), aI E q23 6 (fun _ => 0), aI E q24 6 (fun _ => 0), aI E q25 6 (fun _ => 0), aI E q26 24 (fun _ => 0), oX2 q27 q28 q29 0 0, aI E q28 4 (fun _ => 0), aI E q29 4 (fun _ => 0)]) rfl ?_
  refine g_putF (pc := 64) (ws' := [(a, .inr (11, [.ref q1, .ref q3, .ref q10, .ref q16, .ref q20, .null, .null, .null, .null, .null, .int 0])), oX8 q1 q2 0, aI E q2 160 (fun _ => 0), oX9 q3 q1 q4 0 0 0 0 3 0, oX1 q4 0 0 0 q5 q6 q7 q8 q9, aI E q5 4 (fun _ => 0), aI E q6 6 (fun _ => 0), aI E q7 6 (fun _ => 0), aI E q8 6 (fun _ => 0), aI E q9 24 (fun _ => 0), oX1 q10 0 0 0 q11 q12 q13 q14 q15, aI E q11 4 (fun _ => 0), aI E q12 6 (fun _ => 0), aI E q13 6 (fun _ => 0), aI E q14 6 (fun _ => 0), aI E q15 24 (fun _ => 0), oX7 q16 0 q17 q18 q19, aI E q17 6 (fun _ => 0), aI E q18 6 (fun _ => 0), aI E q19 6 (fun _ => 0), oX10 q20 q10 q21 q27 0 0 ((-4)), oX1 q21 0 0 0 q22 q23 q24 q25 q26, aI E q22 4 (fun _ => 0), aI E q23 6 (fun _ => 0), aI E q24 6 (fun _ => 0), aI E q25 6 (fun _ => 0), aI E q26 24 (fun _ => 0), oX2 q27 q28 q29 0 0, aI E q28 4 (fun _ => 0), aI E q29 4 (fun _ => 0)]) 0 C hi fpF_X11_44 rfl rfl rfl (Nat.le_of_ble_eq_true rfl) rfl dX11_init_64 ?_
  refine g_aload_n (pc := 67) C dX11_init_67 0 rfl ?_
  refine g_new (pc := 68) C nw_X11_48 (by decide) (by decide) dX11_init_68 (fun q30 => ?_)
  refine g_eqw (ws' := [(a, .inr (11, [.ref q1, .ref q3, .ref q10, .ref q16, .ref q20, .null, .null, .null, .null, .null, .int 0])), oX8 q1 q2 0, aI E q2 160 (fun _ => 0), oX9 q3 q1 q4 0 0 0 0 3 0, oX1 q4 0 0 0 q5 q6 q7 q8 q9, aI E q5 4 (fun _ => 0), aI E q6 6 (fun _ => 0), aI E q7 6 (fun _ => 0), aI E q8 6 (fun _ => 0), aI E q9 24 (fun _ => 0), oX1 q10 0 0 0 q11 q12 q13 q14 q15, aI E q11 4 (fun _ => 0), aI E q12 6 (fun _ => 0), aI E q13 6 (fun _ => 0), aI E q14 6 (fun _ => 0), aI E q15 24 (fun _ => 0), oX7 q16 0 q17 q18 q19, aI E q17 6 (fun _ => 0), aI E q18 6 (fun _ => 0), aI E q19 6 (fun _ => 0), oX10 q20 q10 q21 q27 0 0 ((-4)), oX1 q21 0 0 0 q22 q23 q24 q25 q26, aI E q22 4 (fun _ => 0), aI E q23 6 (fun _ => 0), aI E q24 6 (fun _ => 0), aI E q25 6 (fun _ => 0), aI E q26 24 (fun _ => 0), oX2 q27 q28 q29 0 0, aI E q28 4 (fun _ => 0), aI E q29 4 (fun _ => 0), (q30, .inr (0, [.null, .null, .int 0, .int 0]))]) rfl ?_
  refine g_dup (pc := 71) C dX11_init_71 rfl ?_
  refine g_aload_n (pc := 72) C dX11_init_72 0 rfl ?_
  refine g_get (pc := 73) 0 C fl_X11_28 rfl rfl dX11_init_73 ?_
  refine g_aload_n (pc := 76) C dX11_init_76 0 rfl ?_
  refine g_get (pc := 77) 0 C fl_X11_44 rfl rfl dX11_init_77 ?_
  refine g_callI (pc := 80) (wr := [(a, .inr (11, [.ref q1, .ref q3, .ref q10, .ref q16, .ref q20, .null, .null, .null, .null, .null, .int 0])), oX8 q1 q2 0, aI E q2 160 (fun _ => 0), oX9 q3 q1 q4 0 0 0 0 3 0, oX1 q4 0 0 0 q5 q6 q7 q8 q9, aI E q5 4 (fun _ => 0), aI E q6 6 (fun _ => 0), aI E q7 6 (fun _ => 0), aI E q8 6 (fun _ => 0), aI E q9 24 (fun _ => 0), oX1 q10 0 0 0 q11 q12 q13 q14 q15, aI E q11 4 (fun _ => 0), aI E q12 6 (fun _ => 0), aI E q13 6 (fun _ => 0), aI E q14 6 (fun _ => 0), aI E q15 24 (fun _ => 0), oX7 q16 0 q17 q18 q19, aI E q17 6 (fun _ => 0), aI E q18 6 (fun _ => 0), aI E q19 6 (fun _ => 0), oX10 q20 q10 q21 q27 0 0 ((-4)), oX1 q21 0 0 0 q22 q23 q24 q25 q26, aI E q22 4 (fun _ => 0), aI E q23 6 (fun _ => 0), aI E q24 6 (fun _ => 0), aI E q25 6 (fun _ => 0), aI E q26 24 (fun _ => 0), oX2 q27 q28 q29 0 0, aI E q28 4 (fun _ => 0), aI E q29 4 (fun _ => 0)]) (st := [.ref q30, .ref a]) C hN mi_X11_50 (c_X0_init E q30 q10 q20) [30] [0, 1, 2, 3, 4, 5, 6, 7, 8, 9, 10, 11, 12, 13, 14, 15, 16, 17, 18, 19, 20, 21, 22, 23, 24, 25, 26, 27, 28, 29] rfl rfl rfl (by decide +kernel) (by decide) ⟨by decide, by decide⟩ ⟨by decide, by decide⟩ rfl rfl (Nat.le_of_ble_eq_true rfl) dX11_init_80 (fun w' hw' => ?_)
  subst hw'
  refine g_eqw (ws' := [(a, .inr (11, [.ref q1, .ref q3, .ref q10, .ref q16, .ref q20, .null, .null, .null, .null, .null, .int 0])), oX8 q1 q2 0, aI E q2 160 (fun _ => 0), oX9 q3 q1 q4 0 0 0 0 3 0, oX1 q4 0 0 0 q5 q6 q7 q8 q9, aI E q5 4 (fun _ => 0), aI E q6 6 (fun _ => 0), aI E q7 6 (fun _ => 0), aI E q8 6 (fun _ => 0), aI E q9 24 (fun _ => 0), oX1 q10 0 0 0 q11 q12 q13 q14 q15, aI E q11 4 (fun _ => 0), aI E q12 6 (fun _ => 0), aI E q13 6 (fun _ => 0), aI E q14 6 (fun _ => 0), aI E q15 24 (fun _ => 0), oX7 q16 0 q17 q18 q19, aI E q17 6 (fun _ => 0), aI E q18 6 (fun _ => 0), aI E q19 6 (fun _ => 0), oX10 q20 q10 q21 q27 0 0 ((-4)), oX1 q21 0 0 0 q22 q23 q24 q25 q26, aI E q22 4 (fun _ => 0), aI E q23 6 (fun _ => 0), aI E q24 6 (fun _ => 0), aI E q25 6 (fun _ => 0), aI E q26 24 (fun _ => 0), oX2 q27 q28 q29 0 0, aI E q28 4 (fun _ => 0), aI E q29 4 (fun _ => 0), oX0 q30 q10 q20 ((-4)) 0]) rfl ?_
  refine g_putF (pc := 83) (ws' := [(a, .inr (11, [.ref q1, .ref q3, .ref q10, .ref q16, .ref q20, .ref q30, .null, .null, .null, .null, .int 0])), oX8 q1 q2 0, aI E q2 160 (fun _ => 0), oX9 q3 q1 q4 0 0 0 0 3 0, oX1 q4 0 0 0 q5 q6 q7 q8 q9, aI E q5 4 (fun _ => 0), aI E q6 6 (fun _ => 0), aI E q7 6 (fun _ => 0), aI E q8 6 (fun _ => 0), aI E q9 24 (fun _ => 0), oX1 q10 0 0 0 q11 q12 q13 q14 q15, aI E q11 4 (fun _ => 0), aI E q12 6 (fun _ => 0), aI E q13 6 (fun _ => 0), aI E q14 6 (fun _ => 0), aI E q15 24 (fun _ => 0), oX7 q16 0 q17 q18 q19, aI E q17 6 (fun _ => 0), aI E q18 6 (fun _ => 0), aI E q19 6 (fun _ => 0), oX10 q20 q10 q21 q27 0 0 ((-4)), oX1 q21 0 0 0 q22 q23 q24 q25 q26, aI E q22 4 (fun _ => 0), aI E q23 6 (fun _ => 0), aI E q24 6 (fun _ => 0), aI E q25 6 (fun _ => 0), aI E q26 24 (fun _ => 0), oX2 q27 q28 q29 0 0, aI E q28 4 (fun _ => 0), aI E q29 4 (fun _ => 0), oX0 q30 q10 q20 ((-4)) 0]) 0 C hi fpF_X11_53 rfl rfl rfl (Nat.le_of_ble_eq_true rfl) rfl dX11_init_83 ?_
  refine g_aload_n (pc := 86) C dX11_init_86 0 rfl ?_
  refine g_new (pc := 87) C nw_X11_57 (by decide) (by decide) dX11_init_87 (fun q31 => ?_)
  refine g_eqw (ws' := [(a, .inr (11, [.ref q1, .ref q3, .ref q10, .ref q16, .ref q20, .ref q30, .null, .null, .null, .null, .int 0])), oX8 q1 q2 0, aI E q2 160 (fun _ => 0), oX9 q3 q1 q4 0 0 0 0 3 0, oX1 q4 0 0 0 q5 q6 q7 q8 q9, aI E q5 4 (fun _ => 0), aI E q6 6 (fun _ => 0), aI E q7 6 (fun _ => 0), aI E q8 6 (fun _ => 0), aI E q9 24 (fun _ => 0), oX1 q10 0 0 0 q11 q12 q13 q14 q15, aI E q11 4 (fun _ => 0), aI E q12 6 (fun _ => 0), aI E q13 6 (fun _ => 0), aI E q14 6 (fun _ => 0), aI E q15 24 (fun _ => 0), oX7 q16 0 q17 q18 q19, aI E q17 6 (fun _ => 0), aI E q18 6 (fun _ => 0), aI E q19 6 (fun _ => 0), oX10 q20 q10 q21 q27 0 0 ((-4)), oX1 q21 0 0 0 q22 q23 q24 q25 q26, aI E q22 4 (fun _ => 0), aI E q23 6 (fun _ => 0), aI E q24 6 (fun _ => 0), aI E q25 6 (fun _ => 0), aI E q26 24 (fun _ => 0), oX2 q27 q28 q29 0 0, aI E q28 4 (fun _ => 0), aI E q29 4 (fun _ => 0), oX0 q30 q10 q20 ((-4)) 0, (q31, .inr (5, [.null, .null]))]) rfl ?_
  refine g_dup (pc := 90) C dX11_init_90 rfl ?_
  refine g_aload_n (pc := 91) C dX11_init_91 0 rfl ?_
  refine g_get (pc := 92) 0 C fl_X11_28 rfl rfl dX11_init_92 ?_
  refine g_aload_n (pc := 95) C dX11_init_95 0 rfl ?_
  refine g_get (pc := 96) 0 C fl_X11_44 rfl rfl dX11_init_96 ?_
  refine g_callI (pc := 99) (wr := [(a, .inr (11, [.ref q1, .ref q3, .ref q10, .ref q16, .ref q20, .ref q30, .null, .null, .null, .null, .int 0])), oX8 q1 q2 0, aI E q2 160 (fun _ => 0), oX9 q3 q1 q4 0 0 0 0 3 0, oX1 q4 0 0 0 q5 q6 q7 q8 q9, aI E q5 4 (fun _ => 0), aI E q6 6 (fun _ => 0), aI E q7 6 (fun _ => 0), aI E q8 6 (fun _ => 0), aI E q9 24 (fun _ => 0), oX1 q10 0 0 0 q11 q12 q13 q14 q15, aI E q11 4 (fun _ => 0), aI E q12 6 (fun _ => 0), aI E q13 6 (fun _ => 0), aI E q14 6 (fun _ => 0), aI E q15 24 (fun _ => 0), oX7 q16 0 q17 q18 q19, aI E q17 6 (fun _ => 0), aI E q18 6 (fun _ => 0), aI E q19 6 (fun _ => 0), oX10 q20 q10 q21 q27 0 0 ((-4)), oX1 q21 0 0 0 q22 q23 q24 q25 q26, aI E q22 4 (fun _ => 0), aI E q23 6 (fun _ => 0), aI E q24 6 (fun _ => 0), aI E q25 6 (fun _ => 0), aI E q26 24 (fun _ => 0), oX2 q27 q28 q29 0 0, aI E q28 4 (fun _ => 0), aI E q29 4 (fun _ => 0), oX0 q30 q10 q20 ((-4)) 0]) (st := [.ref q31, .ref a]) C hN mi_X11_59 (c_X5_init E q31 q10 q20) [31] [0, 1, 2, 3, 4, 5, 6, 7, 8, 9, 10, 11, 12, 13, 14, 15, 16, 17, 18, 19, 20, 21, 22, 23, 24, 25, 26, 27, 28, 29, 30] rfl rfl rfl (by decide +kernel) (by decide) ⟨by decide, by decide⟩ ⟨by decide, by decide⟩ rfl rfl (Nat.le_of_ble_eq_true rfl) dX11_init_99 (fun w' hw' => ?_)
  subst hw'
  refine g_eqw (ws' := [(a, .inr (11, [.ref q1, .ref q3, .ref q10, .ref q16, .ref q20, .ref q30, .null, .null, .null, .null, .int 0])), oX8 q1 q2 0, aI E q2 160 (fun _ => 0), oX9 q3 q1 q4 0 0 0 0 3 0, oX1 q4 0 0 0 q5 q6 q7 q8 q9, aI E q5 4 (fun _ => 0), aI E q6 6 (fun _ => 0), aI E q7 6 (fun _ => 0), aI E q8 6 (fun _ => 0), aI E q9 24 (fun _ => 0), oX1 q10 0 0 0 q11 q12 q13 q14 q15, aI E q11 4 (fun _ => 0), aI E q12 6 (fun _ => 0), aI E q13 6 (fun _ => 0), aI E q14 6 (fun _ => 0), aI E q15 24 (fun _ => 0), oX7 q16 0 q17 q18 q19, aI E q17 6 (fun _ => 0), aI E q18 6 (fun _ => 0), aI E q19 6 (fun _ => 0), oX10 q20 q10 q21 q27 0 0 ((-4)), oX1 q21 0 0 0 q22 q23 q24 q25 q26, aI E q22 4 (fun _ => 0), aI E q23 6 (fun _ => 0), aI E q24 6 (fun _ => 0), aI E q25 6 (fun _ => 0), aI E q26 24 (fun _ => 0), oX2 q27 q28 q29 0 0, aI E q28 4 (fun _ => 0), aI E q29 4 (fun _ => 0), oX0 q30 q10 q20 ((-4)) 0, oX5 q31 q10 q20]) rfl ?_
  refine g_putF (pc := 102) (ws' := [(a, .inr (11, [.ref q1, .ref q3, .ref q10, .ref q16, .ref q20, .ref q30, .ref q31, .null, .null, .null, .int 0])), oX8 q1 q2 0, aI E q2 160 (fun _ => 0), oX9 q3 q1 q4 0 0 0 0 3 0, oX1 q4 0 0 0 q5 q6 q7 q8 q9, aI E q5 4 (fun _ => 0), aI E q6 6 (fun _ => 0), aI E q7 6 (fun _ => 0), aI E q8 6 (fun _ => 0), aI E q9 24 (fun _ => 0), oX1 q10 0 0 0 q11 q12 q13 q14 q15, aI E q11 4 (fun _ => 0), aI E q12 6 (fun _ => 0), aI E q13 6 (fun _ => 0), aI E q14 6 (fun _ => 0), aI E q15 24 (fun _ => 0), oX7 q16 0 q17 q18 q19, aI E q17 6 (fun _ => 0), aI E q18 6 (fun _ => 0), aI E q19 6 (fun _ => 0), oX10 q20 q10 q21 q27 0 0 ((-4)), oX1 q21 0 0 0 q22 q23 q24 q25 q26, aI E q22 4 (fun _ => 0), aI E q23 6 (fun _ => 0), aI E q24 6 (fun _ => 0), aI E q25 6 (fun _ => 0), aI E q26 24 (fun _ => 0), oX2 q27 q28 q29 0 0, aI E q28 4 (fun _ => 0), aI E q29 4 (fun _ => 0), oX0 q30 q10 q20 ((-4)) 0, oX5 q31 q10 q20]) 0 C hi fpF_X11_60 rfl rfl rfl (Nat.le_of_ble_eq_true rfl) rfl dX11_init_102 ?_
  refine g_aload_n (pc := 105) C dX11_init_105 0 rfl ?_
  refine g_new (pc := 106) C nw_X11_64 (by decide) (by decide) dX11_init_106 (fun q32 => ?_)
  refine g_eqw (ws' := [(a, .inr (11, [.ref q1, .ref q3, .ref q10, .ref q16, .ref q20, .ref q30, .ref q31, .null, .null, .null, .int 0])), oX8 q1 q2 0, aI E q2 160 (fun _ => 0), oX9 q3 q1 q4 0 0 0 0 3 0, oX1 q4 0 0 0 q5 q6 q7 q8 q9, aI E q5 4 (fun _ => 0), aI E q6 6 (fun _ => 0), aI E q7 6 (fun _ => 0), aI E q8 6 (fun _ => 0), aI E q9 24 (fun _ => 0), oX1 q10 0 0 0 q11 q12 q13 q14 q15, aI E q11 4 (fun _ => 0), aI E q12 6 (fun _ => 0), aI E q13 6 (fun _ => 0), aI E q14 6 (fun _ => 0), aI E q15 24 (fun _ => 0), oX7 q16 0 q17 q18 q19, aI E q17 6 (fun _ => 0), aI E q18 6 (fun _ => 0), aI E q19 6 (fun _ => 0), oX10 q20 q10 q21 q27 0 0 ((-4)), oX1 q21 0 0 0 q22 q23 q24 q25 q26, aI E q22 4 (fun _ => 0), aI E q23 6 (fun _ => 0), aI E q24 6 (fun _ => 0), aI E q25 6 (fun _ => 0), aI E q26 24 (fun _ => 0), oX2 q27 q28 q29 0 0, aI E q28 4 (fun _ => 0), aI E q29 4 (fun _ => 0), oX0 q30 q10 q20 ((-4)) 0, oX5 q31 q10 q20, (q32, .inr (3, [.null, .null, .null, .null, .int 0, .int 0]))]) rfl ?_
  refine g_dup (pc := 109) C dX11_init_109 rfl ?_
  refine g_aload_n (pc := 110) C dX11_init_110 0 rfl ?_
  refine g_get (pc := 111) 0 C fl_X11_28 rfl rfl dX11_init_111 ?_
  refine g_aload_n (pc := 114) C dX11_init_114 0 rfl ?_
  refine g_get (pc := 115) 0 C fl_X11_35 rfl rfl dX11_init_115 ?_
  refine g_aload_n (pc := 118) C dX11_init_118 0 rfl ?_
  refine g_get (pc := 119) 0 C fl_X11_44 rfl rfl dX11_init_119 ?_
  refine g_callI (pc := 122) (wr := [(a, .inr (11, [.ref q1, .ref q3, .ref q10, .ref q16, .ref q20, .ref q30, .ref q31, .null, .null, .null, .int 0])), oX8 q1 q2 0, aI E q2 160 (fun _ => 0), oX9 q3 q1 q4 0 0 0 0 3 0, oX1 q4 0 0 0 q5 q6 q7 q8 q9, aI E q5 4 (fun _ => 0), aI E q6 6 (fun _ => 0), aI E q7 6 (fun _ => 0), aI E q8 6 (fun _ => 0), aI E q9 24 (fun _ => 0), oX1 q10 0 0 0 q11 q12 q13 q14 q15, aI E q11 4 (fun _ => 0), aI E q12 6 (fun _ => 0), aI E q13 6 (fun _ => 0), aI E q14 6 (fun _ => 0), aI E q15 24 (fun _ => 0), oX7 q16 0 q17 q18 q19, aI E q17 6 (fun _ => 0), aI E q18 6 (fun _ => 0), aI E q19 6 (fun _ => 0), oX10 q20 q10 q21 q27 0 0 ((-4)), oX1 q21 0 0 0 q22 q23 q24 q25 q26, aI E q22 4 (fun _ => 0), aI E q23 6 (fun _ => 0), aI E q24 6 (fun _ => 0), aI E q25 6 (fun _ => 0), aI E q26 24 (fun _ => 0), oX2 q27 q28 q29 0 0, aI E q28 4 (fun _ => 0), aI E q29 4 (fun _ => 0), oX0 q30 q10 q20 ((-4)) 0, oX5 q31 q10 q20]) (st := [.ref q32, .ref a]) C hN mi_X11_66 (c_X3_init E q32 q10 q16 q20) [32] [0, 1, 2, 3, 4, 5, 6, 7, 8, 9, 10, 11, 12, 13, 14, 15, 16, 17, 18, 19, 20, 21, 22, 23, 24, 25, 26, 27, 28, 29, 30, 31] rfl rfl rfl (by decide +kernel) (by decide) ⟨by decide, by decide⟩ ⟨by decide, by decide⟩ rfl rfl (Nat.le_of_ble_eq_true rfl) dX11_init_122 (fun w' hw' => ?_)
  obtain ⟨q33, q34, q35, q36, q37, rfl⟩ := hw'
  refine g_eqw (ws' := [(a, .inr (11, [.ref q1, .ref q3, .ref q10, .ref q16, .ref q20, .ref q30, .ref q31, .null, .null, .null, .int 0])), oX8 q1 q2 0, aI E q2 160 (fun _ => 0), oX9 q3 q1 q4 0 0 0 0 3 0, oX1 q4 0 0 0 q5 q6 q7 q8 q9, aI E q5 4 (fun _ => 0), aI E q6 6 (fun _ => 0), aI E q7 6 (fun _ => 0), aI E q8 6 (fun _ => 0), aI E q9 24 (fun _ => 0), oX1 q10 0 0 0 q11 q12 q13 q14 q15, aI E q11 4 (fun _ => 0), aI E q12 6 (fun _ => 0), aI E q13 6 (fun _ => 0), aI E q14 6 (fun _ => 0), aI E q15 24 (fun _ => 0), oX7 q16 0 q17 q18 q19, aI E q17 6 (fun _ => 0), aI E q18 6 (fun _ => 0), aI E q19 6 (fun _ => 0), oX10 q20 q10 q21 q27 0 0 ((-4)), oX1 q21 0 0 0 q22 q23 q24 q25 q26, aI E q22 4 (fun _ => 0), aI E q23 6 (fun _ => 0), aI E q24 6 (fun _ => 0), aI E q25 6 (fun _ => 0), aI E q26 24 (fun _ => 0), oX2 q27 q28 q29 0 0, aI E q28 4 (fun _ => 0), aI E q29 4 (fun _ => 0), oX0 q30 q10 q20 ((-4)) 0, oX5 q31 q10 q20, oX3 q32 q10 q16 q20 q33 ((-4)) 0, aQ E 4 q33 [q34, q35, q36, q37], aI E q34 40 (fun _ => 0), aI E q35 40 (fun _ => 0), aI E q36 40 (fun _ => 0), aI E q37 40 (fun _ => 0)]) rfl ?_
  refine g_putF (pc := 125) (ws' := [(a, .inr (11, [.ref q1, .ref q3, .ref q10, .ref q16, .ref q20, .ref q30, .ref q31, .ref q32, .null, .null, .int 0])), oX8 q1 q2 0, aI E q2 160 (fun _ => 0), oX9 q3 q1 q4 0 0 0 0 3 0, oX1 q4 0 0 0 q5 q6 q7 q8 q9, aI E q5 4 (fun _ => 0), aI E q6 6 (fun _ => 0), aI E q7 6 (fun _ => 0), aI E q8 6 (fun _ => 0), aI E q9 24 (fun _ => 0), oX1 q10 0 0 0 q11 q12 q13 q14 q15, aI E q11 4 (fun _ => 0), aI E q12 6 (fun _ => 0), aI E q13 6 (fun _ => 0), aI E q14 6 (fun _ => 0), aI E q15 24 (fun _ => 0), oX7 q16 0 q17 q18 q19, aI E q17 6 (fun _ => 0), aI E q18 6 (fun _ => 0), aI E q19 6 (fun _ => 0), oX10 q20 q10 q21 q27 0 0 ((-4)), oX1 q21 0 0 0 q22 q23 q24 q25 q26, aI E q22 4 (fun _ => 0), aI E q23 6 (fun _ => 0), aI E q24 6 (fun _ => 0), aI E q25 6 (fun _ => 0), aI E q26 24 (fun _ => 0), oX2 q27 q28 q29 0 0, aI E q28 4 (fun _ => 0), aI E q29 4 (fun _ => 0), oX0 q30 q10 q20 ((-4)) 0, oX5 q31 q10 q20, oX3 q32 q10 q16 q20 q33 ((-4)) 0, aQ E 4 q33 [q34, q35, q36, q37], aI E q34 40 (fun _ => 0), aI E q35 40 (fun _ => 0), aI E q36 40 (fun _ => 0), aI E q37 40 (fun _ => 0)]) 0 C hi fpF_X11_69 rfl rfl rfl (Nat.le_of_ble_eq_true rfl) rfl dX11_init_125 ?_
  refine g_aload_n (pc := 128) C dX11_init_128 0 rfl ?_
  refine g_iconst (pc := 129) (v := 2) C dX11_init_129 (by decide) ?_
  refine g_newQ (pc := 130) 2 2 C kcl_X11_73 hN.2.1 rfl (by decide) (by decide) (by decide) (by decide) (by decide) dX11_init_130 (fun q38 => ?_)
  refine g_eqw (ws' := [(a, .inr (11, [.ref q1, .ref q3, .ref q10, .ref q16, .ref q20, .ref q30, .ref q31, .ref q32, .null, .null, .int 0])), oX8 q1 q2 0, aI E q2 160 (fun _ => 0), oX9 q3 q1 q4 0 0 0 0 3 0, oX1 q4 0 0 0 q5 q6 q7 q8 q9, aI E q5 4 (fun _ => 0), aI E q6 6 (fun _ => 0), aI E q7 6 (fun _ => 0), aI E q8 6 (fun _ => 0), aI E q9 24 (fun _ => 0), oX1 q10 0 0 0 q11 q12 q13 q14 q15, aI E q11 4 (fun _ => 0), aI E q12 6 (fun _ => 0), aI E q13 6 (fun _ => 0), aI E q14 6 (fun _ => 0), aI E q15 24 (fun _ => 0), oX7 q16 0 q17 q18 q19, aI E q17 6 (fun _ => 0), aI E q18 6 (fun _ => 0), aI E q19 6 (fun _ => 0), oX10 q20 q10 q21 q27 0 0 ((-4)), oX1 q21 0 0 0 q22 q23 q24 q25 q26, aI E q22 4 (fun _ => 0), aI E q23 6 (fun _ => 0), aI E q24 6 (fun _ => 0), aI E q25 6 (fun _ => 0), aI E q26 24 (fun _ => 0), oX2 q27 q28 q29 0 0, aI E q28 4 (fun _ => 0), aI E q29 4 (fun _ => 0), oX0 q30 q10 q20 ((-4)) 0, oX5 q31 q10 q20, oX3 q32 q10 q16 q20 q33 ((-4)) 0, aQ E 4 q33 [q34, q35, q36, q37], aI E q34 40 (fun _ => 0), aI E q35 40 (fun _ => 0), aI E q36 40 (fun _ => 0), aI E q37 40 (fun _ => 0), aF E 2 q38 2 (fun _ => none)]) rfl ?_
  refine g_putF (pc := 133) (ws' := [(a, .inr (11, [.ref q1, .ref q3, .ref q10, .ref q16, .ref q20, .ref q30, .ref q31, .ref q32, .ref q38, .null, .int 0])), oX8 q1 q2 0, aI E q2 160 (fun _ => 0), oX9 q3 q1 q4 0 0 0 0 3 0, oX1 q4 0 0 0 q5 q6 q7 q8 q9, aI E q5 4 (fun _ => 0), aI E q6 6 (fun _ => 0), aI E q7 6 (fun _ => 0), aI E q8 6 (fun _ => 0), aI E q9 24 (fun _ => 0), oX1 q10 0 0 0 q11 q12 q13 q14 q15, aI E q11 4 (fun _ => 0), aI E q12 6 (fun _ => 0), aI E q13 6 (fun _ => 0), aI E q14 6 (fun _ => 0), aI E q15 24 (fun _ => 0), oX7 q16 0 q17 q18 q19, aI E q17 6 (fun _ => 0), aI E q18 6 (fun _ => 0), aI E q19 6 (fun _ => 0), oX10 q20 q10 q21 q27 0 0 ((-4)), oX1 q21 0 0 0 q22 q23 q24 q25 q26, aI E q22 4 (fun _ => 0), aI E q23 6 (fun _ => 0), aI E q24 6 (fun _ => 0), aI E q25 6 (fun _ => 0), aI E q26 24 (fun _ => 0), oX2 q27 q28 q29 0 0, aI E q28 4 (fun _ => 0), aI E q29 4 (fun _ => 0), oX0 q30 q10 q20 ((-4)) 0, oX5 q31 q10 q20, oX3 q32 q10 q16 q20 q33 ((-4)) 0, aQ E 4 q33 [q34, q35, q36, q37], aI E q34 40 (fun _ => 0), aI E q35 40 (fun _ => 0), aI E q36 40 (fun _ => 0), aI E q37 40 (fun _ => 0), aF E 2 q38 2 (fun _ => none)]) 0 C hi fpF_X11_75 rfl rfl rfl (Nat.le_of_ble_eq_true rfl) rfl dX11_init_133 ?_
  refine g_aload_n (pc := 136) C dX11_init_136 0 rfl ?_
  refine g_iconst (pc := 137) (v := 4) C dX11_init_137 (by decide) ?_
  refine g_newQ (pc := 138) 3 4 C kcl_X11_79 hN.2.2.1 rfl (by decide) (by decide) (by decide) (by decide) (by decide) dX11_init_138 (fun q39 => ?_)
  refine g_eqw (ws' := [(a, .inr (11, [.ref q1, .ref q3, .ref q10, .ref q16, .ref q20, .ref q30, .ref q31, .ref q32, .ref q38, .null, .int 0])), oX8 q1 q2 0, aI E q2 160 (fun _ => 0), oX9 q3 q1 q4 0 0 0 0 3 0, oX1 q4 0 0 0 q5 q6 q7 q8 q9, aI E q5 4 (fun _ => 0), aI E q6 6 (fun _ => 0), aI E q7 6 (fun _ => 0), aI E q8 6 (fun _ => 0), aI E q9 24 (fun _ => 0), oX1 q10 0 0 0 q11 q12 q13 q14 q15, aI E q11 4 (fun _ => 0), aI E q12 6 (fun _ => 0), aI E q13 6 (fun _ => 0), aI E q14 6 (fun _ => 0), aI E q15 24 (fun _ => 0), oX7 q16 0 q17 q18 q19, aI E q17 6 (fun _ => 0), aI E q18 6 (fun _ => 0), aI E q19 6 (fun _ => 0), oX10 q20 q10 q21 q27 0 0 ((-4)), oX1 q21 0 0 0 q22 q23 q24 q25 q26, aI E q22 4 (fun _ => 0), aI E q23 6 (fun _ => 0), aI E q24 6 (fun _ => 0), aI E q25 6 (fun _ => 0), aI E q26 24 (fun _ => 0), oX2 q27 q28 q29 0 0, aI E q28 4 (fun _ => 0), aI E q29 4 (fun _ => 0), oX0 q30 q10 q20 ((-4)) 0, oX5 q31 q10 q20, oX3 q32 q10 q16 q20 q33 ((-4)) 0, aQ E 4 q33 [q34, q35, q36, q37], aI E q34 40 (fun _ => 0), aI E q35 40 (fun _ => 0), aI E q36 40 (fun _ => 0), aI E q37 40 (fun _ => 0), aF E 2 q38 2 (fun _ => none), aF E 3 q39 4 (fun _ => none)]) rfl ?_
  refine g_putF (pc := 141) (ws' := [oX11 a q1 q3 q10 q16 q20 q30 q31 q32 q38 q39 0, oX8 q1 q2 0, aI E q2 160 (fun _ => 0), oX9 q3 q1 q4 0 0 0 0 3 0, oX1 q4 0 0 0 q5 q6 q7 q8 q9, aI E q5 4 (fun _ => 0), aI E q6 6 (fun _ => 0), aI E q7 6 (fun _ => 0), aI E q8 6 (fun _ => 0), aI E q9 24 (fun _ => 0), oX1 q10 0 0 0 q11 q12 q13 q14 q15, aI E q11 4 (fun _ => 0), aI E q12 6 (fun _ => 0), aI E q13 6 (fun _ => 0), aI E q14 6 (fun _ => 0), aI E q15 24 (fun _ => 0), oX7 q16 0 q17 q18 q19, aI E q17 6 (fun _ => 0), aI E q18 6 (fun _ => 0), aI E q19 6 (fun _ => 0), oX10 q20 q10 q21 q27 0 0 ((-4)), oX1 q21 0 0 0 q22 q23 q24 q25 q26, aI E q22 4 (fun _ => 0), aI E q23 6 (fun _ => 0), aI E q24 6 (fun _ => 0), aI E q25 6 (fun _ => 0), aI E q26 24 (fun _ => 0), oX2 q27 q28 q29 0 0, aI E q28 4 (fun _ => 0), aI E q29 4 (fun _ => 0), oX0 q30 q10 q20 ((-4)) 0, oX5 q31 q10 q20, oX3 q32 q10 q16 q20 q33 ((-4)) 0, aQ E 4 q33 [q34, q35, q36, q37], aI E q34 40 (fun _ => 0), aI E q35 40 (fun _ => 0), aI E q36 40 (fun _ => 0), aI E q37 40 (fun _ => 0), aF E 2 q38 2 (fun _ => none), aF E 3 q39 4 (fun _ => none)]) 0 C hi fpF_X11_81 rfl rfl rfl (Nat.le_of_ble_eq_true rfl) rfl dX11_init_141 ?_
  refine g_aload_n (pc := 144) C dX11_init_144 0 rfl ?_
  refine g_iconst (pc := 145) (v := 0) C dX11_init_145 (by decide) ?_
  refine g_put (pc := 146) (ws' := [oX11 a q1 q3 q10 q16 q20 q30 q31 q32 q38 q39 0, oX8 q1 q2 0, aI E q2 160 (fun _ => 0), oX9 q3 q1 q4 0 0 0 0 3 0, oX1 q4 0 0 0 q5 q6 q7 q8 q9, aI E q5 4 (fun _ => 0), aI E q6 6 (fun _ => 0), aI E q7 6 (fun _ => 0), aI E q8 6 (fun _ => 0), aI E q9 24 (fun _ => 0), oX1 q10 0 0 0 q11 q12 q13 q14 q15, aI E q11 4 (fun _ => 0), aI E q12 6 (fun _ => 0), aI E q13 6 (fun _ => 0), aI E q14 6 (fun _ => 0), aI E q15 24 (fun _ => 0), oX7 q16 0 q17 q18 q19, aI E q17 6 (fun _ => 0), aI E q18 6 (fun _ => 0), aI E q19 6 (fun _ => 0), oX10 q20 q10 q21 q27 0 0 ((-4)), oX1 q21 0 0 0 q22 q23 q24 q25 q26, aI E q22 4 (fun _ => 0), aI E q23 6 (fun _ => 0), aI E q24 6 (fun _ => 0), aI E q25 6 (fun _ => 0), aI E q26 24 (fun _ => 0), oX2 q27 q28 q29 0 0, aI E q28 4 (fun _ => 0), aI E q29 4 (fun _ => 0), oX0 q30 q10 q20 ((-4)) 0, oX5 q31 q10 q20, oX3 q32 q10 q16 q20 q33 ((-4)) 0, aQ E 4 q33 [q34, q35, q36, q37], aI E q34 40 (fun _ => 0), aI E q35 40 (fun _ => 0), aI E q36 40 (fun _ => 0), aI E q37 40 (fun _ => 0), aF E 2 q38 2 (fun _ => none), aF E 3 q39 4 (fun _ => none)]) 0 C fp_X11_85 rfl rfl rfl (Nat.le_of_ble_eq_true rfl) rfl dX11_init_146 ?_
  refine g_iconst (pc := 149) (v := 0) C dX11_init_149 (by decide) ?_
  refine g_istore_n (pc := 150) (lv' := [(1, .int 0), (0, .ref a)]) C dX11_init_150 (by decide) rfl ?_
  refine g_iload_n (pc := 151) C dX11_init_151 0 rfl ?_
  refine g_iconst (pc := 152) (v := 2) C dX11_init_152 (by decide) ?_
  refine b_icmp_ge (pc := 153) (F1 := (none : Option Unit)) (F2 := some ()) (r := ()) 175 C dX11_init_153 (by decide) (if_neg (by decide)) (fun c _ => absurd c (by decide)) (fun _ _ => ?_)
  refine g_aload_n (pc := 156) C dX11_init_156 1 rfl ?_
  refine g_get (pc := 157) 0 C fl_X11_75 rfl rfl dX11_init_157 ?_
  refine g_iload_n (pc := 160) C dX11_init_160 0 rfl ?_
  refine g_new (pc := 161) C nw_X11_73 (by decide) (by decide) dX11_init_161 (fun q40 => ?_)
  refine g_eqw (ws' := [oX11 a q1 q3 q10 q16 q20 q30 q31 q32 q38 q39 0, oX8 q1 q2 0, aI E q2 160 (fun _ => 0), oX9 q3 q1 q4 0 0 0 0 3 0, oX1 q4 0 0 0 q5 q6 q7 q8 q9, aI E q5 4 (fun _ => 0), aI E q6 6 (fun _ => 0), aI E q7 6 (fun _ => 0), aI E q8 6 (fun _ => 0), aI E q9 24 (fun _ => 0), oX1 q10 0 0 0 q11 q12 q13 q14 q15, aI E q11 4 (fun _ => 0), aI E q12 6 (fun _ => 0), aI E q13 6 (fun _ => 0), aI E q14 6 (fun _ => 0), aI E q15 24 (fun _ => 0), oX7 q16 0 q17 q18 q19, aI E q17 6 (fun _ => 0), aI E q18 6 (fun _ => 0), aI E q19 6 (fun _ => 0), oX10 q20 q10 q21 q27 0 0 ((-4)), oX1 q21 0 0 0 q22 q23 q24 q25 q26, aI E q22 4 (fun _ => 0), aI E q23 6 (fun _ => 0), aI E q24 6 (fun _ => 0), aI E q25 6 (fun _ => 0), aI E q26 24 (fun _ => 0), oX2 q27 q28 q29 0 0, aI E q28 4 (fun _ => 0), aI E q29 4 (fun _ => 0), oX0 q30 q10 q20 ((-4)) 0, oX5 q31 q10 q20, oX3 q32 q10 q16 q20 q33 ((-4)) 0, aQ E 4 q33 [q34, q35, q36, q37], aI E q34 40 (fun _ => 0), aI E q35 40 (fun _ => 0), aI E q36 40 (fun _ => 0), aI E q37 40 (fun _ => 0), aF E 2 q38 2 (fun _ => none), aF E 3 q39 4 (fun _ => none), (q40, .inr (4, [.null, .null, .int 0]))]) rfl ?_
  refine g_dup (pc := 164) C dX11_init_164 rfl ?_
  refine g_callN (pc := 165) (wr := [oX11 a q1 q3 q10 q16 q20 q30 q31 q32 q38 q39 0, oX8 q1 q2 0, aI E q2 160 (fun _ => 0), oX9 q3 q1 q4 0 0 0 0 3 0, oX1 q4 0 0 0 q5 q6 q7 q8 q9, aI E q5 4 (fun _ => 0), aI E q6 6 (fun _ => 0), aI E q7 6 (fun _ => 0), aI E q8 6 (fun _ => 0), aI E q9 24 (fun _ => 0), oX1 q10 0 0 0 q11 q12 q13 q14 q15, aI E q11 4 (fun _ => 0), aI E q12 6 (fun _ => 0), aI E q13 6 (fun _ => 0), aI E q14 6 (fun _ => 0), aI E q15 24 (fun _ => 0), oX7 q16 0 q17 q18 q19, aI E q17 6 (fun _ => 0), aI E q18 6 (fun _ => 0), aI E q19 6 (fun _ => 0), oX10 q20 q10 q21 q27 0 0 ((-4)), oX1 q21 0 0 0 q22 q23 q24 q25 q26, aI E q22 4 (fun _ => 0), aI E q23 6 (fun _ => 0), aI E q24 6 (fun _ => 0), aI E q25 6 (fun _ => 0), aI E q26 24 (fun _ => 0), oX2 q27 q28 q29 0 0, aI E q28 4 (fun _ => 0), aI E q29 4 (fun _ => 0), oX0 q30 q10 q20 ((-4)) 0, oX5 q31 q10 q20, oX3 q32 q10 q16 q20 q33 ((-4)) 0, aQ E 4 q33 [q34, q35, q36, q37], aI E q34 40 (fun _ => 0), aI E q35 40 (fun _ => 0), aI E q36 40 (fun _ => 0), aI E q37 40 (fun _ => 0), aF E 2 q38 2 (fun _ => none), aF E 3 q39 4 (fun _ => none)]) (st := [.ref q40, .int 0, .ref q38]) C hN mn_X11_89 (c_X4_init E q40) [40] [0, 1, 2, 3, 4, 5, 6, 7, 8, 9, 10, 11, 12, 13, 14, 15, 16, 17, 18, 19, 20, 21, 22, 23, 24, 25, 26, 27, 28, 29, 30, 31, 32, 33, 34, 35, 36, 37, 38, 39] rfl rfl rfl (by decide +kernel) (by decide) ⟨by decide, by decide⟩ ⟨by decide, by decide⟩ rfl rfl (Nat.le_of_ble_eq_true rfl) dX11_init_165 (fun w' hw' => ?_)
  obtain ⟨q41, q42, q43, q44, q45, q46, q47, q48, q49, q50, rfl⟩ := hw'
  refine g_eqw (ws' := [oX11 a q1 q3 q10 q16 q20 q30 q31 q32 q38 q39 0, oX8 q1 q2 0, aI E q2 160 (fun _ => 0), oX9 q3 q1 q4 0 0 0 0 3 0, oX1 q4 0 0 0 q5 q6 q7 q8 q9, aI E q5 4 (fun _ => 0), aI E q6 6 (fun _ => 0), aI E q7 6 (fun _ => 0), aI E q8 6 (fun _ => 0), aI E q9 24 (fun _ => 0), oX1 q10 0 0 0 q11 q12 q13 q14 q15, aI E q11 4 (fun _ => 0), aI E q12 6 (fun _ => 0), aI E q13 6 (fun _ => 0), aI E q14 6 (fun _ => 0), aI E q15 24 (fun _ => 0), oX7 q16 0 q17 q18 q19, aI E q17 6 (fun _ => 0), aI E q18 6 (fun _ => 0), aI E q19 6 (fun _ => 0), oX10 q20 q10 q21 q27 0 0 ((-4)), oX1 q21 0 0 0 q22 q23 q24 q25 q26, aI E q22 4 (fun _ => 0), aI E q23 6 (fun _ => 0), aI E q24 6 (fun _ => 0), aI E q25 6 (fun _ => 0), aI E q26 24 (fun _ => 0), oX2 q27 q28 q29 0 0, aI E q28 4 (fun _ => 0), aI E q29 4 (fun _ => 0), oX0 q30 q10 q20 ((-4)) 0, oX5 q31 q10 q20, oX3 q32 q10 q16 q20 q33 ((-4)) 0, aQ E 4 q33 [q34, q35, q36, q37], aI E q34 40 (fun _ => 0), aI E q35 40 (fun _ => 0), aI E q36 40 (fun _ => 0), aI E q37 40 (fun _ => 0), aF E 2 q38 2 (fun _ => none), aF E 3 q39 4 (fun _ => none), oX4 q40 q41 q47 0, oX1 q41 0 0 0 q42 q43 q44 q45 q46, aI E q42 4 (fun _ => 0), aI E q43 6 (fun _ => 0), aI E q44 6 (fun _ => 0), aI E q45 6 (fun _ => 0), aI E q46 24 (fun _ => 0), oX7 q47 0 q48 q49 q50, aI E q48 6 (fun _ => 0), aI E q49 6 (fun _ => 0), aI E q50 6 (fun _ => 0)]) rfl ?_
  refine g_astq (pc := 168) (ws' := [oX11 a q1 q3 q10 q16 q20 q30 q31 q32 q38 q39 0, oX8 q1 q2 0, aI E q2 160 (fun _ => 0), oX9 q3 q1 q4 0 0 0 0 3 0, oX1 q4 0 0 0 q5 q6 q7 q8 q9, aI E q5 4 (fun _ => 0), aI E q6 6 (fun _ => 0), aI E q7 6 (fun _ => 0), aI E q8 6 (fun _ => 0), aI E q9 24 (fun _ => 0), oX1 q10 0 0 0 q11 q12 q13 q14 q15, aI E q11 4 (fun _ => 0), aI E q12 6 (fun _ => 0), aI E q13 6 (fun _ => 0), aI E q14 6 (fun _ => 0), aI E q15 24 (fun _ => 0), oX7 q16 0 q17 q18 q19, aI E q17 6 (fun _ => 0), aI E q18 6 (fun _ => 0), aI E q19 6 (fun _ => 0), oX10 q20 q10 q21 q27 0 0 ((-4)), oX1 q21 0 0 0 q22 q23 q24 q25 q26, aI E q22 4 (fun _ => 0), aI E q23 6 (fun _ => 0), aI E q24 6 (fun _ => 0), aI E q25 6 (fun _ => 0), aI E q26 24 (fun _ => 0), oX2 q27 q28 q29 0 0, aI E q28 4 (fun _ => 0), aI E q29 4 (fun _ => 0), oX0 q30 q10 q20 ((-4)) 0, oX5 q31 q10 q20, oX3 q32 q10 q16 q20 q33 ((-4)) 0, aQ E 4 q33 [q34, q35, q36, q37], aI E q34 40 (fun _ => 0), aI E q35 40 (fun _ => 0), aI E q36 40 (fun _ => 0), aI E q37 40 (fun _ => 0), aF E 2 q38 2 (va_up (fun _ => none) (ix 0) (some q40)), aF E 3 q39 4 (fun _ => none), oX4 q40 q41 q47 0, oX1 q41 0 0 0 q42 q43 q44 q45 q46, aI E q42 4 (fun _ => 0), aI E q43 6 (fun _ => 0), aI E q44 6 (fun _ => 0), aI E q45 6 (fun _ => 0), aI E q46 24 (fun _ => 0), oX7 q47 0 q48 q49 q50, aI E q48 6 (fun _ => 0), aI E q49 6 (fun _ => 0), aI E q50 6 (fun _ => 0)]) 38 40 C rfl rfl rfl rfl (by decide) rfl dX11_init_168 ?_
  refine g_iinc (pc := 169) (v := 1) (lv' := [(1, .int 1), (0, .ref a)]) C dX11_init_169 0 rfl (by decide) (by decide) rfl ?_
  refine g_goto (pc := 172) 151 C dX11_init_172 (by decide) ?_
  refine g_iload_n (pc := 151) C dX11_init_151 0 rfl ?_
  refine g_iconst (pc := 152) (v := 2) C dX11_init_152 (by decide) ?_
  refine b_icmp_ge (pc := 153) (F1 := (none : Option Unit)) (F2 := some ()) (r := ()) 175 C dX11_init_153 (by decide) (if_neg (by decide)) (fun c _ => absurd c (by decide)) (fun _ _ => ?_)
  refine g_aload_n (pc := 156) C dX11_init_156 1 rfl ?_
  refine g_get (pc := 157) 0 C fl_X11_75 rfl rfl dX11_init_157 ?_
  refine g_iload_n (pc := 160) C dX11_init_160 0 rfl ?_
  refine g_new (pc := 161) C nw_X11_73 (by decide) (by decide) dX11_init_161 (fun q51 => ?_)
  refine g_eqw (ws' := [oX11 a q1 q3 q10 q16 q20 q30 q31 q32 q38 q39 0, oX8 q1 q2 0, aI E q2 160 (fun _ => 0), oX9 q3 q1 q4 0 0 0 0 3 0, oX1 q4 0 0 0 q5 q6 q7 q8 q9, aI E q5 4 (fun _ => 0), aI E q6 6 (fun _ => 0), aI E q7 6 (fun _ => 0), aI E q8 6 (fun _ => 0), aI E q9 24 (fun _ => 0), oX1 q10 0 0 0 q11 q12 q13 q14 q15, aI E q11 4 (fun _ => 0), aI E q12 6 (fun _ => 0), aI E q13 6 (fun _ => 0), aI E q14 6 (fun _ => 0), aI E q15 24 (fun _ => 0), oX7 q16 0 q17 q18 q19, aI E q17 6 (fun _ => 0), aI E q18 6 (fun _ => 0), aI E q19 6 (fun _ => 0), oX10 q20 q10 q21 q27 0 0 ((-4)), oX1 q21 0 0 0 q22 q23 q24 q25 q26, aI E q22 4 (fun _ => 0), aI E q23 6 (fun _ => 0), aI E q24 6 (fun _ => 0), aI E q25 6 (fun _ => 0), aI E q26 24 (fun _ => 0), oX2 q27 q28 q29 0 0, aI E q28 4 (fun _ => 0), aI E q29 4 (fun _ => 0), oX0 q30 q10 q20 ((-4)) 0, oX5 q31 q10 q20, oX3 q32 q10 q16 q20 q33 ((-4)) 0, aQ E 4 q33 [q34, q35, q36, q37], aI E q34 40 (fun _ => 0), aI E q35 40 (fun _ => 0), aI E q36 40 (fun _ => 0), aI E q37 40 (fun _ => 0), aF E 2 q38 2 (va_up (fun _ => none) (ix 0) (some q40)), aF E 3 q39 4 (fun _ => none), oX4 q40 q41 q47 0, oX1 q41 0 0 0 q42 q43 q44 q45 q46, aI E q42 4 (fun _ => 0), aI E q43 6 (fun _ => 0), aI E q44 6 (fun _ => 0), aI E q45 6 (fun _ => 0), aI E q46 24 (fun _ => 0), oX7 q47 0 q48 q49 q50, aI E q48 6 (fun _ => 0), aI E q49 6 (fun _ => 0), aI E q50 6 (fun _ => 0), (q51, .inr (4, [.null, .null, .int 0]))]) rfl ?_
  refine g_dup (pc := 164) C dX11_init_164 rfl ?_
  refine g_callN (pc := 165) (wr := [oX11 a q1 q3 q10 q16 q20 q30 q31 q32 q38 q39 0, oX8 q1 q2 0, aI E q2 160 (fun _ => 0), oX9 q3 q1 q4 0 0 0 0 3 0, oX1 q4 0 0 0 q5 q6 q7 q8 q9, aI E q5 4 (fun _ => 0), aI E q6 6 (fun _ => 0), aI E q7 6 (fun _ => 0), aI E q8 6 (fun _ => 0), aI E q9 24 (fun _ => 0), oX1 q10 0 0 0 q11 q12 q13 q14 q15, aI E q11 4 (fun _ => 0), aI E q12 6 (fun _ => 0), aI E q13 6 (fun _ => 0), aI E q14 6 (fun _ => 0), aI E q15 24 (fun _ => 0), oX7 q16 0 q17 q18 q19, aI E q17 6 (fun _ => 0), aI E q18 6 (fun _ => 0), aI E q19 6 (fun _ => 0), oX10 q20 q10 q21 q27 0 0 ((-4)), oX1 q21 0 0 0 q22 q23 q24 q25 q26, aI E q22 4 (fun _ => 0), aI E q23 6 (fun _ => 0), aI E q24 6 (fun _ => 0), aI E q25 6 (fun _ => 0), aI E q26 24 (fun _ => 0), oX2 q27 q28 q29 0 0, aI E q28 4 (fun _ => 0), aI E q29 4 (fun _ => 0), oX0 q30 q10 q20 ((-4)) 0, oX5 q31 q10 q20, oX3 q32 q10 q16 q20 q33 ((-4)) 0, aQ E 4 q33 [q34, q35, q36, q37], aI E q34 40 (fun _ => 0), aI E q35 40 (fun _ => 0), aI E q36 40 (fun _ => 0), aI E q37 40 (fun _ => 0), aF E 2 q38 2 (va_up (fun _ => none) (ix 0) (some q40)), aF E 3 q39 4 (fun _ => none), oX4 q40 q41 q47 0, oX1 q41 0 0 0 q42 q43 q44 q45 q46, aI E q42 4 (fun _ => 0), aI E q43 6 (fun _ => 0), aI E q44 6 (fun _ => 0), aI E q45 6 (fun _ => 0), aI E q46 24 (fun _ => 0), oX7 q47 0 q48 q49 q50, aI E q48 6 (fun _ => 0), aI E q49 6 (fun _ => 0), aI E q50 6 (fun _ => 0)]) (st := [.ref q51, .int 1, .ref q38]) C hN mn_X11_89 (c_X4_init E q51) [51] [0, 1, 2, 3, 4, 5, 6, 7, 8, 9, 10, 11, 12, 13, 14, 15, 16, 17, 18, 19, 20, 21, 22, 23, 24, 25, 26, 27, 28, 29, 30, 31, 32, 33, 34, 35, 36, 37, 38, 39, 40, 41, 42, 43, 44, 45, 46, 47, 48, 49, 50] rfl rfl rfl (by decide +kernel) (by decide) ⟨by decide, by decide⟩ ⟨by decide, by decide⟩ rfl rfl (Nat.le_of_ble_eq_true rfl) dX11_init_165 (fun w' hw' => ?_)
  obtain ⟨q52, q53, q54, q55, q56, q57, q58, q59, q60, q61, rfl⟩ := hw'
  refine g_eqw (ws' := [oX11 a q1 q3 q10 q16 q20 q30 q31 q32 q38 q39 0, oX8 q1 q2 0, aI E q2 160 (fun _ => 0), oX9 q3 q1 q4 0 0 0 0 3 0, oX1 q4 0 0 0 q5 q6 q7 q8 q9, aI E q5 4 (fun _ => 0), aI E q6 6 (fun _ => 0), aI E q7 6 (fun _ => 0), aI E q8 6 (fun _ => 0), aI E q9 24 (fun _ => 0), oX1 q10 0 0 0 q11 q12 q13 q14 q15, aI E q11 4 (fun _ => 0), aI E q12 6 (fun _ => 0), aI E q13 6 (fun _ => 0), aI E q14 6 (fun _ => 0), aI E q15 24 (fun _ => 0), oX7 q16 0 q17 q18 q19, aI E q17 6 (fun _ => 0), aI E q18 6 (fun _ => 0), aI E q19 6 (fun _ => 0), oX10 q20 q10 q21 q27 0 0 ((-4)), oX1 q21 0 0 0 q22 q23 q24 q25 q26, aI E q22 4 (fun _ => 0), aI E q23 6 (fun _ => 0), aI E q24 6 (fun _ => 0), aI E q25 6 (fun _ => 0), aI E q26 24 (fun _ => 0), oX2 q27 q28 q29 0 0, aI E q28 4 (fun _ => 0), aI E q29 4 (fun _ => 0), oX0 q30 q10 q20 ((-4)) 0, oX5 q31 q10 q20, oX3 q32 q10 q16 q20 q33 ((-4)) 0, aQ E 4 q33 [q34, q35, q36, q37], aI E q34 40 (fun _ => 0), aI E q35 40 (fun _ => 0), aI E q36 40 (fun _ => 0), aI E q37 40 (fun _ => 0), aF E 2 q38 2 (va_up (fun _ => none) (ix 0) (some q40)), aF E 3 q39 4 (fun _ => none), oX4 q40 q41 q47 0, oX1 q41 0 0 0 q42 q43 q44 q45 q46, aI E q42 4 (fun _ => 0), aI E q43 6 (fun _ => 0), aI E q44 6 (fun _ => 0), aI E q45 6 (fun _ => 0), aI E q46 24 (fun _ => 0), oX7 q47 0 q48 q49 q50, aI E q48 6 (fun _ => 0), aI E q49 6 (fun _ => 0), aI E q50 6 (fun _ => 0), oX4 q51 q52 q58 0, oX1 q52 0 0 0 q53 q54 q55 q56 q57, aI E q53 4 (fun _ => 0), aI E q54 6 (fun _ => 0), aI E q55 6 (fun _ => 0), aI E q56 6 (fun _ => 0), aI E q57 24 (fun _ => 0), oX7 q58 0 q59 q60 q61, aI E q59 6 (fun _ => 0), aI E q60 6 (fun _ => 0), aI E q61 6 (fun _ => 0)]) rfl ?_
  refine g_astq (pc := 168) (ws' := [oX11 a q1 q3 q10 q16 q20 q30 q31 q32 q38 q39 0, oX8 q1 q2 0, aI E q2 160 (fun _ => 0), oX9 q3 q1 q4 0 0 0 0 3 0, oX1 q4 0 0 0 q5 q6 q7 q8 q9, aI E q5 4 (fun _ => 0), aI E q6 6 (fun _ => 0), aI E q7 6 (fun _ => 0), aI E q8 6 (fun _ => 0), aI E q9 24 (fun _ => 0), oX1 q10 0 0 0 q11 q12 q13 q14 q15, aI E q11 4 (fun _ => 0), aI E q12 6 (fun _ => 0), aI E q13 6 (fun _ => 0), aI E q14 6 (fun _ => 0), aI E q15 24 (fun _ => 0), oX7 q16 0 q17 q18 q19, aI E q17 6 (fun _ => 0), aI E q18 6 (fun _ => 0), aI E q19 6 (fun _ => 0), oX10 q20 q10 q21 q27 0 0 ((-4)), oX1 q21 0 0 0 q22 q23 q24 q25 q26, aI E q22 4 (fun _ => 0), aI E q23 6 (fun _ => 0), aI E q24 6 (fun _ => 0), aI E q25 6 (fun _ => 0), aI E q26 24 (fun _ => 0), oX2 q27 q28 q29 0 0, aI E q28 4 (fun _ => 0), aI E q29 4 (fun _ => 0), oX0 q30 q10 q20 ((-4)) 0, oX5 q31 q10 q20, oX3 q32 q10 q16 q20 q33 ((-4)) 0, aQ E 4 q33 [q34, q35, q36, q37], aI E q34 40 (fun _ => 0), aI E q35 40 (fun _ => 0), aI E q36 40 (fun _ => 0), aI E q37 40 (fun _ => 0), aF E 2 q38 2 (va_up (va_up (fun _ => none) (ix 0) (some q40)) (ix 1) (some q51)), aF E 3 q39 4 (fun _ => none), oX4 q40 q41 q47 0, oX1 q41 0 0 0 q42 q43 q44 q45 q46, aI E q42 4 (fun _ => 0), aI E q43 6 (fun _ => 0), aI E q44 6 (fun _ => 0), aI E q45 6 (fun _ => 0), aI E q46 24 (fun _ => 0), oX7 q47 0 q48 q49 q50, aI E q48 6 (fun _ => 0), aI E q49 6 (fun _ => 0), aI E q50 6 (fun _ => 0), oX4 q51 q52 q58 0, oX1 q52 0 0 0 q53 q54 q55 q56 q57, aI E q53 4 (fun _ => 0), aI E q54 6 (fun _ => 0), aI E q55 6 (fun _ => 0), aI E q56 6 (fun _ => 0), aI E q57 24 (fun _ => 0), oX7 q58 0 q59 q60 q61, aI E q59 6 (fun _ => 0), aI E q60 6 (fun _ => 0), aI E q61 6 (fun _ => 0)]) 38 51 C rfl rfl rfl rfl (by decide) rfl dX11_init_168 ?_
  refine g_iinc (pc := 169) (v := 2) (lv' := [(1, .int 2), (0, .ref a)]) C dX11_init_169 0 rfl (by decide) (by decide) rfl ?_
  refine g_goto (pc := 172) 151 C dX11_init_172 (by decide) ?_
  refine g_iload_n (pc := 151) C dX11_init_151 0 rfl ?_
  refine g_iconst (pc := 152) (v := 2) C dX11_init_152 (by decide) ?_
  refine b_icmp_ge (pc := 153) (F1 := some ()) (F2 := (none : Option Unit)) (r := ()) 175 C dX11_init_153 (by decide) (if_pos (by decide)) (fun _ _ => ?_) (fun c _ => absurd (by decide) c)
  refine g_iconst (pc := 175) (v := 0) C dX11_init_175 (by decide) ?_
  refine g_istore_n (pc := 176) (lv' := [(1, .int 0), (0, .ref a)]) C dX11_init_176 (by decide) rfl ?_
  refine g_iload_n (pc := 177) C dX11_init_177 0 rfl ?_
  refine g_iconst (pc := 178) (v := 4) C dX11_init_178 (by decide) ?_
  refine b_icmp_ge (pc := 179) (F1 := (none : Option Unit)) (F2 := some ()) (r := ()) 201 C dX11_init_179 (by decide) (if_neg (by decide)) (fun c _ => absurd c (by decide)) (fun _ _ => ?_)
  refine g_aload_n (pc := 182) C dX11_init_182 1 rfl ?_
  refine g_get (pc := 183) 0 C fl_X11_81 rfl rfl dX11_init_183 ?_
  refine g_iload_n (pc := 186) C dX11_init_186 0 rfl ?_
  refine g_new (pc := 187) C nw_X11_79 (by decide) (by decide) dX11_init_187 (fun q62 => ?_)
  refine g_eqw (ws' := [oX11 a q1 q3 q10 q16 q20 q30 q31 q32 q38 q39 0, oX8 q1 q2 0, aI E q2 160 (fun _ => 0), oX9 q3 q1 q4 0 0 0 0 3 0, oX1 q4 0 0 0 q5 q6 q7 q8 q9, aI E q5 4 (fun _ => 0), aI E q6 6 (fun _ => 0), aI E q7 6 (fun _ => 0), aI E q8 6 (fun _ => 0), aI E q9 24 (fun _ => 0), oX1 q10 0 0 0 q11 q12 q13 q14 q15, aI E q11 4 (fun _ => 0), aI E q12 6 (fun _ => 0), aI E q13 6 (fun _ => 0), aI E q14 6 (fun _ => 0), aI E q15 24 (fun _ => 0), oX7 q16 0 q17 q18 q19, aI E q17 6 (fun _ => 0), aI E q18 6 (fun _ => 0), aI E q19 6 (fun _ => 0), oX10 q20 q10 q21 q27 0 0 ((-4)), oX1 q21 0 0 0 q22 q23 q24 q25 q26, aI E q22 4 (fun _ => 0), aI E q23 6 (fun _ => 0), aI E q24 6 (fun _ => 0), aI E q25 6 (fun _ => 0), aI E q26 24 (fun _ => 0), oX2 q27 q28 q29 0 0, aI E q28 4 (fun _ => 0), aI E q29 4 (fun _ => 0), oX0 q30 q10 q20 ((-4)) 0, oX5 q31 q10 q20, oX3 q32 q10 q16 q20 q33 ((-4)) 0, aQ E 4 q33 [q34, q35, q36, q37], aI E q34 40 (fun _ => 0), aI E q35 40 (fun _ => 0), aI E q36 40 (fun _ => 0), aI E q37 40 (fun _ => 0), aF E 2 q38 2 (va_up (va_up (fun _ => none) (ix 0) (some q40)) (ix 1) (some q51)), aF E 3 q39 4 (fun _ => none), oX4 q40 q41 q47 0, oX1 q41 0 0 0 q42 q43 q44 q45 q46, aI E q42 4 (fun _ => 0), aI E q43 6 (fun _ => 0), aI E q44 6 (fun _ => 0), aI E q45 6 (fun _ => 0), aI E q46 24 (fun _ => 0), oX7 q47 0 q48 q49 q50, aI E q48 6 (fun _ => 0), aI E q49 6 (fun _ => 0), aI E q50 6 (fun _ => 0), oX4 q51 q52 q58 0, oX1 q52 0 0 0 q53 q54 q55 q56 q57, aI E q53 4 (fun _ => 0), aI E q54 6 (fun _ => 0), aI E q55 6 (fun _ => 0), aI E q56 6 (fun _ => 0), aI E q57 24 (fun _ => 0), oX7 q58 0 q59 q60 q61, aI E q59 6 (fun _ => 0), aI E q60 6 (fun _ => 0), aI E q61 6 (fun _ => 0), (q62, .inr (6, [.null, .int 0, .int 0]))]) rfl ?_
  refine g_dup (pc := 190) C dX11_init_190 rfl ?_
  refine g_callN (pc := 191) (wr := [oX11 a q1 q3 q10 q16 q20 q30 q31 q32 q38 q39 0, oX8 q1 q2 0, aI E q2 160 (fun _ => 0), oX9 q3 q1 q4 0 0 0 0 3 0, oX1 q4 0 0 0 q5 q6 q7 q8 q9, aI E q5 4 (fun _ => 0), aI E q6 6 (fun _ => 0), aI E q7 6 (fun _ => 0), aI E q8 6 (fun _ => 0), aI E q9 24 (fun _ => 0), oX1 q10 0 0 0 q11 q12 q13 q14 q15, aI E q11 4 (fun _ => 0), aI E q12 6 (fun _ => 0), aI E q13 6 (fun _ => 0), aI E q14 6 (fun _ => 0), aI E q15 24 (fun _ => 0), oX7 q16 0 q17 q18 q19, aI E q17 6 (fun _ => 0), aI E q18 6 (fun _ => 0), aI E q19 6 (fun _ => 0), oX10 q20 q10 q21 q27 0 0 ((-4)), oX1 q21 0 0 0 q22 q23 q24 q25 q26, aI E q22 4 (fun _ => 0), aI E q23 6 (fun _ => 0), aI E q24 6 (fun _ => 0), aI E q25 6 (fun _ => 0), aI E q26 24 (fun _ => 0), oX2 q27 q28 q29 0 0, aI E q28 4 (fun _ => 0), aI E q29 4 (fun _ => 0), oX0 q30 q10 q20 ((-4)) 0, oX5 q31 q10 q20, oX3 q32 q10 q16 q20 q33 ((-4)) 0, aQ E 4 q33 [q34, q35, q36, q37], aI E q34 40 (fun _ => 0), aI E q35 40 (fun _ => 0), aI E q36 40 (fun _ => 0), aI E q37 40 (fun _ => 0), aF E 2 q38 2 (va_up (va_up (fun _ => none) (ix 0) (some q40)) (ix 1) (some q51)), aF E 3 q39 4 (fun _ => none), oX4 q40 q41 q47 0, oX1 q41 0 0 0 q42 q43 q44 q45 q46, aI E q42 4 (fun _ => 0), aI E q43 6 (fun _ => 0), aI E q44 6 (fun _ => 0), aI E q45 6 (fun _ => 0), aI E q46 24 (fun _ => 0), oX7 q47 0 q48 q49 q50, aI E q48 6 (fun _ => 0), aI E q49 6 (fun _ => 0), aI E q50 6 (fun _ => 0), oX4 q51 q52 q58 0, oX1 q52 0 0 0 q53 q54 q55 q56 q57, aI E q53 4 (fun _ => 0), aI E q54 6 (fun _ => 0), aI E q55 6 (fun _ => 0), aI E q56 6 (fun _ => 0), aI E q57 24 (fun _ => 0), oX7 q58 0 q59 q60 q61, aI E q59 6 (fun _ => 0), aI E q60 6 (fun _ => 0), aI E q61 6 (fun _ => 0)]) (st := [.ref q62, .int 0, .ref q39]) C hN mn_X11_90 (c_X6_init E q62) [62] [0, 1, 2, 3, 4, 5, 6, 7, 8, 9, 10, 11, 12, 13, 14, 15, 16, 17, 18, 19, 20, 21, 22, 23, 24, 25, 26, 27, 28, 29, 30, 31, 32, 33, 34, 35, 36, 37, 38, 39, 40, 41, 42, 43, 44, 45, 46, 47, 48, 49, 50, 51, 52, 53, 54, 55, 56, 57, 58, 59, 60, 61] rfl rfl rfl (by decide +kernel) (by decide) ⟨by decide, by decide⟩ ⟨by decide, by decide⟩ rfl rfl (Nat.le_of_ble_eq_true rfl) dX11_init_191 (fun w' hw' => ?_)
  obtain ⟨q63, rfl⟩ := hw'
  refine g_eqw (ws' := [oX11 a q1 q3 q10 q16 q20 q30 q31 q32 q38 q39 0, oX8 q1 q2 0, aI E q2 160 (fun _ => 0), oX9 q3 q1 q4 0 0 0 0 3 0, oX1 q4 0 0 0 q5 q6 q7 q8 q9, aI E q5 4 (fun _ => 0), aI E q6 6 (fun _ => 0), aI E q7 6 (fun _ => 0), aI E q8 6 (fun _ => 0), aI E q9 24 (fun _ => 0), oX1 q10 0 0 0 q11 q12 q13 q14 q15, aI E q11 4 (fun _ => 0), aI E q12 6 (fun _ => 0), aI E q13 6 (fun _ => 0), aI E q14 6 (fun _ => 0), aI E q15 24 (fun _ => 0), oX7 q16 0 q17 q18 q19, aI E q17 6 (fun _ => 0), aI E q18 6 (fun _ => 0), aI E q19 6 (fun _ => 0), oX10 q20 q10 q21 q27 0 0 ((-4)), oX1 q21 0 0 0 q22 q23 q24 q25 q26, aI E q22 4 (fun _ => 0), aI E q23 6 (fun _ => 0), aI E q24 6 (fun _ => 0), aI E q25 6 (fun _ => 0), aI E q26 24 (fun _ => 0), oX2 q27 q28 q29 0 0, aI E q28 4 (fun _ => 0), aI E q29 4 (fun _ => 0), oX0 q30 q10 q20 ((-4)) 0, oX5 q31 q10 q20, oX3 q32 q10 q16 q20 q33 ((-4)) 0, aQ E 4 q33 [q34, q35, q36, q37], aI E q34 40 (fun _ => 0), aI E q35 40 (fun _ => 0), aI E q36 40 (fun _ => 0), aI E q37 40 (fun _ => 0), aF E 2 q38 2 (va_up (va_up (fun _ => none) (ix 0) (some q40)) (ix 1) (some q51)), aF E 3 q39 4 (fun _ => none), oX4 q40 q41 q47 0, oX1 q41 0 0 0 q42 q43 q44 q45 q46, aI E q42 4 (fun _ => 0), aI E q43 6 (fun _ => 0), aI E q44 6 (fun _ => 0), aI E q45 6 (fun _ => 0), aI E q46 24 (fun _ => 0), oX7 q47 0 q48 q49 q50, aI E q48 6 (fun _ => 0), aI E q49 6 (fun _ => 0), aI E q50 6 (fun _ => 0), oX4 q51 q52 q58 0, oX1 q52 0 0 0 q53 q54 q55 q56 q57, aI E q53 4 (fun _ => 0), aI E q54 6 (fun _ => 0), aI E q55 6 (fun _ => 0), aI E q56 6 (fun _ => 0), aI E q57 24 (fun _ => 0), oX7 q58 0 q59 q60 q61, aI E q59 6 (fun _ => 0), aI E q60 6 (fun _ => 0), aI E q61 6 (fun _ => 0), oX6 q62 q63 0 ((-1)), aI E q63 40 (fun _ => 0)]) rfl ?_
  refine g_astq (pc := 194) (ws' := [oX11 a q1 q3 q10 q16 q20 q30 q31 q32 q38 q39 0, oX8 q1 q2 0, aI E q2 160 (fun _ => 0), oX9 q3 q1 q4 0 0 0 0 3 0, oX1 q4 0 0 0 q5 q6 q7 q8 q9, aI E q5 4 (fun _ => 0), aI E q6 6 (fun _ => 0), aI E q7 6 (fun _ => 0), aI E q8 6 (fun _ => 0), aI E q9 24 (fun _ => 0), oX1 q10 0 0 0 q11 q12 q13 q14 q15, aI E q11 4 (fun _ => 0), aI E q12 6 (fun _ => 0), aI E q13 6 (fun _ => 0), aI E q14 6 (fun _ => 0), aI E q15 24 (fun _ => 0), oX7 q16 0 q17 q18 q19, aI E q17 6 (fun _ => 0), aI E q18 6 (fun _ => 0), aI E q19 6 (fun _ => 0), oX10 q20 q10 q21 q27 0 0 ((-4)), oX1 q21 0 0 0 q22 q23 q24 q25 q26, aI E q22 4 (fun _ => 0), aI E q23 6 (fun _ => 0), aI E q24 6 (fun _ => 0), aI E q25 6 (fun _ => 0), aI E q26 24 (fun _ => 0), oX2 q27 q28 q29 0 0, aI E q28 4 (fun _ => 0), aI E q29 4 (fun _ => 0), oX0 q30 q10 q20 ((-4)) 0, oX5 q31 q10 q20, oX3 q32 q10 q16 q20 q33 ((-4)) 0, aQ E 4 q33 [q34, q35, q36, q37], aI E q34 40 (fun _ => 0), aI E q35 40 (fun _ => 0), aI E q36 40 (fun _ => 0), aI E q37 40 (fun _ => 0), aF E 2 q38 2 (va_up (va_up (fun _ => none) (ix 0) (some q40)) (ix 1) (some q51)), aF E 3 q39 4 (va_up (fun _ => none) (ix 0) (some q62)), oX4 q40 q41 q47 0, oX1 q41 0 0 0 q42 q43 q44 q45 q46, aI E q42 4 (fun _ => 0), aI E q43 6 (fun _ => 0), aI E q44 6 (fun _ => 0), aI E q45 6 (fun _ => 0), aI E q46 24 (fun _ => 0), oX7 q47 0 q48 q49 q50, aI E q48 6 (fun _ => 0), aI E q49 6 (fun _ => 0), aI E q50 6 (fun _ => 0), oX4 q51 q52 q58 0, oX1 q52 0 0 0 q53 q54 q55 q56 q57, aI E q53 4 (fun _ => 0), aI E q54 6 (fun _ => 0), aI E q55 6 (fun _ => 0), aI E q56 6 (fun _ => 0), aI E q57 24 (fun _ => 0), oX7 q58 0 q59 q60 q61, aI E q59 6 (fun _ => 0), aI E q60 6 (fun _ => 0), aI E q61 6 (fun _ => 0), oX6 q62 q63 0 ((-1)), aI E q63 40 (fun _ => 0)]) 39 62 C rfl rfl rfl rfl (by decide) rfl dX11_init_194 ?_
  refine g_iinc (pc := 195) (v := 1) (lv' := [(1, .int 1), (0, .ref a)]) C dX11_init_195 0 rfl (by decide) (by decide) rfl ?_
  refine g_goto (pc := 198) 177 C dX11_init_198 (by decide) ?_
  refine g_iload_n (pc := 177) C dX11_init_177 0 rfl ?_
  refine g_iconst (pc := 178) (v := 4) C dX11_init_178 (by decide) ?_
  refine b_icmp_ge (pc := 179) (F1 := (none : Option Unit)) (F2 := some ()) (r := ()) 201 C dX11_init_179 (by decide) (if_neg (by decide)) (fun c _ => absurd c (by decide)) (fun _ _ => ?_)
  refine g_aload_n (pc := 182) C dX11_init_182 1 rfl ?_
  refine g_get (pc := 183) 0 C fl_X11_81 rfl rfl dX11_init_183 ?_
  refine g_iload_n (pc := 186) C dX11_init_186 0 rfl ?_
  refine g_new (pc := 187) C nw_X11_79 (by decide) (by decide) dX11_init_187 (fun q64 => ?_)
  refine g_eqw (ws' := [oX11 a q1 q3 q10 q16 q20 q30 q31 q32 q38 q39 0, oX8 q1 q2 0, aI E q2 160 (fun _ => 0), oX9 q3 q1 q4 0 0 0 0 3 0, oX1 q4 0 0 0 q5 q6 q7 q8 q9, aI E q5 4 (fun _ => 0), aI E q6 6 (fun _ => 0), aI E q7 6 (fun _ => 0), aI E q8 6 (fun _ => 0), aI E q9 24 (fun _ => 0), oX1 q10 0 0 0 q11 q12 q13 q14 q15, aI E q11 4 (fun _ => 0), aI E q12 6 (fun _ => 0), aI E q13 6 (fun _ => 0), aI E q14 6 (fun _ => 0), aI E q15 24 (fun _ => 0), oX7 q16 0 q17 q18 q19, aI E q17 6 (fun _ => 0), aI E q18 6 (fun _ => 0), aI E q19 6 (fun _ => 0), oX10 q20 q10 q21 q27 0 0 ((-4)), oX1 q21 0 0 0 q22 q23 q24 q25 q26, aI E q22 4 (fun _ => 0), aI E q23 6 (fun _ => 0), aI E q24 6 (fun _ => 0), aI E q25 6 (fun _ => 0), aI E q26 24 (fun _ => 0), oX2 q27 q28 q29 0 0, aI E q28 4 (fun _ => 0), aI E q29 4 (fun _ => 0), oX0 q30 q10 q20 ((-4)) 0, oX5 q31 q10 q20, oX3 q32 q10 q16 q20 q33 ((-4)) 0, aQ E 4 q33 [q34, q35, q36, q37], aI E q34 40 (fun _ => 0), aI E q35 40 (fun _ => 0), aI E q36 40 (fun _ => 0), aI E q37 40 (fun _ => 0), aF E 2 q38 2 (va_up (va_up (fun _ => none) (ix 0) (some q40)) (ix 1) (some q51)), aF E 3 q39 4 (va_up (fun _ => none) (ix 0) (some q62)), oX4 q40 q41 q47 0, oX1 q41 0 0 0 q42 q43 q44 q45 q46, aI E q42 4 (fun _ => 0), aI E q43 6 (fun _ => 0), aI E q44 6 (fun _ => 0), aI E q45 6 (fun _ => 0), aI E q46 24 (fun _ => 0), oX7 q47 0 q48 q49 q50, aI E q48 6 (fun _ => 0), aI E q49 6 (fun _ => 0), aI E q50 6 (fun _ => 0), oX4 q51 q52 q58 0, oX1 q52 0 0 0 q53 q54 q55 q56 q57, aI E q53 4 (fun _ => 0), aI E q54 6 (fun _ => 0), aI E q55 6 (fun _ => 0), aI E q56 6 (fun _ => 0), aI E q57 24 (fun _ => 0), oX7 q58 0 q59 q60 q61, aI E q59 6 (fun _ => 0), aI E q60 6 (fun _ => 0), aI E q61 6 (fun _ => 0), oX6 q62 q63 0 ((-1)), aI E q63 40 (fun _ => 0), (q64, .inr (6, [.null, .int 0, .int 0]))]) rfl ?_
  refine g_dup (pc := 190) C dX11_init_190 rfl ?_
  refine g_callN (pc := 191) (wr := [oX11 a q1 q3 q10 q16 q20 q30 q31 q32 q38 q39 0, oX8 q1 q2 0, aI E q2 160 (fun _ => 0), oX9 q3 q1 q4 0 0 0 0 3 0, oX1 q4 0 0 0 q5 q6 q7 q8 q9, aI E q5 4 (fun _ => 0), aI E q6 6 (fun _ => 0), aI E q7 6 (fun _ => 0), aI E q8 6 (fun _ => 0), aI E q9 24 (fun _ => 0), oX1 q10 0 0 0 q11 q12 q13 q14 q15, aI E q11 4 (fun _ => 0), aI E q12 6 (fun _ => 0), aI E q13 6 (fun _ => 0), aI E q14 6 (fun _ => 0), aI E q15 24 (fun _ => 0), oX7 q16 0 q17 q18 q19, aI E q17 6 (fun _ => 0), aI E q18 6 (fun _ => 0), aI E q19 6 (fun _ => 0), oX10 q20 q10 q21 q27 0 0 ((-4)), oX1 q21 0 0 0 q22 q23 q24 q25 q26, aI E q22 4 (fun _ => 0), aI E q23 6 (fun _ => 0), aI E q24 6 (fun _ => 0), aI E q25 6 (fun _ => 0), aI E q26 24 (fun _ => 0), oX2 q27 q28 q29 0 0, aI E q28 4 (fun _ => 0), aI E q29 4 (fun _ => 0), oX0 q30 q10 q20 ((-4)) 0, oX5 q31 q10 q20, oX3 q32 q10 q16 q20 q33 ((-4)) 0, aQ E 4 q33 [q34, q35, q36, q37], aI E q34 40 (fun _ => 0), aI E q35 40 (fun _ => 0), aI E q36 40 (fun _ => 0), aI E q37 40 (fun _ => 0), aF E 2 q38 2 (va_up (va_up (fun _ => none) (ix 0) (some q40)) (ix 1) (some q51)), aF E 3 q39 4 (va_up (fun _ => none) (ix 0) (some q62)), oX4 q40 q41 q47 0, oX1 q41 0 0 0 q42 q43 q44 q45 q46, aI E q42 4 (fun _ => 0), aI E q43 6 (fun _ => 0), aI E q44 6 (fun _ => 0), aI E q45 6 (fun _ => 0), aI E q46 24 (fun _ => 0), oX7 q47 0 q48 q49 q50, aI E q48 6 (fun _ => 0), aI E q49 6 (fun _ => 0), aI E q50 6 (fun _ => 0), oX4 q51 q52 q58 0, oX1 q52 0 0 0 q53 q54 q55 q56 q57, aI E q53 4 (fun _ => 0), aI E q54 6 (fun _ => 0), aI E q55 6 (fun _ => 0), aI E q56 6 (fun _ => 0), aI E q57 24 (fun _ => 0), oX7 q58 0 q59 q60 q61, aI E q59 6 (fun _ => 0), aI E q60 6 (fun _ => 0), aI E q61 6 (fun _ => 0), oX6 q62 q63 0 ((-1)), aI E q63 40 (fun _ => 0)]) (st := [.ref q64, .int 1, .ref q39]) C hN mn_X11_90 (c_X6_init E q64) [64] [0, 1, 2, 3, 4, 5, 6, 7, 8, 9, 10, 11, 12, 13, 14, 15, 16, 17, 18, 19, 20, 21, 22, 23, 24, 25, 26, 27, 28, 29, 30, 31, 32, 33, 34, 35, 36, 37, 38, 39, 40, 41, 42, 43, 44, 45, 46, 47, 48, 49, 50, 51, 52, 53, 54, 55, 56, 57, 58, 59, 60, 61, 62, 63] rfl rfl rfl (by decide +kernel) (by decide) ⟨by decide, by decide⟩ ⟨by decide, by decide⟩ rfl rfl (Nat.le_of_ble_eq_true rfl) dX11_init_191 (fun w' hw' => ?_)
  obtain ⟨q65, rfl⟩ := hw'
  refine g_eqw (ws' := [oX11 a q1 q3 q10 q16 q20 q30 q31 q32 q38 q39 0, oX8 q1 q2 0, aI E q2 160 (fun _ => 0), oX9 q3 q1 q4 0 0 0 0 3 0, oX1 q4 0 0 0 q5 q6 q7 q8 q9, aI E q5 4 (fun _ => 0), aI E q6 6 (fun _ => 0), aI E q7 6 (fun _ => 0), aI E q8 6 (fun _ => 0), aI E q9 24 (fun _ => 0), oX1 q10 0 0 0 q11 q12 q13 q14 q15, aI E q11 4 (fun _ => 0), aI E q12 6 (fun _ => 0), aI E q13 6 (fun _ => 0), aI E q14 6 (fun _ => 0), aI E q15 24 (fun _ => 0), oX7 q16 0 q17 q18 q19, aI E q17 6 (fun _ => 0), aI E q18 6 (fun _ => 0), aI E q19 6 (fun _ => 0), oX10 q20 q10 q21 q27 0 0 ((-4)), oX1 q21 0 0 0 q22 q23 q24 q25 q26, aI E q22 4 (fun _ => 0), aI E q23 6 (fun _ => 0), aI E q24 6 (fun _ => 0), aI E q25 6 (fun _ => 0), aI E q26 24 (fun _ => 0), oX2 q27 q28 q29 0 0, aI E q28 4 (fun _ => 0), aI E q29 4 (fun _ => 0), oX0 q30 q10 q20 ((-4)) 0, oX5 q31 q10 q20, oX3 q32 q10 q16 q20 q33 ((-4)) 0, aQ E 4 q33 [q34, q35, q36, q37], aI E q34 40 (fun _ => 0), aI E q35 40 (fun _ => 0), aI E q36 40 (fun _ => 0), aI E q37 40 (fun _ => 0), aF E 2 q38 2 (va_up (va_up (fun _ => none) (ix 0) (some q40)) (ix 1) (some q51)), aF E 3 q39 4 (va_up (fun _ => none) (ix 0) (some q62)), oX4 q40 q41 q47 0, oX1 q41 0 0 0 q42 q43 q44 q45 q46, aI E q42 4 (fun _ => 0), aI E q43 6 (fun _ => 0), aI E q44 6 (fun _ => 0), aI E q45 6 (fun _ => 0), aI E q46 24 (fun _ => 0), oX7 q47 0 q48 q49 q50, aI E q48 6 (fun _ => 0), aI E q49 6 (fun _ => 0), aI E q50 6 (fun _ => 0), oX4 q51 q52 q58 0, oX1 q52 0 0 0 q53 q54 q55 q56 q57, aI E q53 4 (fun _ => 0), aI E q54 6 (fun _ => 0), aI E q55 6 (fun _ => 0), aI E q56 6 (fun _ => 0), aI E q57 24 (fun _ => 0), oX7 q58 0 q59 q60 q61, aI E q59 6 (fun _ => 0), aI E q60 6 (fun _ => 0), aI E q61 6 (fun _ => 0), oX6 q62 q63 0 ((-1)), aI E q63 40 (fun _ => 0), oX6 q64 q65 0 ((-1)), aI E q65 40 (fun _ => 0)]) rfl ?_
  refine g_astq (pc := 194) (ws' := [oX11 a q1 q3 q10 q16 q20 q30 q31 q32 q38 q39 0, oX8 q1 q2 0, aI E q2 160 (fun _ => 0), oX9 q3 q1 q4 0 0 0 0 3 0, oX1 q4 0 0 0 q5 q6 q7 q8 q9, aI E q5 4 (fun _ => 0), aI E q6 6 (fun _ => 0), aI E q7 6 (fun _ => 0), aI E q8 6 (fun _ => 0), aI E q9 24 (fun _ => 0), oX1 q10 0 0 0 q11 q12 q13 q14 q15, aI E q11 4 (fun _ => 0), aI E q12 6 (fun _ => 0), aI E q13 6 (fun _ => 0), aI E q14 6 (fun _ => 0), aI E q15 24 (fun _ => 0), oX7 q16 0 q17 q18 q19, aI E q17 6 (fun _ => 0), aI E q18 6 (fun _ => 0), aI E q19 6 (fun _ => 0), oX10 q20 q10 q21 q27 0 0 ((-4)), oX1 q21 0 0 0 q22 q23 q24 q25 q26, aI E q22 4 (fun _ => 0), aI E q23 6 (fun _ => 0), aI E q24 6 (fun _ => 0), aI E q25 6 (fun _ => 0), aI E q26 24 (fun _ => 0), oX2 q27 q28 q29 0 0, aI E q28 4 (fun _ => 0), aI E q29 4 (fun _ => 0), oX0 q30 q10 q20 ((-4)) 0, oX5 q31 q10 q20, oX3 q32 q10 q16 q20 q33 ((-4)) 0, aQ E 4 q33 [q34, q35, q36, q37], aI E q34 40 (fun _ => 0), aI E q35 40 (fun _ => 0), aI E q36 40 (fun _ => 0), aI E q37 40 (fun _ => 0), aF E 2 q38 2 (va_up (va_up (fun _ => none) (ix 0) (some q40)) (ix 1) (some q51)), aF E 3 q39 4 (va_up (va_up (fun _ => none) (ix 0) (some q62)) (ix 1) (some q64)), oX4 q40 q41 q47 0, oX1 q41 0 0 0 q42 q43 q44 q45 q46, aI E q42 4 (fun _ => 0), aI E q43 6 (fun _ => 0), aI E q44 6 (fun _ => 0), aI E q45 6 (fun _ => 0), aI E q46 24 (fun _ => 0), oX7 q47 0 q48 q49 q50, aI E q48 6 (fun _ => 0), aI E q49 6 (fun _ => 0), aI E q50 6 (fun _ => 0), oX4 q51 q52 q58 0, oX1 q52 0 0 0 q53 q54 q55 q56 q57, aI E q53 4 (fun _ => 0), aI E q54 6 (fun _ => 0), aI E q55 6 (fun _ => 0), aI E q56 6 (fun _ => 0), aI E q57 24 (fun _ => 0), oX7 q58 0 q59 q60 q61, aI E q59 6 (fun _ => 0), aI E q60 6 (fun _ => 0), aI E q61 6 (fun _ => 0), oX6 q62 q63 0 ((-1)), aI E q63 40 (fun _ => 0), oX6 q64 q65 0 ((-1)), aI E q65 40 (fun _ => 0)]) 39 64 C rfl rfl rfl rfl (by decide) rfl dX11_init_194 ?_
  refine g_iinc (pc := 195) (v := 2) (lv' := [(1, .int 2), (0, .ref a)]) C dX11_init_195 0 rfl (by decide) (by decide) rfl ?_
  refine g_goto (pc := 198) 177 C dX11_init_198 (by decide) ?_
  refine g_iload_n (pc := 177) C dX11_init_177 0 rfl ?_
  refine g_iconst (pc := 178) (v := 4) C dX11_init_178 (by decide) ?_
  refine b_icmp_ge (pc := 179) (F1 := (none : Option Unit)) (F2 := some ()) (r := ()) 201 C dX11_init_179 (by decide) (if_neg (by decide)) (fun c _ => absurd c (by decide)) (fun _ _ => ?_)
  refine g_aload_n (pc := 182) C dX11_init_182 1 rfl ?_
  refine g_get (pc := 183) 0 C fl_X11_81 rfl rfl dX11_init_183 ?_
  refine g_iload_n (pc := 186) C dX11_init_186 0 rfl ?_
  refine g_new (pc := 187) C nw_X11_79 (by decide) (by decide) dX11_init_187 (fun q66 => ?_)
  refine g_eqw (ws' := [oX11 a q1 q3 q10 q16 q20 q30 q31 q32 q38 q39 0, oX8 q1 q2 0, aI E q2 160 (fun _ => 0), oX9 q3 q1 q4 0 0 0 0 3 0, oX1 q4 0 0 0 q5 q6 q7 q8 q9, aI E q5 4 (fun _ => 0), aI E q6 6 (fun _ => 0), aI E q7 6 (fun _ => 0), aI E q8 6 (fun _ => 0), aI E q9 24 (fun _ => 0), oX1 q10 0 0 0 q11 q12 q13 q14 q15, aI E q11 4 (fun _ => 0), aI E q12 6 (fun _ => 0), aI E q13 6 (fun _ => 0), aI E q14 6 (fun _ => 0), aI E q15 24 (fun _ => 0), oX7 q16 0 q17 q18 q19, aI E q17 6 (fun _ => 0), aI E q18 6 (fun _ => 0), aI E q19 6 (fun _ => 0), oX10 q20 q10 q21 q27 0 0 ((-4)), oX1 q21 0 0 0 q22 q23 q24 q25 q26, aI E q22 4 (fun _ => 0), aI E q23 6 (fun _ => 0), aI E q24 6 (fun _ => 0), aI E q25 6 (fun _ => 0), aI E q26 24 (fun _ => 0), oX2 q27 q28 q29 0 0, aI E q28 4 (fun _ => 0), aI E q29 4 (fun _ => 0), oX0 q30 q10 q20 ((-4)) 0, oX5 q31 q10 q20, oX3 q32 q10 q16 q20 q33 ((-4)) 0, aQ E 4 q33 [q34, q35, q36, q37], aI E q34 40 (fun _ => 0), aI E q35 40 (fun _ => 0), aI E q36 40 (fun _ => 0), aI E q37 40 (fun _ => 0), aF E 2 q38 2 (va_up (va_up (fun _ => none) (ix 0) (some q40)) (ix 1) (some q51)), aF E 3 q39 4 (va_up (va_up (fun _ => none) (ix 0) (some q62)) (ix 1) (some q64)), oX4 q40 q41 q47 0, oX1 q41 0 0 0 q42 q43 q44 q45 q46, aI E q42 4 (fun _ => 0), aI E q43 6 (fun _ => 0), aI E q44 6 (fun _ => 0), aI E q45 6 (fun _ => 0), aI E q46 24 (fun _ => 0), oX7 q47 0 q48 q49 q50, aI E q48 6 (fun _ => 0), aI E q49 6 (fun _ => 0), aI E q50 6 (fun _ => 0), oX4 q51 q52 q58 0, oX1 q52 0 0 0 q53 q54 q55 q56 q57, aI E q53 4 (fun _ => 0), aI E q54 6 (fun _ => 0), aI E q55 6 (fun _ => 0), aI E q56 6 (fun _ => 0), aI E q57 24 (fun _ => 0), oX7 q58 0 q59 q60 q61, aI E q59 6 (fun _ => 0), aI E q60 6 (fun _ => 0), aI E q61 6 (fun _ => 0), oX6 q62 q63 0 ((-1)), aI E q63 40 (fun _ => 0), oX6 q64 q65 0 ((-1)), aI E q65 40 (fun _ => 0), (q66, .inr (6, [.null, .int 0, .int 0]))]) rfl ?_
  refine g_dup (pc := 190) C dX11_init_190 rfl ?_
  refine g_callN (pc := 191) (wr := [oX11 a q1 q3 q10 q16 q20 q30 q31 q32 q38 q39 0, oX8 q1 q2 0, aI E q2 160 (fun _ => 0), oX9 q3 q1 q4 0 0 0 0 3 0, oX1 q4 0 0 0 q5 q6 q7 q8 q9, aI E q5 4 (fun _ => 0), aI E q6 6 (fun _ => 0), aI E q7 6 (fun _ => 0), aI E q8 6 (fun _ => 0), aI E q9 24 (fun _ => 0), oX1 q10 0 0 0 q11 q12 q13 q14 q15, aI E q11 4 (fun _ => 0), aI E q12 6 (fun _ => 0), aI E q13 6 (fun _ => 0), aI E q14 6 (fun _ => 0), aI E q15 24 (fun _ => 0), oX7 q16 0 q17 q18 q19, aI E q17 6 (fun _ => 0), aI E q18 6 (fun _ => 0), aI E q19 6 (fun _ => 0), oX10 q20 q10 q21 q27 0 0 ((-4)), oX1 q21 0 0 0 q22 q23 q24 q25 q26, aI E q22 4 (fun _ => 0), aI E q23 6 (fun _ => 0), aI E q24 6 (fun _ => 0), aI E q25 6 (fun _ => 0), aI E q26 24 (fun _ => 0), oX2 q27 q28 q29 0 0, aI E q28 4 (fun _ => 0), aI E q29 4 (fun _ => 0), oX0 q30 q10 q20 ((-4)) 0, oX5 q31 q10 q20, oX3 q32 q10 q16 q20 q33 ((-4)) 0, aQ E 4 q33 [q34, q35, q36, q37], aI E q34 40 (fun _ => 0), aI E q35 40 (fun _ => 0), aI E q36 40 (fun _ => 0), aI E q37 40 (fun _ => 0), aF E 2 q38 2 (va_up (va_up (fun _ => none) (ix 0) (some q40)) (ix 1) (some q51)), aF E 3 q39 4 (va_up (va_up (fun _ => none) (ix 0) (some q62)) (ix 1) (some q64)), oX4 q40 q41 q47 0, oX1 q41 0 0 0 q42 q43 q44 q45 q46, aI E q42 4 (fun _ => 0), aI E q43 6 (fun _ => 0), aI E q44 6 (fun _ => 0), aI E q45 6 (fun _ => 0), aI E q46 24 (fun _ => 0), oX7 q47 0 q48 q49 q50, aI E q48 6 (fun _ => 0), aI E q49 6 (fun _ => 0), aI E q50 6 (fun _ => 0), oX4 q51 q52 q58 0, oX1 q52 0 0 0 q53 q54 q55 q56 q57, aI E q53 4 (fun _ => 0), aI E q54 6 (fun _ => 0), aI E q55 6 (fun _ => 0), aI E q56 6 (fun _ => 0), aI E q57 24 (fun _ => 0), oX7 q58 0 q59 q60 q61, aI E q59 6 (fun _ => 0), aI E q60 6 (fun _ => 0), aI E q61 6 (fun _ => 0), oX6 q62 q63 0 ((-1)), aI E q63 40 (fun _ => 0), oX6 q64 q65 0 ((-1)), aI E q65 40 (fun _ => 0)]) (st := [.ref q66, .int 2, .ref q39]) C hN mn_X11_90 (c_X6_init E q66) [66] [0, 1, 2, 3, 4, 5, 6, 7, 8, 9, 10, 11, 12, 13, 14, 15, 16, 17, 18, 19, 20, 21, 22, 23, 24, 25, 26, 27, 28, 29, 30, 31, 32, 33, 34, 35, 36, 37, 38, 39, 40, 41, 42, 43, 44, 45, 46, 47, 48, 49, 50, 51, 52, 53, 54, 55, 56, 57, 58, 59, 60, 61, 62, 63, 64, 65] rfl rfl rfl (by decide +kernel) (by decide) ⟨by decide, by decide⟩ ⟨by decide, by decide⟩ rfl rfl (Nat.le_of_ble_eq_true rfl) dX11_init_191 (fun w' hw' => ?_)
  obtain ⟨q67, rfl⟩ := hw'
  refine g_eqw (ws' := [oX11 a q1 q3 q10 q16 q20 q30 q31 q32 q38 q39 0, oX8 q1 q2 0, aI E q2 160 (fun _ => 0), oX9 q3 q1 q4 0 0 0 0 3 0, oX1 q4 0 0 0 q5 q6 q7 q8 q9, aI E q5 4 (fun _ => 0), aI E q6 6 (fun _ => 0), aI E q7 6 (fun _ => 0), aI E q8 6 (fun _ => 0), aI E q9 24 (fun _ => 0), oX1 q10 0 0 0 q11 q12 q13 q14 q15, aI E q11 4 (fun _ => 0), aI E q12 6 (fun _ => 0), aI E q13 6 (fun _ => 0), aI E q14 6 (fun _ => 0), aI E q15 24 (fun _ => 0), oX7 q16 0 q17 q18 q19, aI E q17 6 (fun _ => 0), aI E q18 6 (fun _ => 0), aI E q19 6 (fun _ => 0), oX10 q20 q10 q21 q27 0 0 ((-4)), oX1 q21 0 0 0 q22 q23 q24 q25 q26, aI E q22 4 (fun _ => 0), aI E q23 6 (fun _ => 0), aI E q24 6 (fun _ => 0), aI E q25 6 (fun _ => 0), aI E q26 24 (fun _ => 0), oX2 q27 q28 q29 0 0, aI E q28 4 (fun _ => 0), aI E q29 4 (fun _ => 0), oX0 q30 q10 q20 ((-4)) 0, oX5 q31 q10 q20, oX3 q32 q10 q16 q20 q33 ((-4)) 0, aQ E 4 q33 [q34, q35, q36, q37], aI E q34 40 (fun _ => 0), aI E q35 40 (fun _ => 0), aI E q36 40 (fun _ => 0), aI E q37 40 (fun _ => 0), aF E 2 q38 2 (va_up (va_up (fun _ => none) (ix 0) (some q40)) (ix 1) (some q51)), aF E 3 q39 4 (va_up (va_up (fun _ => none) (ix 0) (some q62)) (ix 1) (some q64)), oX4 q40 q41 q47 0, oX1 q41 0 0 0 q42 q43 q44 q45 q46, aI E q42 4 (fun _ => 0), aI E q43 6 (fun _ => 0), aI E q44 6 (fun _ => 0), aI E q45 6 (fun _ => 0), aI E q46 24 (fun _ => 0), oX7 q47 0 q48 q49 q50, aI E q48 6 (fun _ => 0), aI E q49 6 (fun _ => 0), aI E q50 6 (fun _ => 0), oX4 q51 q52 q58 0, oX1 q52 0 0 0 q53 q54 q55 q56 q57, aI E q53 4 (fun _ => 0), aI E q54 6 (fun _ => 0), aI E q55 6 (fun _ => 0), aI E q56 6 (fun _ => 0), aI E q57 24 (fun _ => 0), oX7 q58 0 q59 q60 q61, aI E q59 6 (fun _ => 0), aI E q60 6 (fun _ => 0), aI E q61 6 (fun _ => 0), oX6 q62 q63 0 ((-1)), aI E q63 40 (fun _ => 0), oX6 q64 q65 0 ((-1)), aI E q65 40 (fun _ => 0), oX6 q66 q67 0 ((-1)), aI E q67 40 (fun _ => 0)]) rfl ?_
  refine g_astq (pc := 194) (ws' := [oX11 a q1 q3 q10 q16 q20 q30 q31 q32 q38 q39 0, oX8 q1 q2 0, aI E q2 160 (fun _ => 0), oX9 q3 q1 q4 0 0 0 0 3 0, oX1 q4 0 0 0 q5 q6 q7 q8 q9, aI E q5 4 (fun _ => 0), aI E q6 6 (fun _ => 0), aI E q7 6 (fun _ => 0), aI E q8 6 (fun _ => 0), aI E q9 24 (fun _ => 0), oX1 q10 0 0 0 q11 q12 q13 q14 q15, aI E q11 4 (fun _ => 0), aI E q12 6 (fun _ => 0), aI E q13 6 (fun _ => 0), aI E q14 6 (fun _ => 0), aI E q15 24 (fun _ => 0), oX7 q16 0 q17 q18 q19, aI E q17 6 (fun _ => 0), aI E q18 6 (fun _ => 0), aI E q19 6 (fun _ => 0), oX10 q20 q10 q21 q27 0 0 ((-4)), oX1 q21 0 0 0 q22 q23 q24 q25 q26, aI E q22 4 (fun _ => 0), aI E q23 6 (fun _ => 0), aI E q24 6 (fun _ => 0), aI E q25 6 (fun _ => 0), aI E q26 24 (fun _ => 0), oX2 q27 q28 q29 0 0, aI E q28 4 (fun _ => 0), aI E q29 4 (fun _ => 0), oX0 q30 q10 q20 ((-4)) 0, oX5 q31 q10 q20, oX3 q32 q10 q16 q20 q33 ((-4)) 0, aQ E 4 q33 [q34, q35, q36, q37], aI E q34 40 (fun _ => 0), aI E q35 40 (fun _ => 0), aI E q36 40 (fun _ => 0), aI E q37 40 (fun _ => 0), aF E 2 q38 2 (va_up (va_up (fun _ => none) (ix 0) (some q40)) (ix 1) (some q51)), aF E 3 q39 4 (va_up (va_up (va_up (fun _ => none) (ix 0) (some q62)) (ix 1) (some q64)) (ix 2) (some q66)), oX4 q40 q41 q47 0, oX1 q41 0 0 0 q42 q43 q44 q45 q46, aI E q42 4 (fun _ => 0), aI E q43 6 (fun _ => 0), aI E q44 6 (fun _ => 0), aI E q45 6 (fun _ => 0), aI E q46 24 (fun _ => 0), oX7 q47 0 q48 q49 q50, aI E q48 6 (fun _ => 0), aI E q49 6 (fun _ => 0), aI E q50 6 (fun _ => 0), oX4 q51 q52 q58 0, oX1 q52 0 0 0 q53 q54 q55 q56 q57, aI E q53 4 (fun _ => 0), aI E q54 6 (fun _ => 0), aI E q55 6 (fun _ => 0), aI E q56 6 (fun _ => 0), aI E q57 24 (fun _ => 0), oX7 q58 0 q59 q60 q61, aI E q59 6 (fun _ => 0), aI E q60 6 (fun _ => 0), aI E q61 6 (fun _ => 0), oX6 q62 q63 0 ((-1)), aI E q63 40 (fun _ => 0), oX6 q64 q65 0 ((-1)), aI E q65 40 (fun _ => 0), oX6 q66 q67 0 ((-1)), aI E q67 40 (fun _ => 0)]) 39 66 C rfl rfl rfl rfl (by decide) rfl dX11_init_194 ?_
  refine g_iinc (pc := 195) (v := 3) (lv' := [(1, .int 3), (0, .ref a)]) C dX11_init_195 0 rfl (by decide) (by decide) rfl ?_
  refine g_goto (pc := 198) 177 C dX11_init_198 (by decide) ?_
  refine g_iload_n (pc := 177) C dX11_init_177 0 rfl ?_
  refine g_iconst (pc := 178) (v := 4) C dX11_init_178 (by decide) ?_
  refine b_icmp_ge (pc := 179) (F1 := (none : Option Unit)) (F2 := some ()) (r := ()) 201 C dX11_init_179 (by decide) (if_neg (by decide)) (fun c _ => absurd c (by decide)) (fun _ _ => ?_)
  refine g_aload_n (pc := 182) C dX11_init_182 1 rfl ?_
  refine g_get (pc := 183) 0 C fl_X11_81 rfl rfl dX11_init_183 ?_
  refine g_iload_n (pc := 186) C dX11_init_186 0 rfl ?_
  refine g_new (pc := 187) C nw_X11_79 (by decide) (by decide) dX11_init_187 (fun q68 => ?_)
  refine g_eqw (ws' := [oX11 a q1 q3 q10 q16 q20 q30 q31 q32 q38 q39 0, oX8 q1 q2 0, aI E q2 160 (fun _ => 0), oX9 q3 q1 q4 0 0 0 0 3 0, oX1 q4 0 0 0 q5 q6 q7 q8 q9, aI E q5 4 (fun _ => 0), aI E q6 6 (fun _ => 0), aI E q7 6 (fun _ => 0), aI E q8 6 (fun _ => 0), aI E q9 24 (fun _ => 0), oX1 q10 0 0 0 q11 q12 q13 q14 q15, aI E q11 4 (fun _ => 0), aI E q12 6 (fun _ => 0), aI E q13 6 (fun _ => 0), aI E q14 6 (fun _ => 0), aI E q15 24 (fun _ => 0), oX7 q16 0 q17 q18 q19, aI E q17 6 (fun _ => 0), aI E q18 6 (fun _ => 0), aI E q19 6 (fun _ => 0), oX10 q20 q10 q21 q27 0 0 ((-4)), oX1 q21 0 0 0 q22 q23 q24 q25 q26, aI E q22 4 (fun _ => 0), aI E q23 6 (fun _ => 0), aI E q24 6 (fun _ => 0), aI E q25 6 (fun _ => 0), aI E q26 24 (fun _ => 0), oX2 q27 q28 q29 0 0, aI E q28 4 (fun _ => 0), aI E q29 4 (fun _ => 0), oX0 q30 q10 q20 ((-4)) 0, oX5 q31 q10 q20, oX3 q32 q10 q16 q20 q33 ((-4)) 0, aQ E 4 q33 [q34, q35, q36, q37], aI E q34 40 (fun _ => 0), aI E q35 40 (fun _ => 0), aI E q36 40 (fun _ => 0), aI E q37 40 (fun _ => 0), aF E 2 q38 2 (va_up (va_up (fun _ => none) (ix 0) (some q40)) (ix 1) (some q51)), aF E 3 q39 4 (va_up (va_up (va_up (fun _ => none) (ix 0) (some q62)) (ix 1) (some q64)) (ix 2) (some q66)), oX4 q40 q41 q47 0, oX1 q41 0 0 0 q42 q43 q44 q45 q46, aI E q42 4 (fun _ => 0), aI E q43 6 (fun _ => 0), aI E q44 6 (fun _ => 0), aI E q45 6 (fun _ => 0), aI E q46 24 (fun _ => 0), oX7 q47 0 q48 q49 q50, aI E q48 6 (fun _ => 0), aI E q49 6 (fun _ => 0), aI E q50 6 (fun _ => 0), oX4 q51 q52 q58 0, oX1 q52 0 0 0 q53 q54 q55 q56 q57, aI E q53 4 (fun _ => 0), aI E q54 6 (fun _ => 0), aI E q55 6 (fun _ => 0), aI E q56 6 (fun _ => 0), aI E q57 24 (fun _ => 0), oX7 q58 0 q59 q60 q61, aI E q59 6 (fun _ => 0), aI E q60 6 (fun _ => 0), aI E q61 6 (fun _ => 0), oX6 q62 q63 0 ((-1)), aI E q63 40 (fun _ => 0), oX6 q64 q65 0 ((-1)), aI E q65 40 (fun _ => 0), oX6 q66 q67 0 ((-1)), aI E q67 40 (fun _ => 0), (q68, .inr (6, [.null, .int 0, .int 0]))]) rfl ?_
  refine g_dup (pc := 190) C dX11_init_190 rfl ?_
  refine g_callN (pc := 191) (wr := [oX11 a q1 q3 q10 q16 q20 q30 q31 q32 q38 q39 0, oX8 q1 q2 0, aI E q2 160 (fun _ => 0), oX9 q3 q1 q4 0 0 0 0 3 0, oX1 q4 0 0 0 q5 q6 q7 q8 q9, aI E q5 4 (fun _ => 0), aI E q6 6 (fun _ => 0), aI E q7 6 (fun _ => 0), aI E q8 6 (fun _ => 0), aI E q9 24 (fun _ => 0), oX1 q10 0 0 0 q11 q12 q13 q14 q15, aI E q11 4 (fun _ => 0), aI E q12 6 (fun _ => 0), aI E q13 6 (fun _ => 0), aI E q14 6 (fun _ => 0), aI E q15 24 (fun _ => 0), oX7 q16 0 q17 q18 q19, aI E q17 6 (fun _ => 0), aI E q18 6 (fun _ => 0), aI E q19 6 (fun _ => 0), oX10 q20 q10 q21 q27 0 0 ((-4)), oX1 q21 0 0 0 q22 q23 q24 q25 q26, aI E q22 4 (fun _ => 0), aI E q23 6 (fun _ => 0), aI E q24 6 (fun _ => 0), aI E q25 6 (fun _ => 0), aI E q26 24 (fun _ => 0), oX2 q27 q28 q29 0 0, aI E q28 4 (fun _ => 0), aI E q29 4 (fun _ => 0), oX0 q30 q10 q20 ((-4)) 0, oX5 q31 q10 q20, oX3 q32 q10 q16 q20 q33 ((-4)) 0, aQ E 4 q33 [q34, q35, q36, q37], aI E q34 40 (fun _ => 0), aI E q35 40 (fun _ => 0), aI E q36 40 (fun _ => 0), aI E q37 40 (fun _ => 0), aF E 2 q38 2 (va_up (va_up (fun _ => none) (ix 0) (some q40)) (ix 1) (some q51)), aF E 3 q39 4 (va_up (va_up (va_up (fun _ => none) (ix 0) (some q62)) (ix 1) (some q64)) (ix 2) (some q66)), oX4 q40 q41 q47 0, oX1 q41 0 0 0 q42 q43 q44 q45 q46, aI E q42 4 (fun _ => 0), aI E q43 6 (fun _ => 0), aI E q44 6 (fun _ => 0), aI E q45 6 (fun _ => 0), aI E q46 24 (fun _ => 0), oX7 q47 0 q48 q49 q50, aI E q48 6 (fun _ => 0), aI E q49 6 (fun _ => 0), aI E q50 6 (fun _ => 0), oX4 q51 q52 q58 0, oX1 q52 0 0 0 q53 q54 q55 q56 q57, aI E q53 4 (fun _ => 0), aI E q54 6 (fun _ => 0), aI E q55 6 (fun _ => 0), aI E q56 6 (fun _ => 0), aI E q57 24 (fun _ => 0), oX7 q58 0 q59 q60 q61, aI E q59 6 (fun _ => 0), aI E q60 6 (fun _ => 0), aI E q61 6 (fun _ => 0), oX6 q62 q63 0 ((-1)), aI E q63 40 (fun _ => 0), oX6 q64 q65 0 ((-1)), aI E q65 40 (fun _ => 0), oX6 q66 q67 0 ((-1)), aI E q67 40 (fun _ => 0)]) (st := [.ref q68, .int 3, .ref q39]) C hN mn_X11_90 (c_X6_init E q68) [68] [0, 1, 2, 3, 4, 5, 6, 7, 8, 9, 10, 11, 12, 13, 14, 15, 16, 17, 18, 19, 20, 21, 22, 23, 24, 25, 26, 27, 28, 29, 30, 31, 32, 33, 34, 35, 36, 37, 38, 39, 40, 41, 42, 43, 44, 45, 46, 47, 48, 49, 50, 51, 52, 53, 54, 55, 56, 57, 58, 59, 60, 61, 62, 63, 64, 65, 66, 67] rfl rfl rfl (by decide +kernel) (by decide) ⟨by decide, by decide⟩ ⟨by decide, by decide⟩ rfl rfl (Nat.le_of_ble_eq_true rfl) dX11_init_191 (fun w' hw' => ?_)
  obtain ⟨q69, rfl⟩ := hw'
  refine g_eqw (ws' := [oX11 a q1 q3 q10 q16 q20 q30 q31 q32 q38 q39 0, oX8 q1 q2 0, aI E q2 160 (fun _ => 0), oX9 q3 q1 q4 0 0 0 0 3 0, oX1 q4 0 0 0 q5 q6 q7 q8 q9, aI E q5 4 (fun _ => 0), aI E q6 6 (fun _ => 0), aI E q7 6 (fun _ => 0), aI E q8 6 (fun _ => 0), aI E q9 24 (fun _ => 0), oX1 q10 0 0 0 q11 q12 q13 q14 q15, aI E q11 4 (fun _ => 0), aI E q12 6 (fun _ => 0), aI E q13 6 (fun _ => 0), aI E q14 6 (fun _ => 0), aI E q15 24 (fun _ => 0), oX7 q16 0 q17 q18 q19, aI E q17 6 (fun _ => 0), aI E q18 6 (fun _ => 0), aI E q19 6 (fun _ => 0), oX10 q20 q10 q21 q27 0 0 ((-4)), oX1 q21 0 0 0 q22 q23 q24 q25 q26, aI E q22 4 (fun _ => 0), aI E q23 6 (fun _ => 0), aI E q24 6 (fun _ => 0), aI E q25 6 (fun _ => 0), aI E q26 24 (fun _ => 0), oX2 q27 q28 q29 0 0, aI E q28 4 (fun _ => 0), aI E q29 4 (fun _ => 0), oX0 q30 q10 q20 ((-4)) 0, oX5 q31 q10 q20, oX3 q32 q10 q16 q20 q33 ((-4)) 0, aQ E 4 q33 [q34, q35, q36, q37], aI E q34 40 (fun _ => 0), aI E q35 40 (fun _ => 0), aI E q36 40 (fun _ => 0), aI E q37 40 (fun _ => 0), aF E 2 q38 2 (va_up (va_up (fun _ => none) (ix 0) (some q40)) (ix 1) (some q51)), aF E 3 q39 4 (va_up (va_up (va_up (fun _ => none) (ix 0) (some q62)) (ix 1) (some q64)) (ix 2) (some q66)), oX4 q40 q41 q47 0, oX1 q41 0 0 0 q42 q43 q44 q45 q46, aI E q42 4 (fun _ => 0), aI E q43 6 (fun _ => 0), aI E q44 6 (fun _ => 0), aI E q45 6 (fun _ => 0), aI E q46 24 (fun _ => 0), oX7 q47 0 q48 q49 q50, aI E q48 6 (fun _ => 0), aI E q49 6 (fun _ => 0), aI E q50 6 (fun _ => 0), oX4 q51 q52 q58 0, oX1 q52 0 0 0 q53 q54 q55 q56 q57, aI E q53 4 (fun _ => 0), aI E q54 6 (fun _ => 0), aI E q55 6 (fun _ => 0), aI E q56 6 (fun _ => 0), aI E q57 24 (fun _ => 0), oX7 q58 0 q59 q60 q61, aI E q59 6 (fun _ => 0), aI E q60 6 (fun _ => 0), aI E q61 6 (fun _ => 0), oX6 q62 q63 0 ((-1)), aI E q63 40 (fun _ => 0), oX6 q64 q65 0 ((-1)), aI E q65 40 (fun _ => 0), oX6 q66 q67 0 ((-1)), aI E q67 40 (fun _ => 0), oX6 q68 q69 0 ((-1)), aI E q69 40 (fun _ => 0)]) rfl ?_
  refine g_astq (pc := 194) (ws' := [oX11 a q1 q3 q10 q16 q20 q30 q31 q32 q38 q39 0, oX8 q1 q2 0, aI E q2 160 (fun _ => 0), oX9 q3 q1 q4 0 0 0 0 3 0, oX1 q4 0 0 0 q5 q6 q7 q8 q9, aI E q5 4 (fun _ => 0), aI E q6 6 (fun _ => 0), aI E q7 6 (fun _ => 0), aI E q8 6 (fun _ => 0), aI E q9 24 (fun _ => 0), oX1 q10 0 0 0 q11 q12 q13 q14 q15, aI E q11 4 (fun _ => 0), aI E q12 6 (fun _ => 0), aI E q13 6 (fun _ => 0), aI E q14 6 (fun _ => 0), aI E q15 24 (fun _ => 0), oX7 q16 0 q17 q18 q19, aI E q17 6 (fun _ => 0), aI E q18 6 (fun _ => 0), aI E q19 6 (fun _ => 0), oX10 q20 q10 q21 q27 0 0 ((-4)), oX1 q21 0 0 0 q22 q23 q24 q25 q26, aI E q22 4 (fun _ => 0), aI E q23 6 (fun _ => 0), aI E q24 6 (fun _ => 0), aI E q25 6 (fun _ => 0), aI E q26 24 (fun _ => 0), oX2 q27 q28 q29 0 0, aI E q28 4 (fun _ => 0), aI E q29 4 (fun _ => 0), oX0 q30 q10 q20 ((-4)) 0, oX5 q31 q10 q20, oX3 q32 q10 q16 q20 q33 ((-4)) 0, aQ E 4 q33 [q34, q35, q36, q37], aI E q34 40 (fun _ => 0), aI E q35 40 (fun _ => 0), aI E q36 40 (fun _ => 0), aI E q37 40 (fun _ => 0), aF E 2 q38 2 (va_up (va_up (fun _ => none) (ix 0) (some q40)) (ix 1) (some q51)), aF E 3 q39 4 (va_up (va_up (va_up (va_up (fun _ => none) (ix 0) (some q62)) (ix 1) (some q64)) (ix 2) (some q66)) (ix 3) (some q68)), oX4 q40 q41 q47 0, oX1 q41 0 0 0 q42 q43 q44 q45 q46, aI E q42 4 (fun _ => 0), aI E q43 6 (fun _ => 0), aI E q44 6 (fun _ => 0), aI E q45 6 (fun _ => 0), aI E q46 24 (fun _ => 0), oX7 q47 0 q48 q49 q50, aI E q48 6 (fun _ => 0), aI E q49 6 (fun _ => 0), aI E q50 6 (fun _ => 0), oX4 q51 q52 q58 0, oX1 q52 0 0 0 q53 q54 q55 q56 q57, aI E q53 4 (fun _ => 0), aI E q54 6 (fun _ => 0), aI E q55 6 (fun _ => 0), aI E q56 6 (fun _ => 0), aI E q57 24 (fun _ => 0), oX7 q58 0 q59 q60 q61, aI E q59 6 (fun _ => 0), aI E q60 6 (fun _ => 0), aI E q61 6 (fun _ => 0), oX6 q62 q63 0 ((-1)), aI E q63 40 (fun _ => 0), oX6 q64 q65 0 ((-1)), aI E q65 40 (fun _ => 0), oX6 q66 q67 0 ((-1)), aI E q67 40 (fun _ => 0), oX6 q68 q69 0 ((-1)), aI E q69 40 (fun _ => 0)]) 39 68 C rfl rfl rfl rfl (by decide) rfl dX11_init_194 ?_
  refine g_iinc (pc := 195) (v := 4) (lv' := [(1, .int 4), (0, .ref a)]) C dX11_init_195 0 rfl (by decide) (by decide) rfl ?_
  refine g_goto (pc := 198) 177 C dX11_init_198 (by decide) ?_
  refine g_iload_n (pc := 177) C dX11_init_177 0 rfl ?_
  refine g_iconst (pc := 178) (v := 4) C dX11_init_178 (by decide) ?_
  refine b_icmp_ge (pc := 179) (F1 := some ()) (F2 := (none : Option Unit)) (r := ()) 201 C dX11_init_179 (by decide) (if_pos (by decide)) (fun _ _ => ?_) (fun c _ => absurd (by decide) c)
  refine g_sameQ (ws' := [oX11 a q1 q3 q10 q16 q20 q30 q31 q32 q38 q39 0, oX8 q1 q2 0, aI E q2 160 (fun _ => 0), oX9 q3 q1 q4 0 0 0 0 3 0, oX1 q4 0 0 0 q5 q6 q7 q8 q9, aI E q5 4 (fun _ => 0), aI E q6 6 (fun _ => 0), aI E q7 6 (fun _ => 0), aI E q8 6 (fun _ => 0), aI E q9 24 (fun _ => 0), oX1 q10 0 0 0 q11 q12 q13 q14 q15, aI E q11 4 (fun _ => 0), aI E q12 6 (fun _ => 0), aI E q13 6 (fun _ => 0), aI E q14 6 (fun _ => 0), aI E q15 24 (fun _ => 0), oX7 q16 0 q17 q18 q19, aI E q17 6 (fun _ => 0), aI E q18 6 (fun _ => 0), aI E q19 6 (fun _ => 0), oX10 q20 q10 q21 q27 0 0 ((-4)), oX1 q21 0 0 0 q22 q23 q24 q25 q26, aI E q22 4 (fun _ => 0), aI E q23 6 (fun _ => 0), aI E q24 6 (fun _ => 0), aI E q25 6 (fun _ => 0), aI E q26 24 (fun _ => 0), oX2 q27 q28 q29 0 0, aI E q28 4 (fun _ => 0), aI E q29 4 (fun _ => 0), oX0 q30 q10 q20 ((-4)) 0, oX5 q31 q10 q20, oX3 q32 q10 q16 q20 q33 ((-4)) 0, aQ E 4 q33 [q34, q35, q36, q37], aI E q34 40 (fun _ => 0), aI E q35 40 (fun _ => 0), aI E q36 40 (fun _ => 0), aI E q37 40 (fun _ => 0), aQ E 2 q38 [q40, q51], aF E 3 q39 4 (va_up (va_up (va_up (va_up (fun _ => none) (ix 0) (some q62)) (ix 1) (some q64)) (ix 2) (some q66)) (ix 3) (some q68)), oX4 q40 q41 q47 0, oX1 q41 0 0 0 q42 q43 q44 q45 q46, aI E q42 4 (fun _ => 0), aI E q43 6 (fun _ => 0), aI E q44 6 (fun _ => 0), aI E q45 6 (fun _ => 0), aI E q46 24 (fun _ => 0), oX7 q47 0 q48 q49 q50, aI E q48 6 (fun _ => 0), aI E q49 6 (fun _ => 0), aI E q50 6 (fun _ => 0), oX4 q51 q52 q58 0, oX1 q52 0 0 0 q53 q54 q55 q56 q57, aI E q53 4 (fun _ => 0), aI E q54 6 (fun _ => 0), aI E q55 6 (fun _ => 0), aI E q56 6 (fun _ => 0), aI E q57 24 (fun _ => 0), oX7 q58 0 q59 q60 q61, aI E q59 6 (fun _ => 0), aI E q60 6 (fun _ => 0), aI E q61 6 (fun _ => 0), oX6 q62 q63 0 ((-1)), aI E q63 40 (fun _ => 0), oX6 q64 q65 0 ((-1)), aI E q65 40 (fun _ => 0), oX6 q66 q67 0 ((-1)), aI E q67 40 (fun _ => 0), oX6 q68 q69 0 ((-1)), aI E q69 40 (fun _ => 0)]) [q40, q51] 38 rfl rfl (fun j hj => ?_) rfl ?_
  · match j, hj with
    | 0, _ => rfl
    | 1, _ => rfl
  refine g_sameQ (ws' := [oX11 a q1 q3 q10 q16 q20 q30 q31 q32 q38 q39 0, oX8 q1 q2 0, aI E q2 160 (fun _ => 0), oX9 q3 q1 q4 0 0 0 0 3 0, oX1 q4 0 0 0 q5 q6 q7 q8 q9, aI E q5 4 (fun _ => 0), aI E q6 6 (fun _ => 0), aI E q7 6 (fun _ => 0), aI E q8 6 (fun _ => 0), aI E q9 24 (fun _ => 0), oX1 q10 0 0 0 q11 q12 q13 q14 q15, aI E q11 4 (fun _ => 0), aI E q12 6 (fun _ => 0), aI E q13 6 (fun _ => 0), aI E q14 6 (fun _ => 0), aI E q15 24 (fun _ => 0), oX7 q16 0 q17 q18 q19, aI E q17 6 (fun _ => 0), aI E q18 6 (fun _ => 0), aI E q19 6 (fun _ => 0), oX10 q20 q10 q21 q27 0 0 ((-4)), oX1 q21 0 0 0 q22 q23 q24 q25 q26, aI E q22 4 (fun _ => 0), aI E q23 6 (fun _ => 0), aI E q24 6 (fun _ => 0), aI E q25 6 (fun _ => 0), aI E q26 24 (fun _ => 0), oX2 q27 q28 q29 0 0, aI E q28 4 (fun _ => 0), aI E q29 4 (fun _ => 0), oX0 q30 q10 q20 ((-4)) 0, oX5 q31 q10 q20, oX3 q32 q10 q16 q20 q33 ((-4)) 0, aQ E 4 q33 [q34, q35, q36, q37], aI E q34 40 (fun _ => 0), aI E q35 40 (fun _ => 0), aI E q36 40 (fun _ => 0), aI E q37 40 (fun _ => 0), aQ E 2 q38 [q40, q51], aQ E 3 q39 [q62, q64, q66, q68], oX4 q40 q41 q47 0, oX1 q41 0 0 0 q42 q43 q44 q45 q46, aI E q42 4 (fun _ => 0), aI E q43 6 (fun _ => 0), aI E q44 6 (fun _ => 0), aI E q45 6 (fun _ => 0), aI E q46 24 (fun _ => 0), oX7 q47 0 q48 q49 q50, aI E q48 6 (fun _ => 0), aI E q49 6 (fun _ => 0), aI E q50 6 (fun _ => 0), oX4 q51 q52 q58 0, oX1 q52 0 0 0 q53 q54 q55 q56 q57, aI E q53 4 (fun _ => 0), aI E q54 6 (fun _ => 0), aI E q55 6 (fun _ => 0), aI E q56 6 (fun _ => 0), aI E q57 24 (fun _ => 0), oX7 q58 0 q59 q60 q61, aI E q59 6 (fun _ => 0), aI E q60 6 (fun _ => 0), aI E q61 6 (fun _ => 0), oX6 q62 q63 0 ((-1)), aI E q63 40 (fun _ => 0), oX6 q64 q65 0 ((-1)), aI E q65 40 (fun _ => 0), oX6 q66 q67 0 ((-1)), aI E q67 40 (fun _ => 0), oX6 q68 q69 0 ((-1)), aI E q69 40 (fun _ => 0)]) [q62, q64, q66, q68] 39 rfl rfl (fun j hj => ?_) rfl ?_
  · match j, hj with
    | 0, _ => rfl
    | 1, _ => rfl
    | 2, _ => rfl
    | 3, _ => rfl
  refine g_wid (k := 69) (m := 884) (by decide) (by decide) ?_
  exact g_vret (pc := 201) C (K _ ⟨q1, q2, q3, q4, q5, q6, q7, q8, q9, q10, q11, q12, q13, q14, q15, q16, q17, q18, q19, q20, q21, q22, q23, q24, q25, q26, q27, q28, q29, q30, q31, q32, q33, q34, q35, q36, q37, q38, q39, q40, q41, q42, q43, q44, q45, q46, q47, q48, q49, q50, q51, q52, q53, q54, q55, q56, q57, q58, q59, q60, q61, q62, q63, q64, q65, q66, q67, q68, q69, rfl⟩) dX11_init_201
