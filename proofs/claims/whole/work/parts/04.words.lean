theorem in_X0 : ∀ w ∈ u_ws RX0 TX0 3, w ∈ bw := List.forall_mem_cons.mpr ⟨bw_1 237 rfl rfl, List.forall_mem_cons.mpr ⟨bw_1 239 rfl rfl, List.forall_mem_cons.mpr ⟨bw_2 1 rfl rfl, fun _ h => absurd h List.not_mem_nil⟩⟩⟩
theorem in_X1 : ∀ w ∈ u_ws RX1 TX1 9, w ∈ bw := List.forall_mem_cons.mpr ⟨bw_1 205 rfl rfl, List.forall_mem_cons.mpr ⟨bw_1 207 rfl rfl, List.forall_mem_cons.mpr ⟨bw_1 209 rfl rfl, List.forall_mem_cons.mpr ⟨bw_1 211 rfl rfl, List.forall_mem_cons.mpr ⟨bw_1 213 rfl rfl, List.forall_mem_cons.mpr ⟨bw_1 215 rfl rfl, List.forall_mem_cons.mpr ⟨bw_1 217 rfl rfl, List.forall_mem_cons.mpr ⟨bw_1 219 rfl rfl, List.forall_mem_cons.mpr ⟨bw_1 221 rfl rfl, fun _ h => absurd h List.not_mem_nil⟩⟩⟩⟩⟩⟩⟩⟩⟩
theorem in_X2 : ∀ w ∈ u_ws RX2 TX2 5, w ∈ bw := List.forall_mem_cons.mpr ⟨bw_2 19 rfl rfl, List.forall_mem_cons.mpr ⟨bw_2 21 rfl rfl, List.forall_mem_cons.mpr ⟨bw_2 23 rfl rfl, List.forall_mem_cons.mpr ⟨bw_2 25 rfl rfl, List.forall_mem_cons.mpr ⟨bw_2 27 rfl rfl, fun _ h => absurd h List.not_mem_nil⟩⟩⟩⟩⟩
theorem in_X3 : ∀ w ∈ u_ws RX3 TX3 7, w ∈ bw := List.forall_mem_cons.mpr ⟨bw_1 173 rfl rfl, List.forall_mem_cons.mpr ⟨bw_1 175 rfl rfl, List.forall_mem_cons.mpr ⟨bw_1 177 rfl rfl, List.forall_mem_cons.mpr ⟨bw_1 179 rfl rfl, List.forall_mem_cons.mpr ⟨bw_1 181 rfl rfl, List.forall_mem_cons.mpr ⟨bw_1 183 rfl rfl, List.forall_mem_cons.mpr ⟨bw_1 185 rfl rfl, fun _ h => absurd h List.not_mem_nil⟩⟩⟩⟩⟩⟩⟩
theorem in_X4 : ∀ w ∈ u_ws RX4 TX4 2, w ∈ bw := List.forall_mem_cons.mpr ⟨bw_1 35 rfl rfl, List.forall_mem_cons.mpr ⟨bw_1 37 rfl rfl, fun _ h => absurd h List.not_mem_nil⟩⟩
theorem in_X5 : ∀ w ∈ u_ws RX5 TX5 2, w ∈ bw := List.forall_mem_cons.mpr ⟨bw_1 151 rfl rfl, List.forall_mem_cons.mpr ⟨bw_1 153 rfl rfl, fun _ h => absurd h List.not_mem_nil⟩⟩
theorem in_X6 : ∀ w ∈ u_ws RX6 TX6 3, w ∈ bw := List.forall_mem_cons.mpr ⟨bw_1 71 rfl rfl, List.forall_mem_cons.mpr ⟨bw_1 73 rfl rfl, List.forall_mem_cons.mpr ⟨bw_1 75 rfl rfl, fun _ h => absurd h List.not_mem_nil⟩⟩⟩
theorem in_X7 : ∀ w ∈ u_ws RX7 TX7 3, w ∈ bw := List.forall_mem_cons.mpr ⟨bw_2 44 rfl rfl, List.forall_mem_cons.mpr ⟨bw_2 46 rfl rfl, List.forall_mem_cons.mpr ⟨bw_2 48 rfl rfl, fun _ h => absurd h List.not_mem_nil⟩⟩⟩
theorem in_X8 : ∀ w ∈ u_ws RX8 TX8 13, w ∈ bw := List.forall_mem_cons.mpr ⟨bw_1 121 rfl rfl, List.forall_mem_cons.mpr ⟨bw_1 123 rfl rfl, List.forall_mem_cons.mpr ⟨bw_1 125 rfl rfl, List.forall_mem_cons.mpr ⟨bw_1 127 rfl rfl, List.forall_mem_cons.mpr ⟨bw_1 129 rfl rfl, List.forall_mem_cons.mpr ⟨bw_1 131 rfl rfl, List.forall_mem_cons.mpr ⟨bw_1 133 rfl rfl, List.forall_mem_cons.mpr ⟨bw_1 135 rfl rfl, List.forall_mem_cons.mpr ⟨bw_1 137 rfl rfl, List.forall_mem_cons.mpr ⟨bw_1 139 rfl rfl, List.forall_mem_cons.mpr ⟨bw_1 141 rfl rfl, List.forall_mem_cons.mpr ⟨bw_1 143 rfl rfl, List.forall_mem_cons.mpr ⟨bw_1 145 rfl rfl, fun _ h => absurd h List.not_mem_nil⟩⟩⟩⟩⟩⟩⟩⟩⟩⟩⟩⟩⟩
theorem in_X9 : ∀ w ∈ u_ws RX9 TX9 12, w ∈ bw := List.forall_mem_cons.mpr ⟨bw_2 63 rfl rfl, List.forall_mem_cons.mpr ⟨bw_2 65 rfl rfl, List.forall_mem_cons.mpr ⟨bw_2 67 rfl rfl, List.forall_mem_cons.mpr ⟨bw_2 69 rfl rfl, List.forall_mem_cons.mpr ⟨bw_2 71 rfl rfl, List.forall_mem_cons.mpr ⟨bw_2 73 rfl rfl, List.forall_mem_cons.mpr ⟨bw_2 75 rfl rfl, List.forall_mem_cons.mpr ⟨bw_2 77 rfl rfl, List.forall_mem_cons.mpr ⟨bw_2 79 rfl rfl, List.forall_mem_cons.mpr ⟨bw_2 81 rfl rfl, List.forall_mem_cons.mpr ⟨bw_2 83 rfl rfl, List.forall_mem_cons.mpr ⟨bw_2 85 rfl rfl, fun _ h => absurd h List.not_mem_nil⟩⟩⟩⟩⟩⟩⟩⟩⟩⟩⟩⟩
theorem in_X10 : ∀ w ∈ u_ws RX10 TX10 36, w ∈ bw := List.forall_mem_cons.mpr ⟨bw_4 37 rfl rfl, List.forall_mem_cons.mpr ⟨bw_4 39 rfl rfl, List.forall_mem_cons.mpr ⟨bw_4 41 rfl rfl, List.forall_mem_cons.mpr ⟨bw_4 43 rfl rfl, List.forall_mem_cons.mpr ⟨bw_4 45 rfl rfl, List.forall_mem_cons.mpr ⟨bw_4 47 rfl rfl, List.forall_mem_cons.mpr ⟨bw_4 49 rfl rfl, List.forall_mem_cons.mpr ⟨bw_4 51 rfl rfl, List.forall_mem_cons.mpr ⟨bw_4 53 rfl rfl, List.forall_mem_cons.mpr ⟨bw_4 55 rfl rfl, List.forall_mem_cons.mpr ⟨bw_4 57 rfl rfl, List.forall_mem_cons.mpr ⟨bw_4 59 rfl rfl, List.forall_mem_cons.mpr ⟨bw_4 61 rfl rfl, List.forall_mem_cons.mpr ⟨bw_4 63 rfl rfl, List.forall_mem_cons.mpr ⟨bw_4 65 rfl rfl, List.forall_mem_cons.mpr ⟨bw_4 67 rfl rfl, List.forall_mem_cons.mpr ⟨bw_4 69 rfl rfl, List.forall_mem_cons.mpr ⟨bw_4 71 rfl rfl, List.forall_mem_cons.mpr ⟨bw_4 73 rfl rfl, List.forall_mem_cons.mpr ⟨bw_4 75 rfl rfl, List.forall_mem_cons.mpr ⟨bw_4 77 rfl rfl, List.forall_mem_cons.mpr ⟨bw_4 79 rfl rfl, List.forall_mem_cons.mpr ⟨bw_4 81 rfl rfl, List.forall_mem_cons.mpr ⟨bw_4 83 rfl rfl, List.forall_mem_cons.mpr ⟨bw_4 85 rfl rfl, List.forall_mem_cons.mpr ⟨bw_4 87 rfl rfl, List.forall_mem_cons.mpr ⟨bw_4 89 rfl rfl, List.forall_mem_cons.mpr ⟨bw_4 91 rfl rfl, List.forall_mem_cons.mpr ⟨bw_4 93 rfl rfl, List.forall_mem_cons.mpr ⟨bw_4 95 rfl rfl, List.forall_mem_cons.mpr ⟨bw_4 97 rfl rfl, List.forall_mem_cons.mpr ⟨bw_4 99 rfl rfl, List.forall_mem_cons.mpr ⟨bw_4 101 rfl rfl, List.forall_mem_cons.mpr ⟨bw_4 103 rfl rfl, List.forall_mem_cons.mpr ⟨bw_4 105 rfl rfl, List.forall_mem_cons.mpr ⟨bw_4 107 rfl rfl, fun _ h => absurd h List.not_mem_nil⟩⟩⟩⟩⟩⟩⟩⟩⟩⟩⟩⟩⟩⟩⟩⟩⟩⟩⟩⟩⟩⟩⟩⟩⟩⟩⟩⟩⟩⟩⟩⟩⟩⟩⟩⟩
theorem fd_X4_9 : Fq RX4 9 4 0 := ⟨RX4, TX4, 2, in_X4, rfl, by decide, bw_1 29 rfl rfl⟩
theorem fp_X4_9 : Fp RX4 9 4 0 true (.array .int) := ⟨RX4, TX4, 2, tyX4, in_X4, rfl, by decide, bw_1 29 rfl rfl, tyX4_ok, nmX4, rfl, by decide +kernel, fun _ => rfl⟩
theorem fd_X5_36 : Fq RX5 36 4 0 := ⟨RX4, TX4, 2, in_X4, rfl, by decide, bw_1 30 rfl rfl⟩
theorem fd_X9_276 : Fq RX9 276 4 0 := ⟨RX4, TX4, 2, in_X4, rfl, by decide, bw_1 31 rfl rfl⟩
theorem fd_X4_15 : Fq RX4 15 4 1 := ⟨RX4, TX4, 2, in_X4, rfl, by decide, bw_1 32 rfl rfl⟩
theorem fp_X4_15 : Fp RX4 15 4 1 false .int := ⟨RX4, TX4, 2, tyX4, in_X4, rfl, by decide, bw_1 32 rfl rfl, tyX4_ok, nmX4, rfl, by decide +kernel, fun _ => rfl⟩
theorem fd_X9_83 : Fq RX9 83 4 1 := ⟨RX4, TX4, 2, in_X4, rfl, by decide, bw_1 33 rfl rfl⟩
theorem fp_X9_83 : Fp RX9 83 4 1 false .int := ⟨RX4, TX4, 2, tyX4, in_X4, rfl, by decide, bw_1 33 rfl rfl, tyX4_ok, nmX4, rfl, by decide +kernel, fun h => absurd h (by decide)⟩
theorem fd_X5_31 : Fq RX5 31 4 1 := ⟨RX4, TX4, 2, in_X4, rfl, by decide, bw_1 34 rfl rfl⟩
theorem fp_X5_31 : Fp RX5 31 4 1 false .int := ⟨RX4, TX4, 2, tyX4, in_X4, rfl, by decide, bw_1 34 rfl rfl, tyX4_ok, nmX4, rfl, by decide +kernel, fun h => absurd h (by decide)⟩
theorem fd_X6_9 : Fq RX6 9 6 0 := ⟨RX6, TX6, 3, in_X6, rfl, by decide, bw_1 59 rfl rfl⟩
theorem fp_X6_9 : Fp RX6 9 6 0 false .int := ⟨RX6, TX6, 3, tyX6, in_X6, rfl, by decide, bw_1 59 rfl rfl, tyX6_ok, nmX6, rfl, by decide +kernel, fun _ => rfl⟩
theorem fd_X0_36 : Fq RX0 36 6 0 := ⟨RX6, TX6, 3, in_X6, rfl, by decide, bw_1 60 rfl rfl⟩
theorem fp_X0_36 : Fp RX0 36 6 0 false .int := ⟨RX6, TX6, 3, tyX6, in_X6, rfl, by decide, bw_1 60 rfl rfl, tyX6_ok, nmX6, rfl, by decide +kernel, fun h => absurd h (by decide)⟩
theorem fd_X7_44 : Fq RX7 44 6 0 := ⟨RX6, TX6, 3, in_X6, rfl, by decide, bw_1 61 rfl rfl⟩
theorem fp_X7_44 : Fp RX7 44 6 0 false .int := ⟨RX6, TX6, 3, tyX6, in_X6, rfl, by decide, bw_1 61 rfl rfl, tyX6_ok, nmX6, rfl, by decide +kernel, fun h => absurd h (by decide)⟩
theorem fd_X1_69 : Fq RX1 69 6 0 := ⟨RX6, TX6, 3, in_X6, rfl, by decide, bw_1 62 rfl rfl⟩
theorem fp_X1_69 : Fp RX1 69 6 0 false .int := ⟨RX6, TX6, 3, tyX6, in_X6, rfl, by decide, bw_1 62 rfl rfl, tyX6_ok, nmX6, rfl, by decide +kernel, fun h => absurd h (by decide)⟩
theorem fd_X2_60 : Fq RX2 60 6 0 := ⟨RX6, TX6, 3, in_X6, rfl, by decide, bw_1 63 rfl rfl⟩
theorem fp_X2_60 : Fp RX2 60 6 0 false .int := ⟨RX6, TX6, 3, tyX6, in_X6, rfl, by decide, bw_1 63 rfl rfl, tyX6_ok, nmX6, rfl, by decide +kernel, fun h => absurd h (by decide)⟩
theorem fd_X3_58 : Fq RX3 58 6 0 := ⟨RX6, TX6, 3, in_X6, rfl, by decide, bw_1 64 rfl rfl⟩
theorem fp_X3_58 : Fp RX3 58 6 0 false .int := ⟨RX6, TX6, 3, tyX6, in_X6, rfl, by decide, bw_1 64 rfl rfl, tyX6_ok, nmX6, rfl, by decide +kernel, fun h => absurd h (by decide)⟩
theorem fd_X9_115 : Fq RX9 115 6 0 := ⟨RX6, TX6, 3, in_X6, rfl, by decide, bw_1 65 rfl rfl⟩
theorem fp_X9_115 : Fp RX9 115 6 0 false .int := ⟨RX6, TX6, 3, tyX6, in_X6, rfl, by decide, bw_1 65 rfl rfl, tyX6_ok, nmX6, rfl, by decide +kernel, fun h => absurd h (by decide)⟩
theorem fd_X6_15 : Fq RX6 15 6 1 := ⟨RX6, TX6, 3, in_X6, rfl, by decide, bw_1 66 rfl rfl⟩
theorem fp_X6_15 : Fp RX6 15 6 1 false .int := ⟨RX6, TX6, 3, tyX6, in_X6, rfl, by decide, bw_1 66 rfl rfl, tyX6_ok, nmX6, rfl, by decide +kernel, fun _ => rfl⟩
theorem fd_X3_69 : Fq RX3 69 6 1 := ⟨RX6, TX6, 3, in_X6, rfl, by decide, bw_1 67 rfl rfl⟩
theorem fp_X3_69 : Fp RX3 69 6 1 false .int := ⟨RX6, TX6, 3, tyX6, in_X6, rfl, by decide, bw_1 67 rfl rfl, tyX6_ok, nmX6, rfl, by decide +kernel, fun h => absurd h (by decide)⟩
theorem fd_X9_153 : Fq RX9 153 6 1 := ⟨RX6, TX6, 3, in_X6, rfl, by decide, bw_1 68 rfl rfl⟩
theorem fp_X9_153 : Fp RX9 153 6 1 false .int := ⟨RX6, TX6, 3, tyX6, in_X6, rfl, by decide, bw_1 68 rfl rfl, tyX6_ok, nmX6, rfl, by decide +kernel, fun h => absurd h (by decide)⟩
theorem fd_X6_18 : Fq RX6 18 6 2 := ⟨RX6, TX6, 3, in_X6, rfl, by decide, bw_1 69 rfl rfl⟩
theorem fp_X6_18 : Fp RX6 18 6 2 false .boolean := ⟨RX6, TX6, 3, tyX6, in_X6, rfl, by decide, bw_1 69 rfl rfl, tyX6_ok, nmX6, rfl, by decide +kernel, fun _ => rfl⟩
theorem fd_X9_242 : Fq RX9 242 6 2 := ⟨RX6, TX6, 3, in_X6, rfl, by decide, bw_1 70 rfl rfl⟩
theorem fp_X9_242 : Fp RX9 242 6 2 false .boolean := ⟨RX6, TX6, 3, tyX6, in_X6, rfl, by decide, bw_1 70 rfl rfl, tyX6_ok, nmX6, rfl, by decide +kernel, fun h => absurd h (by decide)⟩
theorem fd_X8_9 : Fq RX8 9 8 0 := ⟨RX8, TX8, 13, in_X8, rfl, by decide, bw_1 78 rfl rfl⟩
theorem fp_X8_9 : Fp RX8 9 8 0 true (.array .int) := ⟨RX8, TX8, 13, tyX8, in_X8, rfl, by decide, bw_1 78 rfl rfl, tyX8_ok, nmX8, rfl, by decide +kernel, fun _ => rfl⟩
theorem fd_X5_73 : Fq RX5 73 8 0 := ⟨RX8, TX8, 13, in_X8, rfl, by decide, bw_1 79 rfl rfl⟩
theorem fd_X9_107 : Fq RX9 107 8 0 := ⟨RX8, TX8, 13, in_X8, rfl, by decide, bw_1 80 rfl rfl⟩
theorem fd_X8_15 : Fq RX8 15 8 1 := ⟨RX8, TX8, 13, in_X8, rfl, by decide, bw_1 81 rfl rfl⟩
theorem fp_X8_15 : Fp RX8 15 8 1 true (.array .int) := ⟨RX8, TX8, 13, tyX8, in_X8, rfl, by decide, bw_1 81 rfl rfl, tyX8_ok, nmX8, rfl, by decide +kernel, fun _ => rfl⟩
theorem fd_X9_131 : Fq RX9 131 8 1 := ⟨RX8, TX8, 13, in_X8, rfl, by decide, bw_1 82 rfl rfl⟩
theorem fd_X5_79 : Fq RX5 79 8 1 := ⟨RX8, TX8, 13, in_X8, rfl, by decide, bw_1 83 rfl rfl⟩
theorem fd_X8_18 : Fq RX8 18 8 2 := ⟨RX8, TX8, 13, in_X8, rfl, by decide, bw_1 84 rfl rfl⟩
theorem fp_X8_18 : Fp RX8 18 8 2 true (.array .int) := ⟨RX8, TX8, 13, tyX8, in_X8, rfl, by decide, bw_1 84 rfl rfl, tyX8_ok, nmX8, rfl, by decide +kernel, fun _ => rfl⟩
theorem fd_X9_134 : Fq RX9 134 8 2 := ⟨RX8, TX8, 13, in_X8, rfl, by decide, bw_1 85 rfl rfl⟩
theorem fd_X5_82 : Fq RX5 82 8 2 := ⟨RX8, TX8, 13, in_X8, rfl, by decide, bw_1 86 rfl rfl⟩
theorem fd_X8_21 : Fq RX8 21 8 3 := ⟨RX8, TX8, 13, in_X8, rfl, by decide, bw_1 87 rfl rfl⟩
theorem fp_X8_21 : Fp RX8 21 8 3 true (.array .int) := ⟨RX8, TX8, 13, tyX8, in_X8, rfl, by decide, bw_1 87 rfl rfl, tyX8_ok, nmX8, rfl, by decide +kernel, fun _ => rfl⟩
theorem fd_X2_43 : Fq RX2 43 8 3 := ⟨RX8, TX8, 13, in_X8, rfl, by decide, bw_1 88 rfl rfl⟩
theorem fd_X9_143 : Fq RX9 143 8 3 := ⟨RX8, TX8, 13, in_X8, rfl, by decide, bw_1 89 rfl rfl⟩
theorem fd_X5_88 : Fq RX5 88 8 3 := ⟨RX8, TX8, 13, in_X8, rfl, by decide, bw_1 90 rfl rfl⟩
theorem fd_X8_24 : Fq RX8 24 8 4 := ⟨RX8, TX8, 13, in_X8, rfl, by decide, bw_1 91 rfl rfl⟩
theorem fp_X8_24 : Fp RX8 24 8 4 true (.array .int) := ⟨RX8, TX8, 13, tyX8, in_X8, rfl, by decide, bw_1 91 rfl rfl, tyX8_ok, nmX8, rfl, by decide +kernel, fun _ => rfl⟩
theorem fd_X9_146 : Fq RX9 146 8 4 := ⟨RX8, TX8, 13, in_X8, rfl, by decide, bw_1 92 rfl rfl⟩
theorem fd_X5_91 : Fq RX5 91 8 4 := ⟨RX8, TX8, 13, in_X8, rfl, by decide, bw_1 93 rfl rfl⟩
theorem fd_X8_27 : Fq RX8 27 8 5 := ⟨RX8, TX8, 13, in_X8, rfl, by decide, bw_1 94 rfl rfl⟩
theorem fp_X8_27 : Fp RX8 27 8 5 true (.array .int) := ⟨RX8, TX8, 13, tyX8, in_X8, rfl, by decide, bw_1 94 rfl rfl, tyX8_ok, nmX8, rfl, by decide +kernel, fun _ => rfl⟩
theorem fd_X8_30 : Fq RX8 30 8 6 := ⟨RX8, TX8, 13, in_X8, rfl, by decide, bw_1 95 rfl rfl⟩
theorem fp_X8_30 : Fp RX8 30 8 6 true (.array .int) := ⟨RX8, TX8, 13, tyX8, in_X8, rfl, by decide, bw_1 95 rfl rfl, tyX8_ok, nmX8, rfl, by decide +kernel, fun _ => rfl⟩
theorem fd_X8_36 : Fq RX8 36 8 7 := ⟨RX8, TX8, 13, in_X8, rfl, by decide, bw_1 96 rfl rfl⟩
theorem fp_X8_36 : Fp RX8 36 8 7 true (.object "TideAsked$Sea") := ⟨RX8, TX8, 13, tyX8, in_X8, rfl, by decide, bw_1 96 rfl rfl, tyX8_ok, nmX8, rfl, by decide +kernel, fun _ => rfl⟩
theorem fd_X2_32 : Fq RX2 32 8 7 := ⟨RX8, TX8, 13, in_X8, rfl, by decide, bw_1 97 rfl rfl⟩
theorem fd_X7_23 : Fq RX7 23 8 7 := ⟨RX8, TX8, 13, in_X8, rfl, by decide, bw_1 98 rfl rfl⟩
theorem fd_X1_56 : Fq RX1 56 8 7 := ⟨RX8, TX8, 13, in_X8, rfl, by decide, bw_1 99 rfl rfl⟩
theorem fd_X0_48 : Fq RX0 48 8 7 := ⟨RX8, TX8, 13, in_X8, rfl, by decide, bw_1 100 rfl rfl⟩
theorem fd_X3_49 : Fq RX3 49 8 7 := ⟨RX8, TX8, 13, in_X8, rfl, by decide, bw_1 101 rfl rfl⟩
theorem fd_X9_111 : Fq RX9 111 8 7 := ⟨RX8, TX8, 13, in_X8, rfl, by decide, bw_1 102 rfl rfl⟩
theorem fd_X8_40 : Fq RX8 40 8 8 := ⟨RX8, TX8, 13, in_X8, rfl, by decide, bw_1 103 rfl rfl⟩
theorem fp_X8_40 : Fp RX8 40 8 8 false .int := ⟨RX8, TX8, 13, tyX8, in_X8, rfl, by decide, bw_1 103 rfl rfl, tyX8_ok, nmX8, rfl, by decide +kernel, fun _ => rfl⟩
theorem fd_X5_22 : Fq RX5 22 8 8 := ⟨RX8, TX8, 13, in_X8, rfl, by decide, bw_1 104 rfl rfl⟩
theorem fp_X5_22 : Fp RX5 22 8 8 false .int := ⟨RX8, TX8, 13, tyX8, in_X8, rfl, by decide, bw_1 104 rfl rfl, tyX8_ok, nmX8, rfl, by decide +kernel, fun h => absurd h (by decide)⟩
theorem fd_X9_236 : Fq RX9 236 8 8 := ⟨RX8, TX8, 13, in_X8, rfl, by decide, bw_1 105 rfl rfl⟩
theorem fp_X9_236 : Fp RX9 236 8 8 false .int := ⟨RX8, TX8, 13, tyX8, in_X8, rfl, by decide, bw_1 105 rfl rfl, tyX8_ok, nmX8, rfl, by decide +kernel, fun h => absurd h (by decide)⟩
theorem fd_X8_44 : Fq RX8 44 8 9 := ⟨RX8, TX8, 13, in_X8, rfl, by decide, bw_1 106 rfl rfl⟩
theorem fp_X8_44 : Fp RX8 44 8 9 false .int := ⟨RX8, TX8, 13, tyX8, in_X8, rfl, by decide, bw_1 106 rfl rfl, tyX8_ok, nmX8, rfl, by decide +kernel, fun _ => rfl⟩
theorem fd_X5_25 : Fq RX5 25 8 9 := ⟨RX8, TX8, 13, in_X8, rfl, by decide, bw_1 107 rfl rfl⟩
theorem fp_X5_25 : Fp RX5 25 8 9 false .int := ⟨RX8, TX8, 13, tyX8, in_X8, rfl, by decide, bw_1 107 rfl rfl, tyX8_ok, nmX8, rfl, by decide +kernel, fun h => absurd h (by decide)⟩
theorem fd_X9_239 : Fq RX9 239 8 9 := ⟨RX8, TX8, 13, in_X8, rfl, by decide, bw_1 108 rfl rfl⟩
theorem fp_X9_239 : Fp RX9 239 8 9 false .int := ⟨RX8, TX8, 13, tyX8, in_X8, rfl, by decide, bw_1 108 rfl rfl, tyX8_ok, nmX8, rfl, by decide +kernel, fun h => absurd h (by decide)⟩
theorem fd_X8_47 : Fq RX8 47 8 10 := ⟨RX8, TX8, 13, in_X8, rfl, by decide, bw_1 109 rfl rfl⟩
theorem fp_X8_47 : Fp RX8 47 8 10 false .int := ⟨RX8, TX8, 13, tyX8, in_X8, rfl, by decide, bw_1 109 rfl rfl, tyX8_ok, nmX8, rfl, by decide +kernel, fun _ => rfl⟩
theorem fd_X3_38 : Fq RX3 38 8 10 := ⟨RX8, TX8, 13, in_X8, rfl, by decide, bw_1 110 rfl rfl⟩
theorem fp_X3_38 : Fp RX3 38 8 10 false .int := ⟨RX8, TX8, 13, tyX8, in_X8, rfl, by decide, bw_1 110 rfl rfl, tyX8_ok, nmX8, rfl, by decide +kernel, fun h => absurd h (by decide)⟩
theorem fd_X0_29 : Fq RX0 29 8 10 := ⟨RX8, TX8, 13, in_X8, rfl, by decide, bw_1 111 rfl rfl⟩
theorem fp_X0_29 : Fp RX0 29 8 10 false .int := ⟨RX8, TX8, 13, tyX8, in_X8, rfl, by decide, bw_1 111 rfl rfl, tyX8_ok, nmX8, rfl, by decide +kernel, fun h => absurd h (by decide)⟩
theorem fd_X5_28 : Fq RX5 28 8 10 := ⟨RX8, TX8, 13, in_X8, rfl, by decide, bw_1 112 rfl rfl⟩
theorem fp_X5_28 : Fp RX5 28 8 10 false .int := ⟨RX8, TX8, 13, tyX8, in_X8, rfl, by decide, bw_1 112 rfl rfl, tyX8_ok, nmX8, rfl, by decide +kernel, fun h => absurd h (by decide)⟩
theorem fd_X7_37 : Fq RX7 37 8 10 := ⟨RX8, TX8, 13, in_X8, rfl, by decide, bw_1 113 rfl rfl⟩
theorem fp_X7_37 : Fp RX7 37 8 10 false .int := ⟨RX8, TX8, 13, tyX8, in_X8, rfl, by decide, bw_1 113 rfl rfl, tyX8_ok, nmX8, rfl, by decide +kernel, fun h => absurd h (by decide)⟩
theorem fd_X1_79 : Fq RX1 79 8 10 := ⟨RX8, TX8, 13, in_X8, rfl, by decide, bw_1 114 rfl rfl⟩
theorem fp_X1_79 : Fp RX1 79 8 10 false .int := ⟨RX8, TX8, 13, tyX8, in_X8, rfl, by decide, bw_1 114 rfl rfl, tyX8_ok, nmX8, rfl, by decide +kernel, fun h => absurd h (by decide)⟩
theorem fd_X2_76 : Fq RX2 76 8 10 := ⟨RX8, TX8, 13, in_X8, rfl, by decide, bw_1 115 rfl rfl⟩
theorem fp_X2_76 : Fp RX2 76 8 10 false .int := ⟨RX8, TX8, 13, tyX8, in_X8, rfl, by decide, bw_1 115 rfl rfl, tyX8_ok, nmX8, rfl, by decide +kernel, fun h => absurd h (by decide)⟩
theorem fd_X9_101 : Fq RX9 101 8 10 := ⟨RX8, TX8, 13, in_X8, rfl, by decide, bw_1 116 rfl rfl⟩
theorem fp_X9_101 : Fp RX9 101 8 10 false .int := ⟨RX8, TX8, 13, tyX8, in_X8, rfl, by decide, bw_1 116 rfl rfl, tyX8_ok, nmX8, rfl, by decide +kernel, fun h => absurd h (by decide)⟩
theorem fd_X8_50 : Fq RX8 50 8 11 := ⟨RX8, TX8, 13, in_X8, rfl, by decide, bw_1 117 rfl rfl⟩
theorem fp_X8_50 : Fp RX8 50 8 11 false .int := ⟨RX8, TX8, 13, tyX8, in_X8, rfl, by decide, bw_1 117 rfl rfl, tyX8_ok, nmX8, rfl, by decide +kernel, fun _ => rfl⟩
theorem fd_X9_172 : Fq RX9 172 8 11 := ⟨RX8, TX8, 13, in_X8, rfl, by decide, bw_1 118 rfl rfl⟩
theorem fp_X9_172 : Fp RX9 172 8 11 false .int := ⟨RX8, TX8, 13, tyX8, in_X8, rfl, by decide, bw_1 118 rfl rfl, tyX8_ok, nmX8, rfl, by decide +kernel, fun h => absurd h (by decide)⟩
theorem fd_X8_53 : Fq RX8 53 8 12 := ⟨RX8, TX8, 13, in_X8, rfl, by decide, bw_1 119 rfl rfl⟩
theorem fp_X8_53 : Fp RX8 53 8 12 false .int := ⟨RX8, TX8, 13, tyX8, in_X8, rfl, by decide, bw_1 119 rfl rfl, tyX8_ok, nmX8, rfl, by decide +kernel, fun _ => rfl⟩
theorem fd_X9_219 : Fq RX9 219 8 12 := ⟨RX8, TX8, 13, in_X8, rfl, by decide, bw_1 120 rfl rfl⟩
theorem fp_X9_219 : Fp RX9 219 8 12 false .int := ⟨RX8, TX8, 13, tyX8, in_X8, rfl, by decide, bw_1 120 rfl rfl, tyX8_ok, nmX8, rfl, by decide +kernel, fun h => absurd h (by decide)⟩
theorem fd_X5_12 : Fq RX5 12 5 0 := ⟨RX5, TX5, 2, in_X5, rfl, by decide, bw_1 148 rfl rfl⟩
theorem fp_X5_12 : Fp RX5 12 5 0 true (.object "TideAsked$Shore") := ⟨RX5, TX5, 2, tyX5, in_X5, rfl, by decide, bw_1 148 rfl rfl, tyX5_ok, nmX5, rfl, by decide +kernel, fun _ => rfl⟩
theorem fd_X9_94 : Fq RX9 94 5 0 := ⟨RX5, TX5, 2, in_X5, rfl, by decide, bw_1 149 rfl rfl⟩
theorem fd_X5_18 : Fq RX5 18 5 1 := ⟨RX5, TX5, 2, in_X5, rfl, by decide, bw_1 150 rfl rfl⟩
theorem fp_X5_18 : Fp RX5 18 5 1 false .int := ⟨RX5, TX5, 2, tyX5, in_X5, rfl, by decide, bw_1 150 rfl rfl, tyX5_ok, nmX5, rfl, by decide +kernel, fun _ => rfl⟩
theorem fd_X3_12 : Fq RX3 12 3 0 := ⟨RX3, TX3, 7, in_X3, rfl, by decide, bw_1 166 rfl rfl⟩
theorem fp_X3_12 : Fp RX3 12 3 0 true (.object "TideAsked$Sea") := ⟨RX3, TX3, 7, tyX3, in_X3, rfl, by decide, bw_1 166 rfl rfl, tyX3_ok, nmX3, rfl, by decide +kernel, fun _ => rfl⟩
theorem fd_X3_18 : Fq RX3 18 3 1 := ⟨RX3, TX3, 7, in_X3, rfl, by decide, bw_1 167 rfl rfl⟩
theorem fp_X3_18 : Fp RX3 18 3 1 true (.array .int) := ⟨RX3, TX3, 7, tyX3, in_X3, rfl, by decide, bw_1 167 rfl rfl, tyX3_ok, nmX3, rfl, by decide +kernel, fun _ => rfl⟩
theorem fd_X3_22 : Fq RX3 22 3 2 := ⟨RX3, TX3, 7, in_X3, rfl, by decide, bw_1 168 rfl rfl⟩
theorem fp_X3_22 : Fp RX3 22 3 2 true (.array .int) := ⟨RX3, TX3, 7, tyX3, in_X3, rfl, by decide, bw_1 168 rfl rfl, tyX3_ok, nmX3, rfl, by decide +kernel, fun _ => rfl⟩
theorem fd_X3_25 : Fq RX3 25 3 3 := ⟨RX3, TX3, 7, in_X3, rfl, by decide, bw_1 169 rfl rfl⟩
theorem fp_X3_25 : Fp RX3 25 3 3 false .int := ⟨RX3, TX3, 7, tyX3, in_X3, rfl, by decide, bw_1 169 rfl rfl, tyX3_ok, nmX3, rfl, by decide +kernel, fun _ => rfl⟩
theorem fd_X3_29 : Fq RX3 29 3 4 := ⟨RX3, TX3, 7, in_X3, rfl, by decide, bw_1 170 rfl rfl⟩
theorem fp_X3_29 : Fp RX3 29 3 4 false .int := ⟨RX3, TX3, 7, tyX3, in_X3, rfl, by decide, bw_1 170 rfl rfl, tyX3_ok, nmX3, rfl, by decide +kernel, fun _ => rfl⟩
theorem fd_X3_32 : Fq RX3 32 3 5 := ⟨RX3, TX3, 7, in_X3, rfl, by decide, bw_1 171 rfl rfl⟩
theorem fp_X3_32 : Fp RX3 32 3 5 false .int := ⟨RX3, TX3, 7, tyX3, in_X3, rfl, by decide, bw_1 171 rfl rfl, tyX3_ok, nmX3, rfl, by decide +kernel, fun _ => rfl⟩
theorem fd_X3_35 : Fq RX3 35 3 6 := ⟨RX3, TX3, 7, in_X3, rfl, by decide, bw_1 172 rfl rfl⟩
theorem fp_X3_35 : Fp RX3 35 3 6 false .int := ⟨RX3, TX3, 7, tyX3, in_X3, rfl, by decide, bw_1 172 rfl rfl, tyX3_ok, nmX3, rfl, by decide +kernel, fun _ => rfl⟩
theorem fd_X1_12 : Fq RX1 12 1 0 := ⟨RX1, TX1, 9, in_X1, rfl, by decide, bw_1 196 rfl rfl⟩
theorem fp_X1_12 : Fp RX1 12 1 0 true (.object "TideAsked$Sea") := ⟨RX1, TX1, 9, tyX1, in_X1, rfl, by decide, bw_1 196 rfl rfl, tyX1_ok, nmX1, rfl, by decide +kernel, fun _ => rfl⟩
theorem fd_X1_18 : Fq RX1 18 1 1 := ⟨RX1, TX1, 9, in_X1, rfl, by decide, bw_1 197 rfl rfl⟩
theorem fp_X1_18 : Fp RX1 18 1 1 true (.array .int) := ⟨RX1, TX1, 9, tyX1, in_X1, rfl, by decide, bw_1 197 rfl rfl, tyX1_ok, nmX1, rfl, by decide +kernel, fun _ => rfl⟩
theorem fd_X1_22 : Fq RX1 22 1 2 := ⟨RX1, TX1, 9, in_X1, rfl, by decide, bw_1 198 rfl rfl⟩
theorem fp_X1_22 : Fp RX1 22 1 2 true (.array .int) := ⟨RX1, TX1, 9, tyX1, in_X1, rfl, by decide, bw_1 198 rfl rfl, tyX1_ok, nmX1, rfl, by decide +kernel, fun _ => rfl⟩
theorem fd_X1_25 : Fq RX1 25 1 3 := ⟨RX1, TX1, 9, in_X1, rfl, by decide, bw_1 199 rfl rfl⟩
theorem fp_X1_25 : Fp RX1 25 1 3 true (.array .int) := ⟨RX1, TX1, 9, tyX1, in_X1, rfl, by decide, bw_1 199 rfl rfl, tyX1_ok, nmX1, rfl, by decide +kernel, fun _ => rfl⟩
theorem fd_X1_28 : Fq RX1 28 1 4 := ⟨RX1, TX1, 9, in_X1, rfl, by decide, bw_1 200 rfl rfl⟩
theorem fp_X1_28 : Fp RX1 28 1 4 true (.array .int) := ⟨RX1, TX1, 9, tyX1, in_X1, rfl, by decide, bw_1 200 rfl rfl, tyX1_ok, nmX1, rfl, by decide +kernel, fun _ => rfl⟩
theorem fd_X1_31 : Fq RX1 31 1 5 := ⟨RX1, TX1, 9, in_X1, rfl, by decide, bw_1 201 rfl rfl⟩
theorem fp_X1_31 : Fp RX1 31 1 5 true (.array .int) := ⟨RX1, TX1, 9, tyX1, in_X1, rfl, by decide, bw_1 201 rfl rfl, tyX1_ok, nmX1, rfl, by decide +kernel, fun _ => rfl⟩
theorem fd_X1_34 : Fq RX1 34 1 6 := ⟨RX1, TX1, 9, in_X1, rfl, by decide, bw_1 202 rfl rfl⟩
theorem fp_X1_34 : Fp RX1 34 1 6 true (.array .int) := ⟨RX1, TX1, 9, tyX1, in_X1, rfl, by decide, bw_1 202 rfl rfl, tyX1_ok, nmX1, rfl, by decide +kernel, fun _ => rfl⟩
theorem fd_X1_37 : Fq RX1 37 1 7 := ⟨RX1, TX1, 9, in_X1, rfl, by decide, bw_1 203 rfl rfl⟩
theorem fp_X1_37 : Fp RX1 37 1 7 false .int := ⟨RX1, TX1, 9, tyX1, in_X1, rfl, by decide, bw_1 203 rfl rfl, tyX1_ok, nmX1, rfl, by decide +kernel, fun _ => rfl⟩
theorem fd_X1_41 : Fq RX1 41 1 8 := ⟨RX1, TX1, 9, in_X1, rfl, by decide, bw_1 204 rfl rfl⟩
theorem fp_X1_41 : Fp RX1 41 1 8 false .int := ⟨RX1, TX1, 9, tyX1, in_X1, rfl, by decide, bw_1 204 rfl rfl, tyX1_ok, nmX1, rfl, by decide +kernel, fun _ => rfl⟩
theorem fd_X0_10 : Fq RX0 10 0 0 := ⟨RX0, TX0, 3, in_X0, rfl, by decide, bw_1 232 rfl rfl⟩
theorem fp_X0_10 : Fp RX0 10 0 0 true (.object "TideAsked$Sea") := ⟨RX0, TX0, 3, tyX0, in_X0, rfl, by decide, bw_1 232 rfl rfl, tyX0_ok, nmX0, rfl, by decide +kernel, fun _ => rfl⟩
theorem fd_X0_16 : Fq RX0 16 0 1 := ⟨RX0, TX0, 3, in_X0, rfl, by decide, bw_1 233 rfl rfl⟩
theorem fp_X0_16 : Fp RX0 16 0 1 false .int := ⟨RX0, TX0, 3, tyX0, in_X0, rfl, by decide, bw_1 233 rfl rfl, tyX0_ok, nmX0, rfl, by decide +kernel, fun _ => rfl⟩
theorem fd_X9_207 : Fq RX9 207 0 1 := ⟨RX0, TX0, 3, in_X0, rfl, by decide, bw_1 234 rfl rfl⟩
theorem fp_X9_207 : Fp RX9 207 0 1 false .int := ⟨RX0, TX0, 3, tyX0, in_X0, rfl, by decide, bw_1 234 rfl rfl, tyX0_ok, nmX0, rfl, by decide +kernel, fun h => absurd h (by decide)⟩
theorem fd_X0_20 : Fq RX0 20 0 2 := ⟨RX0, TX0, 3, in_X0, rfl, by decide, bw_1 235 rfl rfl⟩
theorem fp_X0_20 : Fp RX0 20 0 2 false .int := ⟨RX0, TX0, 3, tyX0, in_X0, rfl, by decide, bw_1 235 rfl rfl, tyX0_ok, nmX0, rfl, by decide +kernel, fun _ => rfl⟩
theorem fd_X9_210 : Fq RX9 210 0 2 := ⟨RX0, TX0, 3, in_X0, rfl, by decide, bw_1 236 rfl rfl⟩
theorem fp_X9_210 : Fp RX9 210 0 2 false .int := ⟨RX0, TX0, 3, tyX0, in_X0, rfl, by decide, bw_1 236 rfl rfl, tyX0_ok, nmX0, rfl, by decide +kernel, fun h => absurd h (by decide)⟩
theorem fd_X2_12 : Fq RX2 12 2 0 := ⟨RX2, TX2, 5, in_X2, rfl, by decide, bw_2 12 rfl rfl⟩
theorem fp_X2_12 : Fp RX2 12 2 0 true (.object "TideAsked$Sea") := ⟨RX2, TX2, 5, tyX2, in_X2, rfl, by decide, bw_2 12 rfl rfl, tyX2_ok, nmX2, rfl, by decide +kernel, fun _ => rfl⟩
theorem fd_X2_18 : Fq RX2 18 2 1 := ⟨RX2, TX2, 5, in_X2, rfl, by decide, bw_2 13 rfl rfl⟩
theorem fp_X2_18 : Fp RX2 18 2 1 true (.array .int) := ⟨RX2, TX2, 5, tyX2, in_X2, rfl, by decide, bw_2 13 rfl rfl, tyX2_ok, nmX2, rfl, by decide +kernel, fun _ => rfl⟩
theorem fd_X2_22 : Fq RX2 22 2 2 := ⟨RX2, TX2, 5, in_X2, rfl, by decide, bw_2 14 rfl rfl⟩
theorem fp_X2_22 : Fp RX2 22 2 2 false .int := ⟨RX2, TX2, 5, tyX2, in_X2, rfl, by decide, bw_2 14 rfl rfl, tyX2_ok, nmX2, rfl, by decide +kernel, fun _ => rfl⟩
theorem fd_X9_160 : Fq RX9 160 2 2 := ⟨RX2, TX2, 5, in_X2, rfl, by decide, bw_2 15 rfl rfl⟩
theorem fp_X9_160 : Fp RX9 160 2 2 false .int := ⟨RX2, TX2, 5, tyX2, in_X2, rfl, by decide, bw_2 15 rfl rfl, tyX2_ok, nmX2, rfl, by decide +kernel, fun h => absurd h (by decide)⟩
theorem fd_X2_26 : Fq RX2 26 2 3 := ⟨RX2, TX2, 5, in_X2, rfl, by decide, bw_2 16 rfl rfl⟩
theorem fp_X2_26 : Fp RX2 26 2 3 false .int := ⟨RX2, TX2, 5, tyX2, in_X2, rfl, by decide, bw_2 16 rfl rfl, tyX2_ok, nmX2, rfl, by decide +kernel, fun _ => rfl⟩
theorem fd_X9_163 : Fq RX9 163 2 3 := ⟨RX2, TX2, 5, in_X2, rfl, by decide, bw_2 17 rfl rfl⟩
theorem fp_X9_163 : Fp RX9 163 2 3 false .int := ⟨RX2, TX2, 5, tyX2, in_X2, rfl, by decide, bw_2 17 rfl rfl, tyX2_ok, nmX2, rfl, by decide +kernel, fun h => absurd h (by decide)⟩
theorem fd_X2_29 : Fq RX2 29 2 4 := ⟨RX2, TX2, 5, in_X2, rfl, by decide, bw_2 18 rfl rfl⟩
theorem fp_X2_29 : Fp RX2 29 2 4 false .int := ⟨RX2, TX2, 5, tyX2, in_X2, rfl, by decide, bw_2 18 rfl rfl, tyX2_ok, nmX2, rfl, by decide +kernel, fun _ => rfl⟩
theorem fd_X7_10 : Fq RX7 10 7 0 := ⟨RX7, TX7, 3, in_X7, rfl, by decide, bw_2 38 rfl rfl⟩
theorem fp_X7_10 : Fp RX7 10 7 0 true (.object "TideAsked$Sea") := ⟨RX7, TX7, 3, tyX7, in_X7, rfl, by decide, bw_2 38 rfl rfl, tyX7_ok, nmX7, rfl, by decide +kernel, fun _ => rfl⟩
theorem fd_X9_232 : Fq RX9 232 7 0 := ⟨RX7, TX7, 3, in_X7, rfl, by decide, bw_2 39 rfl rfl⟩
theorem fd_X7_16 : Fq RX7 16 7 1 := ⟨RX7, TX7, 3, in_X7, rfl, by decide, bw_2 40 rfl rfl⟩
theorem fp_X7_16 : Fp RX7 16 7 1 false .int := ⟨RX7, TX7, 3, tyX7, in_X7, rfl, by decide, bw_2 40 rfl rfl, tyX7_ok, nmX7, rfl, by decide +kernel, fun _ => rfl⟩
theorem fd_X9_233 : Fq RX9 233 7 1 := ⟨RX7, TX7, 3, in_X7, rfl, by decide, bw_2 41 rfl rfl⟩
theorem fp_X9_233 : Fp RX9 233 7 1 false .int := ⟨RX7, TX7, 3, tyX7, in_X7, rfl, by decide, bw_2 41 rfl rfl, tyX7_ok, nmX7, rfl, by decide +kernel, fun h => absurd h (by decide)⟩
theorem fd_X7_20 : Fq RX7 20 7 2 := ⟨RX7, TX7, 3, in_X7, rfl, by decide, bw_2 42 rfl rfl⟩
theorem fp_X7_20 : Fp RX7 20 7 2 false .int := ⟨RX7, TX7, 3, tyX7, in_X7, rfl, by decide, bw_2 42 rfl rfl, tyX7_ok, nmX7, rfl, by decide +kernel, fun _ => rfl⟩
theorem fd_X9_229 : Fq RX9 229 7 2 := ⟨RX7, TX7, 3, in_X7, rfl, by decide, bw_2 43 rfl rfl⟩
theorem fp_X9_229 : Fp RX9 229 7 2 false .int := ⟨RX7, TX7, 3, tyX7, in_X7, rfl, by decide, bw_2 43 rfl rfl, tyX7_ok, nmX7, rfl, by decide +kernel, fun h => absurd h (by decide)⟩
theorem fd_X9_10 : Fq RX9 10 9 0 := ⟨RX9, TX9, 12, in_X9, rfl, by decide, bw_2 51 rfl rfl⟩
theorem fp_X9_10 : Fp RX9 10 9 0 true (.object "TideAsked$Page") := ⟨RX9, TX9, 12, tyX9, in_X9, rfl, by decide, bw_2 51 rfl rfl, tyX9_ok, nmX9, rfl, by decide +kernel, fun _ => rfl⟩
theorem fd_X9_19 : Fq RX9 19 9 1 := ⟨RX9, TX9, 12, in_X9, rfl, by decide, bw_2 52 rfl rfl⟩
theorem fp_X9_19 : Fp RX9 19 9 1 true (.object "TideAsked$Reading") := ⟨RX9, TX9, 12, tyX9, in_X9, rfl, by decide, bw_2 52 rfl rfl, tyX9_ok, nmX9, rfl, by decide +kernel, fun _ => rfl⟩
theorem fd_X9_26 : Fq RX9 26 9 2 := ⟨RX9, TX9, 12, in_X9, rfl, by decide, bw_2 53 rfl rfl⟩
theorem fp_X9_26 : Fp RX9 26 9 2 true (.object "TideAsked$Shore") := ⟨RX9, TX9, 12, tyX9, in_X9, rfl, by decide, bw_2 53 rfl rfl, tyX9_ok, nmX9, rfl, by decide +kernel, fun _ => rfl⟩
theorem fd_X9_30 : Fq RX9 30 9 3 := ⟨RX9, TX9, 12, in_X9, rfl, by decide, bw_2 54 rfl rfl⟩
theorem fp_X9_30 : Fp RX9 30 9 3 true (.object "TideAsked$Shore") := ⟨RX9, TX9, 12, tyX9, in_X9, rfl, by decide, bw_2 54 rfl rfl, tyX9_ok, nmX9, rfl, by decide +kernel, fun _ => rfl⟩
theorem fd_X9_36 : Fq RX9 36 9 4 := ⟨RX9, TX9, 12, in_X9, rfl, by decide, bw_2 55 rfl rfl⟩
theorem fp_X9_36 : Fp RX9 36 9 4 true (.object "TideAsked$Orders") := ⟨RX9, TX9, 12, tyX9, in_X9, rfl, by decide, bw_2 55 rfl rfl, tyX9_ok, nmX9, rfl, by decide +kernel, fun _ => rfl⟩
theorem fd_X9_43 : Fq RX9 43 9 5 := ⟨RX9, TX9, 12, in_X9, rfl, by decide, bw_2 56 rfl rfl⟩
theorem fp_X9_43 : Fp RX9 43 9 5 true (.object "TideAsked$Fewest") := ⟨RX9, TX9, 12, tyX9, in_X9, rfl, by decide, bw_2 56 rfl rfl, tyX9_ok, nmX9, rfl, by decide +kernel, fun _ => rfl⟩
theorem fd_X9_50 : Fq RX9 50 9 6 := ⟨RX9, TX9, 12, in_X9, rfl, by decide, bw_2 57 rfl rfl⟩
theorem fp_X9_50 : Fp RX9 50 9 6 true (.object "TideAsked$Chances") := ⟨RX9, TX9, 12, tyX9, in_X9, rfl, by decide, bw_2 57 rfl rfl, tyX9_ok, nmX9, rfl, by decide +kernel, fun _ => rfl⟩
theorem fd_X9_57 : Fq RX9 57 9 7 := ⟨RX9, TX9, 12, in_X9, rfl, by decide, bw_2 58 rfl rfl⟩
theorem fp_X9_57 : Fp RX9 57 9 7 true (.object "TideAsked$Guess") := ⟨RX9, TX9, 12, tyX9, in_X9, rfl, by decide, bw_2 58 rfl rfl, tyX9_ok, nmX9, rfl, by decide +kernel, fun _ => rfl⟩
theorem fd_X9_64 : Fq RX9 64 9 8 := ⟨RX9, TX9, 12, in_X9, rfl, by decide, bw_2 59 rfl rfl⟩
theorem fp_X9_64 : Fp RX9 64 9 8 true (.object "TideAsked$Seasons") := ⟨RX9, TX9, 12, tyX9, in_X9, rfl, by decide, bw_2 59 rfl rfl, tyX9_ok, nmX9, rfl, by decide +kernel, fun _ => rfl⟩
theorem fd_X9_68 : Fq RX9 68 9 9 := ⟨RX9, TX9, 12, in_X9, rfl, by decide, bw_2 60 rfl rfl⟩
theorem fp_X9_68 : Fp RX9 68 9 9 false .boolean := ⟨RX9, TX9, 12, tyX9, in_X9, rfl, by decide, bw_2 60 rfl rfl, tyX9_ok, nmX9, rfl, by decide +kernel, fun _ => rfl⟩
theorem fd_X9_72 : Fq RX9 72 9 10 := ⟨RX9, TX9, 12, in_X9, rfl, by decide, bw_2 61 rfl rfl⟩
theorem fp_X9_72 : Fp RX9 72 9 10 false .int := ⟨RX9, TX9, 12, tyX9, in_X9, rfl, by decide, bw_2 61 rfl rfl, tyX9_ok, nmX9, rfl, by decide +kernel, fun _ => rfl⟩
theorem fd_X9_76 : Fq RX9 76 9 11 := ⟨RX9, TX9, 12, in_X9, rfl, by decide, bw_2 62 rfl rfl⟩
theorem fp_X9_76 : Fp RX9 76 9 11 false .int := ⟨RX9, TX9, 12, tyX9, in_X9, rfl, by decide, bw_2 62 rfl rfl, tyX9_ok, nmX9, rfl, by decide +kernel, fun _ => rfl⟩
theorem fd_X10_7 : Fq RX10 7 10 0 := ⟨RX10, TX10, 36, in_X10, rfl, by decide, bw_4 1 rfl rfl⟩
theorem fp_X10_7 : Fp RX10 7 10 0 true (.array .int) := ⟨RX10, TX10, 36, tyX10, in_X10, rfl, by decide, bw_4 1 rfl rfl, tyX10_ok, nmX10, rfl, by decide +kernel, fun _ => rfl⟩
theorem fd_X10_56 : Fq RX10 56 10 1 := ⟨RX10, TX10, 36, in_X10, rfl, by decide, bw_4 2 rfl rfl⟩
theorem fp_X10_56 : Fp RX10 56 10 1 false .int := ⟨RX10, TX10, 36, tyX10, in_X10, rfl, by decide, bw_4 2 rfl rfl, tyX10_ok, nmX10, rfl, by decide +kernel, fun _ => rfl⟩
theorem fd_X10_59 : Fq RX10 59 10 2 := ⟨RX10, TX10, 36, in_X10, rfl, by decide, bw_4 3 rfl rfl⟩
theorem fp_X10_59 : Fp RX10 59 10 2 false .int := ⟨RX10, TX10, 36, tyX10, in_X10, rfl, by decide, bw_4 3 rfl rfl, tyX10_ok, nmX10, rfl, by decide +kernel, fun _ => rfl⟩
theorem fd_X10_66 : Fq RX10 66 10 3 := ⟨RX10, TX10, 36, in_X10, rfl, by decide, bw_4 4 rfl rfl⟩
theorem fp_X10_66 : Fp RX10 66 10 3 false .int := ⟨RX10, TX10, 36, tyX10, in_X10, rfl, by decide, bw_4 4 rfl rfl, tyX10_ok, nmX10, rfl, by decide +kernel, fun _ => rfl⟩
theorem fd_X10_90 : Fq RX10 90 10 4 := ⟨RX10, TX10, 36, in_X10, rfl, by decide, bw_4 5 rfl rfl⟩
theorem fp_X10_90 : Fp RX10 90 10 4 false .int := ⟨RX10, TX10, 36, tyX10, in_X10, rfl, by decide, bw_4 5 rfl rfl, tyX10_ok, nmX10, rfl, by decide +kernel, fun _ => rfl⟩
theorem fd_X10_93 : Fq RX10 93 10 5 := ⟨RX10, TX10, 36, in_X10, rfl, by decide, bw_4 6 rfl rfl⟩
theorem fp_X10_93 : Fp RX10 93 10 5 false .int := ⟨RX10, TX10, 36, tyX10, in_X10, rfl, by decide, bw_4 6 rfl rfl, tyX10_ok, nmX10, rfl, by decide +kernel, fun _ => rfl⟩
theorem fd_X10_96 : Fq RX10 96 10 6 := ⟨RX10, TX10, 36, in_X10, rfl, by decide, bw_4 7 rfl rfl⟩
theorem fp_X10_96 : Fp RX10 96 10 6 false .int := ⟨RX10, TX10, 36, tyX10, in_X10, rfl, by decide, bw_4 7 rfl rfl, tyX10_ok, nmX10, rfl, by decide +kernel, fun _ => rfl⟩
theorem fd_X10_99 : Fq RX10 99 10 7 := ⟨RX10, TX10, 36, in_X10, rfl, by decide, bw_4 8 rfl rfl⟩
theorem fp_X10_99 : Fp RX10 99 10 7 false .int := ⟨RX10, TX10, 36, tyX10, in_X10, rfl, by decide, bw_4 8 rfl rfl, tyX10_ok, nmX10, rfl, by decide +kernel, fun _ => rfl⟩
theorem fd_X10_102 : Fq RX10 102 10 8 := ⟨RX10, TX10, 36, in_X10, rfl, by decide, bw_4 9 rfl rfl⟩
theorem fp_X10_102 : Fp RX10 102 10 8 false .int := ⟨RX10, TX10, 36, tyX10, in_X10, rfl, by decide, bw_4 9 rfl rfl, tyX10_ok, nmX10, rfl, by decide +kernel, fun _ => rfl⟩
theorem fd_X10_105 : Fq RX10 105 10 9 := ⟨RX10, TX10, 36, in_X10, rfl, by decide, bw_4 10 rfl rfl⟩
theorem fp_X10_105 : Fp RX10 105 10 9 false .int := ⟨RX10, TX10, 36, tyX10, in_X10, rfl, by decide, bw_4 10 rfl rfl, tyX10_ok, nmX10, rfl, by decide +kernel, fun _ => rfl⟩
theorem fd_X10_108 : Fq RX10 108 10 10 := ⟨RX10, TX10, 36, in_X10, rfl, by decide, bw_4 11 rfl rfl⟩
theorem fp_X10_108 : Fp RX10 108 10 10 false .int := ⟨RX10, TX10, 36, tyX10, in_X10, rfl, by decide, bw_4 11 rfl rfl, tyX10_ok, nmX10, rfl, by decide +kernel, fun _ => rfl⟩
theorem fd_X10_114 : Fq RX10 114 10 11 := ⟨RX10, TX10, 36, in_X10, rfl, by decide, bw_4 12 rfl rfl⟩
theorem fp_X10_114 : Fp RX10 114 10 11 false .int := ⟨RX10, TX10, 36, tyX10, in_X10, rfl, by decide, bw_4 12 rfl rfl, tyX10_ok, nmX10, rfl, by decide +kernel, fun _ => rfl⟩
theorem fd_X10_13 : Fq RX10 13 10 12 := ⟨RX10, TX10, 36, in_X10, rfl, by decide, bw_4 13 rfl rfl⟩
theorem fp_X10_13 : Fp RX10 13 10 12 true (.array .int) := ⟨RX10, TX10, 36, tyX10, in_X10, rfl, by decide, bw_4 13 rfl rfl, tyX10_ok, nmX10, rfl, by decide +kernel, fun _ => rfl⟩
theorem fd_X10_16 : Fq RX10 16 10 13 := ⟨RX10, TX10, 36, in_X10, rfl, by decide, bw_4 14 rfl rfl⟩
theorem fp_X10_16 : Fp RX10 16 10 13 true (.array .int) := ⟨RX10, TX10, 36, tyX10, in_X10, rfl, by decide, bw_4 14 rfl rfl, tyX10_ok, nmX10, rfl, by decide +kernel, fun _ => rfl⟩
theorem fd_X10_19 : Fq RX10 19 10 14 := ⟨RX10, TX10, 36, in_X10, rfl, by decide, bw_4 15 rfl rfl⟩
theorem fp_X10_19 : Fp RX10 19 10 14 true (.array .int) := ⟨RX10, TX10, 36, tyX10, in_X10, rfl, by decide, bw_4 15 rfl rfl, tyX10_ok, nmX10, rfl, by decide +kernel, fun _ => rfl⟩
theorem fd_X10_22 : Fq RX10 22 10 15 := ⟨RX10, TX10, 36, in_X10, rfl, by decide, bw_4 16 rfl rfl⟩
theorem fp_X10_22 : Fp RX10 22 10 15 true (.array .int) := ⟨RX10, TX10, 36, tyX10, in_X10, rfl, by decide, bw_4 16 rfl rfl, tyX10_ok, nmX10, rfl, by decide +kernel, fun _ => rfl⟩
theorem fd_X10_25 : Fq RX10 25 10 16 := ⟨RX10, TX10, 36, in_X10, rfl, by decide, bw_4 17 rfl rfl⟩
theorem fp_X10_25 : Fp RX10 25 10 16 true (.array .int) := ⟨RX10, TX10, 36, tyX10, in_X10, rfl, by decide, bw_4 17 rfl rfl, tyX10_ok, nmX10, rfl, by decide +kernel, fun _ => rfl⟩
theorem fd_X10_117 : Fq RX10 117 10 17 := ⟨RX10, TX10, 36, in_X10, rfl, by decide, bw_4 18 rfl rfl⟩
theorem fp_X10_117 : Fp RX10 117 10 17 false .int := ⟨RX10, TX10, 36, tyX10, in_X10, rfl, by decide, bw_4 18 rfl rfl, tyX10_ok, nmX10, rfl, by decide +kernel, fun _ => rfl⟩
theorem fd_X10_120 : Fq RX10 120 10 18 := ⟨RX10, TX10, 36, in_X10, rfl, by decide, bw_4 19 rfl rfl⟩
theorem fp_X10_120 : Fp RX10 120 10 18 false .int := ⟨RX10, TX10, 36, tyX10, in_X10, rfl, by decide, bw_4 19 rfl rfl, tyX10_ok, nmX10, rfl, by decide +kernel, fun _ => rfl⟩
theorem fd_X10_123 : Fq RX10 123 10 19 := ⟨RX10, TX10, 36, in_X10, rfl, by decide, bw_4 20 rfl rfl⟩
theorem fp_X10_123 : Fp RX10 123 10 19 false .int := ⟨RX10, TX10, 36, tyX10, in_X10, rfl, by decide, bw_4 20 rfl rfl, tyX10_ok, nmX10, rfl, by decide +kernel, fun _ => rfl⟩
theorem fd_X10_214 : Fq RX10 214 10 20 := ⟨RX10, TX10, 36, in_X10, rfl, by decide, bw_4 21 rfl rfl⟩
theorem fp_X10_214 : Fp RX10 214 10 20 false .int := ⟨RX10, TX10, 36, tyX10, in_X10, rfl, by decide, bw_4 21 rfl rfl, tyX10_ok, nmX10, rfl, by decide +kernel, fun _ => rfl⟩
theorem fd_X10_111 : Fq RX10 111 10 21 := ⟨RX10, TX10, 36, in_X10, rfl, by decide, bw_4 22 rfl rfl⟩
theorem fp_X10_111 : Fp RX10 111 10 21 false .int := ⟨RX10, TX10, 36, tyX10, in_X10, rfl, by decide, bw_4 22 rfl rfl, tyX10_ok, nmX10, rfl, by decide +kernel, fun _ => rfl⟩
theorem fd_X10_28 : Fq RX10 28 10 22 := ⟨RX10, TX10, 36, in_X10, rfl, by decide, bw_4 23 rfl rfl⟩
theorem fp_X10_28 : Fp RX10 28 10 22 true (.array .int) := ⟨RX10, TX10, 36, tyX10, in_X10, rfl, by decide, bw_4 23 rfl rfl, tyX10_ok, nmX10, rfl, by decide +kernel, fun _ => rfl⟩
theorem fd_X10_240 : Fq RX10 240 10 23 := ⟨RX10, TX10, 36, in_X10, rfl, by decide, bw_4 24 rfl rfl⟩
theorem fp_X10_240 : Fp RX10 240 10 23 false .int := ⟨RX10, TX10, 36, tyX10, in_X10, rfl, by decide, bw_4 24 rfl rfl, tyX10_ok, nmX10, rfl, by decide +kernel, fun _ => rfl⟩
theorem fd_X10_46 : Fq RX10 46 10 24 := ⟨RX10, TX10, 36, in_X10, rfl, by decide, bw_4 25 rfl rfl⟩
theorem fp_X10_46 : Fp RX10 46 10 24 false .int := ⟨RX10, TX10, 36, tyX10, in_X10, rfl, by decide, bw_4 25 rfl rfl, tyX10_ok, nmX10, rfl, by decide +kernel, fun _ => rfl⟩
theorem fd_X10_257 : Fq RX10 257 10 25 := ⟨RX10, TX10, 36, in_X10, rfl, by decide, bw_4 26 rfl rfl⟩
theorem fp_X10_257 : Fp RX10 257 10 25 false .int := ⟨RX10, TX10, 36, tyX10, in_X10, rfl, by decide, bw_4 26 rfl rfl, tyX10_ok, nmX10, rfl, by decide +kernel, fun _ => rfl⟩
theorem fd_X10_260 : Fq RX10 260 10 26 := ⟨RX10, TX10, 36, in_X10, rfl, by decide, bw_4 27 rfl rfl⟩
theorem fp_X10_260 : Fp RX10 260 10 26 false .int := ⟨RX10, TX10, 36, tyX10, in_X10, rfl, by decide, bw_4 27 rfl rfl, tyX10_ok, nmX10, rfl, by decide +kernel, fun _ => rfl⟩
theorem fd_X10_263 : Fq RX10 263 10 27 := ⟨RX10, TX10, 36, in_X10, rfl, by decide, bw_4 28 rfl rfl⟩
theorem fp_X10_263 : Fp RX10 263 10 27 false .int := ⟨RX10, TX10, 36, tyX10, in_X10, rfl, by decide, bw_4 28 rfl rfl, tyX10_ok, nmX10, rfl, by decide +kernel, fun _ => rfl⟩
theorem fd_X10_266 : Fq RX10 266 10 28 := ⟨RX10, TX10, 36, in_X10, rfl, by decide, bw_4 29 rfl rfl⟩
theorem fp_X10_266 : Fp RX10 266 10 28 false .int := ⟨RX10, TX10, 36, tyX10, in_X10, rfl, by decide, bw_4 29 rfl rfl, tyX10_ok, nmX10, rfl, by decide +kernel, fun _ => rfl⟩
theorem fd_X10_269 : Fq RX10 269 10 29 := ⟨RX10, TX10, 36, in_X10, rfl, by decide, bw_4 30 rfl rfl⟩
theorem fp_X10_269 : Fp RX10 269 10 29 false .int := ⟨RX10, TX10, 36, tyX10, in_X10, rfl, by decide, bw_4 30 rfl rfl, tyX10_ok, nmX10, rfl, by decide +kernel, fun _ => rfl⟩
theorem fd_X10_31 : Fq RX10 31 10 30 := ⟨RX10, TX10, 36, in_X10, rfl, by decide, bw_4 31 rfl rfl⟩
theorem fp_X10_31 : Fp RX10 31 10 30 true (.array .int) := ⟨RX10, TX10, 36, tyX10, in_X10, rfl, by decide, bw_4 31 rfl rfl, tyX10_ok, nmX10, rfl, by decide +kernel, fun _ => rfl⟩
theorem fd_X10_34 : Fq RX10 34 10 31 := ⟨RX10, TX10, 36, in_X10, rfl, by decide, bw_4 32 rfl rfl⟩
theorem fp_X10_34 : Fp RX10 34 10 31 true (.array .int) := ⟨RX10, TX10, 36, tyX10, in_X10, rfl, by decide, bw_4 32 rfl rfl, tyX10_ok, nmX10, rfl, by decide +kernel, fun _ => rfl⟩
theorem fd_X10_37 : Fq RX10 37 10 32 := ⟨RX10, TX10, 36, in_X10, rfl, by decide, bw_4 33 rfl rfl⟩
theorem fp_X10_37 : Fp RX10 37 10 32 true (.array .int) := ⟨RX10, TX10, 36, tyX10, in_X10, rfl, by decide, bw_4 33 rfl rfl, tyX10_ok, nmX10, rfl, by decide +kernel, fun _ => rfl⟩
theorem fd_X10_40 : Fq RX10 40 10 33 := ⟨RX10, TX10, 36, in_X10, rfl, by decide, bw_4 34 rfl rfl⟩
theorem fp_X10_40 : Fp RX10 40 10 33 true (.array .int) := ⟨RX10, TX10, 36, tyX10, in_X10, rfl, by decide, bw_4 34 rfl rfl, tyX10_ok, nmX10, rfl, by decide +kernel, fun _ => rfl⟩
theorem fd_X10_43 : Fq RX10 43 10 34 := ⟨RX10, TX10, 36, in_X10, rfl, by decide, bw_4 35 rfl rfl⟩
theorem fp_X10_43 : Fp RX10 43 10 34 true (.array .int) := ⟨RX10, TX10, 36, tyX10, in_X10, rfl, by decide, bw_4 35 rfl rfl, tyX10_ok, nmX10, rfl, by decide +kernel, fun _ => rfl⟩
theorem fd_X10_280 : Fq RX10 280 10 35 := ⟨RX10, TX10, 36, in_X10, rfl, by decide, bw_4 36 rfl rfl⟩
theorem fp_X10_280 : Fp RX10 280 10 35 false .long := ⟨RX10, TX10, 36, tyX10, in_X10, rfl, by decide, bw_4 36 rfl rfl, tyX10_ok, nmX10, rfl, by decide +kernel, fun _ => rfl⟩
theorem cd_X0_init : Cd yX0_init cX0_init 1 none 0 := ⟨bw_1 228 rfl rfl, bw_1 8 rfl rfl, by decide +kernel⟩
theorem cd_X0_find : Cd yX0_find cX0_find 9 none 3 := ⟨bw_3 132 rfl rfl, bw_1 8 rfl rfl, by decide +kernel⟩
theorem cd_X0_weightOf : Cd yX0_weightOf cX0_weightOf 6 (some .int) 3 := ⟨bw_3 137 rfl rfl, bw_1 8 rfl rfl, by decide +kernel⟩
theorem cd_X0_greatestCommon : Cd yX0_greatestCommon cX0_greatestCommon 6 (some .int) 2 := ⟨bw_3 142 rfl rfl, bw_1 8 rfl rfl, by decide +kernel⟩
theorem cd_X1_init : Cd yX1_init cX1_init 1 none 0 := ⟨bw_1 192 rfl rfl, bw_1 7 rfl rfl, by decide +kernel⟩
theorem cd_X1_find : Cd yX1_find cX1_find 5 none 2 := ⟨bw_3 87 rfl rfl, bw_1 7 rfl rfl, by decide +kernel⟩
theorem cd_X1_tells : Cd yX1_tells cX1_tells 3 (some .int) 1 := ⟨bw_3 116 rfl rfl, bw_1 7 rfl rfl, by decide +kernel⟩
theorem cd_X1_goOn : Cd yX1_goOn cX1_goOn 4 none 2 := ⟨bw_3 110 rfl rfl, bw_1 7 rfl rfl, by decide +kernel⟩
theorem cd_X1_meet : Cd yX1_meet cX1_meet 4 none 3 := ⟨bw_3 97 rfl rfl, bw_1 7 rfl rfl, by decide +kernel⟩
theorem cd_X1_trace : Cd yX1_trace cX1_trace 4 none 1 := ⟨bw_3 105 rfl rfl, bw_1 7 rfl rfl, by decide +kernel⟩
theorem cd_X2_init : Cd yX2_init cX2_init 1 none 0 := ⟨bw_2 8 rfl rfl, bw_1 9 rfl rfl, by decide +kernel⟩
theorem cd_X2_seaAfter : Cd yX2_seaAfter cX2_seaAfter 4 (some (.object "TideAsked$Sea")) 3 := ⟨bw_2 211 rfl rfl, bw_1 9 rfl rfl, by decide +kernel⟩
theorem cd_X2_weigh : Cd yX2_weigh cX2_weigh 5 none 2 := ⟨bw_2 225 rfl rfl, bw_1 9 rfl rfl, by decide +kernel⟩
theorem cd_X2_whomToSend : Cd yX2_whomToSend cX2_whomToSend 5 (some .int) 1 := ⟨bw_3 164 rfl rfl, bw_1 9 rfl rfl, by decide +kernel⟩
theorem cd_X3_init : Cd yX3_init cX3_init 1 none 0 := ⟨bw_1 162 rfl rfl, bw_1 6 rfl rfl, by decide +kernel⟩
theorem cd_X3_find : Cd yX3_find cX3_find 4 none 1 := ⟨bw_3 51 rfl rfl, bw_1 6 rfl rfl, by decide +kernel⟩
theorem cd_X3_tells : Cd yX3_tells cX3_tells 2 (some .int) 1 := ⟨bw_3 79 rfl rfl, bw_1 6 rfl rfl, by decide +kernel⟩
theorem cd_X3_tryLine : Cd yX3_tryLine cX3_tryLine 3 none 1 := ⟨bw_3 55 rfl rfl, bw_1 6 rfl rfl, by decide +kernel⟩
theorem cd_X3_isBetter : Cd yX3_isBetter cX3_isBetter 2 (some .boolean) 1 := ⟨bw_3 66 rfl rfl, bw_1 6 rfl rfl, by decide +kernel⟩
theorem cd_X3_nextLine : Cd yX3_nextLine cX3_nextLine 5 (some .boolean) 0 := ⟨bw_3 71 rfl rfl, bw_1 6 rfl rfl, by decide +kernel⟩
theorem cd_X3_swap : Cd yX3_swap cX3_swap 4 none 2 := ⟨bw_3 75 rfl rfl, bw_1 6 rfl rfl, by decide +kernel⟩
theorem cd_X4_init : Cd yX4_init cX4_init 1 none 0 := ⟨bw_1 27 rfl rfl, bw_1 2 rfl rfl, by decide +kernel⟩
theorem cd_X4_put : Cd yX4_put cX4_put 2 (some .boolean) 1 := ⟨bw_2 95 rfl rfl, bw_1 2 rfl rfl, by decide +kernel⟩
theorem cd_X5_init : Cd yX5_init cX5_init 1 none 0 := ⟨bw_1 45 rfl rfl, bw_1 3 rfl rfl, by decide +kernel⟩
theorem cd_X5_read : Cd yX5_read cX5_read 3 (some .int) 1 := ⟨bw_2 107 rfl rfl, bw_1 3 rfl rfl, by decide +kernel⟩
theorem cd_X5_isWhole : Cd yX5_isWhole cX5_isWhole 1 (some .boolean) 0 := ⟨bw_2 160 rfl rfl, bw_1 3 rfl rfl, by decide +kernel⟩
theorem cd_X5_takes : Cd yX5_takes cX5_takes 2 (some .boolean) 1 := ⟨bw_2 111 rfl rfl, bw_1 3 rfl rfl, by decide +kernel⟩
theorem cd_X5_goesTo : Cd yX5_goesTo cX5_goesTo 2 (some .boolean) 1 := ⟨bw_2 119 rfl rfl, bw_1 3 rfl rfl, by decide +kernel⟩
theorem cd_X5_takesSand : Cd yX5_takesSand cX5_takesSand 2 (some .boolean) 1 := ⟨bw_2 123 rfl rfl, bw_1 3 rfl rfl, by decide +kernel⟩
theorem cd_X5_endsSands : Cd yX5_endsSands cX5_endsSands 1 (some .boolean) 0 := ⟨bw_2 115 rfl rfl, bw_1 3 rfl rfl, by decide +kernel⟩
theorem cd_X5_takesBoat : Cd yX5_takesBoat cX5_takesBoat 2 (some .boolean) 1 := ⟨bw_2 130 rfl rfl, bw_1 3 rfl rfl, by decide +kernel⟩
theorem cd_X5_takesDepth : Cd yX5_takesDepth cX5_takesDepth 2 (some .boolean) 1 := ⟨bw_2 138 rfl rfl, bw_1 3 rfl rfl, by decide +kernel⟩
theorem cd_X5_takesAsker : Cd yX5_takesAsker cX5_takesAsker 2 (some .boolean) 1 := ⟨bw_2 145 rfl rfl, bw_1 3 rfl rfl, by decide +kernel⟩
theorem cd_X5_takesManners : Cd yX5_takesManners cX5_takesManners 2 (some .boolean) 1 := ⟨bw_2 152 rfl rfl, bw_1 3 rfl rfl, by decide +kernel⟩
theorem cd_X5_kindOf : Cd yX5_kindOf cX5_kindOf 1 (some .int) 1 := ⟨bw_2 141 rfl rfl, bw_1 3 rfl rfl, by decide +kernel⟩
theorem cd_X6_init : Cd yX6_init cX6_init 1 none 0 := ⟨bw_1 57 rfl rfl, bw_1 5 rfl rfl, by decide +kernel⟩
theorem cd_X6_become : Cd yX6_become cX6_become 2 none 1 := ⟨bw_2 171 rfl rfl, bw_1 5 rfl rfl, by decide +kernel⟩
theorem cd_X6_code : Cd yX6_code cX6_code 1 (some .int) 0 := ⟨bw_3 93 rfl rfl, bw_1 5 rfl rfl, by decide +kernel⟩
theorem cd_X6_becomeCode : Cd yX6_becomeCode cX6_becomeCode 3 none 1 := ⟨bw_3 101 rfl rfl, bw_1 5 rfl rfl, by decide +kernel⟩
theorem cd_X6_hear : Cd yX6_hear cX6_hear 6 none 2 := ⟨bw_2 217 rfl rfl, bw_1 5 rfl rfl, by decide +kernel⟩
theorem cd_X6_hearThanks : Cd yX6_hearThanks cX6_hearThanks 1 none 0 := ⟨bw_3 27 rfl rfl, bw_1 5 rfl rfl, by decide +kernel⟩
theorem cd_X6_timesToMakeGood : Cd yX6_timesToMakeGood cX6_timesToMakeGood 4 (some .int) 0 := ⟨bw_3 124 rfl rfl, bw_1 5 rfl rfl, by decide +kernel⟩
theorem cd_X7_init : Cd yX7_init cX7_init 1 none 0 := ⟨bw_2 34 rfl rfl, bw_1 10 rfl rfl, by decide +kernel⟩
theorem cd_X7_pass : Cd yX7_pass cX7_pass 5 none 3 := ⟨bw_3 173 rfl rfl, bw_1 10 rfl rfl, by decide +kernel⟩
theorem cd_X7_next : Cd yX7_next cX7_next 2 (some .int) 1 := ⟨bw_3 178 rfl rfl, bw_1 10 rfl rfl, by decide +kernel⟩
theorem cd_X8_init : Cd yX8_init cX8_init 1 none 0 := ⟨bw_1 51 rfl rfl, bw_1 4 rfl rfl, by decide +kernel⟩
theorem cd_X8_become : Cd yX8_become cX8_become 2 none 1 := ⟨bw_2 164 rfl rfl, bw_1 4 rfl rfl, by decide +kernel⟩
theorem cd_X8_isThere : Cd yX8_isThere cX8_isThere 1 (some .boolean) 0 := ⟨bw_3 23 rfl rfl, bw_1 4 rfl rfl, by decide +kernel⟩
theorem cd_X8_hasSand : Cd yX8_hasSand cX8_hasSand 2 (some .boolean) 1 := ⟨bw_2 134 rfl rfl, bw_1 4 rfl rfl, by decide +kernel⟩
theorem cd_X8_hasBoat : Cd yX8_hasBoat cX8_hasBoat 2 (some .boolean) 1 := ⟨bw_2 192 rfl rfl, bw_1 4 rfl rfl, by decide +kernel⟩
theorem cd_X8_hasAsker : Cd yX8_hasAsker cX8_hasAsker 2 (some .boolean) 1 := ⟨bw_2 207 rfl rfl, bw_1 4 rfl rfl, by decide +kernel⟩
theorem cd_X8_letAsk : Cd yX8_letAsk cX8_letAsk 3 none 2 := ⟨bw_3 13 rfl rfl, bw_1 4 rfl rfl, by decide +kernel⟩
theorem cd_X8_reaches : Cd yX8_reaches cX8_reaches 4 (some .boolean) 2 := ⟨bw_2 180 rfl rfl, bw_1 4 rfl rfl, by decide +kernel⟩
theorem cd_X8_leastTide : Cd yX8_leastTide cX8_leastTide 5 (some .int) 1 := ⟨bw_2 196 rfl rfl, bw_1 4 rfl rfl, by decide +kernel⟩
theorem cd_X8_boatsOn : Cd yX8_boatsOn cX8_boatsOn 4 (some .int) 1 := ⟨bw_2 184 rfl rfl, bw_1 4 rfl rfl, by decide +kernel⟩
theorem cd_X8_boatsAfloat : Cd yX8_boatsAfloat cX8_boatsAfloat 4 (some .int) 1 := ⟨bw_3 61 rfl rfl, bw_1 4 rfl rfl, by decide +kernel⟩
theorem cd_X8_sandsReached : Cd yX8_sandsReached cX8_sandsReached 4 (some .int) 1 := ⟨bw_3 202 rfl rfl, bw_1 4 rfl rfl, by decide +kernel⟩
theorem cd_X8_keepSeen : Cd yX8_keepSeen cX8_keepSeen 3 (some .boolean) 2 := ⟨bw_3 152 rfl rfl, bw_1 4 rfl rfl, by decide +kernel⟩
theorem cd_X8_agreesWithSeen : Cd yX8_agreesWithSeen cX8_agreesWithSeen 4 (some .boolean) 2 := ⟨bw_2 236 rfl rfl, bw_1 4 rfl rfl, by decide +kernel⟩
theorem cd_X9_init : Cd yX9_init cX9_init 1 none 0 := ⟨bw_1 19 rfl rfl, bw_1 1 rfl rfl, by decide +kernel⟩
theorem cd_X9_letter : Cd yX9_letter cX9_letter 2 (some .int) 1 := ⟨bw_2 91 rfl rfl, bw_1 1 rfl rfl, by decide +kernel⟩
theorem cd_X9_blank : Cd yX9_blank cX9_blank 2 (some .int) 0 := ⟨bw_2 99 rfl rfl, bw_1 1 rfl rfl, by decide +kernel⟩
theorem cd_X9_fault : Cd yX9_fault cX9_fault 1 (some .int) 0 := ⟨bw_2 103 rfl rfl, bw_1 1 rfl rfl, by decide +kernel⟩
theorem cd_X9_shore : Cd yX9_shore cX9_shore 1 (some .int) 0 := ⟨bw_2 156 rfl rfl, bw_1 1 rfl rfl, by decide +kernel⟩
theorem cd_X9_sand : Cd yX9_sand cX9_sand 3 (some .int) 2 := ⟨bw_2 175 rfl rfl, bw_1 1 rfl rfl, by decide +kernel⟩
theorem cd_X9_boat : Cd yX9_boat cX9_boat 3 (some .int) 2 := ⟨bw_2 188 rfl rfl, bw_1 1 rfl rfl, by decide +kernel⟩
theorem cd_X9_asker : Cd yX9_asker cX9_asker 3 (some .int) 2 := ⟨bw_2 203 rfl rfl, bw_1 1 rfl rfl, by decide +kernel⟩
theorem cd_X9_as : Cd yX9_as cX9_as 3 (some .int) 2 := ⟨bw_3 1 rfl rfl, bw_1 1 rfl rfl, by decide +kernel⟩
theorem cd_X9_ask : Cd yX9_ask cX9_ask 2 (some .int) 1 := ⟨bw_3 9 rfl rfl, bw_1 1 rfl rfl, by decide +kernel⟩
theorem cd_X9_thank : Cd yX9_thank cX9_thank 1 (some .int) 0 := ⟨bw_3 19 rfl rfl, bw_1 1 rfl rfl, by decide +kernel⟩
theorem cd_X9_draw : Cd yX9_draw cX9_draw 4 (some .int) 2 := ⟨bw_3 31 rfl rfl, bw_1 1 rfl rfl, by decide +kernel⟩
theorem cd_X9_heap : Cd yX9_heap cX9_heap 4 (some .int) 2 := ⟨bw_3 35 rfl rfl, bw_1 1 rfl rfl, by decide +kernel⟩
theorem cd_X9_teach : Cd yX9_teach cX9_teach 5 (some .int) 3 := ⟨bw_3 40 rfl rfl, bw_1 1 rfl rfl, by decide +kernel⟩
theorem cd_X9_order : Cd yX9_order cX9_order 2 (some .int) 1 := ⟨bw_3 44 rfl rfl, bw_1 1 rfl rfl, by decide +kernel⟩
theorem cd_X9_few : Cd yX9_few cX9_few 3 (some .int) 2 := ⟨bw_3 83 rfl rfl, bw_1 1 rfl rfl, by decide +kernel⟩
theorem cd_X9_good : Cd yX9_good cX9_good 1 (some .int) 0 := ⟨bw_3 120 rfl rfl, bw_1 1 rfl rfl, by decide +kernel⟩
theorem cd_X9_odds : Cd yX9_odds cX9_odds 4 (some .int) 3 := ⟨bw_3 128 rfl rfl, bw_1 1 rfl rfl, by decide +kernel⟩
theorem cd_X9_see : Cd yX9_see cX9_see 3 (some .int) 2 := ⟨bw_3 147 rfl rfl, bw_1 1 rfl rfl, by decide +kernel⟩
theorem cd_X9_forget : Cd yX9_forget cX9_forget 2 (some .int) 0 := ⟨bw_3 156 rfl rfl, bw_1 1 rfl rfl, by decide +kernel⟩
theorem cd_X9_send : Cd yX9_send cX9_send 1 (some .int) 0 := ⟨bw_3 160 rfl rfl, bw_1 1 rfl rfl, by decide +kernel⟩
theorem cd_X9_seasons : Cd yX9_seasons cX9_seasons 4 (some .int) 3 := ⟨bw_3 169 rfl rfl, bw_1 1 rfl rfl, by decide +kernel⟩
theorem cd_X9_image : Cd yX9_image cX9_image 1 (some .int) 0 := ⟨bw_3 189 rfl rfl, bw_1 1 rfl rfl, by decide +kernel⟩
theorem cd_X9_restore : Cd yX9_restore cX9_restore 1 (some .int) 0 := ⟨bw_3 193 rfl rfl, bw_1 1 rfl rfl, by decide +kernel⟩
theorem cd_X9_count : Cd yX9_count cX9_count 2 (some .int) 1 := ⟨bw_3 197 rfl rfl, bw_1 1 rfl rfl, by decide +kernel⟩
theorem cd_X9_digest : Cd yX9_digest cX9_digest 4 (some .long) 0 := ⟨bw_3 207 rfl rfl, bw_1 1 rfl rfl, by decide +kernel⟩
theorem cd_X9_mixSands : Cd yX9_mixSands cX9_mixSands 7 (some .long) 1 := ⟨bw_3 212 rfl rfl, bw_1 1 rfl rfl, by decide +kernel⟩
theorem cd_X9_mixBoats : Cd yX9_mixBoats cX9_mixBoats 7 (some .long) 1 := ⟨bw_3 221 rfl rfl, bw_1 1 rfl rfl, by decide +kernel⟩
theorem cd_X9_mixAskers : Cd yX9_mixAskers cX9_mixAskers 7 (some .long) 1 := ⟨bw_3 226 rfl rfl, bw_1 1 rfl rfl, by decide +kernel⟩
theorem cd_X9_mixOrder : Cd yX9_mixOrder cX9_mixOrder 6 (some .long) 1 := ⟨bw_3 231 rfl rfl, bw_1 1 rfl rfl, by decide +kernel⟩
theorem cd_X9_mix : Cd yX9_mix cX9_mix 4 (some .long) 2 := ⟨bw_3 216 rfl rfl, bw_1 1 rfl rfl, by decide +kernel⟩
theorem cd_X9_isDigit : Cd yX9_isDigit cX9_isDigit 1 (some .boolean) 1 := ⟨bw_2 126 rfl rfl, bw_1 1 rfl rfl, by decide +kernel⟩
theorem cd_X9_isKind : Cd yX9_isKind cX9_isKind 1 (some .boolean) 1 := ⟨bw_2 148 rfl rfl, bw_1 1 rfl rfl, by decide +kernel⟩
theorem cd_X9_isTide : Cd yX9_isTide cX9_isTide 1 (some .boolean) 1 := ⟨bw_2 232 rfl rfl, bw_1 1 rfl rfl, by decide +kernel⟩
theorem cd_X9_isPlace : Cd yX9_isPlace cX9_isPlace 1 (some .boolean) 1 := ⟨bw_3 47 rfl rfl, bw_1 1 rfl rfl, by decide +kernel⟩
theorem cd_X9_isOfKind : Cd yX9_isOfKind cX9_isOfKind 2 (some .boolean) 2 := ⟨bw_3 5 rfl rfl, bw_1 1 rfl rfl, by decide +kernel⟩
theorem cd_X10_init : Cd yX10_init cX10_init 1 none 0 := ⟨bw_3 239 rfl rfl, bw_1 11 rfl rfl, by decide +kernel⟩
theorem cd_X10_in : Cd yX10_in cX10_in 6 (some .boolean) 3 := ⟨bw_4 117 rfl rfl, bw_1 11 rfl rfl, by decide +kernel⟩
theorem cd_X10_copy : Cd yX10_copy cX10_copy 3 none 2 := ⟨bw_5 123 rfl rfl, bw_1 11 rfl rfl, by decide +kernel⟩
theorem cd_X10_letter : Cd yX10_letter cX10_letter 2 (some .int) 1 := ⟨bw_4 113 rfl rfl, bw_1 11 rfl rfl, by decide +kernel⟩
theorem cd_X10_blank : Cd yX10_blank cX10_blank 2 (some .int) 0 := ⟨bw_4 121 rfl rfl, bw_1 11 rfl rfl, by decide +kernel⟩
theorem cd_X10_kindBy : Cd yX10_kindBy cX10_kindBy 1 (some .int) 1 := ⟨bw_4 150 rfl rfl, bw_1 11 rfl rfl, by decide +kernel⟩
theorem cd_X10_isSandLetter : Cd yX10_isSandLetter cX10_isSandLetter 3 (some .boolean) 1 := ⟨bw_4 137 rfl rfl, bw_1 11 rfl rfl, by decide +kernel⟩
theorem cd_X10_isBoatLetter : Cd yX10_isBoatLetter cX10_isBoatLetter 4 (some .boolean) 1 := ⟨bw_4 143 rfl rfl, bw_1 11 rfl rfl, by decide +kernel⟩
theorem cd_X10_isAskerLetter : Cd yX10_isAskerLetter cX10_isAskerLetter 4 (some .boolean) 1 := ⟨bw_4 147 rfl rfl, bw_1 11 rfl rfl, by decide +kernel⟩
theorem cd_X10_isGood : Cd yX10_isGood cX10_isGood 2 (some .boolean) 1 := ⟨bw_4 133 rfl rfl, bw_1 11 rfl rfl, by decide +kernel⟩
theorem cd_X10_faultOf : Cd yX10_faultOf cX10_faultOf 2 (some .int) 0 := ⟨bw_4 129 rfl rfl, bw_1 11 rfl rfl, by decide +kernel⟩
theorem cd_X10_fault : Cd yX10_fault cX10_fault 1 (some .int) 0 := ⟨bw_4 125 rfl rfl, bw_1 11 rfl rfl, by decide +kernel⟩
theorem cd_X10_shore : Cd yX10_shore cX10_shore 2 (some .int) 0 := ⟨bw_4 154 rfl rfl, bw_1 11 rfl rfl, by decide +kernel⟩
theorem cd_X10_lacks : Cd yX10_lacks cX10_lacks 1 (some .boolean) 0 := ⟨bw_5 15 rfl rfl, bw_1 11 rfl rfl, by decide +kernel⟩
theorem cd_X10_isSand : Cd yX10_isSand cX10_isSand 2 (some .boolean) 1 := ⟨bw_4 162 rfl rfl, bw_1 11 rfl rfl, by decide +kernel⟩
theorem cd_X10_isBoat : Cd yX10_isBoat cX10_isBoat 2 (some .boolean) 1 := ⟨bw_4 186 rfl rfl, bw_1 11 rfl rfl, by decide +kernel⟩
theorem cd_X10_isAsker : Cd yX10_isAsker cX10_isAsker 2 (some .boolean) 1 := ⟨bw_4 206 rfl rfl, bw_1 11 rfl rfl, by decide +kernel⟩
theorem cd_X10_begin : Cd yX10_begin cX10_begin 1 none 0 := ⟨bw_4 170 rfl rfl, bw_1 11 rfl rfl, by decide +kernel⟩
theorem cd_X10_keep : Cd yX10_keep cX10_keep 1 none 0 := ⟨bw_5 7 rfl rfl, bw_1 11 rfl rfl, by decide +kernel⟩
theorem cd_X10_askBy : Cd yX10_askBy cX10_askBy 5 none 2 := ⟨bw_4 218 rfl rfl, bw_1 11 rfl rfl, by decide +kernel⟩
theorem cd_X10_askThen : Cd yX10_askThen cX10_askThen 2 none 1 := ⟨bw_4 214 rfl rfl, bw_1 11 rfl rfl, by decide +kernel⟩
theorem cd_X10_thankThen : Cd yX10_thankThen cX10_thankThen 1 none 0 := ⟨bw_5 19 rfl rfl, bw_1 11 rfl rfl, by decide +kernel⟩
theorem cd_X10_reachesThen : Cd yX10_reachesThen cX10_reachesThen 4 (some .boolean) 1 := ⟨bw_4 174 rfl rfl, bw_1 11 rfl rfl, by decide +kernel⟩
theorem cd_X10_floatsThen : Cd yX10_floatsThen cX10_floatsThen 2 (some .boolean) 1 := ⟨bw_4 194 rfl rfl, bw_1 11 rfl rfl, by decide +kernel⟩
theorem cd_X10_floating : Cd yX10_floating cX10_floating 3 (some .int) 0 := ⟨bw_5 58 rfl rfl, bw_1 11 rfl rfl, by decide +kernel⟩
theorem cd_X10_reached : Cd yX10_reached cX10_reached 3 (some .int) 0 := ⟨bw_5 139 rfl rfl, bw_1 11 rfl rfl, by decide +kernel⟩
theorem cd_X10_boatsAt : Cd yX10_boatsAt cX10_boatsAt 4 (some .int) 1 := ⟨bw_4 178 rfl rfl, bw_1 11 rfl rfl, by decide +kernel⟩
theorem cd_X10_tellSand : Cd yX10_tellSand cX10_tellSand 3 (some .int) 2 := ⟨bw_4 166 rfl rfl, bw_1 11 rfl rfl, by decide +kernel⟩
theorem cd_X10_sand : Cd yX10_sand cX10_sand 3 (some .int) 2 := ⟨bw_4 158 rfl rfl, bw_1 11 rfl rfl, by decide +kernel⟩
theorem cd_X10_leastTide : Cd yX10_leastTide cX10_leastTide 3 (some .int) 1 := ⟨bw_4 198 rfl rfl, bw_1 11 rfl rfl, by decide +kernel⟩
theorem cd_X10_tellBoat : Cd yX10_tellBoat cX10_tellBoat 3 (some .int) 2 := ⟨bw_4 190 rfl rfl, bw_1 11 rfl rfl, by decide +kernel⟩
theorem cd_X10_boat : Cd yX10_boat cX10_boat 3 (some .int) 2 := ⟨bw_4 182 rfl rfl, bw_1 11 rfl rfl, by decide +kernel⟩
theorem cd_X10_tellAsker : Cd yX10_tellAsker cX10_tellAsker 3 (some .int) 2 := ⟨bw_4 210 rfl rfl, bw_1 11 rfl rfl, by decide +kernel⟩
theorem cd_X10_asker : Cd yX10_asker cX10_asker 3 (some .int) 2 := ⟨bw_4 202 rfl rfl, bw_1 11 rfl rfl, by decide +kernel⟩
theorem cd_X10_as : Cd yX10_as cX10_as 4 (some .int) 2 := ⟨bw_4 238 rfl rfl, bw_1 11 rfl rfl, by decide +kernel⟩
theorem cd_X10_ask : Cd yX10_ask cX10_ask 2 (some .int) 1 := ⟨bw_5 3 rfl rfl, bw_1 11 rfl rfl, by decide +kernel⟩
theorem cd_X10_thank : Cd yX10_thank cX10_thank 1 (some .int) 0 := ⟨bw_5 11 rfl rfl, bw_1 11 rfl rfl, by decide +kernel⟩
theorem cd_X10_draw : Cd yX10_draw cX10_draw 4 (some .int) 2 := ⟨bw_5 23 rfl rfl, bw_1 11 rfl rfl, by decide +kernel⟩
theorem cd_X10_heap : Cd yX10_heap cX10_heap 4 (some .int) 2 := ⟨bw_5 27 rfl rfl, bw_1 11 rfl rfl, by decide +kernel⟩
theorem cd_X10_teach : Cd yX10_teach cX10_teach 5 (some .int) 3 := ⟨bw_5 32 rfl rfl, bw_1 11 rfl rfl, by decide +kernel⟩
theorem cd_X10_figure : Cd yX10_figure cX10_figure 7 (some .int) 4 := ⟨bw_5 54 rfl rfl, bw_1 11 rfl rfl, by decide +kernel⟩
theorem cd_X10_power : Cd yX10_power cX10_power 4 (some .int) 2 := ⟨bw_5 46 rfl rfl, bw_1 11 rfl rfl, by decide +kernel⟩
theorem cd_X10_orderBy : Cd yX10_orderBy cX10_orderBy 5 (some .int) 1 := ⟨bw_5 50 rfl rfl, bw_1 11 rfl rfl, by decide +kernel⟩
theorem cd_X10_orderOf : Cd yX10_orderOf cX10_orderOf 6 (some .int) 1 := ⟨bw_5 43 rfl rfl, bw_1 11 rfl rfl, by decide +kernel⟩
theorem cd_X10_order : Cd yX10_order cX10_order 2 (some .int) 1 := ⟨bw_5 36 rfl rfl, bw_1 11 rfl rfl, by decide +kernel⟩
theorem cd_X10_isAfloat : Cd yX10_isAfloat cX10_isAfloat 6 (some .boolean) 3 := ⟨bw_5 70 rfl rfl, bw_1 11 rfl rfl, by decide +kernel⟩
theorem cd_X10_fewOf : Cd yX10_fewOf cX10_fewOf 6 (some .int) 2 := ⟨bw_5 66 rfl rfl, bw_1 11 rfl rfl, by decide +kernel⟩
theorem cd_X10_few : Cd yX10_few cX10_few 3 (some .int) 2 := ⟨bw_5 62 rfl rfl, bw_1 11 rfl rfl, by decide +kernel⟩
theorem cd_X10_goodOf : Cd yX10_goodOf cX10_goodOf 2 (some .int) 0 := ⟨bw_5 78 rfl rfl, bw_1 11 rfl rfl, by decide +kernel⟩
theorem cd_X10_good : Cd yX10_good cX10_good 1 (some .int) 0 := ⟨bw_5 74 rfl rfl, bw_1 11 rfl rfl, by decide +kernel⟩
theorem cd_X10_oddsOf : Cd yX10_oddsOf cX10_oddsOf 10 (some .int) 3 := ⟨bw_5 86 rfl rfl, bw_1 11 rfl rfl, by decide +kernel⟩
theorem cd_X10_odds : Cd yX10_odds cX10_odds 4 (some .int) 3 := ⟨bw_5 82 rfl rfl, bw_1 11 rfl rfl, by decide +kernel⟩
theorem cd_X10_see : Cd yX10_see cX10_see 3 (some .int) 2 := ⟨bw_5 90 rfl rfl, bw_1 11 rfl rfl, by decide +kernel⟩
theorem cd_X10_forget : Cd yX10_forget cX10_forget 2 (some .int) 0 := ⟨bw_5 95 rfl rfl, bw_1 11 rfl rfl, by decide +kernel⟩
theorem cd_X10_tideIf : Cd yX10_tideIf cX10_tideIf 3 (some .int) 2 := ⟨bw_4 226 rfl rfl, bw_1 11 rfl rfl, by decide +kernel⟩
theorem cd_X10_mannersOf : Cd yX10_mannersOf cX10_mannersOf 6 (some .int) 1 := ⟨bw_4 222 rfl rfl, bw_1 11 rfl rfl, by decide +kernel⟩
theorem cd_X10_manyBy : Cd yX10_manyBy cX10_manyBy 6 (some .int) 3 := ⟨bw_4 234 rfl rfl, bw_1 11 rfl rfl, by decide +kernel⟩
theorem cd_X10_gainOf : Cd yX10_gainOf cX10_gainOf 5 (some .int) 1 := ⟨bw_4 230 rfl rfl, bw_1 11 rfl rfl, by decide +kernel⟩
theorem cd_X10_sendOf : Cd yX10_sendOf cX10_sendOf 8 (some .int) 0 := ⟨bw_5 103 rfl rfl, bw_1 11 rfl rfl, by decide +kernel⟩
theorem cd_X10_send : Cd yX10_send cX10_send 1 (some .int) 0 := ⟨bw_5 99 rfl rfl, bw_1 11 rfl rfl, by decide +kernel⟩
theorem cd_X10_drawOf : Cd yX10_drawOf cX10_drawOf 2 (some .int) 1 := ⟨bw_5 112 rfl rfl, bw_1 11 rfl rfl, by decide +kernel⟩
theorem cd_X10_seasons : Cd yX10_seasons cX10_seasons 6 (some .int) 3 := ⟨bw_5 107 rfl rfl, bw_1 11 rfl rfl, by decide +kernel⟩
theorem cd_X10_image : Cd yX10_image cX10_image 1 (some .int) 0 := ⟨bw_5 120 rfl rfl, bw_1 11 rfl rfl, by decide +kernel⟩
theorem cd_X10_restore : Cd yX10_restore cX10_restore 1 (some .int) 0 := ⟨bw_5 127 rfl rfl, bw_1 11 rfl rfl, by decide +kernel⟩
theorem cd_X10_countOf : Cd yX10_countOf cX10_countOf 2 (some .int) 1 := ⟨bw_5 135 rfl rfl, bw_1 11 rfl rfl, by decide +kernel⟩
theorem cd_X10_count : Cd yX10_count cX10_count 2 (some .int) 1 := ⟨bw_5 131 rfl rfl, bw_1 11 rfl rfl, by decide +kernel⟩
theorem cd_X10_say : Cd yX10_say cX10_say 3 none 1 := ⟨bw_5 148 rfl rfl, bw_1 11 rfl rfl, by decide +kernel⟩
theorem cd_X10_sayShore : Cd yX10_sayShore cX10_sayShore 2 none 0 := ⟨bw_5 157 rfl rfl, bw_1 11 rfl rfl, by decide +kernel⟩
theorem cd_X10_sayBoat : Cd yX10_sayBoat cX10_sayBoat 3 none 1 := ⟨bw_5 153 rfl rfl, bw_1 11 rfl rfl, by decide +kernel⟩
theorem cd_X10_digest : Cd yX10_digest cX10_digest 3 (some .long) 0 := ⟨bw_5 143 rfl rfl, bw_1 11 rfl rfl, by decide +kernel⟩
theorem cd_J7_fill_53178 : Cd yJ7_fill_53178 cJ7_fill_53178 4 none 2 := ⟨bw_2 228 rfl rfl, bw_1 14 rfl rfl, by decide +kernel⟩
theorem ci_L_9 : CIf RL 9 yX9_init cX9_init 1 0 := ⟨cd_X9_init, bw_1 17 rfl rfl, bw_1 18 rfl rfl, rfl⟩
theorem ml_X9_1 : Cond.methodLink RX9 1 objectInit ∈ bw := bw_1 20 rfl rfl
theorem ml_X4_3 : Cond.methodLink RX4 3 objectInit ∈ bw := bw_1 28 rfl rfl
theorem ml_X5_3 : Cond.methodLink RX5 3 objectInit ∈ bw := bw_1 46 rfl rfl
theorem ml_X8_3 : Cond.methodLink RX8 3 objectInit ∈ bw := bw_1 52 rfl rfl
theorem ml_X6_3 : Cond.methodLink RX6 3 objectInit ∈ bw := bw_1 58 rfl rfl
theorem ml_X3_3 : Cond.methodLink RX3 3 objectInit ∈ bw := bw_1 163 rfl rfl
theorem ml_X1_3 : Cond.methodLink RX1 3 objectInit ∈ bw := bw_1 193 rfl rfl
theorem ml_X0_1 : Cond.methodLink RX0 1 objectInit ∈ bw := bw_1 229 rfl rfl
theorem ml_X2_3 : Cond.methodLink RX2 3 objectInit ∈ bw := bw_2 9 rfl rfl
theorem ml_X7_1 : Cond.methodLink RX7 1 objectInit ∈ bw := bw_2 35 rfl rfl
theorem cv_L_13 : CVf RL 13 yX9_letter cX9_letter 2 (some .int) 1 := ⟨cd_X9_letter, bw_2 88 rfl rfl, bw_2 89 rfl rfl, bw_2 90 rfl rfl⟩
theorem cv_X9_79 : CVf RX9 79 yX4_put cX4_put 2 (some .boolean) 1 := ⟨cd_X4_put, bw_2 92 rfl rfl, bw_2 93 rfl rfl, bw_2 94 rfl rfl⟩
theorem cv_L_18 : CVf RL 18 yX9_blank cX9_blank 2 (some .int) 0 := ⟨cd_X9_blank, bw_2 96 rfl rfl, bw_2 97 rfl rfl, bw_2 98 rfl rfl⟩
theorem cv_L_23 : CVf RL 23 yX9_fault cX9_fault 1 (some .int) 0 := ⟨cd_X9_fault, bw_2 100 rfl rfl, bw_2 101 rfl rfl, bw_2 102 rfl rfl⟩
theorem cv_X9_86 : CVf RX9 86 yX5_read cX5_read 3 (some .int) 1 := ⟨cd_X5_read, bw_2 104 rfl rfl, bw_2 105 rfl rfl, bw_2 106 rfl rfl⟩
theorem cv_X5_40 : CVf RX5 40 yX5_takes cX5_takes 2 (some .boolean) 1 := ⟨cd_X5_takes, bw_2 108 rfl rfl, bw_2 110 rfl rfl, bw_0 0 rfl rfl⟩
theorem cv_X5_44 : CVf RX5 44 yX5_endsSands cX5_endsSands 1 (some .boolean) 0 := ⟨cd_X5_endsSands, bw_2 112 rfl rfl, bw_2 114 rfl rfl, bw_0 1 rfl rfl⟩
theorem cv_X5_57 : CVf RX5 57 yX5_goesTo cX5_goesTo 2 (some .boolean) 1 := ⟨cd_X5_goesTo, bw_2 116 rfl rfl, bw_2 118 rfl rfl, bw_0 2 rfl rfl⟩
theorem cv_X5_48 : CVf RX5 48 yX5_takesSand cX5_takesSand 2 (some .boolean) 1 := ⟨cd_X5_takesSand, bw_2 120 rfl rfl, bw_2 122 rfl rfl, bw_0 3 rfl rfl⟩
theorem cv_X5_51 : CVf RX5 51 yX5_takesBoat cX5_takesBoat 2 (some .boolean) 1 := ⟨cd_X5_takesBoat, bw_2 127 rfl rfl, bw_2 129 rfl rfl, bw_0 4 rfl rfl⟩
theorem cv_X5_76 : CVf RX5 76 yX8_hasSand cX8_hasSand 2 (some .boolean) 1 := ⟨cd_X8_hasSand, bw_2 131 rfl rfl, bw_2 132 rfl rfl, bw_2 133 rfl rfl⟩
theorem cv_X5_54 : CVf RX5 54 yX5_takesDepth cX5_takesDepth 2 (some .boolean) 1 := ⟨cd_X5_takesDepth, bw_2 135 rfl rfl, bw_2 137 rfl rfl, bw_0 5 rfl rfl⟩
theorem cs_X5_60 : CSf RX5 60 yX5_kindOf cX5_kindOf 1 (some .int) 1 := ⟨cd_X5_kindOf, bw_2 139 rfl rfl, bw_2 140 rfl rfl⟩
theorem cv_X5_64 : CVf RX5 64 yX5_takesAsker cX5_takesAsker 2 (some .boolean) 1 := ⟨cd_X5_takesAsker, bw_2 142 rfl rfl, bw_2 144 rfl rfl, bw_0 6 rfl rfl⟩
theorem cv_X5_67 : CVf RX5 67 yX5_takesManners cX5_takesManners 2 (some .boolean) 1 := ⟨cd_X5_takesManners, bw_2 149 rfl rfl, bw_2 151 rfl rfl, bw_0 7 rfl rfl⟩
theorem cv_L_27 : CVf RL 27 yX9_shore cX9_shore 1 (some .int) 0 := ⟨cd_X9_shore, bw_2 153 rfl rfl, bw_2 154 rfl rfl, bw_2 155 rfl rfl⟩
theorem cv_X9_90 : CVf RX9 90 yX5_isWhole cX5_isWhole 1 (some .boolean) 0 := ⟨cd_X5_isWhole, bw_2 157 rfl rfl, bw_2 158 rfl rfl, bw_2 159 rfl rfl⟩
theorem cv_X9_97 : CVf RX9 97 yX8_become cX8_become 2 none 1 := ⟨cd_X8_become, bw_2 161 rfl rfl, bw_2 162 rfl rfl, bw_2 163 rfl rfl⟩
theorem ml_X8_56 : Cond.methodLink RX8 56 arraycopyName ∈ bw := bw_2 165 rfl rfl
theorem cv_X8_62 : CVf RX8 62 yX6_become cX6_become 2 none 1 := ⟨cd_X6_become, bw_2 168 rfl rfl, bw_2 169 rfl rfl, bw_2 170 rfl rfl⟩
theorem cv_L_31 : CVf RL 31 yX9_sand cX9_sand 3 (some .int) 2 := ⟨cd_X9_sand, bw_2 172 rfl rfl, bw_2 173 rfl rfl, bw_2 174 rfl rfl⟩
theorem cv_X9_104 : CVf RX9 104 yX8_hasSand cX8_hasSand 2 (some .boolean) 1 := ⟨cd_X8_hasSand, bw_2 176 rfl rfl, bw_2 132 rfl rfl, bw_2 133 rfl rfl⟩
theorem cv_X9_120 : CVf RX9 120 yX8_reaches cX8_reaches 4 (some .boolean) 2 := ⟨cd_X8_reaches, bw_2 177 rfl rfl, bw_2 178 rfl rfl, bw_2 179 rfl rfl⟩
theorem cv_X9_124 : CVf RX9 124 yX8_boatsOn cX8_boatsOn 4 (some .int) 1 := ⟨cd_X8_boatsOn, bw_2 181 rfl rfl, bw_2 182 rfl rfl, bw_2 183 rfl rfl⟩
theorem cv_L_36 : CVf RL 36 yX9_boat cX9_boat 3 (some .int) 2 := ⟨cd_X9_boat, bw_2 185 rfl rfl, bw_2 186 rfl rfl, bw_2 187 rfl rfl⟩
theorem cv_X9_128 : CVf RX9 128 yX8_hasBoat cX8_hasBoat 2 (some .boolean) 1 := ⟨cd_X8_hasBoat, bw_2 189 rfl rfl, bw_2 190 rfl rfl, bw_2 191 rfl rfl⟩
theorem cv_X9_137 : CVf RX9 137 yX8_leastTide cX8_leastTide 5 (some .int) 1 := ⟨cd_X8_leastTide, bw_2 193 rfl rfl, bw_2 194 rfl rfl, bw_2 195 rfl rfl⟩
theorem ml_X8_74 : Cond.methodLink RX8 74 Lib.Math.max.name ∈ bw := bw_2 197 rfl rfl
theorem cv_L_40 : CVf RL 40 yX9_asker cX9_asker 3 (some .int) 2 := ⟨cd_X9_asker, bw_2 200 rfl rfl, bw_2 201 rfl rfl, bw_2 202 rfl rfl⟩
theorem cv_X9_140 : CVf RX9 140 yX8_hasAsker cX8_hasAsker 2 (some .boolean) 1 := ⟨cd_X8_hasAsker, bw_2 204 rfl rfl, bw_2 205 rfl rfl, bw_2 206 rfl rfl⟩
theorem cv_X9_149 : CVf RX9 149 yX2_seaAfter cX2_seaAfter 4 (some (.object "TideAsked$Sea")) 3 := ⟨cd_X2_seaAfter, bw_2 208 rfl rfl, bw_2 209 rfl rfl, bw_2 210 rfl rfl⟩
theorem cv_X2_35 : CVf RX2 35 yX6_become cX6_become 2 none 1 := ⟨cd_X6_become, bw_2 212 rfl rfl, bw_2 169 rfl rfl, bw_2 170 rfl rfl⟩
theorem cv_X2_39 : CVf RX2 39 yX8_hasAsker cX8_hasAsker 2 (some .boolean) 1 := ⟨cd_X8_hasAsker, bw_2 213 rfl rfl, bw_2 205 rfl rfl, bw_2 206 rfl rfl⟩
theorem cv_X2_46 : CVf RX2 46 yX6_hear cX6_hear 6 none 2 := ⟨cd_X6_hear, bw_2 214 rfl rfl, bw_2 215 rfl rfl, bw_2 216 rfl rfl⟩
theorem ml_X6_22 : Cond.methodLink RX6 22 Lib.Math.max.name ∈ bw := bw_2 218 rfl rfl
theorem ml_X6_28 : Cond.methodLink RX6 28 Lib.Math.min.name ∈ bw := bw_2 219 rfl rfl
theorem cv_X9_156 : CVf RX9 156 yX2_weigh cX2_weigh 5 none 2 := ⟨cd_X2_weigh, bw_2 222 rfl rfl, bw_2 223 rfl rfl, bw_2 224 rfl rfl⟩
theorem cs_X2_50 : CSf RX2 50 yJ7_fill_53178 cJ7_fill_53178 4 none 2 := ⟨cd_J7_fill_53178, bw_2 226 rfl rfl, bw_2 227 rfl rfl⟩
theorem cv_X2_56 : CVf RX2 56 yX2_seaAfter cX2_seaAfter 4 (some (.object "TideAsked$Sea")) 3 := ⟨cd_X2_seaAfter, bw_2 229 rfl rfl, bw_2 209 rfl rfl, bw_2 210 rfl rfl⟩
theorem cv_X2_66 : CVf RX2 66 yX8_agreesWithSeen cX8_agreesWithSeen 4 (some .boolean) 2 := ⟨cd_X8_agreesWithSeen, bw_2 233 rfl rfl, bw_2 234 rfl rfl, bw_2 235 rfl rfl⟩
theorem ml_X2_70 : Cond.methodLink RX2 70 Lib.Math.max.name ∈ bw := bw_2 237 rfl rfl
theorem cv_L_44 : CVf RL 44 yX9_as cX9_as 3 (some .int) 2 := ⟨cd_X9_as, bw_2 238 rfl rfl, bw_2 239 rfl rfl, bw_3 0 rfl rfl⟩
theorem cs_X9_166 : CSf RX9 166 yX9_isKind cX9_isKind 1 (some .boolean) 1 := ⟨cd_X9_isKind, bw_3 2 rfl rfl, bw_2 147 rfl rfl⟩
theorem cs_X9_169 : CSf RX9 169 yX9_isOfKind cX9_isOfKind 2 (some .boolean) 2 := ⟨cd_X9_isOfKind, bw_3 3 rfl rfl, bw_3 4 rfl rfl⟩
theorem cv_L_48 : CVf RL 48 yX9_ask cX9_ask 2 (some .int) 1 := ⟨cd_X9_ask, bw_3 6 rfl rfl, bw_3 7 rfl rfl, bw_3 8 rfl rfl⟩
theorem cv_X9_175 : CVf RX9 175 yX8_letAsk cX8_letAsk 3 none 2 := ⟨cd_X8_letAsk, bw_3 10 rfl rfl, bw_3 11 rfl rfl, bw_3 12 rfl rfl⟩
theorem cv_X8_66 : CVf RX8 66 yX8_hasAsker cX8_hasAsker 2 (some .boolean) 1 := ⟨cd_X8_hasAsker, bw_3 14 rfl rfl, bw_2 205 rfl rfl, bw_2 206 rfl rfl⟩
theorem cv_X8_70 : CVf RX8 70 yX6_hear cX6_hear 6 none 2 := ⟨cd_X6_hear, bw_3 15 rfl rfl, bw_2 215 rfl rfl, bw_2 216 rfl rfl⟩
theorem cv_L_52 : CVf RL 52 yX9_thank cX9_thank 1 (some .int) 0 := ⟨cd_X9_thank, bw_3 16 rfl rfl, bw_3 17 rfl rfl, bw_3 18 rfl rfl⟩
theorem cv_X9_179 : CVf RX9 179 yX8_isThere cX8_isThere 1 (some .boolean) 0 := ⟨cd_X8_isThere, bw_3 20 rfl rfl, bw_3 21 rfl rfl, bw_3 22 rfl rfl⟩
theorem cv_X9_182 : CVf RX9 182 yX6_hearThanks cX6_hearThanks 1 none 0 := ⟨cd_X6_hearThanks, bw_3 24 rfl rfl, bw_3 25 rfl rfl, bw_3 26 rfl rfl⟩
theorem cv_L_56 : CVf RL 56 yX9_draw cX9_draw 4 (some .int) 2 := ⟨cd_X9_draw, bw_3 28 rfl rfl, bw_3 29 rfl rfl, bw_3 30 rfl rfl⟩
theorem cv_L_60 : CVf RL 60 yX9_heap cX9_heap 4 (some .int) 2 := ⟨cd_X9_heap, bw_3 32 rfl rfl, bw_3 33 rfl rfl, bw_3 34 rfl rfl⟩
theorem cs_X9_185 : CSf RX9 185 yX9_isDigit cX9_isDigit 1 (some .boolean) 1 := ⟨cd_X9_isDigit, bw_3 36 rfl rfl, bw_2 125 rfl rfl⟩
theorem cv_L_64 : CVf RL 64 yX9_teach cX9_teach 5 (some .int) 3 := ⟨cd_X9_teach, bw_3 37 rfl rfl, bw_3 38 rfl rfl, bw_3 39 rfl rfl⟩
theorem cv_L_69 : CVf RL 69 yX9_order cX9_order 2 (some .int) 1 := ⟨cd_X9_order, bw_3 41 rfl rfl, bw_3 42 rfl rfl, bw_3 43 rfl rfl⟩
theorem cs_X9_188 : CSf RX9 188 yX9_isPlace cX9_isPlace 1 (some .boolean) 1 := ⟨cd_X9_isPlace, bw_3 45 rfl rfl, bw_3 46 rfl rfl⟩
theorem cv_X9_191 : CVf RX9 191 yX3_find cX3_find 4 none 1 := ⟨cd_X3_find, bw_3 48 rfl rfl, bw_3 49 rfl rfl, bw_3 50 rfl rfl⟩
theorem cv_X3_41 : CVf RX3 41 yX3_tryLine cX3_tryLine 3 none 1 := ⟨cd_X3_tryLine, bw_3 52 rfl rfl, bw_3 54 rfl rfl, bw_0 8 rfl rfl⟩
theorem cv_X3_50 : CVf RX3 50 yX6_become cX6_become 2 none 1 := ⟨cd_X6_become, bw_3 56 rfl rfl, bw_2 169 rfl rfl, bw_2 170 rfl rfl⟩
theorem cv_X3_54 : CVf RX3 54 yX8_letAsk cX8_letAsk 3 none 2 := ⟨cd_X8_letAsk, bw_3 57 rfl rfl, bw_3 11 rfl rfl, bw_3 12 rfl rfl⟩
theorem cv_X3_61 : CVf RX3 61 yX8_boatsAfloat cX8_boatsAfloat 4 (some .int) 1 := ⟨cd_X8_boatsAfloat, bw_3 58 rfl rfl, bw_3 59 rfl rfl, bw_3 60 rfl rfl⟩
theorem cv_X8_80 : CVf RX8 80 yX8_leastTide cX8_leastTide 5 (some .int) 1 := ⟨cd_X8_leastTide, bw_3 62 rfl rfl, bw_2 194 rfl rfl, bw_2 195 rfl rfl⟩
theorem cv_X3_65 : CVf RX3 65 yX3_isBetter cX3_isBetter 2 (some .boolean) 1 := ⟨cd_X3_isBetter, bw_3 63 rfl rfl, bw_3 65 rfl rfl, bw_0 9 rfl rfl⟩
theorem ml_X3_72 : Cond.methodLink RX3 72 arraycopyName ∈ bw := bw_3 67 rfl rfl
theorem cv_X3_45 : CVf RX3 45 yX3_nextLine cX3_nextLine 5 (some .boolean) 0 := ⟨cd_X3_nextLine, bw_3 68 rfl rfl, bw_3 70 rfl rfl, bw_0 10 rfl rfl⟩
theorem cv_X3_78 : CVf RX3 78 yX3_swap cX3_swap 4 none 2 := ⟨cd_X3_swap, bw_3 72 rfl rfl, bw_3 74 rfl rfl, bw_0 11 rfl rfl⟩
theorem cv_X9_194 : CVf RX9 194 yX3_tells cX3_tells 2 (some .int) 1 := ⟨cd_X3_tells, bw_3 76 rfl rfl, bw_3 77 rfl rfl, bw_3 78 rfl rfl⟩
theorem cv_L_73 : CVf RL 73 yX9_few cX9_few 3 (some .int) 2 := ⟨cd_X9_few, bw_3 80 rfl rfl, bw_3 81 rfl rfl, bw_3 82 rfl rfl⟩
theorem cv_X9_197 : CVf RX9 197 yX1_find cX1_find 5 none 2 := ⟨cd_X1_find, bw_3 84 rfl rfl, bw_3 85 rfl rfl, bw_3 86 rfl rfl⟩
theorem cv_X1_44 : CVf RX1 44 yX8_leastTide cX8_leastTide 5 (some .int) 1 := ⟨cd_X8_leastTide, bw_3 88 rfl rfl, bw_2 194 rfl rfl, bw_2 195 rfl rfl⟩
theorem cs_X1_50 : CSf RX1 50 yJ7_fill_53178 cJ7_fill_53178 4 none 2 := ⟨cd_J7_fill_53178, bw_3 89 rfl rfl, bw_2 227 rfl rfl⟩
theorem cv_X1_57 : CVf RX1 57 yX6_code cX6_code 1 (some .int) 0 := ⟨cd_X6_code, bw_3 90 rfl rfl, bw_3 91 rfl rfl, bw_3 92 rfl rfl⟩
theorem cv_X1_61 : CVf RX1 61 yX1_meet cX1_meet 4 none 3 := ⟨cd_X1_meet, bw_3 94 rfl rfl, bw_3 96 rfl rfl, bw_0 12 rfl rfl⟩
theorem cv_X1_65 : CVf RX1 65 yX6_becomeCode cX6_becomeCode 3 none 1 := ⟨cd_X6_becomeCode, bw_3 98 rfl rfl, bw_3 99 rfl rfl, bw_3 100 rfl rfl⟩
theorem cv_X1_72 : CVf RX1 72 yX1_trace cX1_trace 4 none 1 := ⟨cd_X1_trace, bw_3 102 rfl rfl, bw_3 104 rfl rfl, bw_0 13 rfl rfl⟩
theorem ml_X1_89 : Cond.methodLink RX1 89 Lib.Math.min.name ∈ bw := bw_3 106 rfl rfl
theorem cv_X1_75 : CVf RX1 75 yX1_goOn cX1_goOn 4 none 2 := ⟨cd_X1_goOn, bw_3 107 rfl rfl, bw_3 109 rfl rfl, bw_0 14 rfl rfl⟩
theorem cv_X1_82 : CVf RX1 82 yX8_letAsk cX8_letAsk 3 none 2 := ⟨cd_X8_letAsk, bw_3 111 rfl rfl, bw_3 11 rfl rfl, bw_3 12 rfl rfl⟩
theorem cv_X1_86 : CVf RX1 86 yX6_hearThanks cX6_hearThanks 1 none 0 := ⟨cd_X6_hearThanks, bw_3 112 rfl rfl, bw_3 25 rfl rfl, bw_3 26 rfl rfl⟩
theorem cv_X9_199 : CVf RX9 199 yX1_tells cX1_tells 3 (some .int) 1 := ⟨cd_X1_tells, bw_3 113 rfl rfl, bw_3 114 rfl rfl, bw_3 115 rfl rfl⟩
theorem cv_L_77 : CVf RL 77 yX9_good cX9_good 1 (some .int) 0 := ⟨cd_X9_good, bw_3 117 rfl rfl, bw_3 118 rfl rfl, bw_3 119 rfl rfl⟩
theorem cv_X9_200 : CVf RX9 200 yX6_timesToMakeGood cX6_timesToMakeGood 4 (some .int) 0 := ⟨cd_X6_timesToMakeGood, bw_3 121 rfl rfl, bw_3 122 rfl rfl, bw_3 123 rfl rfl⟩
theorem cv_L_81 : CVf RL 81 yX9_odds cX9_odds 4 (some .int) 3 := ⟨cd_X9_odds, bw_3 125 rfl rfl, bw_3 126 rfl rfl, bw_3 127 rfl rfl⟩
theorem cv_X9_204 : CVf RX9 204 yX0_find cX0_find 9 none 3 := ⟨cd_X0_find, bw_3 129 rfl rfl, bw_3 130 rfl rfl, bw_3 131 rfl rfl⟩
theorem cv_X0_23 : CVf RX0 23 yX8_leastTide cX8_leastTide 5 (some .int) 1 := ⟨cd_X8_leastTide, bw_3 133 rfl rfl, bw_2 194 rfl rfl, bw_2 195 rfl rfl⟩
theorem cv_X0_32 : CVf RX0 32 yX0_weightOf cX0_weightOf 6 (some .int) 3 := ⟨cd_X0_weightOf, bw_3 134 rfl rfl, bw_3 136 rfl rfl, bw_0 15 rfl rfl⟩
theorem cv_X0_49 : CVf RX0 49 yX6_become cX6_become 2 none 1 := ⟨cd_X6_become, bw_3 138 rfl rfl, bw_2 169 rfl rfl, bw_2 170 rfl rfl⟩
theorem cv_X0_53 : CVf RX0 53 yX8_letAsk cX8_letAsk 3 none 2 := ⟨cd_X8_letAsk, bw_3 139 rfl rfl, bw_3 11 rfl rfl, bw_3 12 rfl rfl⟩
theorem cs_X0_39 : CSf RX0 39 yX0_greatestCommon cX0_greatestCommon 6 (some .int) 2 := ⟨cd_X0_greatestCommon, bw_3 140 rfl rfl, bw_3 141 rfl rfl⟩
theorem ml_X0_43 : Cond.methodLink RX0 43 Lib.Math.max.name ∈ bw := bw_3 143 rfl rfl
theorem cv_L_85 : CVf RL 85 yX9_see cX9_see 3 (some .int) 2 := ⟨cd_X9_see, bw_3 144 rfl rfl, bw_3 145 rfl rfl, bw_3 146 rfl rfl⟩
theorem cs_X9_213 : CSf RX9 213 yX9_isTide cX9_isTide 1 (some .boolean) 1 := ⟨cd_X9_isTide, bw_3 148 rfl rfl, bw_2 231 rfl rfl⟩
theorem cv_X9_216 : CVf RX9 216 yX8_keepSeen cX8_keepSeen 3 (some .boolean) 2 := ⟨cd_X8_keepSeen, bw_3 149 rfl rfl, bw_3 150 rfl rfl, bw_3 151 rfl rfl⟩
theorem cv_L_89 : CVf RL 89 yX9_forget cX9_forget 2 (some .int) 0 := ⟨cd_X9_forget, bw_3 153 rfl rfl, bw_3 154 rfl rfl, bw_3 155 rfl rfl⟩
theorem cv_L_93 : CVf RL 93 yX9_send cX9_send 1 (some .int) 0 := ⟨cd_X9_send, bw_3 157 rfl rfl, bw_3 158 rfl rfl, bw_3 159 rfl rfl⟩
theorem cv_X9_222 : CVf RX9 222 yX2_whomToSend cX2_whomToSend 5 (some .int) 1 := ⟨cd_X2_whomToSend, bw_3 161 rfl rfl, bw_3 162 rfl rfl, bw_3 163 rfl rfl⟩
theorem cv_X2_79 : CVf RX2 79 yX2_weigh cX2_weigh 5 none 2 := ⟨cd_X2_weigh, bw_3 165 rfl rfl, bw_2 223 rfl rfl, bw_2 224 rfl rfl⟩
theorem cv_L_97 : CVf RL 97 yX9_seasons cX9_seasons 4 (some .int) 3 := ⟨cd_X9_seasons, bw_3 166 rfl rfl, bw_3 167 rfl rfl, bw_3 168 rfl rfl⟩
theorem cv_X9_226 : CVf RX9 226 yX7_pass cX7_pass 5 none 3 := ⟨cd_X7_pass, bw_3 170 rfl rfl, bw_3 171 rfl rfl, bw_3 172 rfl rfl⟩
theorem cv_X7_26 : CVf RX7 26 yX6_become cX6_become 2 none 1 := ⟨cd_X6_become, bw_3 174 rfl rfl, bw_2 169 rfl rfl, bw_2 170 rfl rfl⟩
theorem cv_X7_30 : CVf RX7 30 yX7_next cX7_next 2 (some .int) 1 := ⟨cd_X7_next, bw_3 175 rfl rfl, bw_3 177 rfl rfl, bw_0 16 rfl rfl⟩
theorem cv_X7_34 : CVf RX7 34 yX6_hearThanks cX6_hearThanks 1 none 0 := ⟨cd_X6_hearThanks, bw_3 183 rfl rfl, bw_3 25 rfl rfl, bw_3 26 rfl rfl⟩
theorem cv_X7_40 : CVf RX7 40 yX8_letAsk cX8_letAsk 3 none 2 := ⟨cd_X8_letAsk, bw_3 184 rfl rfl, bw_3 11 rfl rfl, bw_3 12 rfl rfl⟩
theorem cv_X7_47 : CVf RX7 47 yX8_boatsAfloat cX8_boatsAfloat 4 (some .int) 1 := ⟨cd_X8_boatsAfloat, bw_3 185 rfl rfl, bw_3 59 rfl rfl, bw_3 60 rfl rfl⟩
theorem cv_L_101 : CVf RL 101 yX9_image cX9_image 1 (some .int) 0 := ⟨cd_X9_image, bw_3 186 rfl rfl, bw_3 187 rfl rfl, bw_3 188 rfl rfl⟩
theorem cv_L_105 : CVf RL 105 yX9_restore cX9_restore 1 (some .int) 0 := ⟨cd_X9_restore, bw_3 190 rfl rfl, bw_3 191 rfl rfl, bw_3 192 rfl rfl⟩
theorem cv_L_109 : CVf RL 109 yX9_count cX9_count 2 (some .int) 1 := ⟨cd_X9_count, bw_3 194 rfl rfl, bw_3 195 rfl rfl, bw_3 196 rfl rfl⟩
theorem cv_X9_245 : CVf RX9 245 yX8_boatsAfloat cX8_boatsAfloat 4 (some .int) 1 := ⟨cd_X8_boatsAfloat, bw_3 198 rfl rfl, bw_3 59 rfl rfl, bw_3 60 rfl rfl⟩
theorem cv_X9_248 : CVf RX9 248 yX8_sandsReached cX8_sandsReached 4 (some .int) 1 := ⟨cd_X8_sandsReached, bw_3 199 rfl rfl, bw_3 200 rfl rfl, bw_3 201 rfl rfl⟩
theorem cv_X8_84 : CVf RX8 84 yX8_reaches cX8_reaches 4 (some .boolean) 2 := ⟨cd_X8_reaches, bw_3 203 rfl rfl, bw_2 178 rfl rfl, bw_2 179 rfl rfl⟩
theorem cv_L_113 : CVf RL 113 yX9_digest cX9_digest 4 (some .long) 0 := ⟨cd_X9_digest, bw_3 204 rfl rfl, bw_3 205 rfl rfl, bw_3 206 rfl rfl⟩
theorem cv_X9_253 : CVf RX9 253 yX9_mixSands cX9_mixSands 7 (some .long) 1 := ⟨cd_X9_mixSands, bw_3 209 rfl rfl, bw_3 211 rfl rfl, bw_0 17 rfl rfl⟩
theorem cv_X9_282 : CVf RX9 282 yX9_sand cX9_sand 3 (some .int) 2 := ⟨cd_X9_sand, bw_3 213 rfl rfl, bw_2 173 rfl rfl, bw_2 174 rfl rfl⟩
theorem cs_X9_269 : CSf RX9 269 yX9_mix cX9_mix 4 (some .long) 2 := ⟨cd_X9_mix, bw_3 214 rfl rfl, bw_3 215 rfl rfl⟩
theorem cv_X9_257 : CVf RX9 257 yX9_mixBoats cX9_mixBoats 7 (some .long) 1 := ⟨cd_X9_mixBoats, bw_3 218 rfl rfl, bw_3 220 rfl rfl, bw_0 18 rfl rfl⟩
theorem cv_X9_286 : CVf RX9 286 yX9_boat cX9_boat 3 (some .int) 2 := ⟨cd_X9_boat, bw_3 222 rfl rfl, bw_2 186 rfl rfl, bw_2 187 rfl rfl⟩
theorem cv_X9_260 : CVf RX9 260 yX9_mixAskers cX9_mixAskers 7 (some .long) 1 := ⟨cd_X9_mixAskers, bw_3 223 rfl rfl, bw_3 225 rfl rfl, bw_0 19 rfl rfl⟩
theorem cv_X9_289 : CVf RX9 289 yX9_asker cX9_asker 3 (some .int) 2 := ⟨cd_X9_asker, bw_3 227 rfl rfl, bw_2 201 rfl rfl, bw_2 202 rfl rfl⟩
theorem cv_X9_263 : CVf RX9 263 yX9_mixOrder cX9_mixOrder 6 (some .long) 1 := ⟨cd_X9_mixOrder, bw_3 228 rfl rfl, bw_3 230 rfl rfl, bw_0 20 rfl rfl⟩
theorem cv_X9_266 : CVf RX9 266 yX9_good cX9_good 1 (some .int) 0 := ⟨cd_X9_good, bw_3 232 rfl rfl, bw_3 118 rfl rfl, bw_3 119 rfl rfl⟩
theorem cv_X9_273 : CVf RX9 273 yX9_send cX9_send 1 (some .int) 0 := ⟨cd_X9_send, bw_3 233 rfl rfl, bw_3 158 rfl rfl, bw_3 159 rfl rfl⟩
theorem cv_X9_279 : CVf RX9 279 yX9_count cX9_count 2 (some .int) 1 := ⟨cd_X9_count, bw_3 234 rfl rfl, bw_3 195 rfl rfl, bw_3 196 rfl rfl⟩
theorem ci_L_12 : CIf RL 12 yX10_init cX10_init 1 0 := ⟨cd_X10_init, bw_3 237 rfl rfl, bw_3 238 rfl rfl, rfl⟩
theorem ml_X10_1 : Cond.methodLink RX10 1 objectInit ∈ bw := bw_4 0 rfl rfl
theorem cv_L_17 : CVf RL 17 yX10_letter cX10_letter 2 (some .int) 1 := ⟨cd_X10_letter, bw_4 110 rfl rfl, bw_4 111 rfl rfl, bw_4 112 rfl rfl⟩
theorem cs_X10_52 : CSf RX10 52 yX10_in cX10_in 6 (some .boolean) 3 := ⟨cd_X10_in, bw_4 115 rfl rfl, bw_4 116 rfl rfl⟩
theorem cv_L_22 : CVf RL 22 yX10_blank cX10_blank 2 (some .int) 0 := ⟨cd_X10_blank, bw_4 118 rfl rfl, bw_4 119 rfl rfl, bw_4 120 rfl rfl⟩
theorem cv_L_26 : CVf RL 26 yX10_fault cX10_fault 1 (some .int) 0 := ⟨cd_X10_fault, bw_4 122 rfl rfl, bw_4 123 rfl rfl, bw_4 124 rfl rfl⟩
theorem cv_X10_86 : CVf RX10 86 yX10_faultOf cX10_faultOf 2 (some .int) 0 := ⟨cd_X10_faultOf, bw_4 126 rfl rfl, bw_4 128 rfl rfl, bw_0 21 rfl rfl⟩
theorem cv_X10_83 : CVf RX10 83 yX10_isGood cX10_isGood 2 (some .boolean) 1 := ⟨cd_X10_isGood, bw_4 130 rfl rfl, bw_4 132 rfl rfl, bw_0 22 rfl rfl⟩
theorem cv_X10_73 : CVf RX10 73 yX10_isSandLetter cX10_isSandLetter 3 (some .boolean) 1 := ⟨cd_X10_isSandLetter, bw_4 134 rfl rfl, bw_4 136 rfl rfl, bw_0 23 rfl rfl⟩
theorem cv_X10_77 : CVf RX10 77 yX10_isBoatLetter cX10_isBoatLetter 4 (some .boolean) 1 := ⟨cd_X10_isBoatLetter, bw_4 140 rfl rfl, bw_4 142 rfl rfl, bw_0 24 rfl rfl⟩
theorem cv_X10_80 : CVf RX10 80 yX10_isAskerLetter cX10_isAskerLetter 4 (some .boolean) 1 := ⟨cd_X10_isAskerLetter, bw_4 144 rfl rfl, bw_4 146 rfl rfl, bw_0 25 rfl rfl⟩
theorem cs_X10_69 : CSf RX10 69 yX10_kindBy cX10_kindBy 1 (some .int) 1 := ⟨cd_X10_kindBy, bw_4 148 rfl rfl, bw_4 149 rfl rfl⟩
theorem cv_L_30 : CVf RL 30 yX10_shore cX10_shore 2 (some .int) 0 := ⟨cd_X10_shore, bw_4 151 rfl rfl, bw_4 152 rfl rfl, bw_4 153 rfl rfl⟩
theorem cv_L_35 : CVf RL 35 yX10_sand cX10_sand 3 (some .int) 2 := ⟨cd_X10_sand, bw_4 155 rfl rfl, bw_4 156 rfl rfl, bw_4 157 rfl rfl⟩
theorem cv_X10_142 : CVf RX10 142 yX10_isSand cX10_isSand 2 (some .boolean) 1 := ⟨cd_X10_isSand, bw_4 159 rfl rfl, bw_4 161 rfl rfl, bw_0 26 rfl rfl⟩
theorem cv_X10_145 : CVf RX10 145 yX10_tellSand cX10_tellSand 3 (some .int) 2 := ⟨cd_X10_tellSand, bw_4 163 rfl rfl, bw_4 165 rfl rfl, bw_0 27 rfl rfl⟩
theorem cv_X10_136 : CVf RX10 136 yX10_begin cX10_begin 1 none 0 := ⟨cd_X10_begin, bw_4 167 rfl rfl, bw_4 169 rfl rfl, bw_0 28 rfl rfl⟩
theorem cv_X10_130 : CVf RX10 130 yX10_reachesThen cX10_reachesThen 4 (some .boolean) 1 := ⟨cd_X10_reachesThen, bw_4 171 rfl rfl, bw_4 173 rfl rfl, bw_0 29 rfl rfl⟩
theorem cv_X10_139 : CVf RX10 139 yX10_boatsAt cX10_boatsAt 4 (some .int) 1 := ⟨cd_X10_boatsAt, bw_4 175 rfl rfl, bw_4 177 rfl rfl, bw_0 30 rfl rfl⟩
theorem cv_L_39 : CVf RL 39 yX10_boat cX10_boat 3 (some .int) 2 := ⟨cd_X10_boat, bw_4 179 rfl rfl, bw_4 180 rfl rfl, bw_4 181 rfl rfl⟩
theorem cv_X10_152 : CVf RX10 152 yX10_isBoat cX10_isBoat 2 (some .boolean) 1 := ⟨cd_X10_isBoat, bw_4 183 rfl rfl, bw_4 185 rfl rfl, bw_0 31 rfl rfl⟩
theorem cv_X10_155 : CVf RX10 155 yX10_tellBoat cX10_tellBoat 3 (some .int) 2 := ⟨cd_X10_tellBoat, bw_4 187 rfl rfl, bw_4 189 rfl rfl, bw_0 32 rfl rfl⟩
theorem cv_X10_133 : CVf RX10 133 yX10_floatsThen cX10_floatsThen 2 (some .boolean) 1 := ⟨cd_X10_floatsThen, bw_4 191 rfl rfl, bw_4 193 rfl rfl, bw_0 33 rfl rfl⟩
theorem cv_X10_149 : CVf RX10 149 yX10_leastTide cX10_leastTide 3 (some .int) 1 := ⟨cd_X10_leastTide, bw_4 195 rfl rfl, bw_4 197 rfl rfl, bw_0 34 rfl rfl⟩
theorem cv_L_43 : CVf RL 43 yX10_asker cX10_asker 3 (some .int) 2 := ⟨cd_X10_asker, bw_4 199 rfl rfl, bw_4 200 rfl rfl, bw_4 201 rfl rfl⟩
theorem cv_X10_168 : CVf RX10 168 yX10_isAsker cX10_isAsker 2 (some .boolean) 1 := ⟨cd_X10_isAsker, bw_4 203 rfl rfl, bw_4 205 rfl rfl, bw_0 35 rfl rfl⟩
theorem cv_X10_171 : CVf RX10 171 yX10_tellAsker cX10_tellAsker 3 (some .int) 2 := ⟨cd_X10_tellAsker, bw_4 207 rfl rfl, bw_4 209 rfl rfl, bw_0 36 rfl rfl⟩
theorem cv_X10_158 : CVf RX10 158 yX10_askThen cX10_askThen 2 none 1 := ⟨cd_X10_askThen, bw_4 211 rfl rfl, bw_4 213 rfl rfl, bw_0 37 rfl rfl⟩
theorem cv_X10_126 : CVf RX10 126 yX10_askBy cX10_askBy 5 none 2 := ⟨cd_X10_askBy, bw_4 215 rfl rfl, bw_4 217 rfl rfl, bw_0 38 rfl rfl⟩
theorem cv_X10_162 : CVf RX10 162 yX10_mannersOf cX10_mannersOf 6 (some .int) 1 := ⟨cd_X10_mannersOf, bw_4 219 rfl rfl, bw_4 221 rfl rfl, bw_0 39 rfl rfl⟩
theorem cv_X10_229 : CVf RX10 229 yX10_tideIf cX10_tideIf 3 (some .int) 2 := ⟨cd_X10_tideIf, bw_4 223 rfl rfl, bw_4 225 rfl rfl, bw_0 40 rfl rfl⟩
theorem cv_X10_165 : CVf RX10 165 yX10_gainOf cX10_gainOf 5 (some .int) 1 := ⟨cd_X10_gainOf, bw_4 227 rfl rfl, bw_4 229 rfl rfl, bw_0 41 rfl rfl⟩
theorem cv_X10_232 : CVf RX10 232 yX10_manyBy cX10_manyBy 6 (some .int) 3 := ⟨cd_X10_manyBy, bw_4 231 rfl rfl, bw_4 233 rfl rfl, bw_0 42 rfl rfl⟩
theorem cv_L_47 : CVf RL 47 yX10_as cX10_as 4 (some .int) 2 := ⟨cd_X10_as, bw_4 235 rfl rfl, bw_4 236 rfl rfl, bw_4 237 rfl rfl⟩
theorem cv_L_51 : CVf RL 51 yX10_ask cX10_ask 2 (some .int) 1 := ⟨cd_X10_ask, bw_5 0 rfl rfl, bw_5 1 rfl rfl, bw_5 2 rfl rfl⟩
theorem cv_X10_176 : CVf RX10 176 yX10_keep cX10_keep 1 none 0 := ⟨cd_X10_keep, bw_5 4 rfl rfl, bw_5 6 rfl rfl, bw_0 43 rfl rfl⟩
theorem cv_L_55 : CVf RL 55 yX10_thank cX10_thank 1 (some .int) 0 := ⟨cd_X10_thank, bw_5 8 rfl rfl, bw_5 9 rfl rfl, bw_5 10 rfl rfl⟩
theorem cv_X10_179 : CVf RX10 179 yX10_lacks cX10_lacks 1 (some .boolean) 0 := ⟨cd_X10_lacks, bw_5 12 rfl rfl, bw_5 14 rfl rfl, bw_0 44 rfl rfl⟩
theorem cv_X10_183 : CVf RX10 183 yX10_thankThen cX10_thankThen 1 none 0 := ⟨cd_X10_thankThen, bw_5 16 rfl rfl, bw_5 18 rfl rfl, bw_0 45 rfl rfl⟩
theorem cv_L_59 : CVf RL 59 yX10_draw cX10_draw 4 (some .int) 2 := ⟨cd_X10_draw, bw_5 20 rfl rfl, bw_5 21 rfl rfl, bw_5 22 rfl rfl⟩
theorem cv_L_63 : CVf RL 63 yX10_heap cX10_heap 4 (some .int) 2 := ⟨cd_X10_heap, bw_5 24 rfl rfl, bw_5 25 rfl rfl, bw_5 26 rfl rfl⟩
theorem cv_L_68 : CVf RL 68 yX10_teach cX10_teach 5 (some .int) 3 := ⟨cd_X10_teach, bw_5 29 rfl rfl, bw_5 30 rfl rfl, bw_5 31 rfl rfl⟩
theorem cv_L_72 : CVf RL 72 yX10_order cX10_order 2 (some .int) 1 := ⟨cd_X10_order, bw_5 33 rfl rfl, bw_5 34 rfl rfl, bw_5 35 rfl rfl⟩
theorem cv_X10_207 : CVf RX10 207 yX10_orderOf cX10_orderOf 6 (some .int) 1 := ⟨cd_X10_orderOf, bw_5 40 rfl rfl, bw_5 42 rfl rfl, bw_0 46 rfl rfl⟩
theorem cs_X10_195 : CSf RX10 195 yX10_power cX10_power 4 (some .int) 2 := ⟨cd_X10_power, bw_5 44 rfl rfl, bw_5 45 rfl rfl⟩
theorem cv_X10_198 : CVf RX10 198 yX10_orderBy cX10_orderBy 5 (some .int) 1 := ⟨cd_X10_orderBy, bw_5 47 rfl rfl, bw_5 49 rfl rfl, bw_0 47 rfl rfl⟩
theorem cv_X10_188 : CVf RX10 188 yX10_figure cX10_figure 7 (some .int) 4 := ⟨cd_X10_figure, bw_5 51 rfl rfl, bw_5 53 rfl rfl, bw_0 48 rfl rfl⟩
theorem cv_X10_192 : CVf RX10 192 yX10_floating cX10_floating 3 (some .int) 0 := ⟨cd_X10_floating, bw_5 55 rfl rfl, bw_5 57 rfl rfl, bw_0 49 rfl rfl⟩
theorem cv_L_76 : CVf RL 76 yX10_few cX10_few 3 (some .int) 2 := ⟨cd_X10_few, bw_5 59 rfl rfl, bw_5 60 rfl rfl, bw_5 61 rfl rfl⟩
theorem cv_X10_217 : CVf RX10 217 yX10_fewOf cX10_fewOf 6 (some .int) 2 := ⟨cd_X10_fewOf, bw_5 63 rfl rfl, bw_5 65 rfl rfl, bw_0 50 rfl rfl⟩
theorem cv_X10_210 : CVf RX10 210 yX10_isAfloat cX10_isAfloat 6 (some .boolean) 3 := ⟨cd_X10_isAfloat, bw_5 67 rfl rfl, bw_5 69 rfl rfl, bw_0 51 rfl rfl⟩
theorem cv_L_80 : CVf RL 80 yX10_good cX10_good 1 (some .int) 0 := ⟨cd_X10_good, bw_5 71 rfl rfl, bw_5 72 rfl rfl, bw_5 73 rfl rfl⟩
theorem cv_X10_220 : CVf RX10 220 yX10_goodOf cX10_goodOf 2 (some .int) 0 := ⟨cd_X10_goodOf, bw_5 75 rfl rfl, bw_5 77 rfl rfl, bw_0 52 rfl rfl⟩
theorem cv_L_84 : CVf RL 84 yX10_odds cX10_odds 4 (some .int) 3 := ⟨cd_X10_odds, bw_5 79 rfl rfl, bw_5 80 rfl rfl, bw_5 81 rfl rfl⟩
theorem cv_X10_223 : CVf RX10 223 yX10_oddsOf cX10_oddsOf 10 (some .int) 3 := ⟨cd_X10_oddsOf, bw_5 83 rfl rfl, bw_5 85 rfl rfl, bw_0 53 rfl rfl⟩
theorem cv_L_88 : CVf RL 88 yX10_see cX10_see 3 (some .int) 2 := ⟨cd_X10_see, bw_5 87 rfl rfl, bw_5 88 rfl rfl, bw_5 89 rfl rfl⟩
theorem cv_L_92 : CVf RL 92 yX10_forget cX10_forget 2 (some .int) 0 := ⟨cd_X10_forget, bw_5 92 rfl rfl, bw_5 93 rfl rfl, bw_5 94 rfl rfl⟩
theorem cv_L_96 : CVf RL 96 yX10_send cX10_send 1 (some .int) 0 := ⟨cd_X10_send, bw_5 96 rfl rfl, bw_5 97 rfl rfl, bw_5 98 rfl rfl⟩
theorem cv_X10_235 : CVf RX10 235 yX10_sendOf cX10_sendOf 8 (some .int) 0 := ⟨cd_X10_sendOf, bw_5 100 rfl rfl, bw_5 102 rfl rfl, bw_0 54 rfl rfl⟩
theorem cv_L_100 : CVf RL 100 yX10_seasons cX10_seasons 6 (some .int) 3 := ⟨cd_X10_seasons, bw_5 104 rfl rfl, bw_5 105 rfl rfl, bw_5 106 rfl rfl⟩
theorem cv_X10_250 : CVf RX10 250 yX10_drawOf cX10_drawOf 2 (some .int) 1 := ⟨cd_X10_drawOf, bw_5 109 rfl rfl, bw_5 111 rfl rfl, bw_0 55 rfl rfl⟩
theorem cv_L_104 : CVf RL 104 yX10_image cX10_image 1 (some .int) 0 := ⟨cd_X10_image, bw_5 117 rfl rfl, bw_5 118 rfl rfl, bw_5 119 rfl rfl⟩
theorem cs_X10_253 : CSf RX10 253 yX10_copy cX10_copy 3 none 2 := ⟨cd_X10_copy, bw_5 121 rfl rfl, bw_5 122 rfl rfl⟩
theorem cv_L_108 : CVf RL 108 yX10_restore cX10_restore 1 (some .int) 0 := ⟨cd_X10_restore, bw_5 124 rfl rfl, bw_5 125 rfl rfl, bw_5 126 rfl rfl⟩
theorem cv_L_112 : CVf RL 112 yX10_count cX10_count 2 (some .int) 1 := ⟨cd_X10_count, bw_5 128 rfl rfl, bw_5 129 rfl rfl, bw_5 130 rfl rfl⟩
theorem cv_X10_275 : CVf RX10 275 yX10_countOf cX10_countOf 2 (some .int) 1 := ⟨cd_X10_countOf, bw_5 132 rfl rfl, bw_5 134 rfl rfl, bw_0 56 rfl rfl⟩
theorem cv_X10_272 : CVf RX10 272 yX10_reached cX10_reached 3 (some .int) 0 := ⟨cd_X10_reached, bw_5 136 rfl rfl, bw_5 138 rfl rfl, bw_0 57 rfl rfl⟩
theorem cv_L_117 : CVf RL 117 yX10_digest cX10_digest 3 (some .long) 0 := ⟨cd_X10_digest, bw_5 140 rfl rfl, bw_5 141 rfl rfl, bw_5 142 rfl rfl⟩
theorem cv_X10_284 : CVf RX10 284 yX10_say cX10_say 3 none 1 := ⟨cd_X10_say, bw_5 145 rfl rfl, bw_5 147 rfl rfl, bw_0 58 rfl rfl⟩
theorem cv_X10_290 : CVf RX10 290 yX10_sayBoat cX10_sayBoat 3 none 1 := ⟨cd_X10_sayBoat, bw_5 150 rfl rfl, bw_5 152 rfl rfl, bw_0 59 rfl rfl⟩
theorem cv_X10_293 : CVf RX10 293 yX10_sayShore cX10_sayShore 2 none 0 := ⟨cd_X10_sayShore, bw_5 154 rfl rfl, bw_5 156 rfl rfl, bw_0 60 rfl rfl⟩
theorem ci_X9_9 : CIN RX9 9 yX4_init cX4_init 1 0 := ⟨cd_X4_init, ⟨"TideAsked", List.mem_of_getElem? (i := 0) rfl⟩, bw_1 26 rfl rfl, rfl⟩
theorem ci_X9_18 : CIN RX9 18 yX5_init cX5_init 1 0 := ⟨cd_X5_init, ⟨"TideAsked", List.mem_of_getElem? (i := 1) rfl⟩, bw_1 44 rfl rfl, rfl⟩
theorem ci_X5_11 : CIN RX5 11 yX8_init cX8_init 1 0 := ⟨cd_X8_init, ⟨"TideAsked", List.mem_of_getElem? (i := 2) rfl⟩, bw_1 50 rfl rfl, rfl⟩
theorem ci_X8_35 : CIN RX8 35 yX6_init cX6_init 1 0 := ⟨cd_X6_init, ⟨"TideAsked", List.mem_of_getElem? (i := 3) rfl⟩, bw_1 56 rfl rfl, rfl⟩
theorem ci_X9_25 : CIN RX9 25 yX8_init cX8_init 1 0 := ⟨cd_X8_init, ⟨"TideAsked", List.mem_of_getElem? (i := 4) rfl⟩, bw_1 50 rfl rfl, rfl⟩
theorem ci_X9_35 : CIN RX9 35 yX3_init cX3_init 1 0 := ⟨cd_X3_init, ⟨"TideAsked", List.mem_of_getElem? (i := 5) rfl⟩, bw_1 161 rfl rfl, rfl⟩
theorem ci_X3_11 : CIN RX3 11 yX6_init cX6_init 1 0 := ⟨cd_X6_init, ⟨"TideAsked", List.mem_of_getElem? (i := 6) rfl⟩, bw_1 56 rfl rfl, rfl⟩
theorem ci_X9_42 : CIN RX9 42 yX1_init cX1_init 1 0 := ⟨cd_X1_init, ⟨"TideAsked", List.mem_of_getElem? (i := 7) rfl⟩, bw_1 191 rfl rfl, rfl⟩
theorem ci_X1_11 : CIN RX1 11 yX6_init cX6_init 1 0 := ⟨cd_X6_init, ⟨"TideAsked", List.mem_of_getElem? (i := 8) rfl⟩, bw_1 56 rfl rfl, rfl⟩
theorem ci_X9_49 : CIN RX9 49 yX0_init cX0_init 1 0 := ⟨cd_X0_init, ⟨"TideAsked", List.mem_of_getElem? (i := 9) rfl⟩, bw_1 227 rfl rfl, rfl⟩
theorem ci_X0_9 : CIN RX0 9 yX6_init cX6_init 1 0 := ⟨cd_X6_init, ⟨"TideAsked", List.mem_of_getElem? (i := 10) rfl⟩, bw_1 56 rfl rfl, rfl⟩
theorem ci_X9_56 : CIN RX9 56 yX2_init cX2_init 1 0 := ⟨cd_X2_init, ⟨"TideAsked", List.mem_of_getElem? (i := 11) rfl⟩, bw_2 7 rfl rfl, rfl⟩
theorem ci_X2_11 : CIN RX2 11 yX6_init cX6_init 1 0 := ⟨cd_X6_init, ⟨"TideAsked", List.mem_of_getElem? (i := 12) rfl⟩, bw_1 56 rfl rfl, rfl⟩
theorem ci_X9_63 : CIN RX9 63 yX7_init cX7_init 1 0 := ⟨cd_X7_init, ⟨"TideAsked", List.mem_of_getElem? (i := 13) rfl⟩, bw_2 33 rfl rfl, rfl⟩
theorem ci_X7_9 : CIN RX7 9 yX6_init cX6_init 1 0 := ⟨cd_X6_init, ⟨"TideAsked", List.mem_of_getElem? (i := 14) rfl⟩, bw_1 56 rfl rfl, rfl⟩
theorem cs_X5_70 : CSN RX5 70 yX9_isDigit cX9_isDigit 1 (some .boolean) 1 := ⟨cd_X9_isDigit, ⟨"TideAsked", List.mem_of_getElem? (i := 15) rfl⟩, bw_2 125 rfl rfl⟩
theorem cs_X5_85 : CSN RX5 85 yX9_isKind cX9_isKind 1 (some .boolean) 1 := ⟨cd_X9_isKind, ⟨"TideAsked", List.mem_of_getElem? (i := 16) rfl⟩, bw_2 147 rfl rfl⟩
theorem cs_X2_63 : CSN RX2 63 yX9_isTide cX9_isTide 1 (some .boolean) 1 := ⟨cd_X9_isTide, ⟨"TideAsked", List.mem_of_getElem? (i := 17) rfl⟩, bw_2 231 rfl rfl⟩
theorem iz_X9 : Cond.initialized RX9 ∈ bw := bw_1 1 rfl rfl
theorem iz_X4 : Cond.initialized RX4 ∈ bw := bw_1 2 rfl rfl
theorem iz_X5 : Cond.initialized RX5 ∈ bw := bw_1 3 rfl rfl
theorem iz_X8 : Cond.initialized RX8 ∈ bw := bw_1 4 rfl rfl
theorem iz_X6 : Cond.initialized RX6 ∈ bw := bw_1 5 rfl rfl
theorem iz_X3 : Cond.initialized RX3 ∈ bw := bw_1 6 rfl rfl
theorem iz_X1 : Cond.initialized RX1 ∈ bw := bw_1 7 rfl rfl
theorem iz_X0 : Cond.initialized RX0 ∈ bw := bw_1 8 rfl rfl
theorem iz_X2 : Cond.initialized RX2 ∈ bw := bw_1 9 rfl rfl
theorem iz_X7 : Cond.initialized RX7 ∈ bw := bw_1 10 rfl rfl
theorem iz_X10 : Cond.initialized RX10 ∈ bw := bw_1 11 rfl rfl
theorem cl_L_7 : Cond.classLink RL 7 RX9 ∈ bw := bw_1 15 rfl rfl
theorem ib_X9 : Cond.instantiable RX9 12 ∈ bw := bw_1 16 rfl rfl
theorem cl_X9_7 : Cond.classLink RX9 7 RX4 ∈ bw := bw_1 23 rfl rfl
theorem ib_X4 : Cond.instantiable RX4 2 ∈ bw := bw_1 24 rfl rfl
theorem cl_X9_16 : Cond.classLink RX9 16 RX5 ∈ bw := bw_1 41 rfl rfl
theorem ib_X5 : Cond.instantiable RX5 2 ∈ bw := bw_1 42 rfl rfl
theorem cl_X5_9 : Cond.classLink RX5 9 RX8 ∈ bw := bw_1 47 rfl rfl
theorem ib_X8 : Cond.instantiable RX8 13 ∈ bw := bw_1 48 rfl rfl
theorem cl_X8_33 : Cond.classLink RX8 33 RX6 ∈ bw := bw_1 53 rfl rfl
theorem ib_X6 : Cond.instantiable RX6 3 ∈ bw := bw_1 54 rfl rfl
theorem cl_X9_23 : Cond.classLink RX9 23 RX8 ∈ bw := bw_1 156 rfl rfl
theorem cl_X9_33 : Cond.classLink RX9 33 RX3 ∈ bw := bw_1 158 rfl rfl
theorem ib_X3 : Cond.instantiable RX3 7 ∈ bw := bw_1 159 rfl rfl
theorem cl_X3_9 : Cond.classLink RX3 9 RX6 ∈ bw := bw_1 164 rfl rfl
theorem cl_X9_40 : Cond.classLink RX9 40 RX1 ∈ bw := bw_1 188 rfl rfl
theorem ib_X1 : Cond.instantiable RX1 9 ∈ bw := bw_1 189 rfl rfl
theorem cl_X1_9 : Cond.classLink RX1 9 RX6 ∈ bw := bw_1 194 rfl rfl
theorem cl_X9_47 : Cond.classLink RX9 47 RX0 ∈ bw := bw_1 224 rfl rfl
theorem ib_X0 : Cond.instantiable RX0 3 ∈ bw := bw_1 225 rfl rfl
theorem cl_X0_7 : Cond.classLink RX0 7 RX6 ∈ bw := bw_1 230 rfl rfl
theorem cl_X9_54 : Cond.classLink RX9 54 RX2 ∈ bw := bw_2 4 rfl rfl
theorem ib_X2 : Cond.instantiable RX2 5 ∈ bw := bw_2 5 rfl rfl
theorem cl_X2_9 : Cond.classLink RX2 9 RX6 ∈ bw := bw_2 10 rfl rfl
theorem cl_X9_61 : Cond.classLink RX9 61 RX7 ∈ bw := bw_2 30 rfl rfl
theorem ib_X7 : Cond.instantiable RX7 3 ∈ bw := bw_2 31 rfl rfl
theorem cl_X7_7 : Cond.classLink RX7 7 RX6 ∈ bw := bw_2 36 rfl rfl
theorem kl_X7_50 : Cond.constantLong RX7 50 (1103515245) ∈ bw := bw_3 179 rfl rfl
theorem kl_X7_52 : Cond.constantLong RX7 52 (12345) ∈ bw := bw_3 180 rfl rfl
theorem kl_X7_54 : Cond.constantLong RX7 54 (2147483647) ∈ bw := bw_3 181 rfl rfl
theorem ki_X7_56 : Cond.constant RX7 56 (65536) ∈ bw := bw_3 182 rfl rfl
theorem kl_X9_251 : Cond.constantLong RX9 251 (1277) ∈ bw := bw_3 208 rfl rfl
theorem kl_X9_292 : Cond.constantLong RX9 292 (31) ∈ bw := bw_3 217 rfl rfl
theorem cl_L_10 : Cond.classLink RL 10 RX10 ∈ bw := bw_3 235 rfl rfl
theorem ib_X10 : Cond.instantiable RX10 36 ∈ bw := bw_3 236 rfl rfl
theorem kl_X10_50 : Cond.constantLong RX10 50 (126) ∈ bw := bw_4 114 rfl rfl
theorem kl_X10_62 : Cond.constantLong RX10 62 (48) ∈ bw := bw_4 138 rfl rfl
theorem kl_X10_64 : Cond.constantLong RX10 64 (57) ∈ bw := bw_4 139 rfl rfl
theorem kl_X10_174 : Cond.constantLong RX10 174 (4) ∈ bw := bw_4 239 rfl rfl
theorem kl_X10_186 : Cond.constantLong RX10 186 (9) ∈ bw := bw_5 28 rfl rfl
theorem kl_X10_201 : Cond.constantLong RX10 201 (2) ∈ bw := bw_5 37 rfl rfl
theorem kl_X10_203 : Cond.constantLong RX10 203 (10) ∈ bw := bw_5 38 rfl rfl
theorem kl_X10_205 : Cond.constantLong RX10 205 (14) ∈ bw := bw_5 39 rfl rfl
theorem kl_X10_227 : Cond.constantLong RX10 227 (20) ∈ bw := bw_5 91 rfl rfl
theorem kl_X10_248 : Cond.constantLong RX10 248 (60) ∈ bw := bw_5 108 rfl rfl
theorem kl_X10_238 : Cond.constantLong RX10 238 (1103515245) ∈ bw := bw_5 113 rfl rfl
theorem kl_X10_243 : Cond.constantLong RX10 243 (12345) ∈ bw := bw_5 114 rfl rfl
theorem kl_X10_245 : Cond.constantLong RX10 245 (2147483647) ∈ bw := bw_5 115 rfl rfl
theorem ki_X10_247 : Cond.constant RX10 247 (65536) ∈ bw := bw_5 116 rfl rfl
theorem kl_X10_288 : Cond.constantLong RX10 288 (1277) ∈ bw := bw_5 144 rfl rfl
theorem kl_X10_278 : Cond.constantLong RX10 278 (31) ∈ bw := bw_5 149 rfl rfl
theorem mw_max : Cond.static Lib.Math.max.name ∈ bw ∧ Cond.initialized "java/lang/Math" ∈ bw ∧ Cond.code Lib.Math.max.name Lib.Math.max.code 2 (some .int) ∈ bw := ⟨bw_2 198 rfl rfl, bw_1 13 rfl rfl, bw_2 199 rfl rfl⟩
theorem mw_min : Cond.static Lib.Math.min.name ∈ bw ∧ Cond.initialized "java/lang/Math" ∈ bw ∧ Cond.code Lib.Math.min.name Lib.Math.min.code 2 (some .int) ∈ bw := ⟨bw_2 220 rfl rfl, bw_1 13 rfl rfl, bw_2 221 rfl rfl⟩
theorem mw_copy : Cond.native arraycopyName ∈ bw ∧ Cond.static arraycopyName ∈ bw ∧ Cond.initialized "java/lang/System" ∈ bw := ⟨bw_2 167 rfl rfl, bw_2 166 rfl rfl, bw_1 12 rfl rfl⟩
theorem mw_obj : Cond.instanceMethod objectInit ∈ bw ∧ Cond.code objectInit ⟨#[0xb1]⟩ 1 none ∈ bw := ⟨bw_1 21 rfl rfl, bw_1 22 rfl rfl⟩
theorem mw_arr : Cond.arrayClass .int ∈ bw := bw_1 40 rfl rfl
