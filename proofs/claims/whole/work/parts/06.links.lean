theorem ow_ball {ws : List Cond} (h : ws.all (fun w => decide (w ∈ lw_tbl) && goodWord w) = true) : ∀ w ∈ ws, w ∈ ow_base := by
  intro w hw
  have h1 := List.all_eq_true.mp h w hw
  simp only [Bool.and_eq_true, decide_eq_true_eq] at h1
  exact List.mem_filter.mpr h1
theorem cfX0 : ow_CF RX0 TX0 8 := ⟨ow_ball (by decide +kernel), tyX0, tyX0_ok, nmX0⟩
theorem cfX1 : ow_CF RX1 TX1 1 := ⟨ow_ball (by decide +kernel), tyX1, tyX1_ok, nmX1⟩
theorem cfX2 : ow_CF RX2 TX2 2 := ⟨ow_ball (by decide +kernel), tyX2, tyX2_ok, nmX2⟩
theorem cfX3 : ow_CF RX3 TX3 5 := ⟨ow_ball (by decide +kernel), tyX3, tyX3_ok, nmX3⟩
theorem cfX4 : ow_CF RX4 TX4 4 := ⟨ow_ball (by decide +kernel), tyX4, tyX4_ok, nmX4⟩
theorem cfX5 : ow_CF RX5 TX5 2 := ⟨ow_ball (by decide +kernel), tyX5, tyX5_ok, nmX5⟩
theorem cfX6 : ow_CF RX6 TX6 6 := ⟨ow_ball (by decide +kernel), tyX6, tyX6_ok, nmX6⟩
theorem cfX7 : ow_CF RX7 TX7 9 := ⟨ow_ball (by decide +kernel), tyX7, tyX7_ok, nmX7⟩
theorem cfX8 : ow_CF RX8 TX8 32 := ⟨ow_ball (by decide +kernel), tyX8, tyX8_ok, nmX8⟩
theorem fkX0_9 : ow_fl RX0 9 0 0 := ⟨RX0, TX0, 8, rfl, cfX0, by decide, rfl, Or.inl (ow_mb 102 (by decide +kernel) rfl)⟩
theorem fkX1_15 : ow_fl RX1 15 0 0 := ⟨RX0, TX0, 8, rfl, cfX0, by decide, rfl, Or.inr ⟨"OneWire", ow_mn 103 (by decide +kernel) rfl⟩⟩
theorem fkX6_37 : ow_fl RX6 37 0 0 := ⟨RX0, TX0, 8, rfl, cfX0, by decide, rfl, Or.inr ⟨"OneWire", ow_mn 104 (by decide +kernel) rfl⟩⟩
theorem fkX2_24 : ow_fl RX2 24 0 0 := ⟨RX0, TX0, 8, rfl, cfX0, by decide, rfl, Or.inr ⟨"OneWire", ow_mn 105 (by decide +kernel) rfl⟩⟩
theorem fkX5_30 : ow_fl RX5 30 0 0 := ⟨RX0, TX0, 8, rfl, cfX0, by decide, rfl, Or.inr ⟨"OneWire", ow_mn 106 (by decide +kernel) rfl⟩⟩
theorem fkX7_93 : ow_fl RX7 93 0 0 := ⟨RX0, TX0, 8, rfl, cfX0, by decide, rfl, Or.inr ⟨"OneWire", ow_mn 107 (by decide +kernel) rfl⟩⟩
theorem fkX0_15 : ow_fl RX0 15 0 1 := ⟨RX0, TX0, 8, rfl, cfX0, by decide, rfl, Or.inl (ow_mb 108 (by decide +kernel) rfl)⟩
theorem fkX6_65 : ow_fl RX6 65 0 1 := ⟨RX0, TX0, 8, rfl, cfX0, by decide, rfl, Or.inr ⟨"OneWire", ow_mn 109 (by decide +kernel) rfl⟩⟩
theorem fkX7_197 : ow_fl RX7 197 0 1 := ⟨RX0, TX0, 8, rfl, cfX0, by decide, rfl, Or.inr ⟨"OneWire", ow_mn 110 (by decide +kernel) rfl⟩⟩
theorem fkX0_18 : ow_fl RX0 18 0 2 := ⟨RX0, TX0, 8, rfl, cfX0, by decide, rfl, Or.inl (ow_mb 111 (by decide +kernel) rfl)⟩
theorem fkX1_36 : ow_fl RX1 36 0 2 := ⟨RX0, TX0, 8, rfl, cfX0, by decide, rfl, Or.inr ⟨"OneWire", ow_mn 112 (by decide +kernel) rfl⟩⟩
theorem fkX7_144 : ow_fl RX7 144 0 2 := ⟨RX0, TX0, 8, rfl, cfX0, by decide, rfl, Or.inr ⟨"OneWire", ow_mn 113 (by decide +kernel) rfl⟩⟩
theorem fkX0_22 : ow_fl RX0 22 0 3 := ⟨RX0, TX0, 8, rfl, cfX0, by decide, rfl, Or.inl (ow_mb 114 (by decide +kernel) rfl)⟩
theorem fkX7_99 : ow_fl RX7 99 0 3 := ⟨RX0, TX0, 8, rfl, cfX0, by decide, rfl, Or.inr ⟨"OneWire", ow_mn 115 (by decide +kernel) rfl⟩⟩
theorem fkX0_26 : ow_fl RX0 26 0 4 := ⟨RX0, TX0, 8, rfl, cfX0, by decide, rfl, Or.inl (ow_mb 116 (by decide +kernel) rfl)⟩
theorem fkX2_40 : ow_fl RX2 40 0 4 := ⟨RX0, TX0, 8, rfl, cfX0, by decide, rfl, Or.inr ⟨"OneWire", ow_mn 117 (by decide +kernel) rfl⟩⟩
theorem fkX7_103 : ow_fl RX7 103 0 4 := ⟨RX0, TX0, 8, rfl, cfX0, by decide, rfl, Or.inr ⟨"OneWire", ow_mn 118 (by decide +kernel) rfl⟩⟩
theorem fkX0_29 : ow_fl RX0 29 0 5 := ⟨RX0, TX0, 8, rfl, cfX0, by decide, rfl, Or.inl (ow_mb 119 (by decide +kernel) rfl)⟩
theorem fkX6_54 : ow_fl RX6 54 0 5 := ⟨RX0, TX0, 8, rfl, cfX0, by decide, rfl, Or.inr ⟨"OneWire", ow_mn 120 (by decide +kernel) rfl⟩⟩
theorem fkX7_106 : ow_fl RX7 106 0 5 := ⟨RX0, TX0, 8, rfl, cfX0, by decide, rfl, Or.inr ⟨"OneWire", ow_mn 121 (by decide +kernel) rfl⟩⟩
theorem fkX0_32 : ow_fl RX0 32 0 6 := ⟨RX0, TX0, 8, rfl, cfX0, by decide, rfl, Or.inl (ow_mb 122 (by decide +kernel) rfl)⟩
theorem fkX6_32 : ow_fl RX6 32 0 6 := ⟨RX0, TX0, 8, rfl, cfX0, by decide, rfl, Or.inr ⟨"OneWire", ow_mn 123 (by decide +kernel) rfl⟩⟩
theorem fkX1_29 : ow_fl RX1 29 0 6 := ⟨RX0, TX0, 8, rfl, cfX0, by decide, rfl, Or.inr ⟨"OneWire", ow_mn 124 (by decide +kernel) rfl⟩⟩
theorem fkX7_109 : ow_fl RX7 109 0 6 := ⟨RX0, TX0, 8, rfl, cfX0, by decide, rfl, Or.inr ⟨"OneWire", ow_mn 125 (by decide +kernel) rfl⟩⟩
theorem fkX0_35 : ow_fl RX0 35 0 7 := ⟨RX0, TX0, 8, rfl, cfX0, by decide, rfl, Or.inl (ow_mb 126 (by decide +kernel) rfl)⟩
theorem fkX7_115 : ow_fl RX7 115 0 7 := ⟨RX0, TX0, 8, rfl, cfX0, by decide, rfl, Or.inr ⟨"OneWire", ow_mn 127 (by decide +kernel) rfl⟩⟩
theorem fkX5_9 : ow_fl RX5 9 5 0 := ⟨RX5, TX5, 2, rfl, cfX5, by decide, rfl, Or.inl (ow_mb 153 (by decide +kernel) rfl)⟩
theorem fkX3_34 : ow_fl RX3 34 5 0 := ⟨RX5, TX5, 2, rfl, cfX5, by decide, rfl, Or.inr ⟨"OneWire", ow_mn 154 (by decide +kernel) rfl⟩⟩
theorem fkX7_130 : ow_fl RX7 130 5 0 := ⟨RX5, TX5, 2, rfl, cfX5, by decide, rfl, Or.inr ⟨"OneWire", ow_mn 155 (by decide +kernel) rfl⟩⟩
theorem fkX5_15 : ow_fl RX5 15 5 1 := ⟨RX5, TX5, 2, rfl, cfX5, by decide, rfl, Or.inl (ow_mb 156 (by decide +kernel) rfl)⟩
theorem fkX7_133 : ow_fl RX7 133 5 1 := ⟨RX5, TX5, 2, rfl, cfX5, by decide, rfl, Or.inr ⟨"OneWire", ow_mn 157 (by decide +kernel) rfl⟩⟩
theorem fkX6_11 : ow_fl RX6 11 6 0 := ⟨RX6, TX6, 6, rfl, cfX6, by decide, rfl, Or.inl (ow_mb 169 (by decide +kernel) rfl)⟩
theorem fkX6_15 : ow_fl RX6 15 6 1 := ⟨RX6, TX6, 6, rfl, cfX6, by decide, rfl, Or.inl (ow_mb 170 (by decide +kernel) rfl)⟩
theorem fkX6_19 : ow_fl RX6 19 6 2 := ⟨RX6, TX6, 6, rfl, cfX6, by decide, rfl, Or.inl (ow_mb 171 (by decide +kernel) rfl)⟩
theorem fkX6_23 : ow_fl RX6 23 6 3 := ⟨RX6, TX6, 6, rfl, cfX6, by decide, rfl, Or.inl (ow_mb 172 (by decide +kernel) rfl)⟩
theorem fkX6_26 : ow_fl RX6 26 6 4 := ⟨RX6, TX6, 6, rfl, cfX6, by decide, rfl, Or.inl (ow_mb 173 (by decide +kernel) rfl)⟩
theorem fkX6_29 : ow_fl RX6 29 6 5 := ⟨RX6, TX6, 6, rfl, cfX6, by decide, rfl, Or.inl (ow_mb 174 (by decide +kernel) rfl)⟩
theorem fkX2_9 : ow_fl RX2 9 2 0 := ⟨RX2, TX2, 2, rfl, cfX2, by decide, rfl, Or.inl (ow_mb 195 (by decide +kernel) rfl)⟩
theorem fkX2_15 : ow_fl RX2 15 2 1 := ⟨RX2, TX2, 2, rfl, cfX2, by decide, rfl, Or.inl (ow_mb 196 (by decide +kernel) rfl)⟩
theorem fkX1_9 : ow_fl RX1 9 1 0 := ⟨RX1, TX1, 1, rfl, cfX1, by decide, rfl, Or.inl (ow_mb 208 (by decide +kernel) rfl)⟩
theorem fkX3_9 : ow_fl RX3 9 3 0 := ⟨RX3, TX3, 5, rfl, cfX3, by decide, rfl, Or.inl (ow_mb 218 (by decide +kernel) rfl)⟩
theorem fkX7_90 : ow_fl RX7 90 3 0 := ⟨RX3, TX3, 5, rfl, cfX3, by decide, rfl, Or.inr ⟨"OneWire", ow_mn 219 (by decide +kernel) rfl⟩⟩
theorem fkX3_15 : ow_fl RX3 15 3 1 := ⟨RX3, TX3, 5, rfl, cfX3, by decide, rfl, Or.inl (ow_mb 220 (by decide +kernel) rfl)⟩
theorem fkX3_19 : ow_fl RX3 19 3 2 := ⟨RX3, TX3, 5, rfl, cfX3, by decide, rfl, Or.inl (ow_mb 221 (by decide +kernel) rfl)⟩
theorem fkX3_22 : ow_fl RX3 22 3 3 := ⟨RX3, TX3, 5, rfl, cfX3, by decide, rfl, Or.inl (ow_mb 222 (by decide +kernel) rfl)⟩
theorem fkX3_25 : ow_fl RX3 25 3 4 := ⟨RX3, TX3, 5, rfl, cfX3, by decide, rfl, Or.inl (ow_mb 223 (by decide +kernel) rfl)⟩
theorem fkX4_9 : ow_fl RX4 9 4 0 := ⟨RX4, TX4, 4, rfl, cfX4, by decide, rfl, Or.inl (ow_mb 240 (by decide +kernel) rfl)⟩
theorem fkX7_204 : ow_fl RX7 204 4 0 := ⟨RX4, TX4, 4, rfl, cfX4, by decide, rfl, Or.inr ⟨"OneWire", ow_mn 241 (by decide +kernel) rfl⟩⟩
theorem fkX4_15 : ow_fl RX4 15 4 1 := ⟨RX4, TX4, 4, rfl, cfX4, by decide, rfl, Or.inl (ow_mb 242 (by decide +kernel) rfl)⟩
theorem fkX7_217 : ow_fl RX7 217 4 1 := ⟨RX4, TX4, 4, rfl, cfX4, by decide, rfl, Or.inr ⟨"OneWire", ow_mn 243 (by decide +kernel) rfl⟩⟩
theorem fkX4_19 : ow_fl RX4 19 4 2 := ⟨RX4, TX4, 4, rfl, cfX4, by decide, rfl, Or.inl (ow_mb 244 (by decide +kernel) rfl)⟩
theorem fkX4_22 : ow_fl RX4 22 4 3 := ⟨RX4, TX4, 4, rfl, cfX4, by decide, rfl, Or.inl (ow_mb 245 (by decide +kernel) rfl)⟩
theorem fkX7_214 : ow_fl RX7 214 4 3 := ⟨RX4, TX4, 4, rfl, cfX4, by decide, rfl, Or.inr ⟨"OneWire", ow_mn 246 (by decide +kernel) rfl⟩⟩
theorem fkX7_13 : ow_fl RX7 13 7 0 := ⟨RX7, TX7, 9, rfl, cfX7, by decide, rfl, Or.inl (ow_mb 256 (by decide +kernel) rfl)⟩
theorem fkX7_20 : ow_fl RX7 20 7 1 := ⟨RX7, TX7, 9, rfl, cfX7, by decide, rfl, Or.inl (ow_mb 257 (by decide +kernel) rfl)⟩
theorem fkX7_27 : ow_fl RX7 27 7 2 := ⟨RX7, TX7, 9, rfl, cfX7, by decide, rfl, Or.inl (ow_mb 258 (by decide +kernel) rfl)⟩
theorem fkX7_34 : ow_fl RX7 34 7 3 := ⟨RX7, TX7, 9, rfl, cfX7, by decide, rfl, Or.inl (ow_mb 259 (by decide +kernel) rfl)⟩
theorem fkX7_41 : ow_fl RX7 41 7 4 := ⟨RX7, TX7, 9, rfl, cfX7, by decide, rfl, Or.inl (ow_mb 260 (by decide +kernel) rfl)⟩
theorem fkX7_48 : ow_fl RX7 48 7 5 := ⟨RX7, TX7, 9, rfl, cfX7, by decide, rfl, Or.inl (ow_mb 261 (by decide +kernel) rfl)⟩
theorem fkX7_55 : ow_fl RX7 55 7 6 := ⟨RX7, TX7, 9, rfl, cfX7, by decide, rfl, Or.inl (ow_mb 262 (by decide +kernel) rfl)⟩
theorem fkX7_59 : ow_fl RX7 59 7 7 := ⟨RX7, TX7, 9, rfl, cfX7, by decide, rfl, Or.inl (ow_mb 263 (by decide +kernel) rfl)⟩
theorem fkX7_63 : ow_fl RX7 63 7 8 := ⟨RX7, TX7, 9, rfl, cfX7, by decide, rfl, Or.inl (ow_mb 264 (by decide +kernel) rfl)⟩
theorem fkX8_76 : ow_fl RX8 76 8 0 := ⟨RX8, TX8, 32, rfl, cfX8, by decide, rfl, Or.inl (ow_mb 658 (by decide +kernel) rfl)⟩
theorem fkX8_229 : ow_fl RX8 229 8 1 := ⟨RX8, TX8, 32, rfl, cfX8, by decide, rfl, Or.inl (ow_mb 659 (by decide +kernel) rfl)⟩
theorem fkX8_9 : ow_fl RX8 9 8 2 := ⟨RX8, TX8, 32, rfl, cfX8, by decide, rfl, Or.inl (ow_mb 660 (by decide +kernel) rfl)⟩
theorem fkX8_13 : ow_fl RX8 13 8 3 := ⟨RX8, TX8, 32, rfl, cfX8, by decide, rfl, Or.inl (ow_mb 661 (by decide +kernel) rfl)⟩
theorem fkX8_16 : ow_fl RX8 16 8 4 := ⟨RX8, TX8, 32, rfl, cfX8, by decide, rfl, Or.inl (ow_mb 662 (by decide +kernel) rfl)⟩
theorem fkX8_86 : ow_fl RX8 86 8 5 := ⟨RX8, TX8, 32, rfl, cfX8, by decide, rfl, Or.inl (ow_mb 663 (by decide +kernel) rfl)⟩
theorem fkX8_89 : ow_fl RX8 89 8 6 := ⟨RX8, TX8, 32, rfl, cfX8, by decide, rfl, Or.inl (ow_mb 664 (by decide +kernel) rfl)⟩
theorem fkX8_97 : ow_fl RX8 97 8 7 := ⟨RX8, TX8, 32, rfl, cfX8, by decide, rfl, Or.inl (ow_mb 665 (by decide +kernel) rfl)⟩
theorem fkX8_19 : ow_fl RX8 19 8 8 := ⟨RX8, TX8, 32, rfl, cfX8, by decide, rfl, Or.inl (ow_mb 666 (by decide +kernel) rfl)⟩
theorem fkX8_22 : ow_fl RX8 22 8 9 := ⟨RX8, TX8, 32, rfl, cfX8, by decide, rfl, Or.inl (ow_mb 667 (by decide +kernel) rfl)⟩
theorem fkX8_25 : ow_fl RX8 25 8 10 := ⟨RX8, TX8, 32, rfl, cfX8, by decide, rfl, Or.inl (ow_mb 668 (by decide +kernel) rfl)⟩
theorem fkX8_28 : ow_fl RX8 28 8 11 := ⟨RX8, TX8, 32, rfl, cfX8, by decide, rfl, Or.inl (ow_mb 669 (by decide +kernel) rfl)⟩
theorem fkX8_100 : ow_fl RX8 100 8 12 := ⟨RX8, TX8, 32, rfl, cfX8, by decide, rfl, Or.inl (ow_mb 670 (by decide +kernel) rfl)⟩
theorem fkX8_121 : ow_fl RX8 121 8 13 := ⟨RX8, TX8, 32, rfl, cfX8, by decide, rfl, Or.inl (ow_mb 671 (by decide +kernel) rfl)⟩
theorem fkX8_124 : ow_fl RX8 124 8 14 := ⟨RX8, TX8, 32, rfl, cfX8, by decide, rfl, Or.inl (ow_mb 672 (by decide +kernel) rfl)⟩
theorem fkX8_31 : ow_fl RX8 31 8 15 := ⟨RX8, TX8, 32, rfl, cfX8, by decide, rfl, Or.inl (ow_mb 673 (by decide +kernel) rfl)⟩
theorem fkX8_34 : ow_fl RX8 34 8 16 := ⟨RX8, TX8, 32, rfl, cfX8, by decide, rfl, Or.inl (ow_mb 674 (by decide +kernel) rfl)⟩
theorem fkX8_37 : ow_fl RX8 37 8 17 := ⟨RX8, TX8, 32, rfl, cfX8, by decide, rfl, Or.inl (ow_mb 675 (by decide +kernel) rfl)⟩
theorem fkX8_40 : ow_fl RX8 40 8 18 := ⟨RX8, TX8, 32, rfl, cfX8, by decide, rfl, Or.inl (ow_mb 676 (by decide +kernel) rfl)⟩
theorem fkX8_43 : ow_fl RX8 43 8 19 := ⟨RX8, TX8, 32, rfl, cfX8, by decide, rfl, Or.inl (ow_mb 677 (by decide +kernel) rfl)⟩
theorem fkX8_46 : ow_fl RX8 46 8 20 := ⟨RX8, TX8, 32, rfl, cfX8, by decide, rfl, Or.inl (ow_mb 678 (by decide +kernel) rfl)⟩
theorem fkX8_49 : ow_fl RX8 49 8 21 := ⟨RX8, TX8, 32, rfl, cfX8, by decide, rfl, Or.inl (ow_mb 679 (by decide +kernel) rfl)⟩
theorem fkX8_52 : ow_fl RX8 52 8 22 := ⟨RX8, TX8, 32, rfl, cfX8, by decide, rfl, Or.inl (ow_mb 680 (by decide +kernel) rfl)⟩
theorem fkX8_174 : ow_fl RX8 174 8 23 := ⟨RX8, TX8, 32, rfl, cfX8, by decide, rfl, Or.inl (ow_mb 681 (by decide +kernel) rfl)⟩
theorem fkX8_55 : ow_fl RX8 55 8 24 := ⟨RX8, TX8, 32, rfl, cfX8, by decide, rfl, Or.inl (ow_mb 682 (by decide +kernel) rfl)⟩
theorem fkX8_58 : ow_fl RX8 58 8 25 := ⟨RX8, TX8, 32, rfl, cfX8, by decide, rfl, Or.inl (ow_mb 683 (by decide +kernel) rfl)⟩
theorem fkX8_61 : ow_fl RX8 61 8 26 := ⟨RX8, TX8, 32, rfl, cfX8, by decide, rfl, Or.inl (ow_mb 684 (by decide +kernel) rfl)⟩
theorem fkX8_127 : ow_fl RX8 127 8 27 := ⟨RX8, TX8, 32, rfl, cfX8, by decide, rfl, Or.inl (ow_mb 685 (by decide +kernel) rfl)⟩
theorem fkX8_64 : ow_fl RX8 64 8 28 := ⟨RX8, TX8, 32, rfl, cfX8, by decide, rfl, Or.inl (ow_mb 686 (by decide +kernel) rfl)⟩
theorem fkX8_67 : ow_fl RX8 67 8 29 := ⟨RX8, TX8, 32, rfl, cfX8, by decide, rfl, Or.inl (ow_mb 687 (by decide +kernel) rfl)⟩
theorem fkX8_70 : ow_fl RX8 70 8 30 := ⟨RX8, TX8, 32, rfl, cfX8, by decide, rfl, Or.inl (ow_mb 688 (by decide +kernel) rfl)⟩
theorem fkX8_73 : ow_fl RX8 73 8 31 := ⟨RX8, TX8, 32, rfl, cfX8, by decide, rfl, Or.inl (ow_mb 689 (by decide +kernel) rfl)⟩
theorem fp0_0 : ow_fp 0 0 .int := ⟨RX0, TX0, 8, rfl, rfl, by decide +kernel⟩
theorem fp0_1 : ow_fp 0 1 .int := ⟨RX0, TX0, 8, rfl, rfl, by decide +kernel⟩
theorem fp0_2 : ow_fp 0 2 .boolean := ⟨RX0, TX0, 8, rfl, rfl, by decide +kernel⟩
theorem fp3_0 : ow_fp 3 0 .int := ⟨RX3, TX3, 5, rfl, rfl, by decide +kernel⟩
theorem fp4_0 : ow_fp 4 0 .boolean := ⟨RX4, TX4, 4, rfl, rfl, by decide +kernel⟩
theorem fp4_1 : ow_fp 4 1 .int := ⟨RX4, TX4, 4, rfl, rfl, by decide +kernel⟩
theorem fp4_2 : ow_fp 4 2 .int := ⟨RX4, TX4, 4, rfl, rfl, by decide +kernel⟩
theorem fp6_2 : ow_fp 6 2 .int := ⟨RX6, TX6, 6, rfl, rfl, by decide +kernel⟩
theorem fp6_4 : ow_fp 6 4 .int := ⟨RX6, TX6, 6, rfl, rfl, by decide +kernel⟩
theorem fp7_7 : ow_fp 7 7 .int := ⟨RX7, TX7, 9, rfl, rfl, by decide +kernel⟩
theorem fp7_8 : ow_fp 7 8 .int := ⟨RX7, TX7, 9, rfl, rfl, by decide +kernel⟩
theorem fp8_0 : ow_fp 8 0 .int := ⟨RX8, TX8, 32, rfl, rfl, by decide +kernel⟩
theorem fp8_1 : ow_fp 8 1 .int := ⟨RX8, TX8, 32, rfl, rfl, by decide +kernel⟩
theorem fp8_5 : ow_fp 8 5 .int := ⟨RX8, TX8, 32, rfl, rfl, by decide +kernel⟩
theorem fp8_6 : ow_fp 8 6 .boolean := ⟨RX8, TX8, 32, rfl, rfl, by decide +kernel⟩
theorem fp8_7 : ow_fp 8 7 .int := ⟨RX8, TX8, 32, rfl, rfl, by decide +kernel⟩
theorem fp8_12 : ow_fp 8 12 .int := ⟨RX8, TX8, 32, rfl, rfl, by decide +kernel⟩
theorem fp8_13 : ow_fp 8 13 .int := ⟨RX8, TX8, 32, rfl, rfl, by decide +kernel⟩
theorem fp8_14 : ow_fp 8 14 .int := ⟨RX8, TX8, 32, rfl, rfl, by decide +kernel⟩
theorem fp8_23 : ow_fp 8 23 .int := ⟨RX8, TX8, 32, rfl, rfl, by decide +kernel⟩
theorem fp8_27 : ow_fp 8 27 .int := ⟨RX8, TX8, 32, rfl, rfl, by decide +kernel⟩
set_option maxRecDepth 20000 in
theorem mkX7_wire : ow_okM yX7_wire cX7_wire 8 (some .int) false 4 := ⟨ow_mb 287 rfl rfl, ow_mb 74 (by decide +kernel) rfl, ⟨by decide, by decide⟩, by decide +kernel, ow_mb 285 (by decide +kernel) rfl, ow_mb 286 (by decide +kernel) rfl⟩
set_option maxRecDepth 20000 in
theorem mkX7_isSheet : ow_okM yX7_isSheet cX7_isSheet 1 (some .boolean) true 1 := ⟨ow_mb 290 rfl rfl, ow_mb 74 (by decide +kernel) rfl, ⟨by decide, by decide⟩, by decide +kernel, ow_mb 289 (by decide +kernel) rfl⟩
set_option maxRecDepth 20000 in
theorem mkX7_isLane : ow_okM yX7_isLane cX7_isLane 1 (some .boolean) true 1 := ⟨ow_mb 293 rfl rfl, ow_mb 74 (by decide +kernel) rfl, ⟨by decide, by decide⟩, by decide +kernel, ow_mb 292 (by decide +kernel) rfl⟩
set_option maxRecDepth 20000 in
theorem mkX4_faultOfCells : ow_okM yX4_faultOfCells cX4_faultOfCells 4 (some .int) false 3 := ⟨ow_mb 297 rfl rfl, ow_mb 81 (by decide +kernel) rfl, ⟨by decide, by decide⟩, by decide +kernel, ow_mb 296 (by decide +kernel) rfl, ow_mb 0 (by decide +kernel) rfl⟩
set_option maxRecDepth 20000 in
theorem mkX4_hasCells : ow_okM yX4_hasCells cX4_hasCells 3 (some .boolean) false 2 := ⟨ow_mb 301 rfl rfl, ow_mb 81 (by decide +kernel) rfl, ⟨by decide, by decide⟩, by decide +kernel, ow_mb 300 (by decide +kernel) rfl, ow_mb 1 (by decide +kernel) rfl⟩
set_option maxRecDepth 20000 in
theorem mkX7_failed : ow_okM yX7_failed cX7_failed 2 (some .int) false 1 := ⟨ow_mb 305 rfl rfl, ow_mb 74 (by decide +kernel) rfl, ⟨by decide, by decide⟩, by decide +kernel, ow_mb 304 (by decide +kernel) rfl, ow_mb 2 (by decide +kernel) rfl⟩
set_option maxRecDepth 20000 in
theorem mkX7_firstFault : ow_okM yX7_firstFault cX7_firstFault 4 (some .int) true 3 := ⟨ow_mb 308 rfl rfl, ow_mb 74 (by decide +kernel) rfl, ⟨by decide, by decide⟩, by decide +kernel, ow_mb 307 (by decide +kernel) rfl⟩
set_option maxRecDepth 20000 in
theorem mkX4_load : ow_okM yX4_load cX4_load 2 (some .int) false 1 := ⟨ow_mb 312 rfl rfl, ow_mb 81 (by decide +kernel) rfl, ⟨by decide, by decide⟩, by decide +kernel, ow_mb 311 (by decide +kernel) rfl, ow_mb 3 (by decide +kernel) rfl⟩
set_option maxRecDepth 20000 in
theorem mkX7_goesOn : ow_okM yX7_goesOn cX7_goesOn 2 (some .boolean) true 2 := ⟨ow_mb 315 rfl rfl, ow_mb 74 (by decide +kernel) rfl, ⟨by decide, by decide⟩, by decide +kernel, ow_mb 314 (by decide +kernel) rfl⟩
set_option maxRecDepth 20000 in
theorem mkX7_isDigit : ow_okM yX7_isDigit cX7_isDigit 2 (some .boolean) true 2 := ⟨ow_mb 318 rfl rfl, ow_mb 74 (by decide +kernel) rfl, ⟨by decide, by decide⟩, by decide +kernel, ow_mb 317 (by decide +kernel) rfl⟩
set_option maxRecDepth 20000 in
theorem mkX0_takeText : ow_okM yX0_takeText cX0_takeText 6 none false 3 := ⟨ow_mb 322 rfl rfl, ow_mb 75 (by decide +kernel) rfl, ⟨by decide, by decide⟩, by decide +kernel, ow_mb 321 (by decide +kernel) rfl, ow_mb 4 (by decide +kernel) rfl⟩
set_option maxRecDepth 20000 in
theorem mkX0_kindOf : ow_okM yX0_kindOf cX0_kindOf 1 (some .int) true 1 := ⟨ow_mb 329 rfl rfl, ow_mb 75 (by decide +kernel) rfl, ⟨by decide, by decide⟩, by decide +kernel, ow_mb 328 (by decide +kernel) rfl⟩
set_option maxRecDepth 20000 in
theorem mkX7_ofPerson : ow_okM yX7_ofPerson cX7_ofPerson 3 (some .int) false 2 := ⟨ow_mb 333 rfl rfl, ow_mb 74 (by decide +kernel) rfl, ⟨by decide, by decide⟩, by decide +kernel, ow_mb 331 (by decide +kernel) rfl, ow_mb 332 (by decide +kernel) rfl⟩
set_option maxRecDepth 20000 in
theorem mkX0_isPerson : ow_okM yX0_isPerson cX0_isPerson 2 (some .boolean) false 1 := ⟨ow_mb 337 rfl rfl, ow_mb 75 (by decide +kernel) rfl, ⟨by decide, by decide⟩, by decide +kernel, ow_mb 336 (by decide +kernel) rfl, ow_mb 5 (by decide +kernel) rfl⟩
set_option maxRecDepth 20000 in
theorem mkX7_grudge : ow_okM yX7_grudge cX7_grudge 3 (some .int) false 2 := ⟨ow_mb 341 rfl rfl, ow_mb 74 (by decide +kernel) rfl, ⟨by decide, by decide⟩, by decide +kernel, ow_mb 339 (by decide +kernel) rfl, ow_mb 340 (by decide +kernel) rfl⟩
set_option maxRecDepth 20000 in
theorem mkX0_isEdge : ow_okM yX0_isEdge cX0_isEdge 2 (some .boolean) false 1 := ⟨ow_mb 345 rfl rfl, ow_mb 75 (by decide +kernel) rfl, ⟨by decide, by decide⟩, by decide +kernel, ow_mb 344 (by decide +kernel) rfl, ow_mb 6 (by decide +kernel) rfl⟩
set_option maxRecDepth 20000 in
theorem mkX7_hand : ow_okM yX7_hand cX7_hand 2 (some .int) false 1 := ⟨ow_mb 349 rfl rfl, ow_mb 74 (by decide +kernel) rfl, ⟨by decide, by decide⟩, by decide +kernel, ow_mb 347 (by decide +kernel) rfl, ow_mb 348 (by decide +kernel) rfl⟩
set_option maxRecDepth 20000 in
theorem mkX0_changeGoods : ow_okM yX0_changeGoods cX0_changeGoods 4 none false 1 := ⟨ow_mb 353 rfl rfl, ow_mb 75 (by decide +kernel) rfl, ⟨by decide, by decide⟩, by decide +kernel, ow_mb 352 (by decide +kernel) rfl, ow_mb 7 (by decide +kernel) rfl⟩
set_option maxRecDepth 20000 in
theorem mkX0_rightEnd : ow_okM yX0_rightEnd cX0_rightEnd 2 (some .int) false 1 := ⟨ow_mb 358 rfl rfl, ow_mb 75 (by decide +kernel) rfl, ⟨by decide, by decide⟩, by decide +kernel, ow_mb 357 (by decide +kernel) rfl, ow_mb 8 (by decide +kernel) rfl⟩
set_option maxRecDepth 20000 in
theorem mkX7_wish : ow_okM yX7_wish cX7_wish 4 (some .int) false 2 := ⟨ow_mb 362 rfl rfl, ow_mb 74 (by decide +kernel) rfl, ⟨by decide, by decide⟩, by decide +kernel, ow_mb 360 (by decide +kernel) rfl, ow_mb 361 (by decide +kernel) rfl⟩
set_option maxRecDepth 20000 in
theorem mkX7_news : ow_okM yX7_news cX7_news 5 (some .int) false 4 := ⟨ow_mb 366 rfl rfl, ow_mb 74 (by decide +kernel) rfl, ⟨by decide, by decide⟩, by decide +kernel, ow_mb 364 (by decide +kernel) rfl, ow_mb 365 (by decide +kernel) rfl⟩
set_option maxRecDepth 20000 in
theorem mkX7_isNumber : ow_okM yX7_isNumber cX7_isNumber 1 (some .boolean) true 1 := ⟨ow_mb 369 rfl rfl, ow_mb 74 (by decide +kernel) rfl, ⟨by decide, by decide⟩, by decide +kernel, ow_mb 368 (by decide +kernel) rfl⟩
set_option maxRecDepth 20000 in
theorem mkX5_tellFrom : ow_okM yX5_tellFrom cX5_tellFrom 6 none false 3 := ⟨ow_mb 373 rfl rfl, ow_mb 76 (by decide +kernel) rfl, ⟨by decide, by decide⟩, by decide +kernel, ow_mb 372 (by decide +kernel) rfl, ow_mb 9 (by decide +kernel) rfl⟩
set_option maxRecDepth 20000 in
theorem mkJ7_fill_53178 : ow_okM yJ7_fill_53178 cJ7_fill_53178 4 none true 2 := ⟨ow_mb 376 rfl rfl, ow_mb 84 (by decide +kernel) rfl, ⟨by decide, by decide⟩, by decide +kernel, ow_mb 375 (by decide +kernel) rfl⟩
set_option maxRecDepth 20000 in
theorem mkX0_altered : ow_okM yX0_altered cX0_altered 4 (some .int) false 2 := ⟨ow_mb 381 rfl rfl, ow_mb 75 (by decide +kernel) rfl, ⟨by decide, by decide⟩, by decide +kernel, ow_mb 380 (by decide +kernel) rfl, ow_mb 10 (by decide +kernel) rfl⟩
set_option maxRecDepth 20000 in
theorem mkX5_passOn : ow_okM yX5_passOn cX5_passOn 6 none false 4 := ⟨ow_mb 386 rfl rfl, ow_mb 76 (by decide +kernel) rfl, ⟨by decide, by decide⟩, by decide +kernel, ow_mb 385 (by decide +kernel) rfl, ow_mb 11 (by decide +kernel) rfl⟩
set_option maxRecDepth 20000 in
theorem mkX0_edgeOnLeft : ow_okM yX0_edgeOnLeft cX0_edgeOnLeft 2 (some .int) false 1 := ⟨ow_mb 390 rfl rfl, ow_mb 75 (by decide +kernel) rfl, ⟨by decide, by decide⟩, by decide +kernel, ow_mb 389 (by decide +kernel) rfl, ow_mb 12 (by decide +kernel) rfl⟩
set_option maxRecDepth 20000 in
theorem mkX0_isOpen : ow_okM yX0_isOpen cX0_isOpen 2 (some .boolean) false 1 := ⟨ow_mb 394 rfl rfl, ow_mb 75 (by decide +kernel) rfl, ⟨by decide, by decide⟩, by decide +kernel, ow_mb 393 (by decide +kernel) rfl, ow_mb 13 (by decide +kernel) rfl⟩
set_option maxRecDepth 20000 in
theorem mkX5_hear : ow_okM yX5_hear cX5_hear 4 none false 3 := ⟨ow_mb 398 rfl rfl, ow_mb 76 (by decide +kernel) rfl, ⟨by decide, by decide⟩, by decide +kernel, ow_mb 397 (by decide +kernel) rfl, ow_mb 14 (by decide +kernel) rfl⟩
set_option maxRecDepth 20000 in
theorem mkX7_said : ow_okM yX7_said cX7_said 7 (some .int) false 4 := ⟨ow_mb 403 rfl rfl, ow_mb 74 (by decide +kernel) rfl, ⟨by decide, by decide⟩, by decide +kernel, ow_mb 401 (by decide +kernel) rfl, ow_mb 402 (by decide +kernel) rfl⟩
set_option maxRecDepth 20000 in
theorem mkX7_fewest : ow_okM yX7_fewest cX7_fewest 1 (some .int) false 0 := ⟨ow_mb 407 rfl rfl, ow_mb 74 (by decide +kernel) rfl, ⟨by decide, by decide⟩, by decide +kernel, ow_mb 405 (by decide +kernel) rfl, ow_mb 406 (by decide +kernel) rfl⟩
set_option maxRecDepth 20000 in
theorem mkX0_isThere : ow_okM yX0_isThere cX0_isThere 1 (some .boolean) false 0 := ⟨ow_mb 411 rfl rfl, ow_mb 75 (by decide +kernel) rfl, ⟨by decide, by decide⟩, by decide +kernel, ow_mb 410 (by decide +kernel) rfl, ow_mb 15 (by decide +kernel) rfl⟩
set_option maxRecDepth 20000 in
theorem mkX6_leastSteps : ow_okM yX6_leastSteps cX6_leastSteps 7 (some .int) false 2 := ⟨ow_mb 415 rfl rfl, ow_mb 77 (by decide +kernel) rfl, ⟨by decide, by decide⟩, by decide +kernel, ow_mb 414 (by decide +kernel) rfl, ow_mb 16 (by decide +kernel) rfl⟩
set_option maxRecDepth 20000 in
theorem mkX6_held : ow_okM yX6_held cX6_held 4 (some .int) true 2 := ⟨ow_mb 418 rfl rfl, ow_mb 77 (by decide +kernel) rfl, ⟨by decide, by decide⟩, by decide +kernel, ow_mb 417 (by decide +kernel) rfl⟩
set_option maxRecDepth 20000 in
theorem mkX6_gatherSteps : ow_okM yX6_gatherSteps cX6_gatherSteps 6 none false 2 := ⟨ow_mb 422 rfl rfl, ow_mb 77 (by decide +kernel) rfl, ⟨by decide, by decide⟩, by decide +kernel, ow_mb 421 (by decide +kernel) rfl, ow_mb 17 (by decide +kernel) rfl⟩
set_option maxRecDepth 20000 in
theorem mkX6_isOneDay : ow_okM yX6_isOneDay cX6_isOneDay 5 (some .boolean) true 2 := ⟨ow_mb 425 rfl rfl, ow_mb 77 (by decide +kernel) rfl, ⟨by decide, by decide⟩, by decide +kernel, ow_mb 424 (by decide +kernel) rfl⟩
set_option maxRecDepth 20000 in
theorem mkJ7_fill_d0a16 : ow_okM yJ7_fill_d0a16 cJ7_fill_d0a16 5 none true 2 := ⟨ow_mb 430 rfl rfl, ow_mb 84 (by decide +kernel) rfl, ⟨by decide, by decide⟩, by decide +kernel, ow_mb 429 (by decide +kernel) rfl⟩
set_option maxRecDepth 20000 in
theorem mkX6_meet : ow_okM yX6_meet cX6_meet 5 none false 1 := ⟨ow_mb 434 rfl rfl, ow_mb 77 (by decide +kernel) rfl, ⟨by decide, by decide⟩, by decide +kernel, ow_mb 433 (by decide +kernel) rfl, ow_mb 18 (by decide +kernel) rfl⟩
set_option maxRecDepth 20000 in
theorem mkX6_goOnFrom : ow_okM yX6_goOnFrom cX6_goOnFrom 6 none false 2 := ⟨ow_mb 438 rfl rfl, ow_mb 77 (by decide +kernel) rfl, ⟨by decide, by decide⟩, by decide +kernel, ow_mb 437 (by decide +kernel) rfl, ow_mb 19 (by decide +kernel) rfl⟩
set_option maxRecDepth 20000 in
theorem mkX6_turnedBy : ow_okM yX6_turnedBy cX6_turnedBy 4 (some .int) true 3 := ⟨ow_mb 441 rfl rfl, ow_mb 77 (by decide +kernel) rfl, ⟨by decide, by decide⟩, by decide +kernel, ow_mb 440 (by decide +kernel) rfl⟩
set_option maxRecDepth 20000 in
theorem mkX7_soonest : ow_okM yX7_soonest cX7_soonest 1 (some .int) false 0 := ⟨ow_mb 445 rfl rfl, ow_mb 74 (by decide +kernel) rfl, ⟨by decide, by decide⟩, by decide +kernel, ow_mb 443 (by decide +kernel) rfl, ow_mb 444 (by decide +kernel) rfl⟩
set_option maxRecDepth 20000 in
theorem mkX7_cut : ow_okM yX7_cut cX7_cut 2 (some .int) false 1 := ⟨ow_mb 449 rfl rfl, ow_mb 74 (by decide +kernel) rfl, ⟨by decide, by decide⟩, by decide +kernel, ow_mb 447 (by decide +kernel) rfl, ow_mb 448 (by decide +kernel) rfl⟩
set_option maxRecDepth 20000 in
theorem mkX6_mustGoOver : ow_okM yX6_mustGoOver cX6_mustGoOver 7 (some .int) false 2 := ⟨ow_mb 453 rfl rfl, ow_mb 77 (by decide +kernel) rfl, ⟨by decide, by decide⟩, by decide +kernel, ow_mb 452 (by decide +kernel) rfl, ow_mb 20 (by decide +kernel) rfl⟩
set_option maxRecDepth 20000 in
theorem mkX7_order : ow_okM yX7_order cX7_order 9 (some .int) false 5 := ⟨ow_mb 460 rfl rfl, ow_mb 74 (by decide +kernel) rfl, ⟨by decide, by decide⟩, by decide +kernel, ow_mb 458 (by decide +kernel) rfl, ow_mb 459 (by decide +kernel) rfl⟩
set_option maxRecDepth 20000 in
theorem mkX2_readPlaces : ow_okM yX2_readPlaces cX2_readPlaces 6 (some .boolean) false 3 := ⟨ow_mb 464 rfl rfl, ow_mb 78 (by decide +kernel) rfl, ⟨by decide, by decide⟩, by decide +kernel, ow_mb 463 (by decide +kernel) rfl, ow_mb 21 (by decide +kernel) rfl⟩
set_option maxRecDepth 20000 in
theorem mkX2_firstBar : ow_okM yX2_firstBar cX2_firstBar 4 (some .int) false 1 := ⟨ow_mb 471 rfl rfl, ow_mb 78 (by decide +kernel) rfl, ⟨by decide, by decide⟩, by decide +kernel, ow_mb 470 (by decide +kernel) rfl, ow_mb 22 (by decide +kernel) rfl⟩
set_option maxRecDepth 20000 in
theorem mkX2_mayChange : ow_okM yX2_mayChange cX2_mayChange 3 (some .boolean) true 3 := ⟨ow_mb 474 rfl rfl, ow_mb 78 (by decide +kernel) rfl, ⟨by decide, by decide⟩, by decide +kernel, ow_mb 473 (by decide +kernel) rfl⟩
set_option maxRecDepth 20000 in
theorem mkX2_changes : ow_okM yX2_changes cX2_changes 5 (some .int) false 1 := ⟨ow_mb 478 rfl rfl, ow_mb 78 (by decide +kernel) rfl, ⟨by decide, by decide⟩, by decide +kernel, ow_mb 477 (by decide +kernel) rfl, ow_mb 23 (by decide +kernel) rfl⟩
set_option maxRecDepth 20000 in
theorem mkX7_coming : ow_okM yX7_coming cX7_coming 1 (some .int) false 0 := ⟨ow_mb 482 rfl rfl, ow_mb 74 (by decide +kernel) rfl, ⟨by decide, by decide⟩, by decide +kernel, ow_mb 480 (by decide +kernel) rfl, ow_mb 481 (by decide +kernel) rfl⟩
set_option maxRecDepth 20000 in
theorem mkX2_howManyCome : ow_okM yX2_howManyCome cX2_howManyCome 6 (some .int) false 1 := ⟨ow_mb 486 rfl rfl, ow_mb 78 (by decide +kernel) rfl, ⟨by decide, by decide⟩, by decide +kernel, ow_mb 485 (by decide +kernel) rfl, ow_mb 24 (by decide +kernel) rfl⟩
set_option maxRecDepth 20000 in
theorem mkX2_mustBeAhead : ow_okM yX2_mustBeAhead cX2_mustBeAhead 4 (some .int) true 2 := ⟨ow_mb 489 rfl rfl, ow_mb 78 (by decide +kernel) rfl, ⟨by decide, by decide⟩, by decide +kernel, ow_mb 488 (by decide +kernel) rfl⟩
set_option maxRecDepth 20000 in
theorem mkX7_letters : ow_okM yX7_letters cX7_letters 3 (some .int) false 1 := ⟨ow_mb 493 rfl rfl, ow_mb 74 (by decide +kernel) rfl, ⟨by decide, by decide⟩, by decide +kernel, ow_mb 491 (by decide +kernel) rfl, ow_mb 492 (by decide +kernel) rfl⟩
set_option maxRecDepth 20000 in
theorem mkX1_leastReaders : ow_okM yX1_leastReaders cX1_leastReaders 7 (some .int) false 1 := ⟨ow_mb 497 rfl rfl, ow_mb 79 (by decide +kernel) rfl, ⟨by decide, by decide⟩, by decide +kernel, ow_mb 496 (by decide +kernel) rfl, ow_mb 25 (by decide +kernel) rfl⟩
set_option maxRecDepth 20000 in
theorem mkX1_leastOf : ow_okM yX1_leastOf cX1_leastOf 2 (some .int) true 1 := ⟨ow_mb 500 rfl rfl, ow_mb 79 (by decide +kernel) rfl, ⟨by decide, by decide⟩, by decide +kernel, ow_mb 499 (by decide +kernel) rfl⟩
set_option maxRecDepth 20000 in
theorem mkX1_readersWith : ow_okM yX1_readersWith cX1_readersWith 7 (some .int) false 4 := ⟨ow_mb 504 rfl rfl, ow_mb 79 (by decide +kernel) rfl, ⟨by decide, by decide⟩, by decide +kernel, ow_mb 503 (by decide +kernel) rfl, ow_mb 26 (by decide +kernel) rfl⟩
set_option maxRecDepth 20000 in
theorem mkX1_between : ow_okM yX1_between cX1_between 4 (some .int) true 3 := ⟨ow_mb 507 rfl rfl, ow_mb 79 (by decide +kernel) rfl, ⟨by decide, by decide⟩, by decide +kernel, ow_mb 506 (by decide +kernel) rfl⟩
set_option maxRecDepth 20000 in
theorem mkX1_mateOf : ow_okM yX1_mateOf cX1_mateOf 7 (some .int) false 2 := ⟨ow_mb 512 rfl rfl, ow_mb 79 (by decide +kernel) rfl, ⟨by decide, by decide⟩, by decide +kernel, ow_mb 511 (by decide +kernel) rfl, ow_mb 27 (by decide +kernel) rfl⟩
set_option maxRecDepth 20000 in
theorem mkX7_heard : ow_okM yX7_heard cX7_heard 10 (some .long) false 3 := ⟨ow_mb 516 rfl rfl, ow_mb 74 (by decide +kernel) rfl, ⟨by decide, by decide⟩, by decide +kernel, ow_mb 514 (by decide +kernel) rfl, ow_mb 515 (by decide +kernel) rfl⟩
set_option maxRecDepth 20000 in
theorem mkX7_isTenths : ow_okM yX7_isTenths cX7_isTenths 1 (some .boolean) true 1 := ⟨ow_mb 519 rfl rfl, ow_mb 74 (by decide +kernel) rfl, ⟨by decide, by decide⟩, by decide +kernel, ow_mb 518 (by decide +kernel) rfl⟩
set_option maxRecDepth 20000 in
theorem mkX7_hearers : ow_okM yX7_hearers cX7_hearers 6 (some .long) false 2 := ⟨ow_mb 524 rfl rfl, ow_mb 74 (by decide +kernel) rfl, ⟨by decide, by decide⟩, by decide +kernel, ow_mb 523 (by decide +kernel) rfl, ow_mb 28 (by decide +kernel) rfl⟩
set_option maxRecDepth 20000 in
theorem mkX0_wayRight : ow_okM yX0_wayRight cX0_wayRight 5 (some .int) false 2 := ⟨ow_mb 528 rfl rfl, ow_mb 75 (by decide +kernel) rfl, ⟨by decide, by decide⟩, by decide +kernel, ow_mb 527 (by decide +kernel) rfl, ow_mb 29 (by decide +kernel) rfl⟩
set_option maxRecDepth 20000 in
theorem mkX7_reaching : ow_okM yX7_reaching cX7_reaching 4 (some .long) false 3 := ⟨ow_mb 533 rfl rfl, ow_mb 74 (by decide +kernel) rfl, ⟨by decide, by decide⟩, by decide +kernel, ow_mb 532 (by decide +kernel) rfl, ow_mb 30 (by decide +kernel) rfl⟩
set_option maxRecDepth 20000 in
theorem mkX7_allWhole : ow_okM yX7_allWhole cX7_allWhole 6 (some .long) false 2 := ⟨ow_mb 537 rfl rfl, ow_mb 74 (by decide +kernel) rfl, ⟨by decide, by decide⟩, by decide +kernel, ow_mb 536 (by decide +kernel) rfl, ow_mb 31 (by decide +kernel) rfl⟩
set_option maxRecDepth 20000 in
theorem mkX7_whole : ow_okM yX7_whole cX7_whole 1 (some .long) false 0 := ⟨ow_mb 542 rfl rfl, ow_mb 74 (by decide +kernel) rfl, ⟨by decide, by decide⟩, by decide +kernel, ow_mb 541 (by decide +kernel) rfl, ow_mb 32 (by decide +kernel) rfl⟩
set_option maxRecDepth 20000 in
theorem mkX7_commonDivisor : ow_okM yX7_commonDivisor cX7_commonDivisor 11 (some .long) true 2 := ⟨ow_mb 545 rfl rfl, ow_mb 74 (by decide +kernel) rfl, ⟨by decide, by decide⟩, by decide +kernel, ow_mb 544 (by decide +kernel) rfl⟩
set_option maxRecDepth 20000 in
theorem mkX7_stand : ow_okM yX7_stand cX7_stand 4 (some .int) false 1 := ⟨ow_mb 549 rfl rfl, ow_mb 74 (by decide +kernel) rfl, ⟨by decide, by decide⟩, by decide +kernel, ow_mb 547 (by decide +kernel) rfl, ow_mb 548 (by decide +kernel) rfl⟩
set_option maxRecDepth 20000 in
theorem mkX7_reading : ow_okM yX7_reading cX7_reading 5 (some .int) false 4 := ⟨ow_mb 553 rfl rfl, ow_mb 74 (by decide +kernel) rfl, ⟨by decide, by decide⟩, by decide +kernel, ow_mb 551 (by decide +kernel) rfl, ow_mb 552 (by decide +kernel) rfl⟩
set_option maxRecDepth 20000 in
theorem mkX3_takeOne : ow_okM yX3_takeOne cX3_takeOne 6 (some .int) false 4 := ⟨ow_mb 557 rfl rfl, ow_mb 80 (by decide +kernel) rfl, ⟨by decide, by decide⟩, by decide +kernel, ow_mb 556 (by decide +kernel) rfl, ow_mb 33 (by decide +kernel) rfl⟩
set_option maxRecDepth 20000 in
theorem mkX7_back : ow_okM yX7_back cX7_back 2 (some .int) false 1 := ⟨ow_mb 561 rfl rfl, ow_mb 74 (by decide +kernel) rfl, ⟨by decide, by decide⟩, by decide +kernel, ow_mb 559 (by decide +kernel) rfl, ow_mb 560 (by decide +kernel) rfl⟩
set_option maxRecDepth 20000 in
theorem mkX7_kinds : ow_okM yX7_kinds cX7_kinds 5 (some .int) false 1 := ⟨ow_mb 565 rfl rfl, ow_mb 74 (by decide +kernel) rfl, ⟨by decide, by decide⟩, by decide +kernel, ow_mb 563 (by decide +kernel) rfl, ow_mb 564 (by decide +kernel) rfl⟩
set_option maxRecDepth 20000 in
theorem mkX3_areAllSo : ow_okM yX3_areAllSo cX3_areAllSo 4 (some .boolean) false 2 := ⟨ow_mb 569 rfl rfl, ow_mb 80 (by decide +kernel) rfl, ⟨by decide, by decide⟩, by decide +kernel, ow_mb 568 (by decide +kernel) rfl, ow_mb 34 (by decide +kernel) rfl⟩
set_option maxRecDepth 20000 in
theorem mkX7_walls : ow_okM yX7_walls cX7_walls 4 (some .int) false 0 := ⟨ow_mb 574 rfl rfl, ow_mb 74 (by decide +kernel) rfl, ⟨by decide, by decide⟩, by decide +kernel, ow_mb 572 (by decide +kernel) rfl, ow_mb 573 (by decide +kernel) rfl⟩
set_option maxRecDepth 20000 in
theorem mkX7_sheet : ow_okM yX7_sheet cX7_sheet 4 (some .int) false 3 := ⟨ow_mb 578 rfl rfl, ow_mb 74 (by decide +kernel) rfl, ⟨by decide, by decide⟩, by decide +kernel, ow_mb 576 (by decide +kernel) rfl, ow_mb 577 (by decide +kernel) rfl⟩
set_option maxRecDepth 20000 in
theorem mkX4_becomeNew : ow_okM yX4_becomeNew cX4_becomeNew 3 none false 2 := ⟨ow_mb 582 rfl rfl, ow_mb 81 (by decide +kernel) rfl, ⟨by decide, by decide⟩, by decide +kernel, ow_mb 581 (by decide +kernel) rfl, ow_mb 35 (by decide +kernel) rfl⟩
set_option maxRecDepth 20000 in
theorem mkX7_lose : ow_okM yX7_lose cX7_lose 2 (some .int) false 1 := ⟨ow_mb 587 rfl rfl, ow_mb 74 (by decide +kernel) rfl, ⟨by decide, by decide⟩, by decide +kernel, ow_mb 585 (by decide +kernel) rfl, ow_mb 586 (by decide +kernel) rfl⟩
set_option maxRecDepth 20000 in
theorem mkX7_put : ow_okM yX7_put cX7_put 4 (some .int) false 3 := ⟨ow_mb 591 rfl rfl, ow_mb 74 (by decide +kernel) rfl, ⟨by decide, by decide⟩, by decide +kernel, ow_mb 589 (by decide +kernel) rfl, ow_mb 590 (by decide +kernel) rfl⟩
set_option maxRecDepth 20000 in
theorem mkX4_store : ow_okM yX4_store cX4_store 3 none false 2 := ⟨ow_mb 596 rfl rfl, ow_mb 81 (by decide +kernel) rfl, ⟨by decide, by decide⟩, by decide +kernel, ow_mb 595 (by decide +kernel) rfl, ow_mb 36 (by decide +kernel) rfl⟩
set_option maxRecDepth 20000 in
theorem mkX7_cell : ow_okM yX7_cell cX7_cell 5 (some .long) false 3 := ⟨ow_mb 600 rfl rfl, ow_mb 74 (by decide +kernel) rfl, ⟨by decide, by decide⟩, by decide +kernel, ow_mb 598 (by decide +kernel) rfl, ow_mb 599 (by decide +kernel) rfl⟩
set_option maxRecDepth 20000 in
theorem mkX7_copy : ow_okM yX7_copy cX7_copy 8 (some .int) false 5 := ⟨ow_mb 604 rfl rfl, ow_mb 74 (by decide +kernel) rfl, ⟨by decide, by decide⟩, by decide +kernel, ow_mb 602 (by decide +kernel) rfl, ow_mb 603 (by decide +kernel) rfl⟩
set_option maxRecDepth 20000 in
theorem mkX7_tell : ow_okM yX7_tell cX7_tell 2 (some .int) false 1 := ⟨ow_mb 611 rfl rfl, ow_mb 74 (by decide +kernel) rfl, ⟨by decide, by decide⟩, by decide +kernel, ow_mb 609 (by decide +kernel) rfl, ow_mb 610 (by decide +kernel) rfl⟩
set_option maxRecDepth 20000 in
theorem mkX7_tellTalker : ow_okM yX7_tellTalker cX7_tellTalker 2 (some .int) false 1 := ⟨ow_mb 615 rfl rfl, ow_mb 74 (by decide +kernel) rfl, ⟨by decide, by decide⟩, by decide +kernel, ow_mb 614 (by decide +kernel) rfl, ow_mb 37 (by decide +kernel) rfl⟩
set_option maxRecDepth 20000 in
theorem mkX7_leaveTrace : ow_okM yX7_leaveTrace cX7_leaveTrace 2 none false 1 := ⟨ow_mb 619 rfl rfl, ow_mb 74 (by decide +kernel) rfl, ⟨by decide, by decide⟩, by decide +kernel, ow_mb 618 (by decide +kernel) rfl, ow_mb 38 (by decide +kernel) rfl⟩
set_option maxRecDepth 20000 in
theorem mkX7_tellGrudger : ow_okM yX7_tellGrudger cX7_tellGrudger 2 (some .int) false 1 := ⟨ow_mb 623 rfl rfl, ow_mb 74 (by decide +kernel) rfl, ⟨by decide, by decide⟩, by decide +kernel, ow_mb 622 (by decide +kernel) rfl, ow_mb 39 (by decide +kernel) rfl⟩
set_option maxRecDepth 20000 in
theorem mkX7_tellPerson : ow_okM yX7_tellPerson cX7_tellPerson 2 (some .int) false 1 := ⟨ow_mb 627 rfl rfl, ow_mb 74 (by decide +kernel) rfl, ⟨by decide, by decide⟩, by decide +kernel, ow_mb 626 (by decide +kernel) rfl, ow_mb 40 (by decide +kernel) rfl⟩
set_option maxRecDepth 20000 in
theorem mkX7_lean : ow_okM yX7_lean cX7_lean 2 (some .int) false 1 := ⟨ow_mb 631 rfl rfl, ow_mb 74 (by decide +kernel) rfl, ⟨by decide, by decide⟩, by decide +kernel, ow_mb 629 (by decide +kernel) rfl, ow_mb 630 (by decide +kernel) rfl⟩
set_option maxRecDepth 20000 in
theorem mkX7_as : ow_okM yX7_as cX7_as 3 (some .int) false 2 := ⟨ow_mb 635 rfl rfl, ow_mb 74 (by decide +kernel) rfl, ⟨by decide, by decide⟩, by decide +kernel, ow_mb 633 (by decide +kernel) rfl, ow_mb 634 (by decide +kernel) rfl⟩
set_option maxRecDepth 20000 in
theorem mkX7_trace : ow_okM yX7_trace cX7_trace 1 (some .int) false 0 := ⟨ow_mb 639 rfl rfl, ow_mb 74 (by decide +kernel) rfl, ⟨by decide, by decide⟩, by decide +kernel, ow_mb 637 (by decide +kernel) rfl, ow_mb 638 (by decide +kernel) rfl⟩
set_option maxRecDepth 20000 in
theorem mkX7_fault : ow_okM yX7_fault cX7_fault 1 (some .int) false 0 := ⟨ow_mb 643 rfl rfl, ow_mb 74 (by decide +kernel) rfl, ⟨by decide, by decide⟩, by decide +kernel, ow_mb 641 (by decide +kernel) rfl, ow_mb 642 (by decide +kernel) rfl⟩
set_option maxRecDepth 20000 in
theorem mkX7_many : ow_okM yX7_many cX7_many 2 (some .int) false 1 := ⟨ow_mb 647 rfl rfl, ow_mb 74 (by decide +kernel) rfl, ⟨by decide, by decide⟩, by decide +kernel, ow_mb 645 (by decide +kernel) rfl, ow_mb 646 (by decide +kernel) rfl⟩
set_option maxRecDepth 20000 in
theorem mkX0_howManyWalled : ow_okM yX0_howManyWalled cX0_howManyWalled 3 (some .int) false 0 := ⟨ow_mb 651 rfl rfl, ow_mb 75 (by decide +kernel) rfl, ⟨by decide, by decide⟩, by decide +kernel, ow_mb 650 (by decide +kernel) rfl, ow_mb 41 (by decide +kernel) rfl⟩
set_option maxRecDepth 20000 in
theorem mkX8_wire : ow_okM yX8_wire cX8_wire 8 (some .int) false 4 := ⟨ow_mb 758 rfl rfl, ow_mb 82 (by decide +kernel) rfl, ⟨by decide, by decide⟩, by decide +kernel, ow_mb 756 (by decide +kernel) rfl, ow_mb 757 (by decide +kernel) rfl⟩
set_option maxRecDepth 20000 in
theorem mkX8_isSheet : ow_okM yX8_isSheet cX8_isSheet 1 (some .boolean) true 1 := ⟨ow_mb 761 rfl rfl, ow_mb 82 (by decide +kernel) rfl, ⟨by decide, by decide⟩, by decide +kernel, ow_mb 760 (by decide +kernel) rfl⟩
set_option maxRecDepth 20000 in
theorem mkX8_within : ow_okM yX8_within cX8_within 3 (some .boolean) true 3 := ⟨ow_mb 764 rfl rfl, ow_mb 82 (by decide +kernel) rfl, ⟨by decide, by decide⟩, by decide +kernel, ow_mb 763 (by decide +kernel) rfl⟩
set_option maxRecDepth 20000 in
theorem mkX8_isSort : ow_okM yX8_isSort cX8_isSort 1 (some .boolean) true 1 := ⟨ow_mb 767 rfl rfl, ow_mb 82 (by decide +kernel) rfl, ⟨by decide, by decide⟩, by decide +kernel, ow_mb 766 (by decide +kernel) rfl⟩
set_option maxRecDepth 20000 in
theorem mkX8_against : ow_okM yX8_against cX8_against 5 (some .int) false 4 := ⟨ow_mb 771 rfl rfl, ow_mb 82 (by decide +kernel) rfl, ⟨by decide, by decide⟩, by decide +kernel, ow_mb 770 (by decide +kernel) rfl, ow_mb 42 (by decide +kernel) rfl⟩
set_option maxRecDepth 20000 in
theorem mkX8_fails : ow_okM yX8_fails cX8_fails 2 (some .int) false 1 := ⟨ow_mb 775 rfl rfl, ow_mb 82 (by decide +kernel) rfl, ⟨by decide, by decide⟩, by decide +kernel, ow_mb 774 (by decide +kernel) rfl, ow_mb 43 (by decide +kernel) rfl⟩
set_option maxRecDepth 20000 in
theorem mkX8_readWire : ow_okM yX8_readWire cX8_readWire 2 (some .boolean) false 1 := ⟨ow_mb 779 rfl rfl, ow_mb 82 (by decide +kernel) rfl, ⟨by decide, by decide⟩, by decide +kernel, ow_mb 778 (by decide +kernel) rfl, ow_mb 44 (by decide +kernel) rfl⟩
set_option maxRecDepth 20000 in
theorem mkX8_digit : ow_okM yX8_digit cX8_digit 4 (some .int) false 3 := ⟨ow_mb 783 rfl rfl, ow_mb 82 (by decide +kernel) rfl, ⟨by decide, by decide⟩, by decide +kernel, ow_mb 782 (by decide +kernel) rfl, ow_mb 45 (by decide +kernel) rfl⟩
set_option maxRecDepth 20000 in
theorem mkX8_readPerson : ow_okM yX8_readPerson cX8_readPerson 4 (some .boolean) false 2 := ⟨ow_mb 787 rfl rfl, ow_mb 82 (by decide +kernel) rfl, ⟨by decide, by decide⟩, by decide +kernel, ow_mb 786 (by decide +kernel) rfl, ow_mb 46 (by decide +kernel) rfl⟩
set_option maxRecDepth 20000 in
theorem mkX8_ofPerson : ow_okM yX8_ofPerson cX8_ofPerson 3 (some .int) false 2 := ⟨ow_mb 791 rfl rfl, ow_mb 82 (by decide +kernel) rfl, ⟨by decide, by decide⟩, by decide +kernel, ow_mb 789 (by decide +kernel) rfl, ow_mb 790 (by decide +kernel) rfl⟩
set_option maxRecDepth 20000 in
theorem mkX8_isPerson : ow_okM yX8_isPerson cX8_isPerson 2 (some .boolean) false 1 := ⟨ow_mb 795 rfl rfl, ow_mb 82 (by decide +kernel) rfl, ⟨by decide, by decide⟩, by decide +kernel, ow_mb 794 (by decide +kernel) rfl, ow_mb 47 (by decide +kernel) rfl⟩
set_option maxRecDepth 20000 in
theorem mkX8_grudge : ow_okM yX8_grudge cX8_grudge 3 (some .int) false 2 := ⟨ow_mb 799 rfl rfl, ow_mb 82 (by decide +kernel) rfl, ⟨by decide, by decide⟩, by decide +kernel, ow_mb 797 (by decide +kernel) rfl, ow_mb 798 (by decide +kernel) rfl⟩
set_option maxRecDepth 20000 in
theorem mkX8_isEdge : ow_okM yX8_isEdge cX8_isEdge 2 (some .boolean) false 1 := ⟨ow_mb 803 rfl rfl, ow_mb 82 (by decide +kernel) rfl, ⟨by decide, by decide⟩, by decide +kernel, ow_mb 802 (by decide +kernel) rfl, ow_mb 48 (by decide +kernel) rfl⟩
set_option maxRecDepth 20000 in
theorem mkX8_edges : ow_okM yX8_edges cX8_edges 1 (some .int) false 0 := ⟨ow_mb 807 rfl rfl, ow_mb 82 (by decide +kernel) rfl, ⟨by decide, by decide⟩, by decide +kernel, ow_mb 806 (by decide +kernel) rfl, ow_mb 49 (by decide +kernel) rfl⟩
set_option maxRecDepth 20000 in
theorem mkX8_isOpen : ow_okM yX8_isOpen cX8_isOpen 2 (some .boolean) false 1 := ⟨ow_mb 811 rfl rfl, ow_mb 82 (by decide +kernel) rfl, ⟨by decide, by decide⟩, by decide +kernel, ow_mb 810 (by decide +kernel) rfl, ow_mb 50 (by decide +kernel) rfl⟩
set_option maxRecDepth 20000 in
theorem mkX8_hand : ow_okM yX8_hand cX8_hand 3 (some .int) false 1 := ⟨ow_mb 815 rfl rfl, ow_mb 82 (by decide +kernel) rfl, ⟨by decide, by decide⟩, by decide +kernel, ow_mb 813 (by decide +kernel) rfl, ow_mb 814 (by decide +kernel) rfl⟩
set_option maxRecDepth 20000 in
theorem mkX8_farEnd : ow_okM yX8_farEnd cX8_farEnd 2 (some .int) false 1 := ⟨ow_mb 819 rfl rfl, ow_mb 82 (by decide +kernel) rfl, ⟨by decide, by decide⟩, by decide +kernel, ow_mb 818 (by decide +kernel) rfl, ow_mb 51 (by decide +kernel) rfl⟩
set_option maxRecDepth 20000 in
theorem mkX8_wish : ow_okM yX8_wish cX8_wish 4 (some .int) false 2 := ⟨ow_mb 823 rfl rfl, ow_mb 82 (by decide +kernel) rfl, ⟨by decide, by decide⟩, by decide +kernel, ow_mb 821 (by decide +kernel) rfl, ow_mb 822 (by decide +kernel) rfl⟩
set_option maxRecDepth 20000 in
theorem mkX8_news : ow_okM yX8_news cX8_news 5 (some .int) false 4 := ⟨ow_mb 827 rfl rfl, ow_mb 82 (by decide +kernel) rfl, ⟨by decide, by decide⟩, by decide +kernel, ow_mb 825 (by decide +kernel) rfl, ow_mb 826 (by decide +kernel) rfl⟩
set_option maxRecDepth 20000 in
theorem mkX8_isNumber : ow_okM yX8_isNumber cX8_isNumber 1 (some .boolean) true 1 := ⟨ow_mb 830 rfl rfl, ow_mb 82 (by decide +kernel) rfl, ⟨by decide, by decide⟩, by decide +kernel, ow_mb 829 (by decide +kernel) rfl⟩
set_option maxRecDepth 20000 in
theorem mkX8_spread : ow_okM yX8_spread cX8_spread 6 none false 2 := ⟨ow_mb 834 rfl rfl, ow_mb 82 (by decide +kernel) rfl, ⟨by decide, by decide⟩, by decide +kernel, ow_mb 833 (by decide +kernel) rfl, ow_mb 52 (by decide +kernel) rfl⟩
set_option maxRecDepth 20000 in
theorem mkX8_isBeside : ow_okM yX8_isBeside cX8_isBeside 5 (some .boolean) false 2 := ⟨ow_mb 838 rfl rfl, ow_mb 82 (by decide +kernel) rfl, ⟨by decide, by decide⟩, by decide +kernel, ow_mb 837 (by decide +kernel) rfl, ow_mb 53 (by decide +kernel) rfl⟩
set_option maxRecDepth 20000 in
theorem mkX8_pass : ow_okM yX8_pass cX8_pass 5 none false 4 := ⟨ow_mb 842 rfl rfl, ow_mb 82 (by decide +kernel) rfl, ⟨by decide, by decide⟩, by decide +kernel, ow_mb 841 (by decide +kernel) rfl, ow_mb 54 (by decide +kernel) rfl⟩
set_option maxRecDepth 20000 in
theorem mkX8_altered : ow_okM yX8_altered cX8_altered 4 (some .int) false 2 := ⟨ow_mb 846 rfl rfl, ow_mb 82 (by decide +kernel) rfl, ⟨by decide, by decide⟩, by decide +kernel, ow_mb 845 (by decide +kernel) rfl, ow_mb 55 (by decide +kernel) rfl⟩
set_option maxRecDepth 20000 in
theorem mkX8_said : ow_okM yX8_said cX8_said 7 (some .int) false 4 := ⟨ow_mb 850 rfl rfl, ow_mb 82 (by decide +kernel) rfl, ⟨by decide, by decide⟩, by decide +kernel, ow_mb 848 (by decide +kernel) rfl, ow_mb 849 (by decide +kernel) rfl⟩
set_option maxRecDepth 20000 in
theorem mkX8_fewest : ow_okM yX8_fewest cX8_fewest 1 (some .int) false 0 := ⟨ow_mb 854 rfl rfl, ow_mb 82 (by decide +kernel) rfl, ⟨by decide, by decide⟩, by decide +kernel, ow_mb 852 (by decide +kernel) rfl, ow_mb 853 (by decide +kernel) rfl⟩
set_option maxRecDepth 20000 in
theorem mkX8_findSteps : ow_okM yX8_findSteps cX8_findSteps 8 (some .int) false 1 := ⟨ow_mb 858 rfl rfl, ow_mb 82 (by decide +kernel) rfl, ⟨by decide, by decide⟩, by decide +kernel, ow_mb 857 (by decide +kernel) rfl, ow_mb 56 (by decide +kernel) rfl⟩
set_option maxRecDepth 20000 in
theorem mkX8_reach : ow_okM yX8_reach cX8_reach 3 none false 2 := ⟨ow_mb 862 rfl rfl, ow_mb 82 (by decide +kernel) rfl, ⟨by decide, by decide⟩, by decide +kernel, ow_mb 861 (by decide +kernel) rfl, ow_mb 57 (by decide +kernel) rfl⟩
set_option maxRecDepth 20000 in
theorem mkX8_mayBe : ow_okM yX8_mayBe cX8_mayBe 5 (some .boolean) false 1 := ⟨ow_mb 866 rfl rfl, ow_mb 82 (by decide +kernel) rfl, ⟨by decide, by decide⟩, by decide +kernel, ow_mb 865 (by decide +kernel) rfl, ow_mb 58 (by decide +kernel) rfl⟩
set_option maxRecDepth 20000 in
theorem mkX8_after : ow_okM yX8_after cX8_after 5 (some .int) false 2 := ⟨ow_mb 870 rfl rfl, ow_mb 82 (by decide +kernel) rfl, ⟨by decide, by decide⟩, by decide +kernel, ow_mb 869 (by decide +kernel) rfl, ow_mb 59 (by decide +kernel) rfl⟩
set_option maxRecDepth 20000 in
theorem mkX8_exchanged : ow_okM yX8_exchanged cX8_exchanged 5 (some .int) false 2 := ⟨ow_mb 874 rfl rfl, ow_mb 82 (by decide +kernel) rfl, ⟨by decide, by decide⟩, by decide +kernel, ow_mb 873 (by decide +kernel) rfl, ow_mb 60 (by decide +kernel) rfl⟩
set_option maxRecDepth 20000 in
theorem mkX8_goodIn : ow_okM yX8_goodIn cX8_goodIn 2 (some .int) true 2 := ⟨ow_mb 877 rfl rfl, ow_mb 82 (by decide +kernel) rfl, ⟨by decide, by decide⟩, by decide +kernel, ow_mb 876 (by decide +kernel) rfl⟩
set_option maxRecDepth 20000 in
theorem mkX8_soonest : ow_okM yX8_soonest cX8_soonest 1 (some .int) false 0 := ⟨ow_mb 881 rfl rfl, ow_mb 82 (by decide +kernel) rfl, ⟨by decide, by decide⟩, by decide +kernel, ow_mb 879 (by decide +kernel) rfl, ow_mb 880 (by decide +kernel) rfl⟩
set_option maxRecDepth 20000 in
theorem mkX8_cut : ow_okM yX8_cut cX8_cut 6 (some .int) false 1 := ⟨ow_mb 885 rfl rfl, ow_mb 82 (by decide +kernel) rfl, ⟨by decide, by decide⟩, by decide +kernel, ow_mb 883 (by decide +kernel) rfl, ow_mb 884 (by decide +kernel) rfl⟩
set_option maxRecDepth 20000 in
theorem mkX8_order : ow_okM yX8_order cX8_order 10 (some .int) false 5 := ⟨ow_mb 889 rfl rfl, ow_mb 82 (by decide +kernel) rfl, ⟨by decide, by decide⟩, by decide +kernel, ow_mb 887 (by decide +kernel) rfl, ow_mb 888 (by decide +kernel) rfl⟩
set_option maxRecDepth 20000 in
theorem mkX8_barred : ow_okM yX8_barred cX8_barred 3 (some .int) false 0 := ⟨ow_mb 893 rfl rfl, ow_mb 82 (by decide +kernel) rfl, ⟨by decide, by decide⟩, by decide +kernel, ow_mb 892 (by decide +kernel) rfl, ow_mb 61 (by decide +kernel) rfl⟩
set_option maxRecDepth 20000 in
theorem mkX8_changes : ow_okM yX8_changes cX8_changes 4 (some .int) false 0 := ⟨ow_mb 897 rfl rfl, ow_mb 82 (by decide +kernel) rfl, ⟨by decide, by decide⟩, by decide +kernel, ow_mb 896 (by decide +kernel) rfl, ow_mb 62 (by decide +kernel) rfl⟩
set_option maxRecDepth 20000 in
theorem mkX8_coming : ow_okM yX8_coming cX8_coming 4 (some .int) false 0 := ⟨ow_mb 901 rfl rfl, ow_mb 82 (by decide +kernel) rfl, ⟨by decide, by decide⟩, by decide +kernel, ow_mb 899 (by decide +kernel) rfl, ow_mb 900 (by decide +kernel) rfl⟩
set_option maxRecDepth 20000 in
theorem mkX8_mayStand : ow_okM yX8_mayStand cX8_mayStand 4 (some .boolean) false 2 := ⟨ow_mb 905 rfl rfl, ow_mb 82 (by decide +kernel) rfl, ⟨by decide, by decide⟩, by decide +kernel, ow_mb 904 (by decide +kernel) rfl, ow_mb 63 (by decide +kernel) rfl⟩
set_option maxRecDepth 20000 in
theorem mkX8_letters : ow_okM yX8_letters cX8_letters 2 (some .int) false 1 := ⟨ow_mb 909 rfl rfl, ow_mb 82 (by decide +kernel) rfl, ⟨by decide, by decide⟩, by decide +kernel, ow_mb 907 (by decide +kernel) rfl, ow_mb 908 (by decide +kernel) rfl⟩
set_option maxRecDepth 20000 in
theorem mkX8_layLetters : ow_okM yX8_layLetters cX8_layLetters 6 none false 0 := ⟨ow_mb 913 rfl rfl, ow_mb 82 (by decide +kernel) rfl, ⟨by decide, by decide⟩, by decide +kernel, ow_mb 912 (by decide +kernel) rfl, ow_mb 64 (by decide +kernel) rfl⟩
set_option maxRecDepth 20000 in
theorem mkX8_readers : ow_okM yX8_readers cX8_readers 4 (some .int) false 2 := ⟨ow_mb 917 rfl rfl, ow_mb 82 (by decide +kernel) rfl, ⟨by decide, by decide⟩, by decide +kernel, ow_mb 916 (by decide +kernel) rfl, ow_mb 65 (by decide +kernel) rfl⟩
set_option maxRecDepth 20000 in
theorem mkX8_mateOf : ow_okM yX8_mateOf cX8_mateOf 5 (some .int) false 1 := ⟨ow_mb 921 rfl rfl, ow_mb 82 (by decide +kernel) rfl, ⟨by decide, by decide⟩, by decide +kernel, ow_mb 920 (by decide +kernel) rfl, ow_mb 66 (by decide +kernel) rfl⟩
set_option maxRecDepth 20000 in
theorem mkX8_heard : ow_okM yX8_heard cX8_heard 7 (some .long) false 3 := ⟨ow_mb 925 rfl rfl, ow_mb 82 (by decide +kernel) rfl, ⟨by decide, by decide⟩, by decide +kernel, ow_mb 923 (by decide +kernel) rfl, ow_mb 924 (by decide +kernel) rfl⟩
set_option maxRecDepth 20000 in
theorem mkX8_hearing : ow_okM yX8_hearing cX8_hearing 10 (some .long) false 2 := ⟨ow_mb 931 rfl rfl, ow_mb 82 (by decide +kernel) rfl, ⟨by decide, by decide⟩, by decide +kernel, ow_mb 930 (by decide +kernel) rfl, ow_mb 67 (by decide +kernel) rfl⟩
set_option maxRecDepth 20000 in
theorem mkX8_reached : ow_okM yX8_reached cX8_reached 7 (some .int) false 2 := ⟨ow_mb 935 rfl rfl, ow_mb 82 (by decide +kernel) rfl, ⟨by decide, by decide⟩, by decide +kernel, ow_mb 934 (by decide +kernel) rfl, ow_mb 68 (by decide +kernel) rfl⟩
set_option maxRecDepth 20000 in
theorem mkX8_inLeastTerms : ow_okM yX8_inLeastTerms cX8_inLeastTerms 11 (some .long) true 3 := ⟨ow_mb 938 rfl rfl, ow_mb 82 (by decide +kernel) rfl, ⟨by decide, by decide⟩, by decide +kernel, ow_mb 937 (by decide +kernel) rfl⟩
set_option maxRecDepth 20000 in
theorem mkX8_stand : ow_okM yX8_stand cX8_stand 8 (some .int) false 1 := ⟨ow_mb 942 rfl rfl, ow_mb 82 (by decide +kernel) rfl, ⟨by decide, by decide⟩, by decide +kernel, ow_mb 940 (by decide +kernel) rfl, ow_mb 941 (by decide +kernel) rfl⟩
set_option maxRecDepth 20000 in
theorem mkX8_reading : ow_okM yX8_reading cX8_reading 5 (some .int) false 4 := ⟨ow_mb 946 rfl rfl, ow_mb 82 (by decide +kernel) rfl, ⟨by decide, by decide⟩, by decide +kernel, ow_mb 944 (by decide +kernel) rfl, ow_mb 945 (by decide +kernel) rfl⟩
set_option maxRecDepth 20000 in
theorem mkX8_back : ow_okM yX8_back cX8_back 2 (some .int) false 1 := ⟨ow_mb 950 rfl rfl, ow_mb 82 (by decide +kernel) rfl, ⟨by decide, by decide⟩, by decide +kernel, ow_mb 948 (by decide +kernel) rfl, ow_mb 949 (by decide +kernel) rfl⟩
set_option maxRecDepth 20000 in
theorem mkX8_kinds : ow_okM yX8_kinds cX8_kinds 5 (some .int) false 1 := ⟨ow_mb 954 rfl rfl, ow_mb 82 (by decide +kernel) rfl, ⟨by decide, by decide⟩, by decide +kernel, ow_mb 952 (by decide +kernel) rfl, ow_mb 953 (by decide +kernel) rfl⟩
set_option maxRecDepth 20000 in
theorem mkX8_areSo : ow_okM yX8_areSo cX8_areSo 4 (some .boolean) false 0 := ⟨ow_mb 958 rfl rfl, ow_mb 82 (by decide +kernel) rfl, ⟨by decide, by decide⟩, by decide +kernel, ow_mb 957 (by decide +kernel) rfl, ow_mb 69 (by decide +kernel) rfl⟩
set_option maxRecDepth 20000 in
theorem mkX8_walls : ow_okM yX8_walls cX8_walls 4 (some .int) false 0 := ⟨ow_mb 962 rfl rfl, ow_mb 82 (by decide +kernel) rfl, ⟨by decide, by decide⟩, by decide +kernel, ow_mb 960 (by decide +kernel) rfl, ow_mb 961 (by decide +kernel) rfl⟩
set_option maxRecDepth 20000 in
theorem mkX8_sheet : ow_okM yX8_sheet cX8_sheet 5 (some .int) false 3 := ⟨ow_mb 966 rfl rfl, ow_mb 82 (by decide +kernel) rfl, ⟨by decide, by decide⟩, by decide +kernel, ow_mb 964 (by decide +kernel) rfl, ow_mb 965 (by decide +kernel) rfl⟩
set_option maxRecDepth 20000 in
theorem mkX8_lose : ow_okM yX8_lose cX8_lose 3 (some .int) false 1 := ⟨ow_mb 970 rfl rfl, ow_mb 82 (by decide +kernel) rfl, ⟨by decide, by decide⟩, by decide +kernel, ow_mb 968 (by decide +kernel) rfl, ow_mb 969 (by decide +kernel) rfl⟩
set_option maxRecDepth 20000 in
theorem mkX8_put : ow_okM yX8_put cX8_put 4 (some .int) false 3 := ⟨ow_mb 974 rfl rfl, ow_mb 82 (by decide +kernel) rfl, ⟨by decide, by decide⟩, by decide +kernel, ow_mb 972 (by decide +kernel) rfl, ow_mb 973 (by decide +kernel) rfl⟩
set_option maxRecDepth 20000 in
theorem mkX8_cell : ow_okM yX8_cell cX8_cell 4 (some .long) false 3 := ⟨ow_mb 978 rfl rfl, ow_mb 82 (by decide +kernel) rfl, ⟨by decide, by decide⟩, by decide +kernel, ow_mb 976 (by decide +kernel) rfl, ow_mb 977 (by decide +kernel) rfl⟩
set_option maxRecDepth 20000 in
theorem mkX8_lost : ow_okM yX8_lost cX8_lost 2 (some .long) false 1 := ⟨ow_mb 982 rfl rfl, ow_mb 82 (by decide +kernel) rfl, ⟨by decide, by decide⟩, by decide +kernel, ow_mb 981 (by decide +kernel) rfl, ow_mb 70 (by decide +kernel) rfl⟩
set_option maxRecDepth 20000 in
theorem mkX8_copy : ow_okM yX8_copy cX8_copy 10 (some .int) false 5 := ⟨ow_mb 986 rfl rfl, ow_mb 82 (by decide +kernel) rfl, ⟨by decide, by decide⟩, by decide +kernel, ow_mb 984 (by decide +kernel) rfl, ow_mb 985 (by decide +kernel) rfl⟩
set_option maxRecDepth 20000 in
theorem mkX8_tell : ow_okM yX8_tell cX8_tell 3 (some .int) false 1 := ⟨ow_mb 990 rfl rfl, ow_mb 82 (by decide +kernel) rfl, ⟨by decide, by decide⟩, by decide +kernel, ow_mb 988 (by decide +kernel) rfl, ow_mb 989 (by decide +kernel) rfl⟩
set_option maxRecDepth 20000 in
theorem mkX8_begins : ow_okM yX8_begins cX8_begins 2 none false 1 := ⟨ow_mb 994 rfl rfl, ow_mb 82 (by decide +kernel) rfl, ⟨by decide, by decide⟩, by decide +kernel, ow_mb 993 (by decide +kernel) rfl, ow_mb 71 (by decide +kernel) rfl⟩
set_option maxRecDepth 20000 in
theorem mkX8_lean : ow_okM yX8_lean cX8_lean 2 (some .int) false 1 := ⟨ow_mb 998 rfl rfl, ow_mb 82 (by decide +kernel) rfl, ⟨by decide, by decide⟩, by decide +kernel, ow_mb 996 (by decide +kernel) rfl, ow_mb 997 (by decide +kernel) rfl⟩
set_option maxRecDepth 20000 in
theorem mkX8_as : ow_okM yX8_as cX8_as 3 (some .int) false 2 := ⟨ow_mb 1002 rfl rfl, ow_mb 82 (by decide +kernel) rfl, ⟨by decide, by decide⟩, by decide +kernel, ow_mb 1000 (by decide +kernel) rfl, ow_mb 1001 (by decide +kernel) rfl⟩
set_option maxRecDepth 20000 in
theorem mkX8_trace : ow_okM yX8_trace cX8_trace 1 (some .int) false 0 := ⟨ow_mb 1006 rfl rfl, ow_mb 82 (by decide +kernel) rfl, ⟨by decide, by decide⟩, by decide +kernel, ow_mb 1004 (by decide +kernel) rfl, ow_mb 1005 (by decide +kernel) rfl⟩
set_option maxRecDepth 20000 in
theorem mkX8_fault : ow_okM yX8_fault cX8_fault 1 (some .int) false 0 := ⟨ow_mb 1010 rfl rfl, ow_mb 82 (by decide +kernel) rfl, ⟨by decide, by decide⟩, by decide +kernel, ow_mb 1008 (by decide +kernel) rfl, ow_mb 1009 (by decide +kernel) rfl⟩
set_option maxRecDepth 20000 in
theorem mkX8_many : ow_okM yX8_many cX8_many 2 (some .int) false 1 := ⟨ow_mb 1014 rfl rfl, ow_mb 82 (by decide +kernel) rfl, ⟨by decide, by decide⟩, by decide +kernel, ow_mb 1012 (by decide +kernel) rfl, ow_mb 1013 (by decide +kernel) rfl⟩
set_option maxRecDepth 20000 in
theorem mkX8_walled : ow_okM yX8_walled cX8_walled 3 (some .int) false 0 := ⟨ow_mb 1018 rfl rfl, ow_mb 82 (by decide +kernel) rfl, ⟨by decide, by decide⟩, by decide +kernel, ow_mb 1017 (by decide +kernel) rfl, ow_mb 72 (by decide +kernel) rfl⟩
theorem lkL_13 : ow_lk RL 13 yX7_wire := Or.inl (ow_mb 284 (by decide +kernel) rfl)
theorem lkX7_67 : ow_lk RX7 67 yX7_isSheet := Or.inl (ow_mb 288 (by decide +kernel) rfl)
theorem lkX7_71 : ow_lk RX7 71 yX7_isLane := Or.inl (ow_mb 291 (by decide +kernel) rfl)
theorem lkX7_74 : ow_lk RX7 74 yX4_faultOfCells := Or.inr ⟨"OneWire", ow_mn 294 (by decide +kernel) rfl⟩
theorem lkX4_32 : ow_lk RX4 32 yX4_hasCells := Or.inl (ow_mb 298 (by decide +kernel) rfl)
theorem lkX7_78 : ow_lk RX7 78 yX7_failed := Or.inl (ow_mb 302 (by decide +kernel) rfl)
theorem lkX7_82 : ow_lk RX7 82 yX7_firstFault := Or.inl (ow_mb 306 (by decide +kernel) rfl)
theorem lkX7_242 : ow_lk RX7 242 yX4_load := Or.inr ⟨"OneWire", ow_mn 309 (by decide +kernel) rfl⟩
theorem lkX7_245 : ow_lk RX7 245 yX7_goesOn := Or.inl (ow_mb 313 (by decide +kernel) rfl)
theorem lkX7_248 : ow_lk RX7 248 yX7_isDigit := Or.inl (ow_mb 316 (by decide +kernel) rfl)
theorem lkX7_86 : ow_lk RX7 86 yX0_takeText := Or.inr ⟨"OneWire", ow_mn 319 (by decide +kernel) rfl⟩
theorem lkX0_39 : ow_lk RX0 39 yX4_load := Or.inr ⟨"OneWire", ow_mn 323 (by decide +kernel) rfl⟩
theorem lkX0_51 : ow_lk RX0 51 yX0_kindOf := Or.inl (ow_mb 327 (by decide +kernel) rfl)
theorem lkL_18 : ow_lk RL 18 yX7_ofPerson := Or.inl (ow_mb 330 (by decide +kernel) rfl)
theorem lkX7_96 : ow_lk RX7 96 yX0_isPerson := Or.inr ⟨"OneWire", ow_mn 334 (by decide +kernel) rfl⟩
theorem lkL_23 : ow_lk RL 23 yX7_grudge := Or.inl (ow_mb 338 (by decide +kernel) rfl)
theorem lkX7_112 : ow_lk RX7 112 yX0_isEdge := Or.inr ⟨"OneWire", ow_mn 342 (by decide +kernel) rfl⟩
theorem lkL_28 : ow_lk RL 28 yX7_hand := Or.inl (ow_mb 346 (by decide +kernel) rfl)
theorem lkX7_119 : ow_lk RX7 119 yX0_changeGoods := Or.inr ⟨"OneWire", ow_mn 350 (by decide +kernel) rfl⟩
theorem lkX0_54 : ow_lk RX0 54 yX0_isEdge := Or.inl (ow_mb 354 (by decide +kernel) rfl)
theorem lkX0_58 : ow_lk RX0 58 yX0_rightEnd := Or.inl (ow_mb 355 (by decide +kernel) rfl)
theorem lkL_33 : ow_lk RL 33 yX7_wish := Or.inl (ow_mb 359 (by decide +kernel) rfl)
theorem lkL_37 : ow_lk RL 37 yX7_news := Or.inl (ow_mb 363 (by decide +kernel) rfl)
theorem lkX7_123 : ow_lk RX7 123 yX7_isNumber := Or.inl (ow_mb 367 (by decide +kernel) rfl)
theorem lkX7_126 : ow_lk RX7 126 yX5_tellFrom := Or.inr ⟨"OneWire", ow_mn 370 (by decide +kernel) rfl⟩
theorem lkX5_18 : ow_lk RX5 18 yJ7_fill_53178 := Or.inl (ow_mb 374 (by decide +kernel) rfl)
theorem lkX5_24 : ow_lk RX5 24 yX0_isPerson := Or.inr ⟨"OneWire", ow_mn 377 (by decide +kernel) rfl⟩
theorem lkX5_34 : ow_lk RX5 34 yX0_altered := Or.inr ⟨"OneWire", ow_mn 378 (by decide +kernel) rfl⟩
theorem lkX0_64 : ow_lk RX0 64 yX0_isPerson := Or.inl (ow_mb 382 (by decide +kernel) rfl)
theorem lkX5_38 : ow_lk RX5 38 yX5_passOn := Or.inl (ow_mb 383 (by decide +kernel) rfl)
theorem lkX5_42 : ow_lk RX5 42 yX0_edgeOnLeft := Or.inr ⟨"OneWire", ow_mn 387 (by decide +kernel) rfl⟩
theorem lkX5_46 : ow_lk RX5 46 yX0_isOpen := Or.inr ⟨"OneWire", ow_mn 391 (by decide +kernel) rfl⟩
theorem lkX5_49 : ow_lk RX5 49 yX5_hear := Or.inl (ow_mb 395 (by decide +kernel) rfl)
theorem lkX5_53 : ow_lk RX5 53 yX0_rightEnd := Or.inr ⟨"OneWire", ow_mn 399 (by decide +kernel) rfl⟩
theorem lkL_41 : ow_lk RL 41 yX7_said := Or.inl (ow_mb 400 (by decide +kernel) rfl)
theorem lkL_45 : ow_lk RL 45 yX7_fewest := Or.inl (ow_mb 404 (by decide +kernel) rfl)
theorem lkX7_136 : ow_lk RX7 136 yX0_isThere := Or.inr ⟨"OneWire", ow_mn 408 (by decide +kernel) rfl⟩
theorem lkX7_140 : ow_lk RX7 140 yX6_leastSteps := Or.inr ⟨"OneWire", ow_mn 412 (by decide +kernel) rfl⟩
theorem lkX6_40 : ow_lk RX6 40 yX6_held := Or.inl (ow_mb 416 (by decide +kernel) rfl)
theorem lkX6_44 : ow_lk RX6 44 yX6_gatherSteps := Or.inl (ow_mb 419 (by decide +kernel) rfl)
theorem lkX6_68 : ow_lk RX6 68 yX6_isOneDay := Or.inl (ow_mb 423 (by decide +kernel) rfl)
theorem lkX6_72 : ow_lk RX6 72 yX0_rightEnd := Or.inr ⟨"OneWire", ow_mn 426 (by decide +kernel) rfl⟩
theorem lkX6_76 : ow_lk RX6 76 yX0_isOpen := Or.inr ⟨"OneWire", ow_mn 427 (by decide +kernel) rfl⟩
theorem lkX6_48 : ow_lk RX6 48 yJ7_fill_d0a16 := Or.inl (ow_mb 428 (by decide +kernel) rfl)
theorem lkX6_57 : ow_lk RX6 57 yX6_meet := Or.inl (ow_mb 431 (by decide +kernel) rfl)
theorem lkX6_61 : ow_lk RX6 61 yX6_goOnFrom := Or.inl (ow_mb 435 (by decide +kernel) rfl)
theorem lkX6_80 : ow_lk RX6 80 yX6_turnedBy := Or.inl (ow_mb 439 (by decide +kernel) rfl)
theorem lkL_50 : ow_lk RL 50 yX7_soonest := Or.inl (ow_mb 442 (by decide +kernel) rfl)
theorem lkL_54 : ow_lk RL 54 yX7_cut := Or.inl (ow_mb 446 (by decide +kernel) rfl)
theorem lkX7_148 : ow_lk RX7 148 yX6_mustGoOver := Or.inr ⟨"OneWire", ow_mn 450 (by decide +kernel) rfl⟩
theorem lkL_58 : ow_lk RL 58 yX7_order := Or.inl (ow_mb 457 (by decide +kernel) rfl)
theorem lkX7_152 : ow_lk RX7 152 yX2_readPlaces := Or.inr ⟨"OneWire", ow_mn 461 (by decide +kernel) rfl⟩
theorem lkX2_18 : ow_lk RX2 18 yJ7_fill_53178 := Or.inl (ow_mb 465 (by decide +kernel) rfl)
theorem lkX2_30 : ow_lk RX2 30 yX4_load := Or.inr ⟨"OneWire", ow_mn 466 (by decide +kernel) rfl⟩
theorem lkX2_36 : ow_lk RX2 36 yX0_isPerson := Or.inr ⟨"OneWire", ow_mn 467 (by decide +kernel) rfl⟩
theorem lkX7_156 : ow_lk RX7 156 yX2_firstBar := Or.inr ⟨"OneWire", ow_mn 468 (by decide +kernel) rfl⟩
theorem lkX2_43 : ow_lk RX2 43 yX2_mayChange := Or.inl (ow_mb 472 (by decide +kernel) rfl)
theorem lkX7_160 : ow_lk RX7 160 yX2_changes := Or.inr ⟨"OneWire", ow_mn 475 (by decide +kernel) rfl⟩
theorem lkL_63 : ow_lk RL 63 yX7_coming := Or.inl (ow_mb 479 (by decide +kernel) rfl)
theorem lkX7_163 : ow_lk RX7 163 yX2_howManyCome := Or.inr ⟨"OneWire", ow_mn 483 (by decide +kernel) rfl⟩
theorem lkX2_47 : ow_lk RX2 47 yX2_mustBeAhead := Or.inl (ow_mb 487 (by decide +kernel) rfl)
theorem lkL_67 : ow_lk RL 67 yX7_letters := Or.inl (ow_mb 490 (by decide +kernel) rfl)
theorem lkX7_166 : ow_lk RX7 166 yX1_leastReaders := Or.inr ⟨"OneWire", ow_mn 494 (by decide +kernel) rfl⟩
theorem lkX1_21 : ow_lk RX1 21 yX1_leastOf := Or.inl (ow_mb 498 (by decide +kernel) rfl)
theorem lkX1_25 : ow_lk RX1 25 yX1_readersWith := Or.inl (ow_mb 501 (by decide +kernel) rfl)
theorem lkX1_32 : ow_lk RX1 32 yX1_between := Or.inl (ow_mb 505 (by decide +kernel) rfl)
theorem lkX7_169 : ow_lk RX7 169 yX1_mateOf := Or.inr ⟨"OneWire", ow_mn 509 (by decide +kernel) rfl⟩
theorem lkL_71 : ow_lk RL 71 yX7_heard := Or.inl (ow_mb 513 (by decide +kernel) rfl)
theorem lkX7_172 : ow_lk RX7 172 yX7_isTenths := Or.inl (ow_mb 517 (by decide +kernel) rfl)
theorem lkX7_177 : ow_lk RX7 177 yX7_hearers := Or.inl (ow_mb 521 (by decide +kernel) rfl)
theorem lkX7_251 : ow_lk RX7 251 yX0_wayRight := Or.inr ⟨"OneWire", ow_mn 525 (by decide +kernel) rfl⟩
theorem lkX0_61 : ow_lk RX0 61 yX0_isOpen := Or.inl (ow_mb 529 (by decide +kernel) rfl)
theorem lkX7_255 : ow_lk RX7 255 yX7_reaching := Or.inl (ow_mb 530 (by decide +kernel) rfl)
theorem lkX7_259 : ow_lk RX7 259 yX7_allWhole := Or.inl (ow_mb 534 (by decide +kernel) rfl)
theorem lkX7_181 : ow_lk RX7 181 yX7_whole := Or.inl (ow_mb 539 (by decide +kernel) rfl)
theorem lkX7_185 : ow_lk RX7 185 yX7_commonDivisor := Or.inl (ow_mb 543 (by decide +kernel) rfl)
theorem lkL_76 : ow_lk RL 76 yX7_stand := Or.inl (ow_mb 546 (by decide +kernel) rfl)
theorem lkL_80 : ow_lk RL 80 yX7_reading := Or.inl (ow_mb 550 (by decide +kernel) rfl)
theorem lkX7_189 : ow_lk RX7 189 yX3_takeOne := Or.inr ⟨"OneWire", ow_mn 554 (by decide +kernel) rfl⟩
theorem lkL_84 : ow_lk RL 84 yX7_back := Or.inl (ow_mb 558 (by decide +kernel) rfl)
theorem lkL_88 : ow_lk RL 88 yX7_kinds := Or.inl (ow_mb 562 (by decide +kernel) rfl)
theorem lkX7_193 : ow_lk RX7 193 yX3_areAllSo := Or.inr ⟨"OneWire", ow_mn 566 (by decide +kernel) rfl⟩
theorem lkX3_28 : ow_lk RX3 28 yX5_tellFrom := Or.inr ⟨"OneWire", ow_mn 570 (by decide +kernel) rfl⟩
theorem lkL_92 : ow_lk RL 92 yX7_walls := Or.inl (ow_mb 571 (by decide +kernel) rfl)
theorem lkL_96 : ow_lk RL 96 yX7_sheet := Or.inl (ow_mb 575 (by decide +kernel) rfl)
theorem lkX7_200 : ow_lk RX7 200 yX4_becomeNew := Or.inr ⟨"OneWire", ow_mn 579 (by decide +kernel) rfl⟩
theorem lkX4_26 : ow_lk RX4 26 yJ7_fill_53178 := Or.inl (ow_mb 583 (by decide +kernel) rfl)
theorem lkL_101 : ow_lk RL 101 yX7_lose := Or.inl (ow_mb 584 (by decide +kernel) rfl)
theorem lkL_105 : ow_lk RL 105 yX7_put := Or.inl (ow_mb 588 (by decide +kernel) rfl)
theorem lkX7_207 : ow_lk RX7 207 yX4_hasCells := Or.inr ⟨"OneWire", ow_mn 592 (by decide +kernel) rfl⟩
theorem lkX7_211 : ow_lk RX7 211 yX4_store := Or.inr ⟨"OneWire", ow_mn 593 (by decide +kernel) rfl⟩
theorem lkL_109 : ow_lk RL 109 yX7_cell := Or.inl (ow_mb 597 (by decide +kernel) rfl)
theorem lkL_113 : ow_lk RL 113 yX7_copy := Or.inl (ow_mb 601 (by decide +kernel) rfl)
theorem lkL_117 : ow_lk RL 117 yX7_tell := Or.inl (ow_mb 608 (by decide +kernel) rfl)
theorem lkX7_226 : ow_lk RX7 226 yX7_tellTalker := Or.inl (ow_mb 612 (by decide +kernel) rfl)
theorem lkX7_235 : ow_lk RX7 235 yX7_leaveTrace := Or.inl (ow_mb 616 (by decide +kernel) rfl)
theorem lkX7_229 : ow_lk RX7 229 yX7_tellGrudger := Or.inl (ow_mb 620 (by decide +kernel) rfl)
theorem lkX7_232 : ow_lk RX7 232 yX7_tellPerson := Or.inl (ow_mb 624 (by decide +kernel) rfl)
theorem lkL_121 : ow_lk RL 121 yX7_lean := Or.inl (ow_mb 628 (by decide +kernel) rfl)
theorem lkL_125 : ow_lk RL 125 yX7_as := Or.inl (ow_mb 632 (by decide +kernel) rfl)
theorem lkL_129 : ow_lk RL 129 yX7_trace := Or.inl (ow_mb 636 (by decide +kernel) rfl)
theorem lkL_133 : ow_lk RL 133 yX7_fault := Or.inl (ow_mb 640 (by decide +kernel) rfl)
theorem lkL_137 : ow_lk RL 137 yX7_many := Or.inl (ow_mb 644 (by decide +kernel) rfl)
theorem lkX7_238 : ow_lk RX7 238 yX0_howManyWalled := Or.inr ⟨"OneWire", ow_mn 648 (by decide +kernel) rfl⟩
theorem lkL_17 : ow_lk RL 17 yX8_wire := Or.inl (ow_mb 755 (by decide +kernel) rfl)
theorem lkX8_103 : ow_lk RX8 103 yX8_isSheet := Or.inl (ow_mb 759 (by decide +kernel) rfl)
theorem lkX8_82 : ow_lk RX8 82 yX8_within := Or.inl (ow_mb 762 (by decide +kernel) rfl)
theorem lkX8_107 : ow_lk RX8 107 yX8_isSort := Or.inl (ow_mb 765 (by decide +kernel) rfl)
theorem lkX8_110 : ow_lk RX8 110 yX8_against := Or.inl (ow_mb 768 (by decide +kernel) rfl)
theorem lkX8_114 : ow_lk RX8 114 yX8_fails := Or.inl (ow_mb 772 (by decide +kernel) rfl)
theorem lkX8_118 : ow_lk RX8 118 yX8_readWire := Or.inl (ow_mb 776 (by decide +kernel) rfl)
theorem lkX8_130 : ow_lk RX8 130 yX8_digit := Or.inl (ow_mb 780 (by decide +kernel) rfl)
theorem lkX8_134 : ow_lk RX8 134 yX8_readPerson := Or.inl (ow_mb 784 (by decide +kernel) rfl)
theorem lkL_22 : ow_lk RL 22 yX8_ofPerson := Or.inl (ow_mb 788 (by decide +kernel) rfl)
theorem lkX8_138 : ow_lk RX8 138 yX8_isPerson := Or.inl (ow_mb 792 (by decide +kernel) rfl)
theorem lkL_27 : ow_lk RL 27 yX8_grudge := Or.inl (ow_mb 796 (by decide +kernel) rfl)
theorem lkX8_141 : ow_lk RX8 141 yX8_isEdge := Or.inl (ow_mb 800 (by decide +kernel) rfl)
theorem lkX8_93 : ow_lk RX8 93 yX8_edges := Or.inl (ow_mb 804 (by decide +kernel) rfl)
theorem lkX8_144 : ow_lk RX8 144 yX8_isOpen := Or.inl (ow_mb 808 (by decide +kernel) rfl)
theorem lkL_32 : ow_lk RL 32 yX8_hand := Or.inl (ow_mb 812 (by decide +kernel) rfl)
theorem lkX8_147 : ow_lk RX8 147 yX8_farEnd := Or.inl (ow_mb 816 (by decide +kernel) rfl)
theorem lkL_36 : ow_lk RL 36 yX8_wish := Or.inl (ow_mb 820 (by decide +kernel) rfl)
theorem lkL_40 : ow_lk RL 40 yX8_news := Or.inl (ow_mb 824 (by decide +kernel) rfl)
theorem lkX8_161 : ow_lk RX8 161 yX8_isNumber := Or.inl (ow_mb 828 (by decide +kernel) rfl)
theorem lkX8_164 : ow_lk RX8 164 yX8_spread := Or.inl (ow_mb 831 (by decide +kernel) rfl)
theorem lkX8_154 : ow_lk RX8 154 yX8_isBeside := Or.inl (ow_mb 835 (by decide +kernel) rfl)
theorem lkX8_157 : ow_lk RX8 157 yX8_pass := Or.inl (ow_mb 839 (by decide +kernel) rfl)
theorem lkX8_150 : ow_lk RX8 150 yX8_altered := Or.inl (ow_mb 843 (by decide +kernel) rfl)
theorem lkL_44 : ow_lk RL 44 yX8_said := Or.inl (ow_mb 847 (by decide +kernel) rfl)
theorem lkL_49 : ow_lk RL 49 yX8_fewest := Or.inl (ow_mb 851 (by decide +kernel) rfl)
theorem lkX8_186 : ow_lk RX8 186 yX8_findSteps := Or.inl (ow_mb 855 (by decide +kernel) rfl)
theorem lkX8_177 : ow_lk RX8 177 yX8_reach := Or.inl (ow_mb 859 (by decide +kernel) rfl)
theorem lkX8_180 : ow_lk RX8 180 yX8_mayBe := Or.inl (ow_mb 863 (by decide +kernel) rfl)
theorem lkX8_183 : ow_lk RX8 183 yX8_after := Or.inl (ow_mb 867 (by decide +kernel) rfl)
theorem lkX8_171 : ow_lk RX8 171 yX8_exchanged := Or.inl (ow_mb 871 (by decide +kernel) rfl)
theorem lkX8_168 : ow_lk RX8 168 yX8_goodIn := Or.inl (ow_mb 875 (by decide +kernel) rfl)
theorem lkL_53 : ow_lk RL 53 yX8_soonest := Or.inl (ow_mb 878 (by decide +kernel) rfl)
theorem lkL_57 : ow_lk RL 57 yX8_cut := Or.inl (ow_mb 882 (by decide +kernel) rfl)
theorem lkL_62 : ow_lk RL 62 yX8_order := Or.inl (ow_mb 886 (by decide +kernel) rfl)
theorem lkX8_190 : ow_lk RX8 190 yX8_barred := Or.inl (ow_mb 890 (by decide +kernel) rfl)
theorem lkX8_193 : ow_lk RX8 193 yX8_changes := Or.inl (ow_mb 894 (by decide +kernel) rfl)
theorem lkL_66 : ow_lk RL 66 yX8_coming := Or.inl (ow_mb 898 (by decide +kernel) rfl)
theorem lkX8_196 : ow_lk RX8 196 yX8_mayStand := Or.inl (ow_mb 902 (by decide +kernel) rfl)
theorem lkL_70 : ow_lk RL 70 yX8_letters := Or.inl (ow_mb 906 (by decide +kernel) rfl)
theorem lkX8_202 : ow_lk RX8 202 yX8_layLetters := Or.inl (ow_mb 910 (by decide +kernel) rfl)
theorem lkX8_199 : ow_lk RX8 199 yX8_readers := Or.inl (ow_mb 914 (by decide +kernel) rfl)
theorem lkX8_205 : ow_lk RX8 205 yX8_mateOf := Or.inl (ow_mb 918 (by decide +kernel) rfl)
theorem lkL_75 : ow_lk RL 75 yX8_heard := Or.inl (ow_mb 922 (by decide +kernel) rfl)
theorem lkX8_213 : ow_lk RX8 213 yX8_hearing := Or.inl (ow_mb 928 (by decide +kernel) rfl)
theorem lkX8_208 : ow_lk RX8 208 yX8_reached := Or.inl (ow_mb 932 (by decide +kernel) rfl)
theorem lkX8_217 : ow_lk RX8 217 yX8_inLeastTerms := Or.inl (ow_mb 936 (by decide +kernel) rfl)
theorem lkL_79 : ow_lk RL 79 yX8_stand := Or.inl (ow_mb 939 (by decide +kernel) rfl)
theorem lkL_83 : ow_lk RL 83 yX8_reading := Or.inl (ow_mb 943 (by decide +kernel) rfl)
theorem lkL_87 : ow_lk RL 87 yX8_back := Or.inl (ow_mb 947 (by decide +kernel) rfl)
theorem lkL_91 : ow_lk RL 91 yX8_kinds := Or.inl (ow_mb 951 (by decide +kernel) rfl)
theorem lkX8_221 : ow_lk RX8 221 yX8_areSo := Or.inl (ow_mb 955 (by decide +kernel) rfl)
theorem lkL_95 : ow_lk RL 95 yX8_walls := Or.inl (ow_mb 959 (by decide +kernel) rfl)
theorem lkL_100 : ow_lk RL 100 yX8_sheet := Or.inl (ow_mb 963 (by decide +kernel) rfl)
theorem lkL_104 : ow_lk RL 104 yX8_lose := Or.inl (ow_mb 967 (by decide +kernel) rfl)
theorem lkL_108 : ow_lk RL 108 yX8_put := Or.inl (ow_mb 971 (by decide +kernel) rfl)
theorem lkL_112 : ow_lk RL 112 yX8_cell := Or.inl (ow_mb 975 (by decide +kernel) rfl)
theorem lkX8_225 : ow_lk RX8 225 yX8_lost := Or.inl (ow_mb 979 (by decide +kernel) rfl)
theorem lkL_116 : ow_lk RL 116 yX8_copy := Or.inl (ow_mb 983 (by decide +kernel) rfl)
theorem lkL_120 : ow_lk RL 120 yX8_tell := Or.inl (ow_mb 987 (by decide +kernel) rfl)
theorem lkX8_232 : ow_lk RX8 232 yX8_begins := Or.inl (ow_mb 991 (by decide +kernel) rfl)
theorem lkL_124 : ow_lk RL 124 yX8_lean := Or.inl (ow_mb 995 (by decide +kernel) rfl)
theorem lkL_128 : ow_lk RL 128 yX8_as := Or.inl (ow_mb 999 (by decide +kernel) rfl)
theorem lkL_132 : ow_lk RL 132 yX8_trace := Or.inl (ow_mb 1003 (by decide +kernel) rfl)
theorem lkL_136 : ow_lk RL 136 yX8_fault := Or.inl (ow_mb 1007 (by decide +kernel) rfl)
theorem lkL_140 : ow_lk RL 140 yX8_many := Or.inl (ow_mb 1011 (by decide +kernel) rfl)
theorem lkX8_236 : ow_lk RX8 236 yX8_walled := Or.inl (ow_mb 1015 (by decide +kernel) rfl)
theorem mk_max : Cond.static Lib.Math.max.name ∈ ow_base ∧ Cond.initialized "java/lang/Math" ∈ ow_base ∧ Cond.code Lib.Math.max.name Lib.Math.max.code 2 (some .int) ∈ ow_base := ⟨ow_mb 455 (by decide +kernel) rfl, ow_mb 83 (by decide +kernel) rfl, ow_mb 456 (by decide +kernel) rfl⟩
theorem lkX6_84 : Cond.methodLink RX6 84 Lib.Math.max.name ∈ ow_base := ow_mb 454 (by decide +kernel) rfl
theorem mk_min : Cond.static Lib.Math.min.name ∈ ow_base ∧ Cond.initialized "java/lang/Math" ∈ ow_base ∧ Cond.code Lib.Math.min.name Lib.Math.min.code 2 (some .int) ∈ ow_base := ⟨ow_mb 325 (by decide +kernel) rfl, ow_mb 83 (by decide +kernel) rfl, ow_mb 326 (by decide +kernel) rfl⟩
theorem lkX0_45 : Cond.methodLink RX0 45 Lib.Math.min.name ∈ ow_base := ow_mb 324 (by decide +kernel) rfl
theorem lkX1_40 : Cond.methodLink RX1 40 Lib.Math.min.name ∈ ow_base := ow_mb 508 (by decide +kernel) rfl
theorem klX7_175 : Cond.constantLong RX7 175 (-9223372036854775808) ∈ ow_base := ow_mb 520 (by decide +kernel) rfl
theorem klX7_262 : Cond.constantLong RX7 262 (10) ∈ ow_base := ow_mb 538 (by decide +kernel) rfl
theorem klX8_80 : Cond.constantLong RX8 80 (-9223372036854775808) ∈ ow_base := ow_mb 926 (by decide +kernel) rfl
theorem klX8_211 : Cond.constantLong RX8 211 (10) ∈ ow_base := ow_mb 927 (by decide +kernel) rfl
