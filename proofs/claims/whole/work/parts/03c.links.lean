theorem lk_RX0_9_0 : gLk RX0 9 0 0 (.array .int) 0 := ⟨RX0, TX0, 7, tyX0, gC0, by decide, rfl, (fun h => by cases h), (fun h => by cases h), gw_440⟩
theorem lk_RX0_26_0 : gLk RX0 26 0 3 .int 0 := ⟨RX0, TX0, 7, tyX0, gC0, by decide, rfl, (fun h => by cases h), (fun h => by cases h), gw_448⟩
theorem lk_RX0_22_0 : gLk RX0 22 0 2 (.object "GroupTowers$Group") 0 := ⟨RX0, TX0, 7, tyX0, gC0, by decide, rfl, (fun h => by cases h), (fun h => by cases h), gw_444⟩
theorem lk_RX0_40_0 : gLk RX0 40 2 7 .int 0 := ⟨RX2, TX2, 8, tyX2, gC2', by decide, rfl, (fun h => by cases h), (fun h => by cases h), gw_95⟩
theorem lk_RX0_30_0 : gLk RX0 30 0 4 .int 0 := ⟨RX0, TX0, 7, tyX0, gC0, by decide, rfl, (fun h => by cases h), (fun h => by cases h), gw_451⟩
theorem lk_RX0_49_1 : gLk RX0 49 0 6 .boolean 1 := ⟨RX0, TX0, 7, tyX0, gC0, by decide, rfl, (fun _ => rfl), (fun h => by cases h), gw_457⟩
theorem lk_RX1_27_0 : gLk RX1 27 1 3 .int 0 := ⟨RX1, TX1, 6, tyX1, gC1, by decide, rfl, (fun h => by cases h), (fun h => by cases h), gw_398⟩
theorem lk_RX1_24_0 : gLk RX1 24 1 1 (.array .int) 0 := ⟨RX1, TX1, 6, tyX1, gC1, by decide, rfl, (fun h => by cases h), (fun h => by cases h), gw_396⟩
theorem lk_RX1_9_0 : gLk RX1 9 1 2 (.array .int) 0 := ⟨RX1, TX1, 6, tyX1, gC1, by decide, rfl, (fun h => by cases h), (fun h => by cases h), gw_397⟩
theorem lk_RX1_21_0 : gLk RX1 21 1 0 (.array .int) 0 := ⟨RX1, TX1, 6, tyX1, gC1, by decide, rfl, (fun h => by cases h), (fun h => by cases h), gw_395⟩
theorem lk_RX2_30_0 : gLk RX2 30 2 7 .int 0 := ⟨RX2, TX2, 8, tyX2, gC2', by decide, rfl, (fun h => by cases h), (fun h => by cases h), gw_94⟩
theorem lk_RX2_9_2 : gLk RX2 9 2 0 (.array .int) 2 := ⟨RX2, TX2, 8, tyX2, gC2', by decide, rfl, (fun h => by cases h), (fun _ => ⟨rfl, rfl⟩), gw_81⟩
theorem lk_RX2_15_2 : gLk RX2 15 2 1 (.array .int) 2 := ⟨RX2, TX2, 8, tyX2, gC2', by decide, rfl, (fun h => by cases h), (fun _ => ⟨rfl, rfl⟩), gw_82⟩
theorem lk_RX2_18_2 : gLk RX2 18 2 2 (.array .int) 2 := ⟨RX2, TX2, 8, tyX2, gC2', by decide, rfl, (fun h => by cases h), (fun _ => ⟨rfl, rfl⟩), gw_83⟩
theorem lk_RX2_21_2 : gLk RX2 21 2 3 (.array .int) 2 := ⟨RX2, TX2, 8, tyX2, gC2', by decide, rfl, (fun h => by cases h), (fun _ => ⟨rfl, rfl⟩), gw_84⟩
theorem lk_RX2_24_2 : gLk RX2 24 2 4 (.array .int) 2 := ⟨RX2, TX2, 8, tyX2, gC2', by decide, rfl, (fun h => by cases h), (fun _ => ⟨rfl, rfl⟩), gw_86⟩
theorem lk_RX2_27_2 : gLk RX2 27 2 5 (.array .int) 2 := ⟨RX2, TX2, 8, tyX2, gC2', by decide, rfl, (fun h => by cases h), (fun _ => ⟨rfl, rfl⟩), gw_89⟩
theorem lk_RX2_9_0 : gLk RX2 9 2 0 (.array .int) 0 := ⟨RX2, TX2, 8, tyX2, gC2', by decide, rfl, (fun h => by cases h), (fun h => by cases h), gw_81⟩
theorem lk_RX3_9_2 : gLk RX3 9 3 0 (.array .int) 2 := ⟨RX3, TX3, 8, tyX3, gC3, by decide, rfl, (fun h => by cases h), (fun _ => ⟨rfl, rfl⟩), gw_319⟩
theorem lk_RX3_15_2 : gLk RX3 15 3 1 (.array .int) 2 := ⟨RX3, TX3, 8, tyX3, gC3, by decide, rfl, (fun h => by cases h), (fun _ => ⟨rfl, rfl⟩), gw_320⟩
theorem lk_RX3_18_2 : gLk RX3 18 3 2 (.array .int) 2 := ⟨RX3, TX3, 8, tyX3, gC3, by decide, rfl, (fun h => by cases h), (fun _ => ⟨rfl, rfl⟩), gw_321⟩
theorem lk_RX3_21_2 : gLk RX3 21 3 3 (.array .int) 2 := ⟨RX3, TX3, 8, tyX3, gC3, by decide, rfl, (fun h => by cases h), (fun _ => ⟨rfl, rfl⟩), gw_322⟩
theorem lk_RX3_24_2 : gLk RX3 24 3 4 (.array .int) 2 := ⟨RX3, TX3, 8, tyX3, gC3, by decide, rfl, (fun h => by cases h), (fun _ => ⟨rfl, rfl⟩), gw_323⟩
theorem lk_RX3_27_2 : gLk RX3 27 3 5 (.array .int) 2 := ⟨RX3, TX3, 8, tyX3, gC3, by decide, rfl, (fun h => by cases h), (fun _ => ⟨rfl, rfl⟩), gw_324⟩
theorem lk_RX3_30_2 : gLk RX3 30 3 6 (.array .int) 2 := ⟨RX3, TX3, 8, tyX3, gC3, by decide, rfl, (fun h => by cases h), (fun _ => ⟨rfl, rfl⟩), gw_325⟩
theorem lk_RX3_33_0 : gLk RX3 33 2 7 .int 0 := ⟨RX2, TX2, 8, tyX2, gC2', by decide, rfl, (fun h => by cases h), (fun h => by cases h), gw_93⟩
theorem lk_RX3_54_0 : gLk RX3 54 2 4 (.array .int) 0 := ⟨RX2, TX2, 8, tyX2, gC2', by decide, rfl, (fun h => by cases h), (fun h => by cases h), gw_87⟩
theorem lk_RX4_15_0 : gLk RX4 15 4 1 .int 0 := ⟨RX4, TX4, 3, tyX4, gC4, by decide, rfl, (fun h => by cases h), (fun h => by cases h), gw_34⟩
theorem lk_RX4_19_0 : gLk RX4 19 4 2 .int 0 := ⟨RX4, TX4, 3, tyX4, gC4, by decide, rfl, (fun h => by cases h), (fun h => by cases h), gw_36⟩
theorem lk_RX4_9_2 : gLk RX4 9 4 0 (.array .int) 2 := ⟨RX4, TX4, 3, tyX4, gC4, by decide, rfl, (fun h => by cases h), (fun _ => ⟨rfl, rfl⟩), gw_31⟩
theorem lk_RX4_15_1 : gLk RX4 15 4 1 .int 1 := ⟨RX4, TX4, 3, tyX4, gC4, by decide, rfl, (fun _ => rfl), (fun h => by cases h), gw_34⟩
theorem lk_RX4_9_0 : gLk RX4 9 4 0 (.array .int) 0 := ⟨RX4, TX4, 3, tyX4, gC4, by decide, rfl, (fun h => by cases h), (fun h => by cases h), gw_31⟩
theorem lk_RX5_27_0 : gLk RX5 27 5 3 .int 0 := ⟨RX5, TX5, 7, tyX5, gC5, by decide, rfl, (fun h => by cases h), (fun h => by cases h), gw_420⟩
theorem lk_RX5_31_0 : gLk RX5 31 5 5 .int 0 := ⟨RX5, TX5, 7, tyX5, gC5, by decide, rfl, (fun h => by cases h), (fun h => by cases h), gw_422⟩
theorem lk_RX5_20_0 : gLk RX5 20 5 1 (.object "GroupTowers$Echelon") 0 := ⟨RX5, TX5, 7, tyX5, gC5, by decide, rfl, (fun h => by cases h), (fun h => by cases h), gw_417⟩
theorem lk_RX5_34_0 : gLk RX5 34 1 5 .int 0 := ⟨RX1, TX1, 6, tyX1, gC1, by decide, rfl, (fun h => by cases h), (fun h => by cases h), gw_401⟩
theorem lk_RX5_37_0 : gLk RX5 37 5 4 .int 0 := ⟨RX5, TX5, 7, tyX5, gC5, by decide, rfl, (fun h => by cases h), (fun h => by cases h), gw_421⟩
theorem lk_RX5_24_0 : gLk RX5 24 5 2 (.object "GroupTowers$Echelon") 0 := ⟨RX5, TX5, 7, tyX5, gC5, by decide, rfl, (fun h => by cases h), (fun h => by cases h), gw_418⟩
theorem lk_RX6_90_0 : gLk RX6 90 6 4 .int 0 := ⟨RX6, TX6, 7, tyX6, gC6, by decide, rfl, (fun h => by cases h), (fun h => by cases h), gw_50⟩
theorem lk_RX6_17_0 : gLk RX6 17 6 1 (.array (.object "GroupTowers$Action")) 0 := ⟨RX6, TX6, 7, tyX6, gC6, by decide, rfl, (fun h => by cases h), (fun h => by cases h), gw_47⟩
theorem lk_RX6_87_0 : gLk RX6 87 6 3 .int 0 := ⟨RX6, TX6, 7, tyX6, gC6, by decide, rfl, (fun h => by cases h), (fun h => by cases h), gw_49⟩
theorem lk_RX6_23_0 : gLk RX6 23 6 2 (.array (.object "GroupTowers$Sheet")) 0 := ⟨RX6, TX6, 7, tyX6, gC6, by decide, rfl, (fun h => by cases h), (fun h => by cases h), gw_48⟩
theorem lk_RX6_70_0 : gLk RX6 70 4 1 .int 0 := ⟨RX4, TX4, 3, tyX4, gC4, by decide, rfl, (fun h => by cases h), (fun h => by cases h), gw_35⟩
theorem lk_RX6_73_0 : gLk RX6 73 4 2 .int 0 := ⟨RX4, TX4, 3, tyX4, gC4, by decide, rfl, (fun h => by cases h), (fun h => by cases h), gw_37⟩
theorem lk_RX6_11_0 : gLk RX6 11 6 0 (.array (.object "GroupTowers$Group")) 0 := ⟨RX6, TX6, 7, tyX6, gC6, by decide, rfl, (fun h => by cases h), (fun h => by cases h), gw_46⟩
theorem lk_RX6_93_0 : gLk RX6 93 0 2 (.object "GroupTowers$Group") 0 := ⟨RX0, TX0, 7, tyX0, gC0, by decide, rfl, (fun h => by cases h), (fun h => by cases h), gw_447⟩
theorem lk_RX6_87_1 : gLk RX6 87 6 3 .int 1 := ⟨RX6, TX6, 7, tyX6, gC6, by decide, rfl, (fun _ => rfl), (fun h => by cases h), gw_49⟩
theorem lk_RX6_90_1 : gLk RX6 90 6 4 .int 1 := ⟨RX6, TX6, 7, tyX6, gC6, by decide, rfl, (fun _ => rfl), (fun h => by cases h), gw_50⟩
theorem lk_RX6_172_0 : gLk RX6 172 0 6 .boolean 0 := ⟨RX0, TX0, 7, tyX0, gC0, by decide, rfl, (fun h => by cases h), (fun h => by cases h), gw_458⟩
theorem lk_RX6_176_0 : gLk RX6 176 0 1 (.object "GroupTowers$Twists") 0 := ⟨RX0, TX0, 7, tyX0, gC0, by decide, rfl, (fun h => by cases h), (fun h => by cases h), gw_443⟩
theorem lk_RX6_245_0 : gLk RX6 245 5 6 .int 0 := ⟨RX5, TX5, 7, tyX5, gC5, by decide, rfl, (fun h => by cases h), (fun h => by cases h), gw_424⟩
theorem lk_RX7_67_0 : gLk RX7 67 7 25 (.array .int) 0 := ⟨RX7, TX7, 40, tyX7, gC7, by decide, rfl, (fun h => by cases h), (fun h => by cases h), gw_722⟩
theorem lk_RX7_196_0 : gLk RX7 196 7 23 .int 0 := ⟨RX7, TX7, 40, tyX7, gC7, by decide, rfl, (fun h => by cases h), (fun h => by cases h), gw_720⟩
theorem lk_RX7_7_0 : gLk RX7 7 7 1 (.array .int) 0 := ⟨RX7, TX7, 40, tyX7, gC7, by decide, rfl, (fun h => by cases h), (fun h => by cases h), gw_698⟩
theorem lk_RX7_95_0 : gLk RX7 95 7 0 .int 0 := ⟨RX7, TX7, 40, tyX7, gC7, by decide, rfl, (fun h => by cases h), (fun h => by cases h), gw_697⟩
theorem lk_RX7_17_0 : gLk RX7 17 7 3 (.array .int) 0 := ⟨RX7, TX7, 40, tyX7, gC7, by decide, rfl, (fun h => by cases h), (fun h => by cases h), gw_700⟩
theorem lk_RX7_95_1 : gLk RX7 95 7 0 .int 1 := ⟨RX7, TX7, 40, tyX7, gC7, by decide, rfl, (fun _ => rfl), (fun h => by cases h), gw_697⟩
theorem lk_RX7_20_0 : gLk RX7 20 7 4 (.array .int) 0 := ⟨RX7, TX7, 40, tyX7, gC7, by decide, rfl, (fun h => by cases h), (fun h => by cases h), gw_701⟩
theorem lk_RX7_23_0 : gLk RX7 23 7 5 (.array .int) 0 := ⟨RX7, TX7, 40, tyX7, gC7, by decide, rfl, (fun h => by cases h), (fun h => by cases h), gw_702⟩
theorem lk_RX7_129_0 : gLk RX7 129 7 7 .int 0 := ⟨RX7, TX7, 40, tyX7, gC7, by decide, rfl, (fun h => by cases h), (fun h => by cases h), gw_704⟩
theorem lk_RX7_29_0 : gLk RX7 29 7 8 (.array .int) 0 := ⟨RX7, TX7, 40, tyX7, gC7, by decide, rfl, (fun h => by cases h), (fun h => by cases h), gw_705⟩
theorem lk_RX7_7_2 : gLk RX7 7 7 1 (.array .int) 2 := ⟨RX7, TX7, 40, tyX7, gC7, by decide, rfl, (fun h => by cases h), (fun _ => ⟨rfl, rfl⟩), gw_698⟩
theorem lk_RX7_14_2 : gLk RX7 14 7 2 (.array .int) 2 := ⟨RX7, TX7, 40, tyX7, gC7, by decide, rfl, (fun h => by cases h), (fun _ => ⟨rfl, rfl⟩), gw_699⟩
theorem lk_RX7_17_2 : gLk RX7 17 7 3 (.array .int) 2 := ⟨RX7, TX7, 40, tyX7, gC7, by decide, rfl, (fun h => by cases h), (fun _ => ⟨rfl, rfl⟩), gw_700⟩
theorem lk_RX7_20_2 : gLk RX7 20 7 4 (.array .int) 2 := ⟨RX7, TX7, 40, tyX7, gC7, by decide, rfl, (fun h => by cases h), (fun _ => ⟨rfl, rfl⟩), gw_701⟩
theorem lk_RX7_23_2 : gLk RX7 23 7 5 (.array .int) 2 := ⟨RX7, TX7, 40, tyX7, gC7, by decide, rfl, (fun h => by cases h), (fun _ => ⟨rfl, rfl⟩), gw_702⟩
theorem lk_RX7_26_2 : gLk RX7 26 7 6 (.array .int) 2 := ⟨RX7, TX7, 40, tyX7, gC7, by decide, rfl, (fun h => by cases h), (fun _ => ⟨rfl, rfl⟩), gw_703⟩
theorem lk_RX7_29_2 : gLk RX7 29 7 8 (.array .int) 2 := ⟨RX7, TX7, 40, tyX7, gC7, by decide, rfl, (fun h => by cases h), (fun _ => ⟨rfl, rfl⟩), gw_705⟩
theorem lk_RX7_32_2 : gLk RX7 32 7 9 (.array .int) 2 := ⟨RX7, TX7, 40, tyX7, gC7, by decide, rfl, (fun h => by cases h), (fun _ => ⟨rfl, rfl⟩), gw_706⟩
theorem lk_RX7_35_2 : gLk RX7 35 7 10 (.array .int) 2 := ⟨RX7, TX7, 40, tyX7, gC7, by decide, rfl, (fun h => by cases h), (fun _ => ⟨rfl, rfl⟩), gw_707⟩
theorem lk_RX7_38_2 : gLk RX7 38 7 11 (.array .int) 2 := ⟨RX7, TX7, 40, tyX7, gC7, by decide, rfl, (fun h => by cases h), (fun _ => ⟨rfl, rfl⟩), gw_708⟩
theorem lk_RX7_41_2 : gLk RX7 41 7 12 (.array .int) 2 := ⟨RX7, TX7, 40, tyX7, gC7, by decide, rfl, (fun h => by cases h), (fun _ => ⟨rfl, rfl⟩), gw_709⟩
theorem lk_RX7_44_2 : gLk RX7 44 7 13 (.array .int) 2 := ⟨RX7, TX7, 40, tyX7, gC7, by decide, rfl, (fun h => by cases h), (fun _ => ⟨rfl, rfl⟩), gw_710⟩
theorem lk_RX7_47_2 : gLk RX7 47 7 17 (.array .long) 2 := ⟨RX7, TX7, 40, tyX7, gC7, by decide, rfl, (fun h => by cases h), (fun _ => ⟨rfl, rfl⟩), gw_714⟩
theorem lk_RX7_51_2 : gLk RX7 51 7 18 (.array .long) 2 := ⟨RX7, TX7, 40, tyX7, gC7, by decide, rfl, (fun h => by cases h), (fun _ => ⟨rfl, rfl⟩), gw_715⟩
theorem lk_RX7_55_2 : gLk RX7 55 7 19 (.array .int) 2 := ⟨RX7, TX7, 40, tyX7, gC7, by decide, rfl, (fun h => by cases h), (fun _ => ⟨rfl, rfl⟩), gw_716⟩
theorem lk_RX7_58_2 : gLk RX7 58 7 20 (.array .int) 2 := ⟨RX7, TX7, 40, tyX7, gC7, by decide, rfl, (fun h => by cases h), (fun _ => ⟨rfl, rfl⟩), gw_717⟩
theorem lk_RX7_61_2 : gLk RX7 61 7 21 (.array .int) 2 := ⟨RX7, TX7, 40, tyX7, gC7, by decide, rfl, (fun h => by cases h), (fun _ => ⟨rfl, rfl⟩), gw_718⟩
theorem lk_RX7_64_2 : gLk RX7 64 7 22 (.array .int) 2 := ⟨RX7, TX7, 40, tyX7, gC7, by decide, rfl, (fun h => by cases h), (fun _ => ⟨rfl, rfl⟩), gw_719⟩
theorem lk_RX7_67_2 : gLk RX7 67 7 25 (.array .int) 2 := ⟨RX7, TX7, 40, tyX7, gC7, by decide, rfl, (fun h => by cases h), (fun _ => ⟨rfl, rfl⟩), gw_722⟩
theorem lk_RX7_70_2 : gLk RX7 70 7 26 (.array .int) 2 := ⟨RX7, TX7, 40, tyX7, gC7, by decide, rfl, (fun h => by cases h), (fun _ => ⟨rfl, rfl⟩), gw_723⟩
theorem lk_RX7_73_2 : gLk RX7 73 7 27 (.array .int) 2 := ⟨RX7, TX7, 40, tyX7, gC7, by decide, rfl, (fun h => by cases h), (fun _ => ⟨rfl, rfl⟩), gw_724⟩
theorem lk_RX7_76_1 : gLk RX7 76 7 29 .int 1 := ⟨RX7, TX7, 40, tyX7, gC7, by decide, rfl, (fun _ => rfl), (fun h => by cases h), gw_726⟩
theorem lk_RX7_80_2 : gLk RX7 80 7 30 (.array .int) 2 := ⟨RX7, TX7, 40, tyX7, gC7, by decide, rfl, (fun h => by cases h), (fun _ => ⟨rfl, rfl⟩), gw_727⟩
theorem lk_RX7_83_2 : gLk RX7 83 7 31 (.array .int) 2 := ⟨RX7, TX7, 40, tyX7, gC7, by decide, rfl, (fun h => by cases h), (fun _ => ⟨rfl, rfl⟩), gw_728⟩
theorem lk_RX7_86_2 : gLk RX7 86 7 32 (.array .int) 2 := ⟨RX7, TX7, 40, tyX7, gC7, by decide, rfl, (fun h => by cases h), (fun _ => ⟨rfl, rfl⟩), gw_729⟩
theorem lk_RX7_89_2 : gLk RX7 89 7 33 (.array .int) 2 := ⟨RX7, TX7, 40, tyX7, gC7, by decide, rfl, (fun h => by cases h), (fun _ => ⟨rfl, rfl⟩), gw_730⟩
theorem lk_RX7_92_2 : gLk RX7 92 7 34 (.array .int) 2 := ⟨RX7, TX7, 40, tyX7, gC7, by decide, rfl, (fun h => by cases h), (fun _ => ⟨rfl, rfl⟩), gw_731⟩
theorem lk_RX7_153_0 : gLk RX7 153 7 16 .long 0 := ⟨RX7, TX7, 40, tyX7, gC7, by decide, rfl, (fun h => by cases h), (fun h => by cases h), gw_713⟩
theorem lk_RX7_149_0 : gLk RX7 149 7 15 .long 0 := ⟨RX7, TX7, 40, tyX7, gC7, by decide, rfl, (fun h => by cases h), (fun h => by cases h), gw_712⟩
theorem lk_RX7_129_1 : gLk RX7 129 7 7 .int 1 := ⟨RX7, TX7, 40, tyX7, gC7, by decide, rfl, (fun _ => rfl), (fun h => by cases h), gw_704⟩
theorem lk_RX7_80_0 : gLk RX7 80 7 30 (.array .int) 0 := ⟨RX7, TX7, 40, tyX7, gC7, by decide, rfl, (fun h => by cases h), (fun h => by cases h), gw_727⟩
theorem lk_RX7_86_0 : gLk RX7 86 7 32 (.array .int) 0 := ⟨RX7, TX7, 40, tyX7, gC7, by decide, rfl, (fun h => by cases h), (fun h => by cases h), gw_729⟩
theorem lk_RX7_202_0 : gLk RX7 202 7 24 .int 0 := ⟨RX7, TX7, 40, tyX7, gC7, by decide, rfl, (fun h => by cases h), (fun h => by cases h), gw_721⟩
theorem lk_RX7_83_0 : gLk RX7 83 7 31 (.array .int) 0 := ⟨RX7, TX7, 40, tyX7, gC7, by decide, rfl, (fun h => by cases h), (fun h => by cases h), gw_728⟩
theorem lk_RX7_38_0 : gLk RX7 38 7 11 (.array .int) 0 := ⟨RX7, TX7, 40, tyX7, gC7, by decide, rfl, (fun h => by cases h), (fun h => by cases h), gw_708⟩
theorem lk_RX7_208_0 : gLk RX7 208 7 36 .int 0 := ⟨RX7, TX7, 40, tyX7, gC7, by decide, rfl, (fun h => by cases h), (fun h => by cases h), gw_733⟩
theorem lk_RX7_211_0 : gLk RX7 211 7 37 .int 0 := ⟨RX7, TX7, 40, tyX7, gC7, by decide, rfl, (fun h => by cases h), (fun h => by cases h), gw_734⟩
theorem lk_RX7_14_0 : gLk RX7 14 7 2 (.array .int) 0 := ⟨RX7, TX7, 40, tyX7, gC7, by decide, rfl, (fun h => by cases h), (fun h => by cases h), gw_699⟩
theorem lk_RX7_199_0 : gLk RX7 199 7 28 .int 0 := ⟨RX7, TX7, 40, tyX7, gC7, by decide, rfl, (fun h => by cases h), (fun h => by cases h), gw_725⟩
theorem lk_RX7_73_0 : gLk RX7 73 7 27 (.array .int) 0 := ⟨RX7, TX7, 40, tyX7, gC7, by decide, rfl, (fun h => by cases h), (fun h => by cases h), gw_724⟩
theorem lk_RX7_70_0 : gLk RX7 70 7 26 (.array .int) 0 := ⟨RX7, TX7, 40, tyX7, gC7, by decide, rfl, (fun h => by cases h), (fun h => by cases h), gw_723⟩
theorem lk_RX7_214_1 : gLk RX7 214 7 39 .int 1 := ⟨RX7, TX7, 40, tyX7, gC7, by decide, rfl, (fun _ => rfl), (fun h => by cases h), gw_736⟩
theorem lk_RX7_217_1 : gLk RX7 217 7 38 .int 1 := ⟨RX7, TX7, 40, tyX7, gC7, by decide, rfl, (fun _ => rfl), (fun h => by cases h), gw_735⟩
theorem lk_RX7_217_0 : gLk RX7 217 7 38 .int 0 := ⟨RX7, TX7, 40, tyX7, gC7, by decide, rfl, (fun h => by cases h), (fun h => by cases h), gw_735⟩
theorem lk_RX7_208_1 : gLk RX7 208 7 36 .int 1 := ⟨RX7, TX7, 40, tyX7, gC7, by decide, rfl, (fun _ => rfl), (fun h => by cases h), gw_733⟩
theorem lk_RX7_35_0 : gLk RX7 35 7 10 (.array .int) 0 := ⟨RX7, TX7, 40, tyX7, gC7, by decide, rfl, (fun h => by cases h), (fun h => by cases h), gw_707⟩
theorem lk_RX7_211_1 : gLk RX7 211 7 37 .int 1 := ⟨RX7, TX7, 40, tyX7, gC7, by decide, rfl, (fun _ => rfl), (fun h => by cases h), gw_734⟩
theorem lk_RX7_32_0 : gLk RX7 32 7 9 (.array .int) 0 := ⟨RX7, TX7, 40, tyX7, gC7, by decide, rfl, (fun h => by cases h), (fun h => by cases h), gw_706⟩
theorem lk_RX7_196_1 : gLk RX7 196 7 23 .int 1 := ⟨RX7, TX7, 40, tyX7, gC7, by decide, rfl, (fun _ => rfl), (fun h => by cases h), gw_720⟩
theorem lk_RX0_22_1 : gLk RX0 22 0 2 (.object "GroupTowers$Group") 1 := ⟨RX0, TX0, 7, tyX0, gC0, by decide, rfl, (fun _ => rfl), (fun h => by cases h), gw_444⟩
theorem lk_RX0_26_1 : gLk RX0 26 0 3 .int 1 := ⟨RX0, TX0, 7, tyX0, gC0, by decide, rfl, (fun _ => rfl), (fun h => by cases h), gw_448⟩
theorem lk_RX0_30_1 : gLk RX0 30 0 4 .int 1 := ⟨RX0, TX0, 7, tyX0, gC0, by decide, rfl, (fun _ => rfl), (fun h => by cases h), gw_451⟩
theorem lm_RX0_33 : gLkN RX0 33 yX6_power "GroupTowers" 2 ∧ Cond.static yX6_power ∈ lw_tbl := ⟨⟨gw_478, gw_1, ⟨by decide +kernel, by decide +kernel⟩, by decide +kernel⟩, gw_479⟩
theorem lk_RX0_37_1 : gLk RX0 37 0 5 .int 1 := ⟨RX0, TX0, 7, tyX0, gC0, by decide, rfl, (fun _ => rfl), (fun h => by cases h), gw_454⟩
theorem lm_RX0_45 : gLkV RX0 45 0 yX0_put 5 := ⟨gw_481, gw_482, gw_483, gw_9, ⟨_, _, rfl⟩, ⟨by decide +kernel, by decide +kernel⟩, by decide +kernel⟩
theorem lk_RX1_27_1 : gLk RX1 27 1 3 .int 1 := ⟨RX1, TX1, 6, tyX1, gC1, by decide, rfl, (fun _ => rfl), (fun h => by cases h), gw_398⟩
theorem lk_RX1_31_1 : gLk RX1 31 1 4 .int 1 := ⟨RX1, TX1, 6, tyX1, gC1, by decide, rfl, (fun _ => rfl), (fun h => by cases h), gw_399⟩
theorem lk_RX1_34_1 : gLk RX1 34 1 5 .int 1 := ⟨RX1, TX1, 6, tyX1, gC1, by decide, rfl, (fun _ => rfl), (fun h => by cases h), gw_400⟩
theorem lm_RX1_37 : gLkS RX1 37 yJ7_fill_53178 2 := ⟨gw_534, gw_195, gw_6, ⟨by decide +kernel, by decide +kernel⟩, by decide +kernel⟩
theorem lk_RX1_9_2 : gLk RX1 9 1 2 (.array .int) 2 := ⟨RX1, TX1, 6, tyX1, gC1, by decide, rfl, (fun h => by cases h), (fun _ => ⟨rfl, rfl⟩), gw_397⟩
theorem lm_RX1_15 : gLkS RX1 15 yJ9_max_7cf53 2 := ⟨gw_392, gw_393, gw_5, ⟨by decide +kernel, by decide +kernel⟩, by decide +kernel⟩
theorem lk_RX1_21_2 : gLk RX1 21 1 0 (.array .int) 2 := ⟨RX1, TX1, 6, tyX1, gC1, by decide, rfl, (fun h => by cases h), (fun _ => ⟨rfl, rfl⟩), gw_395⟩
theorem lk_RX1_24_2 : gLk RX1 24 1 1 (.array .int) 2 := ⟨RX1, TX1, 6, tyX1, gC1, by decide, rfl, (fun h => by cases h), (fun _ => ⟨rfl, rfl⟩), gw_396⟩
theorem lm_RX1_43 : gLkV RX1 43 1 yX1_number 2 := ⟨gw_601, gw_602, gw_603, gw_11, ⟨_, _, rfl⟩, ⟨by decide +kernel, by decide +kernel⟩, by decide +kernel⟩
theorem lm_RX2_45 : gLkV RX2 45 2 yX2_mul 2 := ⟨gw_141, gw_142, gw_143, gw_4, ⟨_, _, rfl⟩, ⟨by decide +kernel, by decide +kernel⟩, by decide +kernel⟩
theorem lk_RX2_30_1 : gLk RX2 30 2 7 .int 1 := ⟨RX2, TX2, 8, tyX2, gC2', by decide, rfl, (fun _ => rfl), (fun h => by cases h), gw_94⟩
theorem lm_RX2_38 : gLkV RX2 38 2 yX2_set 3 := ⟨gw_125, gw_127, gSel 1 (by decide +kernel), gw_4, ⟨_, _, rfl⟩, ⟨by decide +kernel, by decide +kernel⟩, by decide +kernel⟩
theorem lk_RX2_21_0 : gLk RX2 21 2 3 (.array .int) 0 := ⟨RX2, TX2, 8, tyX2, gC2', by decide, rfl, (fun h => by cases h), (fun h => by cases h), gw_84⟩
theorem lm_RX2_99 : gLkS RX2 99 yJ9_min_7cf53 2 := ⟨gw_255, gw_256, gw_5, ⟨by decide +kernel, by decide +kernel⟩, by decide +kernel⟩
theorem lk_RX2_15_0 : gLk RX2 15 2 1 (.array .int) 0 := ⟨RX2, TX2, 8, tyX2, gC2', by decide, rfl, (fun h => by cases h), (fun h => by cases h), gw_82⟩
theorem lk_RX3_21_0 : gLk RX3 21 3 3 (.array .int) 0 := ⟨RX3, TX3, 8, tyX3, gC3, by decide, rfl, (fun h => by cases h), (fun h => by cases h), gw_322⟩
theorem lk_RX3_24_0 : gLk RX3 24 3 4 (.array .int) 0 := ⟨RX3, TX3, 8, tyX3, gC3, by decide, rfl, (fun h => by cases h), (fun h => by cases h), gw_323⟩
theorem lk_RX3_15_0 : gLk RX3 15 3 1 (.array .int) 0 := ⟨RX3, TX3, 8, tyX3, gC3, by decide, rfl, (fun h => by cases h), (fun h => by cases h), gw_320⟩
theorem lk_RX3_27_0 : gLk RX3 27 3 5 (.array .int) 0 := ⟨RX3, TX3, 8, tyX3, gC3, by decide, rfl, (fun h => by cases h), (fun h => by cases h), gw_324⟩
theorem lk_RX3_18_0 : gLk RX3 18 3 2 (.array .int) 0 := ⟨RX3, TX3, 8, tyX3, gC3, by decide, rfl, (fun h => by cases h), (fun h => by cases h), gw_321⟩
theorem lm_RX3_77 : gLkV RX3 77 2 yX2_mul 2 := ⟨gw_358, gw_142, gw_143, gw_4, ⟨_, _, rfl⟩, ⟨by decide +kernel, by decide +kernel⟩, by decide +kernel⟩
theorem lk_RX3_9_0 : gLk RX3 9 3 0 (.array .int) 0 := ⟨RX3, TX3, 8, tyX3, gC3, by decide, rfl, (fun h => by cases h), (fun h => by cases h), gw_319⟩
theorem lk_RX3_47_0 : gLk RX3 47 3 7 .int 0 := ⟨RX3, TX3, 8, tyX3, gC3, by decide, rfl, (fun h => by cases h), (fun h => by cases h), gw_326⟩
theorem lk_RX3_57_0 : gLk RX3 57 2 5 (.array .int) 0 := ⟨RX2, TX2, 8, tyX2, gC2', by decide, rfl, (fun h => by cases h), (fun h => by cases h), gw_90⟩
theorem lk_RX3_30_0 : gLk RX3 30 3 6 (.array .int) 0 := ⟨RX3, TX3, 8, tyX3, gC3, by decide, rfl, (fun h => by cases h), (fun h => by cases h), gw_325⟩
theorem lm_RX3_64 : gLkS RX3 64 yJ7_fill_53178 2 := ⟨gw_352, gw_195, gw_6, ⟨by decide +kernel, by decide +kernel⟩, by decide +kernel⟩
theorem lm_RX3_60 : gLkV RX3 60 3 yX3_nextOfPeriod 3 := ⟨gw_359, gw_361, gSel 13 (by decide +kernel), gw_8, ⟨_, _, rfl⟩, ⟨by decide +kernel, by decide +kernel⟩, by decide +kernel⟩
theorem lk_RX4_19_1 : gLk RX4 19 4 2 .int 1 := ⟨RX4, TX4, 3, tyX4, gC4, by decide, rfl, (fun _ => rfl), (fun h => by cases h), gw_36⟩
theorem lm_RX4_22 : gLkS RX4 22 yJ7_fill_53178 2 := ⟨gw_194, gw_195, gw_6, ⟨by decide +kernel, by decide +kernel⟩, by decide +kernel⟩
theorem lk_RX5_9_0 : gLk RX5 9 5 0 (.array .int) 0 := ⟨RX5, TX5, 7, tyX5, gC5, by decide, rfl, (fun h => by cases h), (fun h => by cases h), gw_416⟩
theorem lm_RX5_77 : gLkS RX5 77 yJ7_fill_53178 2 := ⟨gw_569, gw_195, gw_6, ⟨by decide +kernel, by decide +kernel⟩, by decide +kernel⟩
theorem lk_RX5_52_0 : gLk RX5 52 0 2 (.object "GroupTowers$Group") 0 := ⟨RX0, TX0, 7, tyX0, gC0, by decide, rfl, (fun h => by cases h), (fun h => by cases h), gw_445⟩
theorem lk_RX5_56_0 : gLk RX5 56 2 7 .int 0 := ⟨RX2, TX2, 8, tyX2, gC2', by decide, rfl, (fun h => by cases h), (fun h => by cases h), gw_96⟩
theorem lm_RX5_83 : gLkV RX5 83 0 yX0_place 3 := ⟨gw_570, gw_571, gw_572, gw_9, ⟨_, _, rfl⟩, ⟨by decide +kernel, by decide +kernel⟩, by decide +kernel⟩
theorem lm_RX5_86 : gLkV RX5 86 2 yX2_mul 2 := ⟨gw_574, gw_142, gw_143, gw_4, ⟨_, _, rfl⟩, ⟨by decide +kernel, by decide +kernel⟩, by decide +kernel⟩
theorem lk_RX5_40_0 : gLk RX5 40 0 4 .int 0 := ⟨RX0, TX0, 7, tyX0, gC0, by decide, rfl, (fun h => by cases h), (fun h => by cases h), gw_452⟩
theorem lm_RX5_61 : gLkV RX5 61 0 yX0_entry 3 := ⟨gw_535, gw_507, gw_508, gw_9, ⟨_, _, rfl⟩, ⟨by decide +kernel, by decide +kernel⟩, by decide +kernel⟩
theorem lm_RX5_69 : gLkV RX5 69 0 yX0_places 0 := ⟨gw_561, gw_562, gw_563, gw_9, ⟨_, _, rfl⟩, ⟨by decide +kernel, by decide +kernel⟩, by decide +kernel⟩
theorem lm_RX6_152 : gLkV RX6 152 6 yX6_actionAt 1 := ⟨gw_489, gw_491, gSel 16 (by decide +kernel), gw_1, ⟨_, _, rfl⟩, ⟨by decide +kernel, by decide +kernel⟩, by decide +kernel⟩
theorem lm_RX6_97 : gLkV RX6 97 2 yX2_has 1 := ⟨gw_241, gw_218, gw_219, gw_4, ⟨_, _, rfl⟩, ⟨by decide +kernel, by decide +kernel⟩, by decide +kernel⟩
theorem lm_RX6_156 : gLkV RX6 156 0 yX0_isNumber 1 := ⟨gw_493, gw_494, gw_495, gw_9, ⟨_, _, rfl⟩, ⟨by decide +kernel, by decide +kernel⟩, by decide +kernel⟩
theorem lk_RX6_159_0 : gLk RX6 159 0 4 .int 0 := ⟨RX0, TX0, 7, tyX0, gC0, by decide, rfl, (fun h => by cases h), (fun h => by cases h), gw_453⟩
theorem lm_RX6_162 : gLkV RX6 162 0 yX0_put 5 := ⟨gw_497, gw_482, gw_483, gw_9, ⟨_, _, rfl⟩, ⟨by decide +kernel, by decide +kernel⟩, by decide +kernel⟩
theorem na_RX6_9 : gNwA RX6 9 2 := ⟨gw_20, gw_21⟩
theorem lk_RX6_11_2 : gLk RX6 11 6 0 (.array (.object "GroupTowers$Group")) 2 := ⟨RX6, TX6, 7, tyX6, gC6, by decide, rfl, (fun h => by cases h), (fun _ => ⟨rfl, rfl⟩), gw_46⟩
theorem na_RX6_15 : gNwA RX6 15 0 := ⟨gw_22, gw_23⟩
theorem lk_RX6_17_2 : gLk RX6 17 6 1 (.array (.object "GroupTowers$Action")) 2 := ⟨RX6, TX6, 7, tyX6, gC6, by decide, rfl, (fun h => by cases h), (fun _ => ⟨rfl, rfl⟩), gw_47⟩
theorem na_RX6_21 : gNwA RX6 21 4 := ⟨gw_24, gw_25⟩
theorem lk_RX6_23_2 : gLk RX6 23 6 2 (.array (.object "GroupTowers$Sheet")) 2 := ⟨RX6, TX6, 7, tyX6, gC6, by decide, rfl, (fun h => by cases h), (fun _ => ⟨rfl, rfl⟩), gw_48⟩
theorem nw_RX6_21 : gNw RX6 21 4 3 [.null, .int 0, .int 0] := ⟨RX4, TX4, tyX4, gC4, gw_24, gw_26, gw_2, fun j hj => match j, hj with
  | 0, _ => rfl
  | 1, _ => rfl
  | 2, _ => rfl
  | j + 3, hj => absurd hj (by omega)⟩
theorem lm_RX6_27 : gLkN RX6 27 yX4_init "GroupTowers" 0 ∧ yX4_init.name = "<init>" ∧ Cond.instanceMethod yX4_init ∈ lw_tbl := ⟨⟨gw_27, gw_2, ⟨by decide +kernel, by decide +kernel⟩, by decide +kernel⟩, rfl, gw_28⟩
theorem lm_RX6_58 : gLkV RX6 58 6 yX6_sheetAt 1 := ⟨gw_183, gw_185, gSel 6 (by decide +kernel), gw_1, ⟨_, _, rfl⟩, ⟨by decide +kernel, by decide +kernel⟩, by decide +kernel⟩
theorem lm_RX6_76 : gLkV RX6 76 4 yX4_put 2 := ⟨gw_201, gw_202, gw_203, gw_2, ⟨_, _, rfl⟩, ⟨by decide +kernel, by decide +kernel⟩, by decide +kernel⟩
theorem lm_RX6_248 : gLkS RX6 248 yJ9_floorMod_7cf53 2 := ⟨gw_122, gw_123, gw_5, ⟨by decide +kernel, by decide +kernel⟩, by decide +kernel⟩
theorem lm_RX6_46 : gLkV RX6 46 6 yX6_groupAt 1 := ⟨gw_171, gw_173, gSel 5 (by decide +kernel), gw_1, ⟨_, _, rfl⟩, ⟨by decide +kernel, by decide +kernel⟩, by decide +kernel⟩
theorem lk_RX6_50_0 : gLk RX6 50 2 7 .int 0 := ⟨RX2, TX2, 8, tyX2, gC2', by decide, rfl, (fun h => by cases h), (fun h => by cases h), gw_97⟩
theorem lm_RX6_100 : gLkV RX6 100 2 yX2_mul 2 := ⟨gw_242, gw_142, gw_143, gw_4, ⟨_, _, rfl⟩, ⟨by decide +kernel, by decide +kernel⟩, by decide +kernel⟩
theorem nw_RX6_9 : gNw RX6 9 2 8 [.null, .null, .null, .null, .null, .null, .int 0, .int 0] := ⟨RX2, TX2, tyX2, gC2', gw_20, gw_76, gw_4, fun j hj => match j, hj with
  | 0, _ => rfl
  | 1, _ => rfl
  | 2, _ => rfl
  | 3, _ => rfl
  | 4, _ => rfl
  | 5, _ => rfl
  | 6, _ => rfl
  | 7, _ => rfl
  | j + 8, hj => absurd hj (by omega)⟩
theorem lm_RX6_223 : gLkN RX6 223 yX2_init "GroupTowers" 0 ∧ yX2_init.name = "<init>" ∧ Cond.instanceMethod yX2_init ∈ lw_tbl := ⟨⟨gw_77, gw_4, ⟨by decide +kernel, by decide +kernel⟩, by decide +kernel⟩, rfl, gw_78⟩
theorem lm_RX7_252 : gLkV RX7 252 7 yX7_lessBound 0 := ⟨gw_1030, gw_1032, gSel 56 (by decide +kernel), gw_3, ⟨_, _, rfl⟩, ⟨by decide +kernel, by decide +kernel⟩, by decide +kernel⟩
theorem lk_RX7_255_0 : gLk RX7 255 7 35 .int 0 := ⟨RX7, TX7, 40, tyX7, gC7, by decide, rfl, (fun h => by cases h), (fun h => by cases h), gw_732⟩
theorem lk_RX7_89_0 : gLk RX7 89 7 33 (.array .int) 0 := ⟨RX7, TX7, 40, tyX7, gC7, by decide, rfl, (fun h => by cases h), (fun h => by cases h), gw_730⟩
theorem lm_RX7_100 : gLkS RX7 100 yX7_in 3 := ⟨gw_824, gw_825, gw_3, ⟨by decide +kernel, by decide +kernel⟩, by decide +kernel⟩
theorem lm_RX7_104 : gLkV RX7 104 7 yX7_set 3 := ⟨gw_827, gw_829, gSel 24 (by decide +kernel), gw_3, ⟨_, _, rfl⟩, ⟨by decide +kernel, by decide +kernel⟩, by decide +kernel⟩
theorem lm_RX7_108 : gLkV RX7 108 7 yX7_added 1 := ⟨gw_831, gw_833, gSel 25 (by decide +kernel), gw_3, ⟨_, _, rfl⟩, ⟨by decide +kernel, by decide +kernel⟩, by decide +kernel⟩
theorem lm_RX7_220 : gLkV RX7 220 7 yX7_clearLine 0 := ⟨gw_994, gw_996, gSel 47 (by decide +kernel), gw_3, ⟨_, _, rfl⟩, ⟨by decide +kernel, by decide +kernel⟩, by decide +kernel⟩
theorem lm_RX7_233 : gLkV RX7 233 7 yX7_placeOf 3 := ⟨gw_1022, gw_1024, gSel 54 (by decide +kernel), gw_3, ⟨_, _, rfl⟩, ⟨by decide +kernel, by decide +kernel⟩, by decide +kernel⟩
theorem lk_RX7_214_0 : gLk RX7 214 7 39 .int 0 := ⟨RX7, TX7, 40, tyX7, gC7, by decide, rfl, (fun h => by cases h), (fun h => by cases h), gw_736⟩
theorem lm_RX7_193 : gLkV RX7 193 7 yX7_matrix 4 := ⟨gw_972, gw_974, gSel 43 (by decide +kernel), gw_3, ⟨_, _, rfl⟩, ⟨by decide +kernel, by decide +kernel⟩, by decide +kernel⟩
theorem lm_RX7_223 : gLkV RX7 223 7 yX7_addTo 2 := ⟨gw_998, gw_1000, gSel 48 (by decide +kernel), gw_3, ⟨_, _, rfl⟩, ⟨by decide +kernel, by decide +kernel⟩, by decide +kernel⟩
theorem lm_RX7_118 : gLkV RX7 118 7 yX7_prod 3 := ⟨gw_852, gw_854, gSel 27 (by decide +kernel), gw_3, ⟨_, _, rfl⟩, ⟨by decide +kernel, by decide +kernel⟩, by decide +kernel⟩
theorem lk_RX7_64_0 : gLk RX7 64 7 22 (.array .int) 0 := ⟨RX7, TX7, 40, tyX7, gC7, by decide, rfl, (fun h => by cases h), (fun h => by cases h), gw_719⟩
theorem lk_RX7_44_0 : gLk RX7 44 7 13 (.array .int) 0 := ⟨RX7, TX7, 40, tyX7, gC7, by decide, rfl, (fun h => by cases h), (fun h => by cases h), gw_710⟩
theorem lk_RX7_156_1 : gLk RX7 156 7 14 .int 1 := ⟨RX7, TX7, 40, tyX7, gC7, by decide, rfl, (fun _ => rfl), (fun h => by cases h), gw_711⟩
theorem lk_RX7_156_0 : gLk RX7 156 7 14 .int 0 := ⟨RX7, TX7, 40, tyX7, gC7, by decide, rfl, (fun h => by cases h), (fun h => by cases h), gw_711⟩
theorem lk_RX7_58_0 : gLk RX7 58 7 20 (.array .int) 0 := ⟨RX7, TX7, 40, tyX7, gC7, by decide, rfl, (fun h => by cases h), (fun h => by cases h), gw_717⟩
theorem lk_RX7_61_0 : gLk RX7 61 7 21 (.array .int) 0 := ⟨RX7, TX7, 40, tyX7, gC7, by decide, rfl, (fun h => by cases h), (fun h => by cases h), gw_718⟩
theorem lk_RX7_26_0 : gLk RX7 26 7 6 (.array .int) 0 := ⟨RX7, TX7, 40, tyX7, gC7, by decide, rfl, (fun h => by cases h), (fun h => by cases h), gw_703⟩
theorem lk_RX7_149_1 : gLk RX7 149 7 15 .long 1 := ⟨RX7, TX7, 40, tyX7, gC7, by decide, rfl, (fun _ => rfl), (fun h => by cases h), gw_712⟩
theorem lk_RX7_153_1 : gLk RX7 153 7 16 .long 1 := ⟨RX7, TX7, 40, tyX7, gC7, by decide, rfl, (fun _ => rfl), (fun h => by cases h), gw_713⟩
theorem lk_RX7_41_0 : gLk RX7 41 7 12 (.array .int) 0 := ⟨RX7, TX7, 40, tyX7, gC7, by decide, rfl, (fun h => by cases h), (fun h => by cases h), gw_709⟩
theorem lm_RX7_159 : gLkV RX7 159 7 yX7_isMade 1 := ⟨gw_918, gw_920, gSel 35 (by decide +kernel), gw_3, ⟨_, _, rfl⟩, ⟨by decide +kernel, by decide +kernel⟩, by decide +kernel⟩
theorem lm_RX7_205 : gLkV RX7 205 7 yX7_reduceLine 0 := ⟨gw_1006, gw_1008, gSel 50 (by decide +kernel), gw_3, ⟨_, _, rfl⟩, ⟨by decide +kernel, by decide +kernel⟩, by decide +kernel⟩
theorem lk_RX7_199_1 : gLk RX7 199 7 28 .int 1 := ⟨RX7, TX7, 40, tyX7, gC7, by decide, rfl, (fun _ => rfl), (fun h => by cases h), gw_725⟩
theorem lm_RX7_126 : gLkV RX7 126 7 yX7_faultOf 3 := ⟨gw_870, gw_872, gSel 28 (by decide +kernel), gw_3, ⟨_, _, rfl⟩, ⟨by decide +kernel, by decide +kernel⟩, by decide +kernel⟩
theorem lm_RX0_61 : gLkV RX0 61 2 yX2_mul 2 := ⟨gw_514, gw_142, gw_143, gw_4, ⟨_, _, rfl⟩, ⟨by decide +kernel, by decide +kernel⟩, by decide +kernel⟩
theorem lm_RX0_53 : gLkV RX0 53 0 yX0_entry 3 := ⟨gw_506, gw_507, gw_508, gw_9, ⟨_, _, rfl⟩, ⟨by decide +kernel, by decide +kernel⟩, by decide +kernel⟩
theorem lm_RX0_64 : gLkN RX0 64 yX6_mod "GroupTowers" 2 ∧ Cond.static yX6_mod ∈ lw_tbl := ⟨⟨gw_515, gw_1, ⟨by decide +kernel, by decide +kernel⟩, by decide +kernel⟩, gw_120⟩
theorem lm_RX0_71 : gLkN RX0 71 yX6_quotient "GroupTowers" 2 ∧ Cond.static yX6_quotient ∈ lw_tbl := ⟨⟨gw_643, gw_1, ⟨by decide +kernel, by decide +kernel⟩, by decide +kernel⟩, gw_624⟩
theorem lk_RX1_31_0 : gLk RX1 31 1 4 .int 0 := ⟨RX1, TX1, 6, tyX1, gC1, by decide, rfl, (fun h => by cases h), (fun h => by cases h), gw_399⟩
theorem lm_RX1_50 : gLkN RX1 50 yX6_mod "GroupTowers" 2 ∧ Cond.static yX6_mod ∈ lw_tbl := ⟨⟨gw_540, gw_1, ⟨by decide +kernel, by decide +kernel⟩, by decide +kernel⟩, gw_120⟩
theorem lm_RX1_46 : gLkV RX1 46 1 yX1_leadsAt 1 := ⟨gw_545, gw_546, gw_547, gw_11, ⟨_, _, rfl⟩, ⟨by decide +kernel, by decide +kernel⟩, by decide +kernel⟩
theorem lk_RX2_24_0 : gLk RX2 24 2 4 (.array .int) 0 := ⟨RX2, TX2, 8, tyX2, gC2', by decide, rfl, (fun h => by cases h), (fun h => by cases h), gw_86⟩
theorem lm_RX2_34 : gLkN RX2 34 yX6_mod "GroupTowers" 2 ∧ Cond.static yX6_mod ∈ lw_tbl := ⟨⟨gw_119, gw_1, ⟨by decide +kernel, by decide +kernel⟩, by decide +kernel⟩, gw_120⟩
theorem lm_RX2_104 : gLkV RX2 104 2 yX2_countCommuting 1 := ⟨gw_266, gw_248, gw_249, gw_4, ⟨_, _, rfl⟩, ⟨by decide +kernel, by decide +kernel⟩, by decide +kernel⟩
theorem lk_RX2_18_0 : gLk RX2 18 2 2 (.array .int) 0 := ⟨RX2, TX2, 8, tyX2, gC2', by decide, rfl, (fun h => by cases h), (fun h => by cases h), gw_83⟩
theorem lm_RX2_110 : gLkV RX2 110 2 yX2_span 2 := ⟨gw_271, gw_273, gSel 9 (by decide +kernel), gw_4, ⟨_, _, rfl⟩, ⟨by decide +kernel, by decide +kernel⟩, by decide +kernel⟩
theorem lm_RX2_114 : gLkS RX2 114 yJ13_bitCount_95d88 1 := ⟨gw_275, gw_276, gw_7, ⟨by decide +kernel, by decide +kernel⟩, by decide +kernel⟩
theorem lm_RX2_107 : gLkV RX2 107 2 yX2_leastTurned 1 := ⟨gw_293, gw_252, gw_253, gw_4, ⟨_, _, rfl⟩, ⟨by decide +kernel, by decide +kernel⟩, by decide +kernel⟩
theorem lk_RX2_27_0 : gLk RX2 27 2 5 (.array .int) 0 := ⟨RX2, TX2, 8, tyX2, gC2', by decide, rfl, (fun h => by cases h), (fun h => by cases h), gw_89⟩
theorem lm_RX2_123 : gLkS RX2 123 yX2_extendMakers 4 := ⟨gw_298, gw_299, gw_4, ⟨by decide +kernel, by decide +kernel⟩, by decide +kernel⟩
theorem lm_RX2_89 : gLkV RX2 89 2 yX2_findInverse 1 := ⟨gw_137, gw_139, gSel 3 (by decide +kernel), gw_4, ⟨_, _, rfl⟩, ⟨by decide +kernel, by decide +kernel⟩, by decide +kernel⟩
theorem lk_RX2_93_1 : gLk RX2 93 2 6 .int 1 := ⟨RX2, TX2, 8, tyX2, gC2', by decide, rfl, (fun _ => rfl), (fun h => by cases h), gw_92⟩
theorem lm_RX2_96 : gLkV RX2 96 2 yX2_findPeriod 1 := ⟨gw_145, gw_147, gSel 4 (by decide +kernel), gw_4, ⟨_, _, rfl⟩, ⟨by decide +kernel, by decide +kernel⟩, by decide +kernel⟩
theorem lk_RX5_9_2 : gLk RX5 9 5 0 (.array .int) 2 := ⟨RX5, TX5, 7, tyX5, gC5, by decide, rfl, (fun h => by cases h), (fun _ => ⟨rfl, rfl⟩), gw_416⟩
theorem nw_RX5_15 : gNw RX5 15 1 6 [.null, .null, .null, .int 0, .int 0, .int 0] := ⟨RX1, TX1, tyX1, gC1, gw_386, gw_387, gw_11, fun j hj => match j, hj with
  | 0, _ => rfl
  | 1, _ => rfl
  | 2, _ => rfl
  | 3, _ => rfl
  | 4, _ => rfl
  | 5, _ => rfl
  | j + 6, hj => absurd hj (by omega)⟩
theorem lm_RX5_17 : gLkI RX5 17 yX1_init 1 := ⟨gw_388, gw_389, gw_11, rfl, ⟨by decide +kernel, by decide +kernel⟩, by decide +kernel⟩
theorem lk_RX5_20_2 : gLk RX5 20 5 1 (.object "GroupTowers$Echelon") 2 := ⟨RX5, TX5, 7, tyX5, gC5, by decide, rfl, (fun h => by cases h), (fun _ => ⟨rfl, rfl⟩), gw_417⟩
theorem lk_RX5_24_2 : gLk RX5 24 5 2 (.object "GroupTowers$Echelon") 2 := ⟨RX5, TX5, 7, tyX5, gC5, by decide, rfl, (fun h => by cases h), (fun _ => ⟨rfl, rfl⟩), gw_418⟩
theorem lk_RX5_45_0 : gLk RX5 45 0 3 .int 0 := ⟨RX0, TX0, 7, tyX0, gC0, by decide, rfl, (fun h => by cases h), (fun h => by cases h), gw_449⟩
theorem lm_RX5_121 : gLkN RX5 121 yX6_mod "GroupTowers" 2 ∧ Cond.static yX6_mod ∈ lw_tbl := ⟨⟨gw_605, gw_1, ⟨by decide +kernel, by decide +kernel⟩, by decide +kernel⟩, gw_120⟩
theorem lm_RX5_124 : gLkV RX5 124 1 yX1_number 2 := ⟨gw_622, gw_602, gw_603, gw_11, ⟨_, _, rfl⟩, ⟨by decide +kernel, by decide +kernel⟩, by decide +kernel⟩
theorem lm_RX5_127 : gLkN RX5 127 yX6_quotient "GroupTowers" 2 ∧ Cond.static yX6_quotient ∈ lw_tbl := ⟨⟨gw_623, gw_1, ⟨by decide +kernel, by decide +kernel⟩, by decide +kernel⟩, gw_624⟩
theorem lk_RX5_145_0 : gLk RX5 145 4 0 (.array .int) 0 := ⟨RX4, TX4, 3, tyX4, gC4, by decide, rfl, (fun h => by cases h), (fun h => by cases h), gw_33⟩
theorem lm_RX5_104 : gLkV RX5 104 1 yX1_leadsAt 1 := ⟨gw_592, gw_546, gw_547, gw_11, ⟨_, _, rfl⟩, ⟨by decide +kernel, by decide +kernel⟩, by decide +kernel⟩
theorem lm_RX5_118 : gLkV RX5 118 1 yX1_leadingNumber 2 := ⟨gw_597, gw_598, gw_599, gw_11, ⟨_, _, rfl⟩, ⟨by decide +kernel, by decide +kernel⟩, by decide +kernel⟩
theorem lm_RX6_253 : gLkS RX6 253 yX6_quotient 2 := ⟨gw_651, gw_624, gw_1, ⟨by decide +kernel, by decide +kernel⟩, by decide +kernel⟩
theorem lm_RX6_256 : gLkS RX6 256 yX6_mod 2 := ⟨gw_652, gw_120, gw_1, ⟨by decide +kernel, by decide +kernel⟩, by decide +kernel⟩
theorem lk_RX6_103_0 : gLk RX6 103 2 3 (.array .int) 0 := ⟨RX2, TX2, 8, tyX2, gC2', by decide, rfl, (fun h => by cases h), (fun h => by cases h), gw_85⟩
theorem lk_RX6_107_0 : gLk RX6 107 2 4 (.array .int) 0 := ⟨RX2, TX2, 8, tyX2, gC2', by decide, rfl, (fun h => by cases h), (fun h => by cases h), gw_88⟩
theorem lm_RX6_110 : gLkV RX6 110 2 yX2_countCommuting 1 := ⟨gw_247, gw_248, gw_249, gw_4, ⟨_, _, rfl⟩, ⟨by decide +kernel, by decide +kernel⟩, by decide +kernel⟩
theorem lm_RX6_114 : gLkV RX6 114 2 yX2_leastTurned 1 := ⟨gw_251, gw_252, gw_253, gw_4, ⟨_, _, rfl⟩, ⟨by decide +kernel, by decide +kernel⟩, by decide +kernel⟩
theorem lm_RX6_62 : gLkS RX6 62 yX6_isLane 1 := ⟨gw_187, gw_188, gw_1, ⟨by decide +kernel, by decide +kernel⟩, by decide +kernel⟩
theorem lm_RX6_66 : gLkV RX6 66 4 yX4_renew 2 := ⟨gw_190, gw_191, gw_192, gw_2, ⟨_, _, rfl⟩, ⟨by decide +kernel, by decide +kernel⟩, by decide +kernel⟩
theorem lm_RX7_226 : gLkV RX7 226 7 yX7_settles 0 := ⟨gw_1002, gw_1004, gSel 49 (by decide +kernel), gw_3, ⟨_, _, rfl⟩, ⟨by decide +kernel, by decide +kernel⟩, by decide +kernel⟩
theorem lk_RX7_202_1 : gLk RX7 202 7 24 .int 1 := ⟨RX7, TX7, 40, tyX7, gC7, by decide, rfl, (fun _ => rfl), (fun h => by cases h), gw_721⟩
theorem lm_RX7_275 : gLkV RX7 275 7 yX7_twisted 3 := ⟨gw_1049, gw_1051, gSel 59 (by decide +kernel), gw_3, ⟨_, _, rfl⟩, ⟨by decide +kernel, by decide +kernel⟩, by decide +kernel⟩
theorem lm_RX7_114 : gLkV RX7 114 7 yX7_isGroup 1 := ⟨gw_848, gw_850, gSel 26 (by decide +kernel), gw_3, ⟨_, _, rfl⟩, ⟨by decide +kernel, by decide +kernel⟩, by decide +kernel⟩
theorem lk_RX7_47_0 : gLk RX7 47 7 17 (.array .long) 0 := ⟨RX7, TX7, 40, tyX7, gC7, by decide, rfl, (fun h => by cases h), (fun h => by cases h), gw_714⟩
theorem lk_RX7_51_0 : gLk RX7 51 7 18 (.array .long) 0 := ⟨RX7, TX7, 40, tyX7, gC7, by decide, rfl, (fun h => by cases h), (fun h => by cases h), gw_715⟩
theorem lk_RX7_55_0 : gLk RX7 55 7 19 (.array .int) 0 := ⟨RX7, TX7, 40, tyX7, gC7, by decide, rfl, (fun h => by cases h), (fun h => by cases h), gw_716⟩
theorem lm_RX7_162 : gLkV RX7 162 7 yX7_makes 2 := ⟨gw_914, gw_916, gSel 34 (by decide +kernel), gw_3, ⟨_, _, rfl⟩, ⟨by decide +kernel, by decide +kernel⟩, by decide +kernel⟩
theorem lm_RX7_136 : gLkV RX7 136 7 yX7_inverse 2 := ⟨gw_894, gw_896, gSel 30 (by decide +kernel), gw_3, ⟨_, _, rfl⟩, ⟨by decide +kernel, by decide +kernel⟩, by decide +kernel⟩
theorem lm_RX7_140 : gLkV RX7 140 7 yX7_orderOf 2 := ⟨gw_898, gw_900, gSel 31 (by decide +kernel), gw_3, ⟨_, _, rfl⟩, ⟨by decide +kernel, by decide +kernel⟩, by decide +kernel⟩
theorem lm_RX7_229 : gLkV RX7 229 7 yX7_equation 4 := ⟨gw_1018, gw_1020, gSel 53 (by decide +kernel), gw_3, ⟨_, _, rfl⟩, ⟨by decide +kernel, by decide +kernel⟩, by decide +kernel⟩
theorem lk_RX7_92_0 : gLk RX7 92 7 34 (.array .int) 0 := ⟨RX7, TX7, 40, tyX7, gC7, by decide, rfl, (fun h => by cases h), (fun h => by cases h), gw_731⟩
theorem lm_RX7_190 : gLkV RX7 190 7 yX7_isModule 1 := ⟨gw_964, gw_966, gSel 42 (by decide +kernel), gw_3, ⟨_, _, rfl⟩, ⟨by decide +kernel, by decide +kernel⟩, by decide +kernel⟩
theorem lm_RX0_57 : gLkV RX0 57 0 yX0_goesWithProduct 2 := ⟨gw_510, gw_512, gSel 17 (by decide +kernel), gw_9, ⟨_, _, rfl⟩, ⟨by decide +kernel, by decide +kernel⟩, by decide +kernel⟩
theorem lk_RX0_9_2 : gLk RX0 9 0 0 (.array .int) 2 := ⟨RX0, TX0, 7, tyX0, gC0, by decide, rfl, (fun h => by cases h), (fun _ => ⟨rfl, rfl⟩), gw_440⟩
theorem nw_RX0_15 : gNw RX0 15 5 7 [.null, .null, .null, .int 0, .int 0, .int 0, .int 0] := ⟨RX5, TX5, tyX5, gC5, gw_380, gw_381, gw_10, fun j hj => match j, hj with
  | 0, _ => rfl
  | 1, _ => rfl
  | 2, _ => rfl
  | 3, _ => rfl
  | 4, _ => rfl
  | 5, _ => rfl
  | 6, _ => rfl
  | j + 7, hj => absurd hj (by omega)⟩
theorem lm_RX0_17 : gLkN RX0 17 yX5_init "GroupTowers" 0 ∧ yX5_init.name = "<init>" ∧ Cond.instanceMethod yX5_init ∈ lw_tbl := ⟨⟨gw_382, gw_10, ⟨by decide +kernel, by decide +kernel⟩, by decide +kernel⟩, rfl, gw_383⟩
theorem lk_RX0_18_2 : gLk RX0 18 0 1 (.object "GroupTowers$Twists") 2 := ⟨RX0, TX0, 7, tyX0, gC0, by decide, rfl, (fun h => by cases h), (fun _ => ⟨rfl, rfl⟩), gw_441⟩
theorem lm_RX0_67 : gLkN RX0 67 yX6_addDigits "GroupTowers" 4 ∧ Cond.static yX6_addDigits ∈ lw_tbl := ⟨⟨gw_648, gw_1, ⟨by decide +kernel, by decide +kernel⟩, by decide +kernel⟩, gw_649⟩
theorem lm_RX1_53 : gLkV RX1 53 1 yX1_reduce 1 := ⟨gw_541, gw_542, gw_543, gw_11, ⟨_, _, rfl⟩, ⟨by decide +kernel, by decide +kernel⟩, by decide +kernel⟩
theorem lm_RX1_57 : gLkV RX1 57 1 yX1_firstNotZero 1 := ⟨gw_549, gw_550, gw_551, gw_11, ⟨_, _, rfl⟩, ⟨by decide +kernel, by decide +kernel⟩, by decide +kernel⟩
theorem lk_RX1_34_0 : gLk RX1 34 1 5 .int 0 := ⟨RX1, TX1, 6, tyX1, gC1, by decide, rfl, (fun h => by cases h), (fun h => by cases h), gw_400⟩
theorem lm_RX1_61 : gLkV RX1 61 1 yX1_inverseOf 1 := ⟨gw_553, gw_555, gSel 19 (by decide +kernel), gw_11, ⟨_, _, rfl⟩, ⟨by decide +kernel, by decide +kernel⟩, by decide +kernel⟩
theorem lm_RX2_120 : gLkV RX2 120 2 yX2_bringsAllToZero 1 := ⟨gw_285, gw_287, gSel 10 (by decide +kernel), gw_4, ⟨_, _, rfl⟩, ⟨by decide +kernel, by decide +kernel⟩, by decide +kernel⟩
theorem lk_RX2_73_0 : gLk RX2 73 4 0 (.array .int) 0 := ⟨RX4, TX4, 3, tyX4, gC4, by decide, rfl, (fun h => by cases h), (fun h => by cases h), gw_32⟩
theorem lm_RX2_78 : gLkV RX2 78 2 yX2_has 1 := ⟨gw_217, gw_218, gw_219, gw_4, ⟨_, _, rfl⟩, ⟨by decide +kernel, by decide +kernel⟩, by decide +kernel⟩
theorem lm_RX2_82 : gLkV RX2 82 2 yX2_firstUnlike 0 := ⟨gw_221, gw_223, gSel 7 (by decide +kernel), gw_4, ⟨_, _, rfl⟩, ⟨by decide +kernel, by decide +kernel⟩, by decide +kernel⟩
theorem lm_RX2_86 : gLkV RX2 86 2 yX2_firstWithoutInverse 0 := ⟨gw_225, gw_227, gSel 8 (by decide +kernel), gw_4, ⟨_, _, rfl⟩, ⟨by decide +kernel, by decide +kernel⟩, by decide +kernel⟩
theorem lm_RX5_134 : gLkV RX5 134 5 yX5_readPair 2 := ⟨gw_661, gw_663, gSel 23 (by decide +kernel), gw_10, ⟨_, _, rfl⟩, ⟨by decide +kernel, by decide +kernel⟩, by decide +kernel⟩
theorem lm_RX5_138 : gLkV RX5 138 1 yX1_reduce 1 := ⟨gw_665, gw_542, gw_543, gw_11, ⟨_, _, rfl⟩, ⟨by decide +kernel, by decide +kernel⟩, by decide +kernel⟩
theorem lm_RX5_90 : gLkV RX5 90 1 yX1_leadOf 1 := ⟨gw_579, gw_580, gw_581, gw_11, ⟨_, _, rfl⟩, ⟨by decide +kernel, by decide +kernel⟩, by decide +kernel⟩
theorem lm_RX5_141 : gLkV RX5 141 1 yX1_firstNotZero 1 := ⟨gw_666, gw_550, gw_551, gw_11, ⟨_, _, rfl⟩, ⟨by decide +kernel, by decide +kernel⟩, by decide +kernel⟩
theorem lm_RX5_130 : gLkV RX5 130 5 yX5_numberOf 5 := ⟨gw_638, gw_619, gw_620, gw_10, ⟨_, _, rfl⟩, ⟨by decide +kernel, by decide +kernel⟩, by decide +kernel⟩
theorem lm_RX6_224 : gLkV RX6 224 2 yX2_settle 0 := ⟨gw_133, gw_134, gw_135, gw_4, ⟨_, _, rfl⟩, ⟨by decide +kernel, by decide +kernel⟩, by decide +kernel⟩
theorem lm_RX6_133 : gLkV RX6 133 2 yX2_countMade 2 := ⟨gw_305, gw_306, gw_307, gw_4, ⟨_, _, rfl⟩, ⟨by decide +kernel, by decide +kernel⟩, by decide +kernel⟩
theorem lm_RX7_143 : gLkV RX7 143 7 yX7_friends 2 := ⟨gw_902, gw_904, gSel 32 (by decide +kernel), gw_3, ⟨_, _, rfl⟩, ⟨by decide +kernel, by decide +kernel⟩, by decide +kernel⟩
theorem lm_RX7_166 : gLkV RX7 166 7 yX7_turnsMade 1 := ⟨gw_926, gw_928, gSel 36 (by decide +kernel), gw_3, ⟨_, _, rfl⟩, ⟨by decide +kernel, by decide +kernel⟩, by decide +kernel⟩
theorem lm_RX7_146 : gLkV RX7 146 7 yX7_leastTurned 2 := ⟨gw_906, gw_908, gSel 33 (by decide +kernel), gw_3, ⟨_, _, rfl⟩, ⟨by decide +kernel, by decide +kernel⟩, by decide +kernel⟩
theorem lm_RX7_169 : gLkV RX7 169 7 yX7_leastMakers 1 := ⟨gw_930, gw_932, gSel 37 (by decide +kernel), gw_3, ⟨_, _, rfl⟩, ⟨by decide +kernel, by decide +kernel⟩, by decide +kernel⟩
theorem lm_RX7_132 : gLkV RX7 132 7 yX7_isElement 2 := ⟨gw_886, gw_888, gSel 29 (by decide +kernel), gw_3, ⟨_, _, rfl⟩, ⟨by decide +kernel, by decide +kernel⟩, by decide +kernel⟩
theorem lm_RX7_236 : gLkV RX7 236 7 yX7_start 1 := ⟨gw_986, gw_988, gSel 45 (by decide +kernel), gw_3, ⟨_, _, rfl⟩, ⟨by decide +kernel, by decide +kernel⟩, by decide +kernel⟩
theorem lk_RX7_76_0 : gLk RX7 76 7 29 .int 0 := ⟨RX7, TX7, 40, tyX7, gC7, by decide, rfl, (fun h => by cases h), (fun h => by cases h), gw_726⟩
theorem lm_RX7_240 : gLkV RX7 240 7 yX7_dimensionNone 0 := ⟨gw_990, gw_992, gSel 46 (by decide +kernel), gw_3, ⟨_, _, rfl⟩, ⟨by decide +kernel, by decide +kernel⟩, by decide +kernel⟩
theorem lm_RX7_243 : gLkV RX7 243 7 yX7_dimensionOne 0 := ⟨gw_1010, gw_1012, gSel 51 (by decide +kernel), gw_3, ⟨_, _, rfl⟩, ⟨by decide +kernel, by decide +kernel⟩, by decide +kernel⟩
theorem lm_RX7_246 : gLkV RX7 246 7 yX7_pairs 0 := ⟨gw_1014, gw_1016, gSel 52 (by decide +kernel), gw_3, ⟨_, _, rfl⟩, ⟨by decide +kernel, by decide +kernel⟩, by decide +kernel⟩
theorem lm_RX7_249 : gLkV RX7 249 7 yX7_bounds 0 := ⟨gw_1026, gw_1028, gSel 55 (by decide +kernel), gw_3, ⟨_, _, rfl⟩, ⟨by decide +kernel, by decide +kernel⟩, by decide +kernel⟩
theorem lk_RX7_255_1 : gLk RX7 255 7 35 .int 1 := ⟨RX7, TX7, 40, tyX7, gC7, by decide, rfl, (fun _ => rfl), (fun h => by cases h), gw_732⟩
theorem lm_RX7_174 : gLkV RX7 174 7 yX7_ofOrder 2 := ⟨gw_939, gw_941, gSel 38 (by decide +kernel), gw_3, ⟨_, _, rfl⟩, ⟨by decide +kernel, by decide +kernel⟩, by decide +kernel⟩
theorem lm_RX7_177 : gLkV RX7 177 7 yX7_leastRow 2 := ⟨gw_943, gw_945, gSel 39 (by decide +kernel), gw_3, ⟨_, _, rfl⟩, ⟨by decide +kernel, by decide +kernel⟩, by decide +kernel⟩
theorem lm_RX7_180 : gLkV RX7 180 7 yX7_nextLike 4 := ⟨gw_947, gw_949, gSel 40 (by decide +kernel), gw_3, ⟨_, _, rfl⟩, ⟨by decide +kernel, by decide +kernel⟩, by decide +kernel⟩
theorem lm_RX7_184 : gLkV RX7 184 7 yX7_goes 3 := ⟨gw_951, gw_953, gSel 41 (by decide +kernel), gw_3, ⟨_, _, rfl⟩, ⟨by decide +kernel, by decide +kernel⟩, by decide +kernel⟩
theorem lk_RX2_48_0 : gLk RX2 48 0 2 (.object "GroupTowers$Group") 0 := ⟨RX0, TX0, 7, tyX0, gC0, by decide, rfl, (fun h => by cases h), (fun h => by cases h), gw_446⟩
theorem lk_RX2_54_0 : gLk RX2 54 0 5 .int 0 := ⟨RX0, TX0, 7, tyX0, gC0, by decide, rfl, (fun h => by cases h), (fun h => by cases h), gw_455⟩
theorem lk_RX2_57_0 : gLk RX2 57 0 1 (.object "GroupTowers$Twists") 0 := ⟨RX0, TX0, 7, tyX0, gC0, by decide, rfl, (fun h => by cases h), (fun h => by cases h), gw_442⟩
theorem lm_RX2_61 : gLkV RX2 61 5 yX5_vectorOf 4 := ⟨gw_634, gw_635, gw_636, gw_10, ⟨_, _, rfl⟩, ⟨by decide +kernel, by decide +kernel⟩, by decide +kernel⟩
theorem lm_RX2_67 : gLkV RX2 67 0 yX0_move 2 := ⟨gw_639, gw_640, gw_641, gw_9, ⟨_, _, rfl⟩, ⟨by decide +kernel, by decide +kernel⟩, by decide +kernel⟩
theorem lm_RX2_70 : gLkV RX2 70 0 yX0_plus 2 := ⟨gw_644, gw_645, gw_646, gw_9, ⟨_, _, rfl⟩, ⟨by decide +kernel, by decide +kernel⟩, by decide +kernel⟩
theorem lk_RX5_31_1 : gLk RX5 31 5 5 .int 1 := ⟨RX5, TX5, 7, tyX5, gC5, by decide, rfl, (fun _ => rfl), (fun h => by cases h), gw_422⟩
theorem lm_RX5_48 : gLkV RX5 48 1 yX1_begin 2 := ⟨gw_530, gw_531, gw_532, gw_11, ⟨_, _, rfl⟩, ⟨by decide +kernel, by decide +kernel⟩, by decide +kernel⟩
theorem lm_RX5_73 : gLkV RX5 73 5 yX5_writeBound 3 := ⟨gw_565, gw_567, gSel 20 (by decide +kernel), gw_10, ⟨_, _, rfl⟩, ⟨by decide +kernel, by decide +kernel⟩, by decide +kernel⟩
theorem lm_RX5_65 : gLkV RX5 65 1 yX1_add 1 := ⟨gw_536, gw_537, gw_538, gw_11, ⟨_, _, rfl⟩, ⟨by decide +kernel, by decide +kernel⟩, by decide +kernel⟩
theorem lm_RX5_108 : gLkV RX5 108 5 yX5_writeStandard 4 := ⟨gw_593, gw_595, gSel 22 (by decide +kernel), gw_10, ⟨_, _, rfl⟩, ⟨by decide +kernel, by decide +kernel⟩, by decide +kernel⟩
theorem lm_RX5_112 : gLkN RX5 112 yX6_power "GroupTowers" 2 ∧ Cond.static yX6_power ∈ lw_tbl := ⟨⟨gw_606, gw_1, ⟨by decide +kernel, by decide +kernel⟩, by decide +kernel⟩, gw_479⟩
theorem lk_RX5_115_1 : gLk RX5 115 5 6 .int 1 := ⟨RX5, TX5, 7, tyX5, gC5, by decide, rfl, (fun _ => rfl), (fun h => by cases h), gw_423⟩
theorem lk_RX5_37_1 : gLk RX5 37 5 4 .int 1 := ⟨RX5, TX5, 7, tyX5, gC5, by decide, rfl, (fun _ => rfl), (fun h => by cases h), gw_421⟩
theorem lk_RX5_27_1 : gLk RX5 27 5 3 .int 1 := ⟨RX5, TX5, 7, tyX5, gC5, by decide, rfl, (fun _ => rfl), (fun h => by cases h), gw_420⟩
theorem lm_RX6_28 : gLkV RX6 28 6 yX6_spareGroup 0 := ⟨gw_72, gw_74, gSel 0 (by decide +kernel), gw_1, ⟨_, _, rfl⟩, ⟨by decide +kernel, by decide +kernel⟩, by decide +kernel⟩
theorem lm_RX6_32 : gLkV RX6 32 2 yX2_fillTurns 1 := ⟨gw_115, gw_116, gw_117, gw_4, ⟨_, _, rfl⟩, ⟨by decide +kernel, by decide +kernel⟩, by decide +kernel⟩
theorem lm_RX6_36 : gLkV RX6 36 6 yX6_keep 1 := ⟨gw_129, gw_131, gSel 2 (by decide +kernel), gw_1, ⟨_, _, rfl⟩, ⟨by decide +kernel, by decide +kernel⟩, by decide +kernel⟩
theorem lm_RX6_40 : gLkV RX6 40 2 yX2_fillTurnsAndFlips 1 := ⟨gw_153, gw_154, gw_155, gw_4, ⟨_, _, rfl⟩, ⟨by decide +kernel, by decide +kernel⟩, by decide +kernel⟩
theorem lm_RX6_148 : gLkV RX6 148 0 yX0_begin 3 := ⟨gw_474, gw_475, gw_476, gw_9, ⟨_, _, rfl⟩, ⟨by decide +kernel, by decide +kernel⟩, by decide +kernel⟩
theorem nw_RX6_15 : gNw RX6 15 0 7 [.null, .null, .null, .int 0, .int 0, .int 0, .int 0] := ⟨RX0, TX0, tyX0, gC0, gw_22, gw_375, gw_9, fun j hj => match j, hj with
  | 0, _ => rfl
  | 1, _ => rfl
  | 2, _ => rfl
  | 3, _ => rfl
  | 4, _ => rfl
  | 5, _ => rfl
  | 6, _ => rfl
  | j + 7, hj => absurd hj (by omega)⟩
theorem lm_RX6_147 : gLkN RX6 147 yX0_init "GroupTowers" 0 ∧ yX0_init.name = "<init>" ∧ Cond.instanceMethod yX0_init ∈ lw_tbl := ⟨⟨gw_376, gw_9, ⟨by decide +kernel, by decide +kernel⟩, by decide +kernel⟩, rfl, gw_377⟩
theorem lm_RX6_54 : gLkV RX6 54 2 yX2_fillPair 2 := ⟨gw_175, gw_176, gw_177, gw_4, ⟨_, _, rfl⟩, ⟨by decide +kernel, by decide +kernel⟩, by decide +kernel⟩
theorem lm_RX6_43 : gLkV RX6 43 2 yX2_fillUnits 0 := ⟨gw_161, gw_162, gw_163, gw_4, ⟨_, _, rfl⟩, ⟨by decide +kernel, by decide +kernel⟩, by decide +kernel⟩
theorem lm_RX6_165 : gLkV RX6 165 0 yX0_firstUnsound 0 := ⟨gw_502, gw_503, gw_504, gw_9, ⟨_, _, rfl⟩, ⟨by decide +kernel, by decide +kernel⟩, by decide +kernel⟩
theorem lm_RX6_79 : gLkV RX6 79 4 yX4_faultOfReading 2 := ⟨gw_209, gw_210, gw_211, gw_2, ⟨_, _, rfl⟩, ⟨by decide +kernel, by decide +kernel⟩, by decide +kernel⟩
theorem lm_RX6_83 : gLkV RX6 83 2 yX2_readFrom 2 := ⟨gw_213, gw_214, gw_215, gw_4, ⟨_, _, rfl⟩, ⟨by decide +kernel, by decide +kernel⟩, by decide +kernel⟩
theorem lm_RX7_260 : gLkV RX7 260 7 yX7_sound 1 := ⟨gw_981, gw_969, gw_970, gw_3, ⟨_, _, rfl⟩, ⟨by decide +kernel, by decide +kernel⟩, by decide +kernel⟩
theorem lm_RX7_263 : gLkV RX7 263 7 yX7_know 1 := ⟨gw_982, gw_984, gSel 44 (by decide +kernel), gw_3, ⟨_, _, rfl⟩, ⟨by decide +kernel, by decide +kernel⟩, by decide +kernel⟩
theorem lm_RX7_278 : gLkV RX7 278 7 yX7_isCocycle 0 := ⟨gw_1061, gw_1063, gSel 60 (by decide +kernel), gw_3, ⟨_, _, rfl⟩, ⟨by decide +kernel, by decide +kernel⟩, by decide +kernel⟩
theorem lm_RX7_282 : gLkV RX7 282 7 yX7_classOfLine 0 := ⟨gw_1065, gw_1067, gSel 61 (by decide +kernel), gw_3, ⟨_, _, rfl⟩, ⟨by decide +kernel, by decide +kernel⟩, by decide +kernel⟩
theorem lm_RX7_266 : gLkS RX7 266 yX7_power 2 := ⟨gw_1042, gw_1043, gw_3, ⟨by decide +kernel, by decide +kernel⟩, by decide +kernel⟩
theorem lm_RX7_269 : gLkV RX7 269 7 yX7_lacks 2 := ⟨gw_1038, gw_1040, gSel 57 (by decide +kernel), gw_3, ⟨_, _, rfl⟩, ⟨by decide +kernel, by decide +kernel⟩, by decide +kernel⟩
theorem lm_RX7_272 : gLkV RX7 272 7 yX7_sumOf 1 := ⟨gw_1045, gw_1047, gSel 58 (by decide +kernel), gw_3, ⟨_, _, rfl⟩, ⟨by decide +kernel, by decide +kernel⟩, by decide +kernel⟩
theorem lk_RX2_93_0 : gLk RX2 93 2 6 .int 0 := ⟨RX2, TX2, 8, tyX2, gC2', by decide, rfl, (fun h => by cases h), (fun h => by cases h), gw_92⟩
theorem lm_RX3_39 : gLkV RX3 39 3 yX3_likeInPeriods 2 := ⟨gw_348, gw_350, gSel 11 (by decide +kernel), gw_8, ⟨_, _, rfl⟩, ⟨by decide +kernel, by decide +kernel⟩, by decide +kernel⟩
theorem lm_RX3_43 : gLkV RX3 43 2 yX2_findMakers 0 := ⟨gw_353, gw_295, gw_296, gw_4, ⟨_, _, rfl⟩, ⟨by decide +kernel, by decide +kernel⟩, by decide +kernel⟩
theorem lk_RX3_47_1 : gLk RX3 47 3 7 .int 1 := ⟨RX3, TX3, 8, tyX3, gC3, by decide, rfl, (fun _ => rfl), (fun h => by cases h), gw_326⟩
theorem lm_RX3_50 : gLkV RX3 50 3 yX3_layPaths 1 := ⟨gw_354, gw_356, gSel 12 (by decide +kernel), gw_8, ⟨_, _, rfl⟩, ⟨by decide +kernel, by decide +kernel⟩, by decide +kernel⟩
theorem lm_RX3_70 : gLkV RX3 70 3 yX3_goesWithProducts 3 := ⟨gw_363, gw_365, gSel 14 (by decide +kernel), gw_8, ⟨_, _, rfl⟩, ⟨by decide +kernel, by decide +kernel⟩, by decide +kernel⟩
theorem lm_RX3_74 : gLkV RX3 74 3 yX3_stepGiven 2 := ⟨gw_367, gw_369, gSel 15 (by decide +kernel), gw_8, ⟨_, _, rfl⟩, ⟨by decide +kernel, by decide +kernel⟩, by decide +kernel⟩
theorem lm_RX5_94 : gLkV RX5 94 2 yX2_findMakers 0 := ⟨gw_583, gw_295, gw_296, gw_4, ⟨_, _, rfl⟩, ⟨by decide +kernel, by decide +kernel⟩, by decide +kernel⟩
theorem lk_RX5_97_0 : gLk RX5 97 2 5 (.array .int) 0 := ⟨RX2, TX2, 8, tyX2, gC2', by decide, rfl, (fun h => by cases h), (fun h => by cases h), gw_91⟩
theorem lm_RX5_100 : gLkV RX5 100 5 yX5_writeCocycleRule 5 := ⟨gw_584, gw_586, gSel 21 (by decide +kernel), gw_10, ⟨_, _, rfl⟩, ⟨by decide +kernel, by decide +kernel⟩, by decide +kernel⟩
theorem lm_RX6_117 : gLkV RX6 117 2 yX2_countCentral 0 := ⟨gw_262, gw_263, gw_264, gw_4, ⟨_, _, rfl⟩, ⟨by decide +kernel, by decide +kernel⟩, by decide +kernel⟩
theorem lm_RX6_121 : gLkV RX6 121 2 yX2_countDerived 0 := ⟨gw_267, gw_268, gw_269, gw_4, ⟨_, _, rfl⟩, ⟨by decide +kernel, by decide +kernel⟩, by decide +kernel⟩
theorem lm_RX6_124 : gLkV RX6 124 2 yX2_exponent 0 := ⟨gw_281, gw_282, gw_283, gw_4, ⟨_, _, rfl⟩, ⟨by decide +kernel, by decide +kernel⟩, by decide +kernel⟩
theorem lm_RX6_127 : gLkV RX6 127 2 yX2_countTurnClasses 0 := ⟨gw_289, gw_290, gw_291, gw_4, ⟨_, _, rfl⟩, ⟨by decide +kernel, by decide +kernel⟩, by decide +kernel⟩
theorem lm_RX6_130 : gLkV RX6 130 2 yX2_findMakers 0 := ⟨gw_294, gw_295, gw_296, gw_4, ⟨_, _, rfl⟩, ⟨by decide +kernel, by decide +kernel⟩, by decide +kernel⟩
theorem lk_RX6_136_0 : gLk RX6 136 6 5 (.object "GroupTowers$Matching") 0 := ⟨RX6, TX6, 7, tyX6, gC6, by decide, rfl, (fun h => by cases h), (fun h => by cases h), gw_51⟩
theorem lm_RX6_143 : gLkV RX6 143 3 yX3_search 3 := ⟨gw_344, gw_345, gw_346, gw_8, ⟨_, _, rfl⟩, ⟨by decide +kernel, by decide +kernel⟩, by decide +kernel⟩
theorem nw_RX6_140 : gNw RX6 140 3 8 [.null, .null, .null, .null, .null, .null, .null, .int 0] := ⟨RX3, TX3, tyX3, gC3, gw_313, gw_314, gw_8, fun j hj => match j, hj with
  | 0, _ => rfl
  | 1, _ => rfl
  | 2, _ => rfl
  | 3, _ => rfl
  | 4, _ => rfl
  | 5, _ => rfl
  | 6, _ => rfl
  | 7, _ => rfl
  | j + 8, hj => absurd hj (by omega)⟩
theorem lm_RX6_142 : gLkN RX6 142 yX3_init "GroupTowers" 0 ∧ yX3_init.name = "<init>" ∧ Cond.instanceMethod yX3_init ∈ lw_tbl := ⟨⟨gw_315, gw_8, ⟨by decide +kernel, by decide +kernel⟩, by decide +kernel⟩, rfl, gw_316⟩
theorem lk_RX6_136_1 : gLk RX6 136 6 5 (.object "GroupTowers$Matching") 1 := ⟨RX6, TX6, 7, tyX6, gC6, by decide, rfl, (fun _ => rfl), (fun h => by cases h), gw_51⟩
theorem lk_RX6_227_0 : gLk RX6 227 6 6 (.object "GroupTowers$Echelon") 0 := ⟨RX6, TX6, 7, tyX6, gC6, by decide, rfl, (fun h => by cases h), (fun h => by cases h), gw_52⟩
theorem lm_RX6_232 : gLkV RX6 232 5 yX5_findUnmoved 2 := ⟨gw_526, gw_527, gw_528, gw_10, ⟨_, _, rfl⟩, ⟨by decide +kernel, by decide +kernel⟩, by decide +kernel⟩
theorem lm_RX6_236 : gLkV RX6 236 5 yX5_findBounds 1 := ⟨gw_557, gw_558, gw_559, gw_10, ⟨_, _, rfl⟩, ⟨by decide +kernel, by decide +kernel⟩, by decide +kernel⟩
theorem lm_RX6_239 : gLkV RX6 239 5 yX5_writeEquations 2 := ⟨gw_575, gw_576, gw_577, gw_10, ⟨_, _, rfl⟩, ⟨by decide +kernel, by decide +kernel⟩, by decide +kernel⟩
theorem lm_RX6_242 : gLkV RX6 242 5 yX5_findStandards 2 := ⟨gw_588, gw_589, gw_590, gw_10, ⟨_, _, rfl⟩, ⟨by decide +kernel, by decide +kernel⟩, by decide +kernel⟩
theorem lk_RX6_172_1 : gLk RX6 172 0 6 .boolean 1 := ⟨RX0, TX0, 7, tyX0, gC0, by decide, rfl, (fun _ => rfl), (fun h => by cases h), gw_458⟩
theorem nw_RX6_215 : gNw RX6 215 1 6 [.null, .null, .null, .int 0, .int 0, .int 0] := ⟨RX1, TX1, tyX1, gC1, gw_524, gw_387, gw_11, fun j hj => match j, hj with
  | 0, _ => rfl
  | 1, _ => rfl
  | 2, _ => rfl
  | 3, _ => rfl
  | 4, _ => rfl
  | 5, _ => rfl
  | j + 6, hj => absurd hj (by omega)⟩
theorem lm_RX6_230 : gLkI RX6 230 yX1_init 1 := ⟨gw_525, gw_389, gw_11, rfl, ⟨by decide +kernel, by decide +kernel⟩, by decide +kernel⟩
theorem lk_RX6_227_1 : gLk RX6 227 6 6 (.object "GroupTowers$Echelon") 1 := ⟨RX6, TX6, 7, tyX6, gC6, by decide, rfl, (fun _ => rfl), (fun h => by cases h), gw_52⟩
theorem lm_RX6_168 : gLkV RX6 168 6 yX6_solve 1 := ⟨gw_520, gw_522, gSel 18 (by decide +kernel), gw_1, ⟨_, _, rfl⟩, ⟨by decide +kernel, by decide +kernel⟩, by decide +kernel⟩
theorem lm_RX6_200 : gLkV RX6 200 5 yX5_classRead 2 := ⟨gw_657, gw_658, gw_659, gw_10, ⟨_, _, rfl⟩, ⟨by decide +kernel, by decide +kernel⟩, by decide +kernel⟩
theorem lm_RX6_180 : gLkV RX6 180 5 yX5_dimensionOf 1 := ⟨gw_607, gw_608, gw_609, gw_10, ⟨_, _, rfl⟩, ⟨by decide +kernel, by decide +kernel⟩, by decide +kernel⟩
theorem lm_RX6_185 : gLkS RX6 185 yX6_refusalOf 2 := ⟨gw_615, gw_616, gw_1, ⟨by decide +kernel, by decide +kernel⟩, by decide +kernel⟩
theorem lk_RX6_193_0 : gLk RX6 193 0 5 .int 0 := ⟨RX0, TX0, 7, tyX0, gC0, by decide, rfl, (fun h => by cases h), (fun h => by cases h), gw_456⟩
theorem lm_RX6_196 : gLkV RX6 196 2 yX2_fillOver 2 := ⟨gw_630, gw_631, gw_632, gw_4, ⟨_, _, rfl⟩, ⟨by decide +kernel, by decide +kernel⟩, by decide +kernel⟩
theorem lk_RX6_204_0 : gLk RX6 204 0 3 .int 0 := ⟨RX0, TX0, 7, tyX0, gC0, by decide, rfl, (fun h => by cases h), (fun h => by cases h), gw_450⟩
theorem lm_RX6_207 : gLkS RX6 207 yX6_power 2 := ⟨gw_671, gw_479, gw_1, ⟨by decide +kernel, by decide +kernel⟩, by decide +kernel⟩
theorem lk_RX6_210_0 : gLk RX6 210 5 2 (.object "GroupTowers$Echelon") 0 := ⟨RX5, TX5, 7, tyX5, gC5, by decide, rfl, (fun h => by cases h), (fun h => by cases h), gw_419⟩
theorem lk_RX6_214_0 : gLk RX6 214 1 5 .int 0 := ⟨RX1, TX1, 6, tyX1, gC1, by decide, rfl, (fun h => by cases h), (fun h => by cases h), gw_402⟩
theorem lm_RX6_219 : gLkS RX6 219 yX6_addDigits 4 := ⟨gw_676, gw_649, gw_1, ⟨by decide +kernel, by decide +kernel⟩, by decide +kernel⟩
theorem lm_RX6_189 : gLkV RX6 189 5 yX5_numberOf 5 := ⟨gw_618, gw_619, gw_620, gw_10, ⟨_, _, rfl⟩, ⟨by decide +kernel, by decide +kernel⟩, by decide +kernel⟩
theorem nw_RL_7 : gNw RL 7 6 7 [.null, .null, .null, .int 0, .int 0, .null, .null] := ⟨RX6, TX6, tyX6, gC6, gw_12, gw_13, gw_1, fun j hj => match j, hj with
  | 0, _ => rfl
  | 1, _ => rfl
  | 2, _ => rfl
  | 3, _ => rfl
  | 4, _ => rfl
  | 5, _ => rfl
  | 6, _ => rfl
  | j + 7, hj => absurd hj (by omega)⟩
theorem lm_RL_9 : gLkI RL 9 yX6_init 0 := ⟨gw_14, gw_15, gw_1, rfl, ⟨by decide +kernel, by decide +kernel⟩, by decide +kernel⟩
theorem nw_RL_10 : gNw RL 10 7 40 [.int 0, .null, .null, .null, .null, .null, .null, .int 0, .null, .null, .null, .null, .null, .null, .int 0, .long 0, .long 0, .null, .null, .null, .null, .null, .null, .int 0, .int 0, .null, .null, .null, .int 0, .int 0, .null, .null, .null, .null, .null, .int 0, .int 0, .int 0, .int 0, .int 0] := ⟨RX7, TX7, tyX7, gC7, gw_689, gw_690, gw_3, fun j hj => match j, hj with
  | 0, _ => rfl
  | 1, _ => rfl
  | 2, _ => rfl
  | 3, _ => rfl
  | 4, _ => rfl
  | 5, _ => rfl
  | 6, _ => rfl
  | 7, _ => rfl
  | 8, _ => rfl
  | 9, _ => rfl
  | 10, _ => rfl
  | 11, _ => rfl
  | 12, _ => rfl
  | 13, _ => rfl
  | 14, _ => rfl
  | 15, _ => rfl
  | 16, _ => rfl
  | 17, _ => rfl
  | 18, _ => rfl
  | 19, _ => rfl
  | 20, _ => rfl
  | 21, _ => rfl
  | 22, _ => rfl
  | 23, _ => rfl
  | 24, _ => rfl
  | 25, _ => rfl
  | 26, _ => rfl
  | 27, _ => rfl
  | 28, _ => rfl
  | 29, _ => rfl
  | 30, _ => rfl
  | 31, _ => rfl
  | 32, _ => rfl
  | 33, _ => rfl
  | 34, _ => rfl
  | 35, _ => rfl
  | 36, _ => rfl
  | 37, _ => rfl
  | 38, _ => rfl
  | 39, _ => rfl
  | j + 40, hj => absurd hj (by omega)⟩
theorem lm_RL_12 : gLkI RL 12 yX7_init 0 := ⟨gw_691, gw_692, gw_3, rfl, ⟨by decide +kernel, by decide +kernel⟩, by decide +kernel⟩
theorem lm_RL_13 : gLkV RL 13 6 yX6_cyclic 1 := ⟨gw_68, gw_69, gw_70, gw_1, ⟨_, _, rfl⟩, ⟨by decide +kernel, by decide +kernel⟩, by decide +kernel⟩
theorem lm_RL_17 : gLkV RL 17 7 yX7_cyclic 1 := ⟨gw_819, gw_820, gw_821, gw_3, ⟨_, _, rfl⟩, ⟨by decide +kernel, by decide +kernel⟩, by decide +kernel⟩
theorem lm_RL_18 : gLkV RL 18 6 yX6_dihedral 1 := ⟨gw_149, gw_150, gw_151, gw_1, ⟨_, _, rfl⟩, ⟨by decide +kernel, by decide +kernel⟩, by decide +kernel⟩
theorem lm_RL_21 : gLkV RL 21 7 yX7_dihedral 1 := ⟨gw_835, gw_836, gw_837, gw_3, ⟨_, _, rfl⟩, ⟨by decide +kernel, by decide +kernel⟩, by decide +kernel⟩
theorem lm_RL_22 : gLkV RL 22 6 yX6_quaternions 0 := ⟨gw_157, gw_158, gw_159, gw_1, ⟨_, _, rfl⟩, ⟨by decide +kernel, by decide +kernel⟩, by decide +kernel⟩
theorem lm_RL_26 : gLkV RL 26 7 yX7_quaternions 0 := ⟨gw_840, gw_841, gw_842, gw_3, ⟨_, _, rfl⟩, ⟨by decide +kernel, by decide +kernel⟩, by decide +kernel⟩
theorem lm_RL_27 : gLkV RL 27 6 yX6_pair 2 := ⟨gw_167, gw_168, gw_169, gw_1, ⟨_, _, rfl⟩, ⟨by decide +kernel, by decide +kernel⟩, by decide +kernel⟩
theorem lm_RL_31 : gLkV RL 31 7 yX7_pair 2 := ⟨gw_844, gw_845, gw_846, gw_3, ⟨_, _, rfl⟩, ⟨by decide +kernel, by decide +kernel⟩, by decide +kernel⟩
theorem lm_RL_32 : gLkV RL 32 6 yX6_sheet 3 := ⟨gw_179, gw_180, gw_181, gw_1, ⟨_, _, rfl⟩, ⟨by decide +kernel, by decide +kernel⟩, by decide +kernel⟩
theorem lm_RL_36 : gLkV RL 36 7 yX7_sheet 3 := ⟨gw_856, gw_857, gw_858, gw_3, ⟨_, _, rfl⟩, ⟨by decide +kernel, by decide +kernel⟩, by decide +kernel⟩
theorem lm_RL_37 : gLkV RL 37 6 yX6_lay 3 := ⟨gw_197, gw_198, gw_199, gw_1, ⟨_, _, rfl⟩, ⟨by decide +kernel, by decide +kernel⟩, by decide +kernel⟩
theorem lm_RL_40 : gLkV RL 40 7 yX7_lay 3 := ⟨gw_861, gw_862, gw_863, gw_3, ⟨_, _, rfl⟩, ⟨by decide +kernel, by decide +kernel⟩, by decide +kernel⟩
theorem lm_RL_41 : gLkV RL 41 6 yX6_table 3 := ⟨gw_205, gw_206, gw_207, gw_1, ⟨_, _, rfl⟩, ⟨by decide +kernel, by decide +kernel⟩, by decide +kernel⟩
theorem lm_RL_44 : gLkV RL 44 7 yX7_table 3 := ⟨gw_865, gw_866, gw_867, gw_3, ⟨_, _, rfl⟩, ⟨by decide +kernel, by decide +kernel⟩, by decide +kernel⟩
theorem lm_RL_45 : gLkV RL 45 6 yX6_drop 0 := ⟨gw_229, gw_230, gw_231, gw_1, ⟨_, _, rfl⟩, ⟨by decide +kernel, by decide +kernel⟩, by decide +kernel⟩
theorem lm_RL_48 : gLkV RL 48 7 yX7_drop 0 := ⟨gw_874, gw_875, gw_876, gw_3, ⟨_, _, rfl⟩, ⟨by decide +kernel, by decide +kernel⟩, by decide +kernel⟩
theorem lm_RL_49 : gLkV RL 49 6 yX6_order 1 := ⟨gw_233, gw_234, gw_235, gw_1, ⟨_, _, rfl⟩, ⟨by decide +kernel, by decide +kernel⟩, by decide +kernel⟩
theorem lm_RL_52 : gLkV RL 52 7 yX7_order 1 := ⟨gw_878, gw_879, gw_880, gw_3, ⟨_, _, rfl⟩, ⟨by decide +kernel, by decide +kernel⟩, by decide +kernel⟩
theorem lm_RL_53 : gLkV RL 53 6 yX6_product 3 := ⟨gw_237, gw_238, gw_239, gw_1, ⟨_, _, rfl⟩, ⟨by decide +kernel, by decide +kernel⟩, by decide +kernel⟩
theorem lm_RL_56 : gLkV RL 56 7 yX7_product 3 := ⟨gw_882, gw_883, gw_884, gw_3, ⟨_, _, rfl⟩, ⟨by decide +kernel, by decide +kernel⟩, by decide +kernel⟩
theorem lm_RL_57 : gLkV RL 57 6 yX6_element 3 := ⟨gw_243, gw_244, gw_245, gw_1, ⟨_, _, rfl⟩, ⟨by decide +kernel, by decide +kernel⟩, by decide +kernel⟩
theorem lm_RL_60 : gLkV RL 60 7 yX7_element 3 := ⟨gw_890, gw_891, gw_892, gw_3, ⟨_, _, rfl⟩, ⟨by decide +kernel, by decide +kernel⟩, by decide +kernel⟩
theorem lm_RL_61 : gLkV RL 61 6 yX6_about 2 := ⟨gw_258, gw_259, gw_260, gw_1, ⟨_, _, rfl⟩, ⟨by decide +kernel, by decide +kernel⟩, by decide +kernel⟩
theorem lm_RL_64 : gLkV RL 64 7 yX7_about 2 := ⟨gw_922, gw_923, gw_924, gw_3, ⟨_, _, rfl⟩, ⟨by decide +kernel, by decide +kernel⟩, by decide +kernel⟩
theorem lm_RL_65 : gLkV RL 65 6 yX6_made 3 := ⟨gw_301, gw_302, gw_303, gw_1, ⟨_, _, rfl⟩, ⟨by decide +kernel, by decide +kernel⟩, by decide +kernel⟩
theorem lm_RL_68 : gLkV RL 68 7 yX7_made 3 := ⟨gw_910, gw_911, gw_912, gw_3, ⟨_, _, rfl⟩, ⟨by decide +kernel, by decide +kernel⟩, by decide +kernel⟩
theorem lm_RL_69 : gLkV RL 69 6 yX6_same 3 := ⟨gw_309, gw_310, gw_311, gw_1, ⟨_, _, rfl⟩, ⟨by decide +kernel, by decide +kernel⟩, by decide +kernel⟩
theorem lm_RL_72 : gLkV RL 72 7 yX7_same 3 := ⟨gw_934, gw_935, gw_936, gw_3, ⟨_, _, rfl⟩, ⟨by decide +kernel, by decide +kernel⟩, by decide +kernel⟩
theorem lm_RL_73 : gLkV RL 73 6 yX6_module 3 := ⟨gw_371, gw_372, gw_373, gw_1, ⟨_, _, rfl⟩, ⟨by decide +kernel, by decide +kernel⟩, by decide +kernel⟩
theorem lm_RL_76 : gLkV RL 76 7 yX7_module 3 := ⟨gw_955, gw_956, gw_957, gw_3, ⟨_, _, rfl⟩, ⟨by decide +kernel, by decide +kernel⟩, by decide +kernel⟩
theorem lm_RL_77 : gLkV RL 77 6 yX6_acts 6 := ⟨gw_485, gw_486, gw_487, gw_1, ⟨_, _, rfl⟩, ⟨by decide +kernel, by decide +kernel⟩, by decide +kernel⟩
theorem lm_RL_81 : gLkV RL 81 7 yX7_acts 6 := ⟨gw_960, gw_961, gw_962, gw_3, ⟨_, _, rfl⟩, ⟨by decide +kernel, by decide +kernel⟩, by decide +kernel⟩
theorem lm_RL_82 : gLkV RL 82 6 yX6_sound 1 := ⟨gw_498, gw_499, gw_500, gw_1, ⟨_, _, rfl⟩, ⟨by decide +kernel, by decide +kernel⟩, by decide +kernel⟩
theorem lm_RL_85 : gLkV RL 85 7 yX7_sound 1 := ⟨gw_968, gw_969, gw_970, gw_3, ⟨_, _, rfl⟩, ⟨by decide +kernel, by decide +kernel⟩, by decide +kernel⟩
theorem lm_RL_86 : gLkV RL 86 6 yX6_dimension 2 := ⟨gw_516, gw_517, gw_518, gw_1, ⟨_, _, rfl⟩, ⟨by decide +kernel, by decide +kernel⟩, by decide +kernel⟩
theorem lm_RL_89 : gLkV RL 89 7 yX7_dimension 2 := ⟨gw_976, gw_977, gw_978, gw_3, ⟨_, _, rfl⟩, ⟨by decide +kernel, by decide +kernel⟩, by decide +kernel⟩
theorem lm_RL_90 : gLkV RL 90 6 yX6_twist 5 := ⟨gw_611, gw_612, gw_613, gw_1, ⟨_, _, rfl⟩, ⟨by decide +kernel, by decide +kernel⟩, by decide +kernel⟩
theorem lm_RL_94 : gLkV RL 94 7 yX7_twist 5 := ⟨gw_1034, gw_1035, gw_1036, gw_3, ⟨_, _, rfl⟩, ⟨by decide +kernel, by decide +kernel⟩, by decide +kernel⟩
theorem lm_RL_95 : gLkV RL 95 6 yX6_over 2 := ⟨gw_626, gw_627, gw_628, gw_1, ⟨_, _, rfl⟩, ⟨by decide +kernel, by decide +kernel⟩, by decide +kernel⟩
theorem lm_RL_98 : gLkV RL 98 7 yX7_over 2 := ⟨gw_1053, gw_1054, gw_1055, gw_3, ⟨_, _, rfl⟩, ⟨by decide +kernel, by decide +kernel⟩, by decide +kernel⟩
theorem lm_RL_99 : gLkV RL 99 6 yX6_classOf 3 := ⟨gw_653, gw_654, gw_655, gw_1, ⟨_, _, rfl⟩, ⟨by decide +kernel, by decide +kernel⟩, by decide +kernel⟩
theorem lm_RL_102 : gLkV RL 102 7 yX7_classOf 3 := ⟨gw_1057, gw_1058, gw_1059, gw_3, ⟨_, _, rfl⟩, ⟨by decide +kernel, by decide +kernel⟩, by decide +kernel⟩
theorem lm_RL_103 : gLkV RL 103 6 yX6_parts 2 := ⟨gw_667, gw_668, gw_669, gw_1, ⟨_, _, rfl⟩, ⟨by decide +kernel, by decide +kernel⟩, by decide +kernel⟩
theorem lm_RL_106 : gLkV RL 106 7 yX7_parts 2 := ⟨gw_1069, gw_1070, gw_1071, gw_3, ⟨_, _, rfl⟩, ⟨by decide +kernel, by decide +kernel⟩, by decide +kernel⟩
theorem lm_RL_107 : gLkV RL 107 6 yX6_sum 3 := ⟨gw_672, gw_673, gw_674, gw_1, ⟨_, _, rfl⟩, ⟨by decide +kernel, by decide +kernel⟩, by decide +kernel⟩
theorem lm_RL_110 : gLkV RL 110 7 yX7_sum 3 := ⟨gw_1073, gw_1074, gw_1075, gw_3, ⟨_, _, rfl⟩, ⟨by decide +kernel, by decide +kernel⟩, by decide +kernel⟩
theorem lm_RL_111 : gLkV RL 111 6 yX6_times 3 := ⟨gw_677, gw_678, gw_679, gw_1, ⟨_, _, rfl⟩, ⟨by decide +kernel, by decide +kernel⟩, by decide +kernel⟩
theorem lm_RL_114 : gLkV RL 114 7 yX7_times 3 := ⟨gw_1077, gw_1078, gw_1079, gw_3, ⟨_, _, rfl⟩, ⟨by decide +kernel, by decide +kernel⟩, by decide +kernel⟩
theorem lm_RL_115 : gLkV RL 115 6 yX6_count 1 := ⟨gw_681, gw_682, gw_683, gw_1, ⟨_, _, rfl⟩, ⟨by decide +kernel, by decide +kernel⟩, by decide +kernel⟩
theorem lm_RL_118 : gLkV RL 118 7 yX7_count 1 := ⟨gw_1081, gw_1082, gw_1083, gw_3, ⟨_, _, rfl⟩, ⟨by decide +kernel, by decide +kernel⟩, by decide +kernel⟩
theorem lm_RL_119 : gLkV RL 119 6 yX6_leave 0 := ⟨gw_685, gw_686, gw_687, gw_1, ⟨_, _, rfl⟩, ⟨by decide +kernel, by decide +kernel⟩, by decide +kernel⟩
theorem lm_RL_122 : gLkV RL 122 7 yX7_leave 0 := ⟨gw_1085, gw_1086, gw_1087, gw_3, ⟨_, _, rfl⟩, ⟨by decide +kernel, by decide +kernel⟩, by decide +kernel⟩
theorem cd_X6_power : Cond.code yX6_power cX6_power 4 (some .int) ∈ lw_tbl := gw_480
theorem cd_X0_put : Cond.code yX0_put cX0_put 7 none ∈ lw_tbl := gw_484
theorem cd_J7_fill_53178 : Cond.code yJ7_fill_53178 cJ7_fill_53178 4 none ∈ lw_tbl := gw_196
theorem cd_J9_max_7cf53 : Cond.code yJ9_max_7cf53 cJ9_max_7cf53 2 (some .int) ∈ lw_tbl := gw_394
theorem cd_X1_number : Cond.code yX1_number cX1_number 3 (some .int) ∈ lw_tbl := gw_604
theorem cd_X2_mul : Cond.code yX2_mul cX2_mul 3 (some .int) ∈ lw_tbl := gw_144
theorem cd_X2_set : Cond.code yX2_set cX2_set 4 none ∈ lw_tbl := gw_128
theorem cd_J9_min_7cf53 : Cond.code yJ9_min_7cf53 cJ9_min_7cf53 2 (some .int) ∈ lw_tbl := gw_257
theorem cd_X3_nextOfPeriod : Cond.code yX3_nextOfPeriod cX3_nextOfPeriod 5 (some .int) ∈ lw_tbl := gw_362
theorem cd_X0_place : Cond.code yX0_place cX0_place 4 (some .int) ∈ lw_tbl := gw_573
theorem cd_X0_entry : Cond.code yX0_entry cX0_entry 4 (some .int) ∈ lw_tbl := gw_509
theorem cd_X0_places : Cond.code yX0_places cX0_places 1 (some .int) ∈ lw_tbl := gw_564
theorem cd_X6_actionAt : Cond.code yX6_actionAt cX6_actionAt 2 (some (.object "GroupTowers$Action")) ∈ lw_tbl := gw_492
theorem cd_X2_has : Cond.code yX2_has cX2_has 2 (some .boolean) ∈ lw_tbl := gw_220
theorem cd_X0_isNumber : Cond.code yX0_isNumber cX0_isNumber 2 (some .boolean) ∈ lw_tbl := gw_496
theorem cd_X4_init : Cond.code yX4_init cX4_init 1 none ∈ lw_tbl := gw_29
theorem cd_X6_sheetAt : Cond.code yX6_sheetAt cX6_sheetAt 2 (some (.object "GroupTowers$Sheet")) ∈ lw_tbl := gw_186
theorem cd_X4_put : Cond.code yX4_put cX4_put 3 none ∈ lw_tbl := gw_204
theorem cd_J9_floorMod_7cf53 : Cond.code yJ9_floorMod_7cf53 cJ9_floorMod_7cf53 3 (some .int) ∈ lw_tbl := gw_124
theorem cd_X6_groupAt : Cond.code yX6_groupAt cX6_groupAt 2 (some (.object "GroupTowers$Group")) ∈ lw_tbl := gw_174
theorem cd_X2_init : Cond.code yX2_init cX2_init 1 none ∈ lw_tbl := gw_79
theorem cd_X7_lessBound : Cond.code yX7_lessBound cX7_lessBound 4 none ∈ lw_tbl := gw_1033
theorem cd_X7_in : Cond.code yX7_in cX7_in 6 (some .boolean) ∈ lw_tbl := gw_826
theorem cd_X7_set : Cond.code yX7_set cX7_set 4 none ∈ lw_tbl := gw_830
theorem cd_X7_added : Cond.code yX7_added cX7_added 2 (some .int) ∈ lw_tbl := gw_834
theorem cd_X7_clearLine : Cond.code yX7_clearLine cX7_clearLine 2 none ∈ lw_tbl := gw_997
theorem cd_X7_placeOf : Cond.code yX7_placeOf cX7_placeOf 4 (some .int) ∈ lw_tbl := gw_1025
theorem cd_X7_matrix : Cond.code yX7_matrix cX7_matrix 5 (some .int) ∈ lw_tbl := gw_975
theorem cd_X7_addTo : Cond.code yX7_addTo cX7_addTo 3 none ∈ lw_tbl := gw_1001
theorem cd_X7_prod : Cond.code yX7_prod cX7_prod 4 (some .int) ∈ lw_tbl := gw_855
theorem cd_X7_isMade : Cond.code yX7_isMade cX7_isMade 2 (some .boolean) ∈ lw_tbl := gw_921
theorem cd_X7_reduceLine : Cond.code yX7_reduceLine cX7_reduceLine 4 none ∈ lw_tbl := gw_1009
theorem cd_X7_faultOf : Cond.code yX7_faultOf cX7_faultOf 4 (some .int) ∈ lw_tbl := gw_873
theorem cd_X6_mod : Cond.code yX6_mod cX6_mod 2 (some .int) ∈ lw_tbl := gw_121
theorem cd_X6_quotient : Cond.code yX6_quotient cX6_quotient 2 (some .int) ∈ lw_tbl := gw_625
theorem cd_X1_leadsAt : Cond.code yX1_leadsAt cX1_leadsAt 2 (some .boolean) ∈ lw_tbl := gw_548
theorem cd_X2_countCommuting : Cond.code yX2_countCommuting cX2_countCommuting 4 (some .int) ∈ lw_tbl := gw_250
theorem cd_X2_span : Cond.code yX2_span cX2_span 9 (some .long) ∈ lw_tbl := gw_274
theorem cd_J13_bitCount_95d88 : Cond.code yJ13_bitCount_95d88 cJ13_bitCount_95d88 2 (some .int) ∈ lw_tbl := gw_277
theorem cd_X2_leastTurned : Cond.code yX2_leastTurned cX2_leastTurned 4 (some .int) ∈ lw_tbl := gw_254
theorem cd_X2_extendMakers : Cond.code yX2_extendMakers cX2_extendMakers 11 (some .boolean) ∈ lw_tbl := gw_300
theorem cd_X2_findInverse : Cond.code yX2_findInverse cX2_findInverse 3 (some .int) ∈ lw_tbl := gw_140
theorem cd_X2_findPeriod : Cond.code yX2_findPeriod cX2_findPeriod 4 (some .int) ∈ lw_tbl := gw_148
theorem cd_X1_init : Cond.code yX1_init cX1_init 3 none ∈ lw_tbl := gw_390
theorem cd_X1_leadingNumber : Cond.code yX1_leadingNumber cX1_leadingNumber 3 (some .int) ∈ lw_tbl := gw_600
theorem cd_X6_isLane : Cond.code yX6_isLane cX6_isLane 1 (some .boolean) ∈ lw_tbl := gw_189
theorem cd_X4_renew : Cond.code yX4_renew cX4_renew 3 none ∈ lw_tbl := gw_193
theorem cd_X7_settles : Cond.code yX7_settles cX7_settles 6 none ∈ lw_tbl := gw_1005
theorem cd_X7_twisted : Cond.code yX7_twisted cX7_twisted 4 (some .int) ∈ lw_tbl := gw_1052
theorem cd_X7_isGroup : Cond.code yX7_isGroup cX7_isGroup 2 (some .boolean) ∈ lw_tbl := gw_851
theorem cd_X7_makes : Cond.code yX7_makes cX7_makes 6 none ∈ lw_tbl := gw_917
theorem cd_X7_inverse : Cond.code yX7_inverse cX7_inverse 4 (some .int) ∈ lw_tbl := gw_897
theorem cd_X7_orderOf : Cond.code yX7_orderOf cX7_orderOf 5 (some .int) ∈ lw_tbl := gw_901
theorem cd_X7_equation : Cond.code yX7_equation cX7_equation 7 none ∈ lw_tbl := gw_1021
theorem cd_X7_isModule : Cond.code yX7_isModule cX7_isModule 2 (some .boolean) ∈ lw_tbl := gw_967
theorem cd_X0_goesWithProduct : Cond.code yX0_goesWithProduct cX0_goesWithProduct 8 (some .boolean) ∈ lw_tbl := gw_513
theorem cd_X5_init : Cond.code yX5_init cX5_init 1 none ∈ lw_tbl := gw_384
theorem cd_X6_addDigits : Cond.code yX6_addDigits cX6_addDigits 7 (some .int) ∈ lw_tbl := gw_650
theorem cd_X1_reduce : Cond.code yX1_reduce cX1_reduce 7 none ∈ lw_tbl := gw_544
theorem cd_X1_firstNotZero : Cond.code yX1_firstNotZero cX1_firstNotZero 3 (some .int) ∈ lw_tbl := gw_552
theorem cd_X1_inverseOf : Cond.code yX1_inverseOf cX1_inverseOf 3 (some .int) ∈ lw_tbl := gw_556
theorem cd_X2_bringsAllToZero : Cond.code yX2_bringsAllToZero cX2_bringsAllToZero 3 (some .boolean) ∈ lw_tbl := gw_288
theorem cd_X2_firstUnlike : Cond.code yX2_firstUnlike cX2_firstUnlike 4 (some .int) ∈ lw_tbl := gw_224
theorem cd_X2_firstWithoutInverse : Cond.code yX2_firstWithoutInverse cX2_firstWithoutInverse 2 (some .int) ∈ lw_tbl := gw_228
theorem cd_X5_readPair : Cond.code yX5_readPair cX5_readPair 8 (some .boolean) ∈ lw_tbl := gw_664
theorem cd_X1_leadOf : Cond.code yX1_leadOf cX1_leadOf 2 (some .int) ∈ lw_tbl := gw_582
theorem cd_X5_numberOf : Cond.code yX5_numberOf cX5_numberOf 10 (some .int) ∈ lw_tbl := gw_621
theorem cd_X2_settle : Cond.code yX2_settle cX2_settle 2 none ∈ lw_tbl := gw_136
theorem cd_X2_countMade : Cond.code yX2_countMade cX2_countMade 3 (some .int) ∈ lw_tbl := gw_308
theorem cd_X7_friends : Cond.code yX7_friends cX7_friends 5 (some .int) ∈ lw_tbl := gw_905
theorem cd_X7_turnsMade : Cond.code yX7_turnsMade cX7_turnsMade 6 (some .int) ∈ lw_tbl := gw_929
theorem cd_X7_leastTurned : Cond.code yX7_leastTurned cX7_leastTurned 6 (some .int) ∈ lw_tbl := gw_909
theorem cd_X7_leastMakers : Cond.code yX7_leastMakers cX7_leastMakers 16 (some .int) ∈ lw_tbl := gw_933
theorem cd_X7_isElement : Cond.code yX7_isElement cX7_isElement 3 (some .boolean) ∈ lw_tbl := gw_889
theorem cd_X7_start : Cond.code yX7_start cX7_start 2 none ∈ lw_tbl := gw_989
theorem cd_X7_dimensionNone : Cond.code yX7_dimensionNone cX7_dimensionNone 4 none ∈ lw_tbl := gw_993
theorem cd_X7_dimensionOne : Cond.code yX7_dimensionOne cX7_dimensionOne 6 none ∈ lw_tbl := gw_1013
theorem cd_X7_pairs : Cond.code yX7_pairs cX7_pairs 5 none ∈ lw_tbl := gw_1017
theorem cd_X7_bounds : Cond.code yX7_bounds cX7_bounds 7 none ∈ lw_tbl := gw_1029
theorem cd_X7_ofOrder : Cond.code yX7_ofOrder cX7_ofOrder 5 (some .int) ∈ lw_tbl := gw_942
theorem cd_X7_leastRow : Cond.code yX7_leastRow cX7_leastRow 6 none ∈ lw_tbl := gw_946
theorem cd_X7_nextLike : Cond.code yX7_nextLike cX7_nextLike 7 (some .int) ∈ lw_tbl := gw_950
theorem cd_X7_goes : Cond.code yX7_goes cX7_goes 11 (some .boolean) ∈ lw_tbl := gw_954
theorem cd_X5_vectorOf : Cond.code yX5_vectorOf cX5_vectorOf 7 (some .int) ∈ lw_tbl := gw_637
theorem cd_X0_move : Cond.code yX0_move cX0_move 7 (some .int) ∈ lw_tbl := gw_642
theorem cd_X0_plus : Cond.code yX0_plus cX0_plus 3 (some .int) ∈ lw_tbl := gw_647
theorem cd_X1_begin : Cond.code yX1_begin cX1_begin 3 none ∈ lw_tbl := gw_533
theorem cd_X5_writeBound : Cond.code yX5_writeBound cX5_writeBound 8 none ∈ lw_tbl := gw_568
theorem cd_X1_add : Cond.code yX1_add cX1_add 5 none ∈ lw_tbl := gw_539
theorem cd_X5_writeStandard : Cond.code yX5_writeStandard cX5_writeStandard 9 none ∈ lw_tbl := gw_596
theorem cd_X6_spareGroup : Cond.code yX6_spareGroup cX6_spareGroup 1 (some (.object "GroupTowers$Group")) ∈ lw_tbl := gw_75
theorem cd_X2_fillTurns : Cond.code yX2_fillTurns cX2_fillTurns 4 none ∈ lw_tbl := gw_118
theorem cd_X6_keep : Cond.code yX6_keep cX6_keep 2 (some .int) ∈ lw_tbl := gw_132
theorem cd_X2_fillTurnsAndFlips : Cond.code yX2_fillTurnsAndFlips cX2_fillTurnsAndFlips 6 none ∈ lw_tbl := gw_156
theorem cd_X0_begin : Cond.code yX0_begin cX0_begin 5 none ∈ lw_tbl := gw_477
theorem cd_X0_init : Cond.code yX0_init cX0_init 1 none ∈ lw_tbl := gw_378
theorem cd_X2_fillPair : Cond.code yX2_fillPair cX2_fillPair 8 none ∈ lw_tbl := gw_178
theorem cd_X2_fillUnits : Cond.code yX2_fillUnits cX2_fillUnits 3 none ∈ lw_tbl := gw_164
theorem cd_X0_firstUnsound : Cond.code yX0_firstUnsound cX0_firstUnsound 3 (some .int) ∈ lw_tbl := gw_505
theorem cd_X4_faultOfReading : Cond.code yX4_faultOfReading cX4_faultOfReading 3 (some .int) ∈ lw_tbl := gw_212
theorem cd_X2_readFrom : Cond.code yX2_readFrom cX2_readFrom 6 (some .int) ∈ lw_tbl := gw_216
theorem cd_X7_sound : Cond.code yX7_sound cX7_sound 9 (some .int) ∈ lw_tbl := gw_971
theorem cd_X7_know : Cond.code yX7_know cX7_know 4 none ∈ lw_tbl := gw_985
theorem cd_X7_isCocycle : Cond.code yX7_isCocycle cX7_isCocycle 8 (some .boolean) ∈ lw_tbl := gw_1064
theorem cd_X7_classOfLine : Cond.code yX7_classOfLine cX7_classOfLine 4 (some .int) ∈ lw_tbl := gw_1068
theorem cd_X7_power : Cond.code yX7_power cX7_power 4 (some .int) ∈ lw_tbl := gw_1044
theorem cd_X7_lacks : Cond.code yX7_lacks cX7_lacks 3 (some .int) ∈ lw_tbl := gw_1041
theorem cd_X7_sumOf : Cond.code yX7_sumOf cX7_sumOf 5 none ∈ lw_tbl := gw_1048
theorem cd_X3_likeInPeriods : Cond.code yX3_likeInPeriods cX3_likeInPeriods 4 (some .boolean) ∈ lw_tbl := gw_351
theorem cd_X2_findMakers : Cond.code yX2_findMakers cX2_findMakers 2 (some .int) ∈ lw_tbl := gw_297
theorem cd_X3_layPaths : Cond.code yX3_layPaths cX3_layPaths 8 none ∈ lw_tbl := gw_357
theorem cd_X3_goesWithProducts : Cond.code yX3_goesWithProducts cX3_goesWithProducts 6 (some .boolean) ∈ lw_tbl := gw_366
theorem cd_X3_stepGiven : Cond.code yX3_stepGiven cX3_stepGiven 6 (some .boolean) ∈ lw_tbl := gw_370
theorem cd_X5_writeCocycleRule : Cond.code yX5_writeCocycleRule cX5_writeCocycleRule 10 none ∈ lw_tbl := gw_587
theorem cd_X2_countCentral : Cond.code yX2_countCentral cX2_countCentral 3 (some .int) ∈ lw_tbl := gw_265
theorem cd_X2_countDerived : Cond.code yX2_countDerived cX2_countDerived 7 (some .int) ∈ lw_tbl := gw_270
theorem cd_X2_exponent : Cond.code yX2_exponent cX2_exponent 2 (some .int) ∈ lw_tbl := gw_284
theorem cd_X2_countTurnClasses : Cond.code yX2_countTurnClasses cX2_countTurnClasses 3 (some .int) ∈ lw_tbl := gw_292
theorem cd_X3_search : Cond.code yX3_search cX3_search 5 (some .int) ∈ lw_tbl := gw_347
theorem cd_X3_init : Cond.code yX3_init cX3_init 1 none ∈ lw_tbl := gw_317
theorem cd_X5_findUnmoved : Cond.code yX5_findUnmoved cX5_findUnmoved 6 none ∈ lw_tbl := gw_529
theorem cd_X5_findBounds : Cond.code yX5_findBounds cX5_findBounds 4 none ∈ lw_tbl := gw_560
theorem cd_X5_writeEquations : Cond.code yX5_writeEquations cX5_writeEquations 9 none ∈ lw_tbl := gw_578
theorem cd_X5_findStandards : Cond.code yX5_findStandards cX5_findStandards 5 none ∈ lw_tbl := gw_591
theorem cd_X6_solve : Cond.code yX6_solve cX6_solve 3 none ∈ lw_tbl := gw_523
theorem cd_X5_classRead : Cond.code yX5_classRead cX5_classRead 5 (some .int) ∈ lw_tbl := gw_660
theorem cd_X5_dimensionOf : Cond.code yX5_dimensionOf cX5_dimensionOf 2 (some .int) ∈ lw_tbl := gw_610
theorem cd_X6_refusalOf : Cond.code yX6_refusalOf cX6_refusalOf 2 (some .int) ∈ lw_tbl := gw_617
theorem cd_X2_fillOver : Cond.code yX2_fillOver cX2_fillOver 11 none ∈ lw_tbl := gw_633
theorem cd_X6_init : Cond.code yX6_init cX6_init 2 none ∈ lw_tbl := gw_16
theorem cd_X7_init : Cond.code yX7_init cX7_init 1 none ∈ lw_tbl := gw_693
theorem cd_X6_cyclic : Cond.code yX6_cyclic cX6_cyclic 3 (some .int) ∈ lw_tbl := gw_71
theorem cd_X7_cyclic : Cond.code yX7_cyclic cX7_cyclic 4 (some .int) ∈ lw_tbl := gw_822
theorem cd_X6_dihedral : Cond.code yX6_dihedral cX6_dihedral 3 (some .int) ∈ lw_tbl := gw_152
theorem cd_X7_dihedral : Cond.code yX7_dihedral cX7_dihedral 4 (some .int) ∈ lw_tbl := gw_838
theorem cd_X6_quaternions : Cond.code yX6_quaternions cX6_quaternions 2 (some .int) ∈ lw_tbl := gw_160
theorem cd_X7_quaternions : Cond.code yX7_quaternions cX7_quaternions 8 (some .int) ∈ lw_tbl := gw_843
theorem cd_X6_pair : Cond.code yX6_pair cX6_pair 6 (some .int) ∈ lw_tbl := gw_170
theorem cd_X7_pair : Cond.code yX7_pair cX7_pair 7 (some .int) ∈ lw_tbl := gw_847
theorem cd_X6_sheet : Cond.code yX6_sheet cX6_sheet 5 (some .int) ∈ lw_tbl := gw_182
theorem cd_X7_sheet : Cond.code yX7_sheet cX7_sheet 5 (some .int) ∈ lw_tbl := gw_859
theorem cd_X6_lay : Cond.code yX6_lay cX6_lay 5 (some .int) ∈ lw_tbl := gw_200
theorem cd_X7_lay : Cond.code yX7_lay cX7_lay 4 (some .int) ∈ lw_tbl := gw_864
theorem cd_X6_table : Cond.code yX6_table cX6_table 8 (some .int) ∈ lw_tbl := gw_208
theorem cd_X7_table : Cond.code yX7_table cX7_table 10 (some .int) ∈ lw_tbl := gw_868
theorem cd_X6_drop : Cond.code yX6_drop cX6_drop 3 (some .int) ∈ lw_tbl := gw_232
theorem cd_X7_drop : Cond.code yX7_drop cX7_drop 2 (some .int) ∈ lw_tbl := gw_877
theorem cd_X6_order : Cond.code yX6_order cX6_order 3 (some .int) ∈ lw_tbl := gw_236
theorem cd_X7_order : Cond.code yX7_order cX7_order 2 (some .int) ∈ lw_tbl := gw_881
theorem cd_X6_product : Cond.code yX6_product cX6_product 5 (some .int) ∈ lw_tbl := gw_240
theorem cd_X7_product : Cond.code yX7_product cX7_product 4 (some .int) ∈ lw_tbl := gw_885
theorem cd_X6_element : Cond.code yX6_element cX6_element 5 (some .int) ∈ lw_tbl := gw_246
theorem cd_X7_element : Cond.code yX7_element cX7_element 4 (some .int) ∈ lw_tbl := gw_893
theorem cd_X6_about : Cond.code yX6_about cX6_about 4 (some .int) ∈ lw_tbl := gw_261
theorem cd_X7_about : Cond.code yX7_about cX7_about 8 (some .int) ∈ lw_tbl := gw_925
theorem cd_X6_made : Cond.code yX6_made cX6_made 5 (some .int) ∈ lw_tbl := gw_304
theorem cd_X7_made : Cond.code yX7_made cX7_made 4 (some .int) ∈ lw_tbl := gw_913
theorem cd_X6_same : Cond.code yX6_same cX6_same 6 (some .int) ∈ lw_tbl := gw_312
theorem cd_X7_same : Cond.code yX7_same cX7_same 9 (some .int) ∈ lw_tbl := gw_937
theorem cd_X6_module : Cond.code yX6_module cX6_module 5 (some .int) ∈ lw_tbl := gw_374
theorem cd_X7_module : Cond.code yX7_module cX7_module 6 (some .int) ∈ lw_tbl := gw_958
theorem cd_X6_acts : Cond.code yX6_acts cX6_acts 8 (some .int) ∈ lw_tbl := gw_488
theorem cd_X7_acts : Cond.code yX7_acts cX7_acts 10 (some .int) ∈ lw_tbl := gw_963
theorem cd_X6_sound : Cond.code yX6_sound cX6_sound 3 (some .int) ∈ lw_tbl := gw_501
theorem cd_X6_dimension : Cond.code yX6_dimension cX6_dimension 4 (some .int) ∈ lw_tbl := gw_519
theorem cd_X7_dimension : Cond.code yX7_dimension cX7_dimension 3 (some .int) ∈ lw_tbl := gw_979
theorem cd_X6_twist : Cond.code yX6_twist cX6_twist 8 (some .int) ∈ lw_tbl := gw_614
theorem cd_X7_twist : Cond.code yX7_twist cX7_twist 7 (some .int) ∈ lw_tbl := gw_1037
theorem cd_X6_over : Cond.code yX6_over cX6_over 6 (some .int) ∈ lw_tbl := gw_629
theorem cd_X7_over : Cond.code yX7_over cX7_over 13 (some .int) ∈ lw_tbl := gw_1056
theorem cd_X6_classOf : Cond.code yX6_classOf cX6_classOf 7 (some .int) ∈ lw_tbl := gw_656
theorem cd_X7_classOf : Cond.code yX7_classOf cX7_classOf 9 (some .int) ∈ lw_tbl := gw_1060
theorem cd_X6_parts : Cond.code yX6_parts cX6_parts 5 (some .int) ∈ lw_tbl := gw_670
theorem cd_X7_parts : Cond.code yX7_parts cX7_parts 4 (some .int) ∈ lw_tbl := gw_1072
theorem cd_X6_sum : Cond.code yX6_sum cX6_sum 6 (some .int) ∈ lw_tbl := gw_675
theorem cd_X7_sum : Cond.code yX7_sum cX7_sum 8 (some .int) ∈ lw_tbl := gw_1076
theorem cd_X6_times : Cond.code yX6_times cX6_times 8 (some .int) ∈ lw_tbl := gw_680
theorem cd_X7_times : Cond.code yX7_times cX7_times 8 (some .int) ∈ lw_tbl := gw_1080
theorem cd_X6_count : Cond.code yX6_count cX6_count 2 (some .int) ∈ lw_tbl := gw_684
theorem cd_X7_count : Cond.code yX7_count cX7_count 2 (some .int) ∈ lw_tbl := gw_1084
theorem cd_X6_leave : Cond.code yX6_leave cX6_leave 1 (some .int) ∈ lw_tbl := gw_688
theorem cd_X7_leave : Cond.code yX7_leave cX7_leave 1 (some .int) ∈ lw_tbl := gw_1088
abbrev rmJ13_bitCount_95d88 : Room := { frames := 1, cells := 0, slots := 0, locals := 40 }
abbrev rmJ7_fill_53178 : Room := { frames := 1, cells := 0, slots := 0, locals := 40 }
abbrev rmJ9_floorMod_7cf53 : Room := { frames := 1, cells := 0, slots := 0, locals := 40 }
abbrev rmJ9_max_7cf53 : Room := { frames := 1, cells := 0, slots := 0, locals := 40 }
abbrev rmJ9_min_7cf53 : Room := { frames := 1, cells := 0, slots := 0, locals := 40 }
abbrev rmX0_entry : Room := { frames := 1, cells := 0, slots := 0, locals := 40 }
abbrev rmX0_isNumber : Room := { frames := 1, cells := 0, slots := 0, locals := 40 }
abbrev rmX0_place : Room := { frames := 1, cells := 0, slots := 0, locals := 40 }
abbrev rmX0_places : Room := { frames := 1, cells := 0, slots := 0, locals := 40 }
abbrev rmX0_put : Room := { frames := 1, cells := 0, slots := 0, locals := 40 }
abbrev rmX1_firstNotZero : Room := { frames := 1, cells := 0, slots := 0, locals := 40 }
abbrev rmX1_leadOf : Room := { frames := 1, cells := 0, slots := 0, locals := 40 }
abbrev rmX1_leadsAt : Room := { frames := 1, cells := 0, slots := 0, locals := 40 }
abbrev rmX1_number : Room := { frames := 1, cells := 0, slots := 0, locals := 40 }
abbrev rmX2_has : Room := { frames := 1, cells := 0, slots := 0, locals := 40 }
abbrev rmX2_init : Room := { frames := 1, cells := 6, slots := 2501, locals := 40 }
abbrev rmX2_mul : Room := { frames := 1, cells := 0, slots := 0, locals := 40 }
abbrev rmX2_set : Room := { frames := 1, cells := 0, slots := 0, locals := 40 }
abbrev rmX3_init : Room := { frames := 1, cells := 7, slots := 294, locals := 40 }
abbrev rmX3_nextOfPeriod : Room := { frames := 1, cells := 0, slots := 0, locals := 40 }
abbrev rmX4_faultOfReading : Room := { frames := 1, cells := 0, slots := 0, locals := 40 }
abbrev rmX4_init : Room := { frames := 1, cells := 1, slots := 144, locals := 40 }
abbrev rmX4_put : Room := { frames := 1, cells := 0, slots := 0, locals := 40 }
abbrev rmX5_dimensionOf : Room := { frames := 1, cells := 0, slots := 0, locals := 40 }
abbrev rmX6_actionAt : Room := { frames := 1, cells := 0, slots := 0, locals := 40 }
abbrev rmX6_count : Room := { frames := 1, cells := 0, slots := 0, locals := 40 }
abbrev rmX6_drop : Room := { frames := 1, cells := 0, slots := 0, locals := 40 }
abbrev rmX6_groupAt : Room := { frames := 1, cells := 0, slots := 0, locals := 40 }
abbrev rmX6_isLane : Room := { frames := 1, cells := 0, slots := 0, locals := 40 }
abbrev rmX6_leave : Room := { frames := 1, cells := 0, slots := 0, locals := 40 }
abbrev rmX6_power : Room := { frames := 1, cells := 0, slots := 0, locals := 40 }
abbrev rmX6_quotient : Room := { frames := 1, cells := 0, slots := 0, locals := 40 }
abbrev rmX6_refusalOf : Room := { frames := 1, cells := 0, slots := 0, locals := 40 }
abbrev rmX6_sheetAt : Room := { frames := 1, cells := 0, slots := 0, locals := 40 }
abbrev rmX7_addTo : Room := { frames := 1, cells := 0, slots := 0, locals := 40 }
abbrev rmX7_added : Room := { frames := 1, cells := 0, slots := 0, locals := 40 }
abbrev rmX7_clearLine : Room := { frames := 1, cells := 0, slots := 0, locals := 40 }
abbrev rmX7_count : Room := { frames := 1, cells := 0, slots := 0, locals := 40 }
abbrev rmX7_drop : Room := { frames := 1, cells := 0, slots := 0, locals := 40 }
abbrev rmX7_faultOf : Room := { frames := 1, cells := 0, slots := 0, locals := 40 }
abbrev rmX7_in : Room := { frames := 1, cells := 0, slots := 0, locals := 40 }
abbrev rmX7_init : Room := { frames := 1, cells := 26, slots := 132921, locals := 40 }
abbrev rmX7_isMade : Room := { frames := 1, cells := 0, slots := 0, locals := 40 }
abbrev rmX7_leave : Room := { frames := 1, cells := 0, slots := 0, locals := 40 }
abbrev rmX7_lessBound : Room := { frames := 1, cells := 0, slots := 0, locals := 40 }
abbrev rmX7_matrix : Room := { frames := 1, cells := 0, slots := 0, locals := 40 }
abbrev rmX7_placeOf : Room := { frames := 1, cells := 0, slots := 0, locals := 40 }
abbrev rmX7_power : Room := { frames := 1, cells := 0, slots := 0, locals := 40 }
abbrev rmX7_prod : Room := { frames := 1, cells := 0, slots := 0, locals := 40 }
abbrev rmX7_reduceLine : Room := { frames := 1, cells := 0, slots := 0, locals := 40 }
abbrev rmX7_set : Room := { frames := 1, cells := 0, slots := 0, locals := 40 }
abbrev rmX7_start : Room := { frames := 1, cells := 0, slots := 0, locals := 40 }
abbrev rmX0_begin : Room := { frames := 2, cells := 0, slots := 0, locals := 80 }
abbrev rmX1_begin : Room := { frames := 2, cells := 0, slots := 0, locals := 80 }
abbrev rmX1_init (lim : Nat) : Room := { frames := 2, cells := 3, slots := 98 + (lim * 98 + lim), locals := 80 }
abbrev rmX1_leadingNumber : Room := { frames := 2, cells := 0, slots := 0, locals := 80 }
abbrev rmX2_countCommuting : Room := { frames := 2, cells := 0, slots := 0, locals := 80 }
abbrev rmX2_fillPair : Room := { frames := 2, cells := 0, slots := 0, locals := 80 }
abbrev rmX2_fillUnits : Room := { frames := 2, cells := 0, slots := 0, locals := 80 }
abbrev rmX2_findInverse : Room := { frames := 2, cells := 0, slots := 0, locals := 80 }
abbrev rmX2_findPeriod : Room := { frames := 2, cells := 0, slots := 0, locals := 80 }
abbrev rmX2_firstUnlike : Room := { frames := 2, cells := 0, slots := 0, locals := 80 }
abbrev rmX2_leastTurned : Room := { frames := 2, cells := 0, slots := 0, locals := 80 }
abbrev rmX2_span : Room := { frames := 2, cells := 0, slots := 0, locals := 80 }
abbrev rmX3_goesWithProducts : Room := { frames := 2, cells := 0, slots := 0, locals := 80 }
abbrev rmX3_layPaths : Room := { frames := 2, cells := 0, slots := 0, locals := 80 }
abbrev rmX3_likeInPeriods : Room := { frames := 2, cells := 0, slots := 0, locals := 80 }
abbrev rmX3_stepGiven : Room := { frames := 2, cells := 0, slots := 0, locals := 80 }
abbrev rmX4_renew : Room := { frames := 2, cells := 0, slots := 0, locals := 80 }
abbrev rmX5_writeBound : Room := { frames := 2, cells := 0, slots := 0, locals := 80 }
abbrev rmX5_writeCocycleRule : Room := { frames := 2, cells := 0, slots := 0, locals := 80 }
abbrev rmX6_acts : Room := { frames := 2, cells := 0, slots := 0, locals := 80 }
abbrev rmX6_init : Room := { frames := 2, cells := 13, slots := 753, locals := 80 }
abbrev rmX6_lay : Room := { frames := 2, cells := 0, slots := 0, locals := 80 }
abbrev rmX6_mod : Room := { frames := 2, cells := 0, slots := 0, locals := 80 }
abbrev rmX6_order : Room := { frames := 2, cells := 0, slots := 0, locals := 80 }
abbrev rmX6_product : Room := { frames := 2, cells := 0, slots := 0, locals := 80 }
abbrev rmX6_spareGroup : Room := { frames := 2, cells := 7, slots := 2509, locals := 80 }
abbrev rmX7_classOfLine : Room := { frames := 2, cells := 0, slots := 0, locals := 80 }
abbrev rmX7_cyclic : Room := { frames := 2, cells := 0, slots := 0, locals := 80 }
abbrev rmX7_dihedral : Room := { frames := 2, cells := 0, slots := 0, locals := 80 }
abbrev rmX7_equation : Room := { frames := 2, cells := 0, slots := 0, locals := 80 }
abbrev rmX7_friends : Room := { frames := 2, cells := 0, slots := 0, locals := 80 }
abbrev rmX7_goes : Room := { frames := 2, cells := 0, slots := 0, locals := 80 }
abbrev rmX7_inverse : Room := { frames := 2, cells := 0, slots := 0, locals := 80 }
abbrev rmX7_isGroup : Room := { frames := 2, cells := 0, slots := 0, locals := 80 }
abbrev rmX7_isModule : Room := { frames := 2, cells := 0, slots := 0, locals := 80 }
abbrev rmX7_lay : Room := { frames := 2, cells := 0, slots := 0, locals := 80 }
abbrev rmX7_makes : Room := { frames := 2, cells := 0, slots := 0, locals := 80 }
abbrev rmX7_orderOf : Room := { frames := 2, cells := 0, slots := 0, locals := 80 }
abbrev rmX7_quaternions : Room := { frames := 2, cells := 0, slots := 0, locals := 80 }
abbrev rmX7_settles : Room := { frames := 2, cells := 0, slots := 0, locals := 80 }
abbrev rmX7_sheet : Room := { frames := 2, cells := 0, slots := 0, locals := 80 }
abbrev rmX7_sumOf : Room := { frames := 2, cells := 0, slots := 0, locals := 80 }
abbrev rmX7_table : Room := { frames := 2, cells := 0, slots := 0, locals := 80 }
abbrev rmX7_twisted : Room := { frames := 2, cells := 0, slots := 0, locals := 80 }
abbrev rmX0_goesWithProduct : Room := { frames := 3, cells := 0, slots := 0, locals := 120 }
abbrev rmX0_move : Room := { frames := 3, cells := 0, slots := 0, locals := 120 }
abbrev rmX1_inverseOf : Room := { frames := 3, cells := 0, slots := 0, locals := 120 }
abbrev rmX1_reduce : Room := { frames := 3, cells := 0, slots := 0, locals := 120 }
abbrev rmX2_bringsAllToZero : Room := { frames := 3, cells := 0, slots := 0, locals := 120 }
abbrev rmX2_countCentral : Room := { frames := 3, cells := 0, slots := 0, locals := 120 }
abbrev rmX2_countDerived : Room := { frames := 3, cells := 0, slots := 0, locals := 120 }
abbrev rmX2_countMade : Room := { frames := 3, cells := 0, slots := 0, locals := 120 }
abbrev rmX2_countTurnClasses : Room := { frames := 3, cells := 0, slots := 0, locals := 120 }
abbrev rmX2_extendMakers (d : Nat) : Room := { frames := d + 3, cells := 0, slots := 0, locals := 40 * (d + 3) }
abbrev rmX2_fillTurns : Room := { frames := 3, cells := 0, slots := 0, locals := 120 }
abbrev rmX2_fillTurnsAndFlips : Room := { frames := 3, cells := 0, slots := 0, locals := 120 }
abbrev rmX2_firstWithoutInverse : Room := { frames := 3, cells := 0, slots := 0, locals := 120 }
abbrev rmX2_settle : Room := { frames := 3, cells := 0, slots := 0, locals := 120 }
abbrev rmX5_init : Room := { frames := 3, cells := 9, slots := 2880, locals := 120 }
abbrev rmX5_numberOf : Room := { frames := 3, cells := 0, slots := 0, locals := 120 }
abbrev rmX5_readPair : Room := { frames := 3, cells := 0, slots := 0, locals := 120 }
abbrev rmX5_writeStandard : Room := { frames := 3, cells := 0, slots := 0, locals := 120 }
abbrev rmX6_addDigits : Room := { frames := 3, cells := 0, slots := 0, locals := 120 }
abbrev rmX6_element : Room := { frames := 3, cells := 0, slots := 0, locals := 120 }
abbrev rmX6_sheet : Room := { frames := 3, cells := 0, slots := 0, locals := 120 }
abbrev rmX7_bounds : Room := { frames := 3, cells := 0, slots := 0, locals := 120 }
abbrev rmX7_dimensionNone : Room := { frames := 3, cells := 0, slots := 0, locals := 120 }
abbrev rmX7_dimensionOne : Room := { frames := 3, cells := 0, slots := 0, locals := 120 }
abbrev rmX7_isCocycle : Room := { frames := 3, cells := 0, slots := 0, locals := 120 }
abbrev rmX7_isElement : Room := { frames := 3, cells := 0, slots := 0, locals := 120 }
abbrev rmX7_leastMakers : Room := { frames := 3, cells := 0, slots := 0, locals := 120 }
abbrev rmX7_leastRow : Room := { frames := 3, cells := 0, slots := 0, locals := 120 }
abbrev rmX7_leastTurned : Room := { frames := 3, cells := 0, slots := 0, locals := 120 }
abbrev rmX7_module : Room := { frames := 3, cells := 0, slots := 0, locals := 120 }
abbrev rmX7_nextLike : Room := { frames := 3, cells := 0, slots := 0, locals := 120 }
abbrev rmX7_ofOrder : Room := { frames := 3, cells := 0, slots := 0, locals := 120 }
abbrev rmX7_order : Room := { frames := 3, cells := 0, slots := 0, locals := 120 }
abbrev rmX7_pair : Room := { frames := 3, cells := 0, slots := 0, locals := 120 }
abbrev rmX7_pairs : Room := { frames := 3, cells := 0, slots := 0, locals := 120 }
abbrev rmX7_sound : Room := { frames := 3, cells := 0, slots := 0, locals := 120 }
abbrev rmX7_turnsMade : Room := { frames := 3, cells := 0, slots := 0, locals := 120 }
abbrev rmX0_firstUnsound : Room := { frames := 4, cells := 0, slots := 0, locals := 160 }
abbrev rmX0_init : Room := { frames := 4, cells := 11, slots := 2919, locals := 160 }
abbrev rmX0_plus : Room := { frames := 4, cells := 0, slots := 0, locals := 160 }
abbrev rmX1_add : Room := { frames := 4, cells := 0, slots := 0, locals := 160 }
abbrev rmX2_exponent : Room := { frames := 4, cells := 0, slots := 0, locals := 160 }
abbrev rmX2_readFrom : Room := { frames := 4, cells := 0, slots := 0, locals := 160 }
abbrev rmX5_classRead : Room := { frames := 4, cells := 0, slots := 0, locals := 160 }
abbrev rmX5_vectorOf : Room := { frames := 4, cells := 0, slots := 0, locals := 160 }
abbrev rmX6_keep : Room := { frames := 4, cells := 0, slots := 0, locals := 160 }
abbrev rmX6_made : Room := { frames := 4, cells := 0, slots := 0, locals := 160 }
abbrev rmX7_about : Room := { frames := 4, cells := 0, slots := 0, locals := 160 }
abbrev rmX7_acts : Room := { frames := 4, cells := 0, slots := 0, locals := 160 }
abbrev rmX7_element : Room := { frames := 4, cells := 0, slots := 0, locals := 160 }
abbrev rmX7_know : Room := { frames := 4, cells := 0, slots := 0, locals := 160 }
abbrev rmX7_made : Room := { frames := 4, cells := 0, slots := 0, locals := 160 }
abbrev rmX7_product : Room := { frames := 4, cells := 0, slots := 0, locals := 160 }
abbrev rmX7_same : Room := { frames := 4, cells := 0, slots := 0, locals := 160 }
abbrev rmX2_fillOver : Room := { frames := 5, cells := 0, slots := 0, locals := 200 }
abbrev rmX5_findBounds : Room := { frames := 5, cells := 0, slots := 0, locals := 200 }
abbrev rmX5_findStandards : Room := { frames := 5, cells := 0, slots := 0, locals := 200 }
abbrev rmX5_findUnmoved : Room := { frames := 5, cells := 0, slots := 0, locals := 200 }
abbrev rmX6_cyclic : Room := { frames := 5, cells := 7, slots := 2509, locals := 200 }
abbrev rmX6_dihedral : Room := { frames := 5, cells := 7, slots := 2509, locals := 200 }
abbrev rmX6_module : Room := { frames := 5, cells := 12, slots := 2926, locals := 200 }
abbrev rmX6_pair : Room := { frames := 5, cells := 7, slots := 2509, locals := 200 }
abbrev rmX6_quaternions : Room := { frames := 5, cells := 7, slots := 2509, locals := 200 }
abbrev rmX6_sound : Room := { frames := 5, cells := 0, slots := 0, locals := 200 }
abbrev rmX6_table : Room := { frames := 5, cells := 7, slots := 2509, locals := 200 }
abbrev rmX7_classOf : Room := { frames := 5, cells := 0, slots := 0, locals := 200 }
abbrev rmX7_dimension : Room := { frames := 5, cells := 0, slots := 0, locals := 200 }
abbrev rmX7_lacks : Room := { frames := 5, cells := 0, slots := 0, locals := 200 }
abbrev rmX7_over : Room := { frames := 6, cells := 0, slots := 0, locals := 240 }
abbrev rmX7_parts : Room := { frames := 6, cells := 0, slots := 0, locals := 240 }
abbrev rmX7_sum : Room := { frames := 6, cells := 0, slots := 0, locals := 240 }
abbrev rmX7_times : Room := { frames := 6, cells := 0, slots := 0, locals := 240 }
abbrev rmX7_twist : Room := { frames := 6, cells := 0, slots := 0, locals := 240 }
abbrev rmX2_findMakers : Room := { frames := 11, cells := 0, slots := 0, locals := 440 }
abbrev rmX3_search : Room := { frames := 12, cells := 0, slots := 0, locals := 480 }
abbrev rmX5_writeEquations : Room := { frames := 12, cells := 0, slots := 0, locals := 480 }
abbrev rmX6_about : Room := { frames := 12, cells := 0, slots := 0, locals := 480 }
abbrev rmX6_same : Room := { frames := 13, cells := 8, slots := 302, locals := 520 }
abbrev rmX6_solve : Room := { frames := 13, cells := 4, slots := 9806, locals := 520 }
abbrev rmX6_classOf : Room := { frames := 14, cells := 4, slots := 9806, locals := 560 }
abbrev rmX6_dimension : Room := { frames := 14, cells := 4, slots := 9806, locals := 560 }
abbrev rmX6_over : Room := { frames := 14, cells := 11, slots := 12315, locals := 560 }
abbrev rmX6_parts : Room := { frames := 14, cells := 4, slots := 9806, locals := 560 }
abbrev rmX6_sum : Room := { frames := 14, cells := 4, slots := 9806, locals := 560 }
abbrev rmX6_times : Room := { frames := 14, cells := 4, slots := 9806, locals := 560 }
abbrev rmX6_twist : Room := { frames := 14, cells := 4, slots := 9806, locals := 560 }
