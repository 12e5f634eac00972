theorem fl_RX0_13 : FL RX0 13 0 1 RX0 TX0 3 := ⟨rfl, (Nat.le_of_ble_eq_true rfl), iX0, wd_228⟩
theorem fl_RX0_16 : FL RX0 16 0 2 RX0 TX0 3 := ⟨rfl, (Nat.le_of_ble_eq_true rfl), iX0, wd_230⟩
theorem fl_RX0_7 : FL RX0 7 0 0 RX0 TX0 3 := ⟨rfl, (Nat.le_of_ble_eq_true rfl), iX0, wd_226⟩
theorem fl_RX10_103 : FL RX10 103 3 0 RX3 TX3 2 := ⟨rfl, (Nat.le_of_ble_eq_true rfl), iX3, wd_180⟩
theorem fl_RX10_112 : FL RX10 112 9 5 RX9 TX9 7 := ⟨rfl, (Nat.le_of_ble_eq_true rfl), iX9, wd_248⟩
theorem fl_RX10_115 : FL RX10 115 9 6 RX9 TX9 7 := ⟨rfl, (Nat.le_of_ble_eq_true rfl), iX9, wd_250⟩
theorem fl_RX10_118 : FL RX10 118 9 2 RX9 TX9 7 := ⟨rfl, (Nat.le_of_ble_eq_true rfl), iX9, wd_243⟩
theorem fl_RX10_12 : FL RX10 12 10 0 RX10 TX10 6 := ⟨rfl, (Nat.le_of_ble_eq_true rfl), iX10, wd_297⟩
theorem fl_RX10_122 : FL RX10 122 8 0 RX8 TX8 4 := ⟨rfl, (Nat.le_of_ble_eq_true rfl), iX8, wd_204⟩
theorem fl_RX10_127 : FL RX10 127 8 3 RX8 TX8 4 := ⟨rfl, (Nat.le_of_ble_eq_true rfl), iX8, wd_210⟩
theorem fl_RX10_130 : FL RX10 130 9 1 RX9 TX9 7 := ⟨rfl, (Nat.le_of_ble_eq_true rfl), iX9, wd_241⟩
theorem fl_RX10_138 : FL RX10 138 8 1 RX8 TX8 4 := ⟨rfl, (Nat.le_of_ble_eq_true rfl), iX8, wd_206⟩
theorem fl_RX10_141 : FL RX10 141 8 2 RX8 TX8 4 := ⟨rfl, (Nat.le_of_ble_eq_true rfl), iX8, wd_208⟩
theorem fl_RX10_148 : FL RX10 148 9 4 RX9 TX9 7 := ⟨rfl, (Nat.le_of_ble_eq_true rfl), iX9, wd_246⟩
theorem fl_RX10_159 : FL RX10 159 6 4 RX6 TX6 7 := ⟨rfl, (Nat.le_of_ble_eq_true rfl), iX6, wd_77⟩
theorem fl_RX10_169 : FL RX10 169 6 5 RX6 TX6 7 := ⟨rfl, (Nat.le_of_ble_eq_true rfl), iX6, wd_79⟩
theorem fl_RX10_176 : FL RX10 176 6 1 RX6 TX6 7 := ⟨rfl, (Nat.le_of_ble_eq_true rfl), iX6, wd_70⟩
theorem fl_RX10_19 : FL RX10 19 10 1 RX10 TX10 6 := ⟨rfl, (Nat.le_of_ble_eq_true rfl), iX10, wd_298⟩
theorem fl_RX10_200 : FL RX10 200 1 0 RX1 TX1 2 := ⟨rfl, (Nat.le_of_ble_eq_true rfl), iX1, wd_289⟩
theorem fl_RX10_224 : FL RX10 224 4 2 RX4 TX4 3 := ⟨rfl, (Nat.le_of_ble_eq_true rfl), iX4, wd_164⟩
theorem fl_RX10_234 : FL RX10 234 7 0 RX7 TX7 4 := ⟨rfl, (Nat.le_of_ble_eq_true rfl), iX7, wd_140⟩
theorem fl_RX10_26 : FL RX10 26 10 2 RX10 TX10 6 := ⟨rfl, (Nat.le_of_ble_eq_true rfl), iX10, wd_299⟩
theorem fl_RX10_260 : FL RX10 260 6 0 RX6 TX6 7 := ⟨rfl, (Nat.le_of_ble_eq_true rfl), iX6, wd_66⟩
theorem fl_RX10_33 : FL RX10 33 10 3 RX10 TX10 6 := ⟨rfl, (Nat.le_of_ble_eq_true rfl), iX10, wd_300⟩
theorem fl_RX10_40 : FL RX10 40 10 4 RX10 TX10 6 := ⟨rfl, (Nat.le_of_ble_eq_true rfl), iX10, wd_301⟩
theorem fl_RX10_44 : FL RX10 44 10 5 RX10 TX10 6 := ⟨rfl, (Nat.le_of_ble_eq_true rfl), iX10, wd_302⟩
theorem fl_RX10_52 : FL RX10 52 4 0 RX4 TX4 3 := ⟨rfl, (Nat.le_of_ble_eq_true rfl), iX4, wd_158⟩
theorem fl_RX10_74 : FL RX10 74 4 1 RX4 TX4 3 := ⟨rfl, (Nat.le_of_ble_eq_true rfl), iX4, wd_162⟩
theorem fl_RX10_78 : FL RX10 78 5 2 RX5 TX5 6 := ⟨rfl, (Nat.le_of_ble_eq_true rfl), iX5, wd_112⟩
theorem fl_RX10_84 : FL RX10 84 5 3 RX5 TX5 6 := ⟨rfl, (Nat.le_of_ble_eq_true rfl), iX5, wd_114⟩
theorem fl_RX10_87 : FL RX10 87 5 4 RX5 TX5 6 := ⟨rfl, (Nat.le_of_ble_eq_true rfl), iX5, wd_116⟩
theorem fl_RX10_90 : FL RX10 90 5 0 RX5 TX5 6 := ⟨rfl, (Nat.le_of_ble_eq_true rfl), iX5, wd_105⟩
theorem fl_RX10_94 : FL RX10 94 5 1 RX5 TX5 6 := ⟨rfl, (Nat.le_of_ble_eq_true rfl), iX5, wd_109⟩
theorem fl_RX10_97 : FL RX10 97 5 5 RX5 TX5 6 := ⟨rfl, (Nat.le_of_ble_eq_true rfl), iX5, wd_118⟩
theorem fl_RX11_13 : FL RX11 13 11 4 RX11 TX11 38 := ⟨rfl, (Nat.le_of_ble_eq_true rfl), iX11, wd_778⟩
theorem fl_RX11_139 : FL RX11 139 11 18 RX11 TX11 38 := ⟨rfl, (Nat.le_of_ble_eq_true rfl), iX11, wd_792⟩
theorem fl_RX11_146 : FL RX11 146 11 22 RX11 TX11 38 := ⟨rfl, (Nat.le_of_ble_eq_true rfl), iX11, wd_796⟩
theorem fl_RX11_16 : FL RX11 16 11 5 RX11 TX11 38 := ⟨rfl, (Nat.le_of_ble_eq_true rfl), iX11, wd_779⟩
theorem fl_RX11_178 : FL RX11 178 11 23 RX11 TX11 38 := ⟨rfl, (Nat.le_of_ble_eq_true rfl), iX11, wd_797⟩
theorem fl_RX11_181 : FL RX11 181 11 25 RX11 TX11 38 := ⟨rfl, (Nat.le_of_ble_eq_true rfl), iX11, wd_799⟩
theorem fl_RX11_184 : FL RX11 184 11 26 RX11 TX11 38 := ⟨rfl, (Nat.le_of_ble_eq_true rfl), iX11, wd_800⟩
theorem fl_RX11_19 : FL RX11 19 11 6 RX11 TX11 38 := ⟨rfl, (Nat.le_of_ble_eq_true rfl), iX11, wd_780⟩
theorem fl_RX11_198 : FL RX11 198 11 29 RX11 TX11 38 := ⟨rfl, (Nat.le_of_ble_eq_true rfl), iX11, wd_803⟩
theorem fl_RX11_201 : FL RX11 201 11 30 RX11 TX11 38 := ⟨rfl, (Nat.le_of_ble_eq_true rfl), iX11, wd_804⟩
theorem fl_RX11_22 : FL RX11 22 11 7 RX11 TX11 38 := ⟨rfl, (Nat.le_of_ble_eq_true rfl), iX11, wd_781⟩
theorem fl_RX11_25 : FL RX11 25 11 8 RX11 TX11 38 := ⟨rfl, (Nat.le_of_ble_eq_true rfl), iX11, wd_782⟩
theorem fl_RX11_263 : FL RX11 263 11 16 RX11 TX11 38 := ⟨rfl, (Nat.le_of_ble_eq_true rfl), iX11, wd_790⟩
theorem fl_RX11_28 : FL RX11 28 11 9 RX11 TX11 38 := ⟨rfl, (Nat.le_of_ble_eq_true rfl), iX11, wd_783⟩
theorem fl_RX11_286 : FL RX11 286 11 37 RX11 TX11 38 := ⟨rfl, (Nat.le_of_ble_eq_true rfl), iX11, wd_811⟩
theorem fl_RX11_290 : FL RX11 290 11 36 RX11 TX11 38 := ⟨rfl, (Nat.le_of_ble_eq_true rfl), iX11, wd_810⟩
theorem fl_RX11_31 : FL RX11 31 11 10 RX11 TX11 38 := ⟨rfl, (Nat.le_of_ble_eq_true rfl), iX11, wd_784⟩
theorem fl_RX11_34 : FL RX11 34 11 11 RX11 TX11 38 := ⟨rfl, (Nat.le_of_ble_eq_true rfl), iX11, wd_785⟩
theorem fl_RX11_37 : FL RX11 37 11 12 RX11 TX11 38 := ⟨rfl, (Nat.le_of_ble_eq_true rfl), iX11, wd_786⟩
theorem fl_RX11_40 : FL RX11 40 11 13 RX11 TX11 38 := ⟨rfl, (Nat.le_of_ble_eq_true rfl), iX11, wd_787⟩
theorem fl_RX11_43 : FL RX11 43 11 14 RX11 TX11 38 := ⟨rfl, (Nat.le_of_ble_eq_true rfl), iX11, wd_788⟩
theorem fl_RX11_46 : FL RX11 46 11 15 RX11 TX11 38 := ⟨rfl, (Nat.le_of_ble_eq_true rfl), iX11, wd_789⟩
theorem fl_RX11_49 : FL RX11 49 11 17 RX11 TX11 38 := ⟨rfl, (Nat.le_of_ble_eq_true rfl), iX11, wd_791⟩
theorem fl_RX11_52 : FL RX11 52 11 19 RX11 TX11 38 := ⟨rfl, (Nat.le_of_ble_eq_true rfl), iX11, wd_793⟩
theorem fl_RX11_55 : FL RX11 55 11 20 RX11 TX11 38 := ⟨rfl, (Nat.le_of_ble_eq_true rfl), iX11, wd_794⟩
theorem fl_RX11_58 : FL RX11 58 11 21 RX11 TX11 38 := ⟨rfl, (Nat.le_of_ble_eq_true rfl), iX11, wd_795⟩
theorem fl_RX11_61 : FL RX11 61 11 24 RX11 TX11 38 := ⟨rfl, (Nat.le_of_ble_eq_true rfl), iX11, wd_798⟩
theorem fl_RX11_64 : FL RX11 64 11 27 RX11 TX11 38 := ⟨rfl, (Nat.le_of_ble_eq_true rfl), iX11, wd_801⟩
theorem fl_RX11_67 : FL RX11 67 11 28 RX11 TX11 38 := ⟨rfl, (Nat.le_of_ble_eq_true rfl), iX11, wd_802⟩
theorem fl_RX11_7 : FL RX11 7 11 3 RX11 TX11 38 := ⟨rfl, (Nat.le_of_ble_eq_true rfl), iX11, wd_777⟩
theorem fl_RX11_70 : FL RX11 70 11 31 RX11 TX11 38 := ⟨rfl, (Nat.le_of_ble_eq_true rfl), iX11, wd_805⟩
theorem fl_RX11_73 : FL RX11 73 11 32 RX11 TX11 38 := ⟨rfl, (Nat.le_of_ble_eq_true rfl), iX11, wd_806⟩
theorem fl_RX11_77 : FL RX11 77 11 33 RX11 TX11 38 := ⟨rfl, (Nat.le_of_ble_eq_true rfl), iX11, wd_807⟩
theorem fl_RX11_80 : FL RX11 80 11 34 RX11 TX11 38 := ⟨rfl, (Nat.le_of_ble_eq_true rfl), iX11, wd_808⟩
theorem fl_RX11_83 : FL RX11 83 11 35 RX11 TX11 38 := ⟨rfl, (Nat.le_of_ble_eq_true rfl), iX11, wd_809⟩
theorem fl_RX11_86 : FL RX11 86 11 1 RX11 TX11 38 := ⟨rfl, (Nat.le_of_ble_eq_true rfl), iX11, wd_775⟩
theorem fl_RX11_90 : FL RX11 90 11 2 RX11 TX11 38 := ⟨rfl, (Nat.le_of_ble_eq_true rfl), iX11, wd_776⟩
theorem fl_RX11_99 : FL RX11 99 11 0 RX11 TX11 38 := ⟨rfl, (Nat.le_of_ble_eq_true rfl), iX11, wd_774⟩
theorem fl_RX1_24 : FL RX1 24 1 1 RX1 TX1 2 := ⟨rfl, (Nat.le_of_ble_eq_true rfl), iX1, wd_290⟩
theorem fl_RX1_9 : FL RX1 9 1 0 RX1 TX1 2 := ⟨rfl, (Nat.le_of_ble_eq_true rfl), iX1, wd_288⟩
theorem fl_RX2_15 : FL RX2 15 2 1 RX2 TX2 3 := ⟨rfl, (Nat.le_of_ble_eq_true rfl), iX2, wd_273⟩
theorem fl_RX2_18 : FL RX2 18 2 2 RX2 TX2 3 := ⟨rfl, (Nat.le_of_ble_eq_true rfl), iX2, wd_274⟩
theorem fl_RX2_21 : FL RX2 21 4 1 RX4 TX4 3 := ⟨rfl, (Nat.le_of_ble_eq_true rfl), iX4, wd_161⟩
theorem fl_RX2_9 : FL RX2 9 2 0 RX2 TX2 3 := ⟨rfl, (Nat.le_of_ble_eq_true rfl), iX2, wd_272⟩
theorem fl_RX3_15 : FL RX3 15 3 0 RX3 TX3 2 := ⟨rfl, (Nat.le_of_ble_eq_true rfl), iX3, wd_178⟩
theorem fl_RX3_9 : FL RX3 9 3 1 RX3 TX3 2 := ⟨rfl, (Nat.le_of_ble_eq_true rfl), iX3, wd_181⟩
theorem fl_RX4_12 : FL RX4 12 4 0 RX4 TX4 3 := ⟨rfl, (Nat.le_of_ble_eq_true rfl), iX4, wd_156⟩
theorem fl_RX4_21 : FL RX4 21 4 1 RX4 TX4 3 := ⟨rfl, (Nat.le_of_ble_eq_true rfl), iX4, wd_159⟩
theorem fl_RX4_28 : FL RX4 28 4 2 RX4 TX4 3 := ⟨rfl, (Nat.le_of_ble_eq_true rfl), iX4, wd_163⟩
theorem fl_RX4_66 : FL RX4 66 6 2 RX6 TX6 7 := ⟨rfl, (Nat.le_of_ble_eq_true rfl), iX6, wd_72⟩
theorem fl_RX4_70 : FL RX4 70 5 0 RX5 TX5 6 := ⟨rfl, (Nat.le_of_ble_eq_true rfl), iX5, wd_104⟩
theorem fl_RX4_74 : FL RX4 74 6 1 RX6 TX6 7 := ⟨rfl, (Nat.le_of_ble_eq_true rfl), iX6, wd_68⟩
theorem fl_RX4_77 : FL RX4 77 5 1 RX5 TX5 6 := ⟨rfl, (Nat.le_of_ble_eq_true rfl), iX5, wd_108⟩
theorem fl_RX4_86 : FL RX4 86 7 0 RX7 TX7 4 := ⟨rfl, (Nat.le_of_ble_eq_true rfl), iX7, wd_139⟩
theorem fl_RX4_89 : FL RX4 89 7 1 RX7 TX7 4 := ⟨rfl, (Nat.le_of_ble_eq_true rfl), iX7, wd_142⟩
theorem fl_RX4_96 : FL RX4 96 7 2 RX7 TX7 4 := ⟨rfl, (Nat.le_of_ble_eq_true rfl), iX7, wd_144⟩
theorem fl_RX4_99 : FL RX4 99 7 3 RX7 TX7 4 := ⟨rfl, (Nat.le_of_ble_eq_true rfl), iX7, wd_146⟩
theorem fl_RX5_15 : FL RX5 15 5 1 RX5 TX5 6 := ⟨rfl, (Nat.le_of_ble_eq_true rfl), iX5, wd_107⟩
theorem fl_RX5_18 : FL RX5 18 5 2 RX5 TX5 6 := ⟨rfl, (Nat.le_of_ble_eq_true rfl), iX5, wd_111⟩
theorem fl_RX5_22 : FL RX5 22 5 3 RX5 TX5 6 := ⟨rfl, (Nat.le_of_ble_eq_true rfl), iX5, wd_113⟩
theorem fl_RX5_25 : FL RX5 25 5 4 RX5 TX5 6 := ⟨rfl, (Nat.le_of_ble_eq_true rfl), iX5, wd_115⟩
theorem fl_RX5_28 : FL RX5 28 5 5 RX5 TX5 6 := ⟨rfl, (Nat.le_of_ble_eq_true rfl), iX5, wd_117⟩
theorem fl_RX5_9 : FL RX5 9 5 0 RX5 TX5 6 := ⟨rfl, (Nat.le_of_ble_eq_true rfl), iX5, wd_103⟩
theorem fl_RX6_15 : FL RX6 15 6 2 RX6 TX6 7 := ⟨rfl, (Nat.le_of_ble_eq_true rfl), iX6, wd_71⟩
theorem fl_RX6_18 : FL RX6 18 6 3 RX6 TX6 7 := ⟨rfl, (Nat.le_of_ble_eq_true rfl), iX6, wd_74⟩
theorem fl_RX6_21 : FL RX6 21 6 4 RX6 TX6 7 := ⟨rfl, (Nat.le_of_ble_eq_true rfl), iX6, wd_75⟩
theorem fl_RX6_24 : FL RX6 24 6 5 RX6 TX6 7 := ⟨rfl, (Nat.le_of_ble_eq_true rfl), iX6, wd_78⟩
theorem fl_RX6_27 : FL RX6 27 6 6 RX6 TX6 7 := ⟨rfl, (Nat.le_of_ble_eq_true rfl), iX6, wd_80⟩
theorem fl_RX6_30 : FL RX6 30 6 0 RX6 TX6 7 := ⟨rfl, (Nat.le_of_ble_eq_true rfl), iX6, wd_65⟩
theorem fl_RX6_9 : FL RX6 9 6 1 RX6 TX6 7 := ⟨rfl, (Nat.le_of_ble_eq_true rfl), iX6, wd_67⟩
theorem fl_RX7_15 : FL RX7 15 7 3 RX7 TX7 4 := ⟨rfl, (Nat.le_of_ble_eq_true rfl), iX7, wd_145⟩
theorem fl_RX7_18 : FL RX7 18 7 0 RX7 TX7 4 := ⟨rfl, (Nat.le_of_ble_eq_true rfl), iX7, wd_138⟩
theorem fl_RX7_26 : FL RX7 26 7 1 RX7 TX7 4 := ⟨rfl, (Nat.le_of_ble_eq_true rfl), iX7, wd_141⟩
theorem fl_RX7_9 : FL RX7 9 7 2 RX7 TX7 4 := ⟨rfl, (Nat.le_of_ble_eq_true rfl), iX7, wd_143⟩
theorem fl_RX8_15 : FL RX8 15 8 0 RX8 TX8 4 := ⟨rfl, (Nat.le_of_ble_eq_true rfl), iX8, wd_203⟩
theorem fl_RX8_19 : FL RX8 19 8 1 RX8 TX8 4 := ⟨rfl, (Nat.le_of_ble_eq_true rfl), iX8, wd_205⟩
theorem fl_RX8_22 : FL RX8 22 8 2 RX8 TX8 4 := ⟨rfl, (Nat.le_of_ble_eq_true rfl), iX8, wd_207⟩
theorem fl_RX8_9 : FL RX8 9 8 3 RX8 TX8 4 := ⟨rfl, (Nat.le_of_ble_eq_true rfl), iX8, wd_209⟩
theorem fl_RX9_101 : FL RX9 101 0 2 RX0 TX0 3 := ⟨rfl, (Nat.le_of_ble_eq_true rfl), iX0, wd_231⟩
theorem fl_RX9_111 : FL RX9 111 6 1 RX6 TX6 7 := ⟨rfl, (Nat.le_of_ble_eq_true rfl), iX6, wd_69⟩
theorem fl_RX9_115 : FL RX9 115 5 1 RX5 TX5 6 := ⟨rfl, (Nat.le_of_ble_eq_true rfl), iX5, wd_110⟩
theorem fl_RX9_118 : FL RX9 118 6 4 RX6 TX6 7 := ⟨rfl, (Nat.le_of_ble_eq_true rfl), iX6, wd_76⟩
theorem fl_RX9_12 : FL RX9 12 9 0 RX9 TX9 7 := ⟨rfl, (Nat.le_of_ble_eq_true rfl), iX9, wd_239⟩
theorem fl_RX9_121 : FL RX9 121 6 2 RX6 TX6 7 := ⟨rfl, (Nat.le_of_ble_eq_true rfl), iX6, wd_73⟩
theorem fl_RX9_124 : FL RX9 124 5 0 RX5 TX5 6 := ⟨rfl, (Nat.le_of_ble_eq_true rfl), iX5, wd_106⟩
theorem fl_RX9_21 : FL RX9 21 9 1 RX9 TX9 7 := ⟨rfl, (Nat.le_of_ble_eq_true rfl), iX9, wd_240⟩
theorem fl_RX9_28 : FL RX9 28 9 2 RX9 TX9 7 := ⟨rfl, (Nat.le_of_ble_eq_true rfl), iX9, wd_242⟩
theorem fl_RX9_35 : FL RX9 35 9 3 RX9 TX9 7 := ⟨rfl, (Nat.le_of_ble_eq_true rfl), iX9, wd_244⟩
theorem fl_RX9_39 : FL RX9 39 4 1 RX4 TX4 3 := ⟨rfl, (Nat.le_of_ble_eq_true rfl), iX4, wd_160⟩
theorem fl_RX9_46 : FL RX9 46 4 0 RX4 TX4 3 := ⟨rfl, (Nat.le_of_ble_eq_true rfl), iX4, wd_157⟩
theorem fl_RX9_53 : FL RX9 53 9 4 RX9 TX9 7 := ⟨rfl, (Nat.le_of_ble_eq_true rfl), iX9, wd_245⟩
theorem fl_RX9_57 : FL RX9 57 9 5 RX9 TX9 7 := ⟨rfl, (Nat.le_of_ble_eq_true rfl), iX9, wd_247⟩
theorem fl_RX9_60 : FL RX9 60 9 6 RX9 TX9 7 := ⟨rfl, (Nat.le_of_ble_eq_true rfl), iX9, wd_249⟩
theorem fl_RX9_63 : FL RX9 63 3 0 RX3 TX3 2 := ⟨rfl, (Nat.le_of_ble_eq_true rfl), iX3, wd_179⟩
theorem fl_RX9_92 : FL RX9 92 0 0 RX0 TX0 3 := ⟨rfl, (Nat.le_of_ble_eq_true rfl), iX0, wd_227⟩
theorem fl_RX9_98 : FL RX9 98 0 1 RX0 TX0 3 := ⟨rfl, (Nat.le_of_ble_eq_true rfl), iX0, wd_229⟩
theorem fp_RX0_13 : FP RX0 13 0 1 RX0 TX0 3 tyX0 .int false := ⟨fl_RX0_13, tyX0_ok, nmX0, rfl, by decide +kernel, fun h => by cases h⟩
theorem fp_RX0_16 : FP RX0 16 0 2 RX0 TX0 3 tyX0 .int false := ⟨fl_RX0_16, tyX0_ok, nmX0, rfl, by decide +kernel, fun h => by cases h⟩
theorem fp_RX0_7 : FP RX0 7 0 0 RX0 TX0 3 tyX0 .int false := ⟨fl_RX0_7, tyX0_ok, nmX0, rfl, by decide +kernel, fun h => by cases h⟩
theorem fp_RX10_103 : FP RX10 103 3 0 RX3 TX3 2 tyX3 .int false := ⟨fl_RX10_103, tyX3_ok, nmX3, rfl, by decide +kernel, fun h => by cases h⟩
theorem fp_RX10_12 : FP RX10 12 10 0 RX10 TX10 6 tyX10 (.object "StoneGhosts$Room") true := ⟨fl_RX10_12, tyX10_ok, nmX10, rfl, by decide +kernel, fun _ => rfl⟩
theorem fp_RX10_19 : FP RX10 19 10 1 RX10 TX10 6 tyX10 (.object "StoneGhosts$Pad") true := ⟨fl_RX10_19, tyX10_ok, nmX10, rfl, by decide +kernel, fun _ => rfl⟩
theorem fp_RX10_234 : FP RX10 234 7 0 RX7 TX7 4 tyX7 .int false := ⟨fl_RX10_234, tyX7_ok, nmX7, rfl, by decide +kernel, fun h => by cases h⟩
theorem fp_RX10_26 : FP RX10 26 10 2 RX10 TX10 6 tyX10 (.object "StoneGhosts$Trial") true := ⟨fl_RX10_26, tyX10_ok, nmX10, rfl, by decide +kernel, fun _ => rfl⟩
theorem fp_RX10_33 : FP RX10 33 10 3 RX10 TX10 6 tyX10 (.object "StoneGhosts$OrderTable") true := ⟨fl_RX10_33, tyX10_ok, nmX10, rfl, by decide +kernel, fun _ => rfl⟩
theorem fp_RX10_40 : FP RX10 40 10 4 RX10 TX10 6 tyX10 (.object "StoneGhosts$ColourTable") true := ⟨fl_RX10_40, tyX10_ok, nmX10, rfl, by decide +kernel, fun _ => rfl⟩
theorem fp_RX10_44 : FP RX10 44 10 5 RX10 TX10 6 tyX10 (.array (.object "StoneGhosts$Room")) true := ⟨fl_RX10_44, tyX10_ok, nmX10, rfl, by decide +kernel, fun _ => rfl⟩
theorem fp_RX10_90 : FP RX10 90 5 0 RX5 TX5 6 tyX5 .int false := ⟨fl_RX10_90, tyX5_ok, nmX5, rfl, by decide +kernel, fun h => by cases h⟩
theorem fp_RX10_94 : FP RX10 94 5 1 RX5 TX5 6 tyX5 .int false := ⟨fl_RX10_94, tyX5_ok, nmX5, rfl, by decide +kernel, fun h => by cases h⟩
theorem fp_RX11_13 : FP RX11 13 11 4 RX11 TX11 38 tyX11 (.array .int) true := ⟨fl_RX11_13, tyX11_ok, nmX11, rfl, by decide +kernel, fun _ => rfl⟩
theorem fp_RX11_139 : FP RX11 139 11 18 RX11 TX11 38 tyX11 .int false := ⟨fl_RX11_139, tyX11_ok, nmX11, rfl, by decide +kernel, fun h => by cases h⟩
theorem fp_RX11_146 : FP RX11 146 11 22 RX11 TX11 38 tyX11 .int false := ⟨fl_RX11_146, tyX11_ok, nmX11, rfl, by decide +kernel, fun h => by cases h⟩
theorem fp_RX11_16 : FP RX11 16 11 5 RX11 TX11 38 tyX11 (.array .int) true := ⟨fl_RX11_16, tyX11_ok, nmX11, rfl, by decide +kernel, fun _ => rfl⟩
theorem fp_RX11_178 : FP RX11 178 11 23 RX11 TX11 38 tyX11 .int false := ⟨fl_RX11_178, tyX11_ok, nmX11, rfl, by decide +kernel, fun h => by cases h⟩
theorem fp_RX11_181 : FP RX11 181 11 25 RX11 TX11 38 tyX11 .int false := ⟨fl_RX11_181, tyX11_ok, nmX11, rfl, by decide +kernel, fun h => by cases h⟩
theorem fp_RX11_184 : FP RX11 184 11 26 RX11 TX11 38 tyX11 .int false := ⟨fl_RX11_184, tyX11_ok, nmX11, rfl, by decide +kernel, fun h => by cases h⟩
theorem fp_RX11_19 : FP RX11 19 11 6 RX11 TX11 38 tyX11 (.array .int) true := ⟨fl_RX11_19, tyX11_ok, nmX11, rfl, by decide +kernel, fun _ => rfl⟩
theorem fp_RX11_198 : FP RX11 198 11 29 RX11 TX11 38 tyX11 .int false := ⟨fl_RX11_198, tyX11_ok, nmX11, rfl, by decide +kernel, fun h => by cases h⟩
theorem fp_RX11_201 : FP RX11 201 11 30 RX11 TX11 38 tyX11 .int false := ⟨fl_RX11_201, tyX11_ok, nmX11, rfl, by decide +kernel, fun h => by cases h⟩
theorem fp_RX11_22 : FP RX11 22 11 7 RX11 TX11 38 tyX11 (.array .int) true := ⟨fl_RX11_22, tyX11_ok, nmX11, rfl, by decide +kernel, fun _ => rfl⟩
theorem fp_RX11_25 : FP RX11 25 11 8 RX11 TX11 38 tyX11 (.array .int) true := ⟨fl_RX11_25, tyX11_ok, nmX11, rfl, by decide +kernel, fun _ => rfl⟩
theorem fp_RX11_263 : FP RX11 263 11 16 RX11 TX11 38 tyX11 .int false := ⟨fl_RX11_263, tyX11_ok, nmX11, rfl, by decide +kernel, fun h => by cases h⟩
theorem fp_RX11_28 : FP RX11 28 11 9 RX11 TX11 38 tyX11 (.array .int) true := ⟨fl_RX11_28, tyX11_ok, nmX11, rfl, by decide +kernel, fun _ => rfl⟩
theorem fp_RX11_286 : FP RX11 286 11 37 RX11 TX11 38 tyX11 .boolean false := ⟨fl_RX11_286, tyX11_ok, nmX11, rfl, by decide +kernel, fun h => by cases h⟩
theorem fp_RX11_290 : FP RX11 290 11 36 RX11 TX11 38 tyX11 .int false := ⟨fl_RX11_290, tyX11_ok, nmX11, rfl, by decide +kernel, fun h => by cases h⟩
theorem fp_RX11_31 : FP RX11 31 11 10 RX11 TX11 38 tyX11 (.array .int) true := ⟨fl_RX11_31, tyX11_ok, nmX11, rfl, by decide +kernel, fun _ => rfl⟩
theorem fp_RX11_34 : FP RX11 34 11 11 RX11 TX11 38 tyX11 (.array .int) true := ⟨fl_RX11_34, tyX11_ok, nmX11, rfl, by decide +kernel, fun _ => rfl⟩
theorem fp_RX11_37 : FP RX11 37 11 12 RX11 TX11 38 tyX11 (.array .int) true := ⟨fl_RX11_37, tyX11_ok, nmX11, rfl, by decide +kernel, fun _ => rfl⟩
theorem fp_RX11_40 : FP RX11 40 11 13 RX11 TX11 38 tyX11 (.array .int) true := ⟨fl_RX11_40, tyX11_ok, nmX11, rfl, by decide +kernel, fun _ => rfl⟩
theorem fp_RX11_43 : FP RX11 43 11 14 RX11 TX11 38 tyX11 (.array .int) true := ⟨fl_RX11_43, tyX11_ok, nmX11, rfl, by decide +kernel, fun _ => rfl⟩
theorem fp_RX11_46 : FP RX11 46 11 15 RX11 TX11 38 tyX11 (.array .int) true := ⟨fl_RX11_46, tyX11_ok, nmX11, rfl, by decide +kernel, fun _ => rfl⟩
theorem fp_RX11_49 : FP RX11 49 11 17 RX11 TX11 38 tyX11 (.array .int) true := ⟨fl_RX11_49, tyX11_ok, nmX11, rfl, by decide +kernel, fun _ => rfl⟩
theorem fp_RX11_52 : FP RX11 52 11 19 RX11 TX11 38 tyX11 (.array .int) true := ⟨fl_RX11_52, tyX11_ok, nmX11, rfl, by decide +kernel, fun _ => rfl⟩
theorem fp_RX11_55 : FP RX11 55 11 20 RX11 TX11 38 tyX11 (.array .int) true := ⟨fl_RX11_55, tyX11_ok, nmX11, rfl, by decide +kernel, fun _ => rfl⟩
theorem fp_RX11_58 : FP RX11 58 11 21 RX11 TX11 38 tyX11 (.array .int) true := ⟨fl_RX11_58, tyX11_ok, nmX11, rfl, by decide +kernel, fun _ => rfl⟩
theorem fp_RX11_61 : FP RX11 61 11 24 RX11 TX11 38 tyX11 (.array .int) true := ⟨fl_RX11_61, tyX11_ok, nmX11, rfl, by decide +kernel, fun _ => rfl⟩
theorem fp_RX11_64 : FP RX11 64 11 27 RX11 TX11 38 tyX11 (.array .int) true := ⟨fl_RX11_64, tyX11_ok, nmX11, rfl, by decide +kernel, fun _ => rfl⟩
theorem fp_RX11_67 : FP RX11 67 11 28 RX11 TX11 38 tyX11 (.array .int) true := ⟨fl_RX11_67, tyX11_ok, nmX11, rfl, by decide +kernel, fun _ => rfl⟩
theorem fp_RX11_7 : FP RX11 7 11 3 RX11 TX11 38 tyX11 (.array .int) true := ⟨fl_RX11_7, tyX11_ok, nmX11, rfl, by decide +kernel, fun _ => rfl⟩
theorem fp_RX11_70 : FP RX11 70 11 31 RX11 TX11 38 tyX11 (.array .int) true := ⟨fl_RX11_70, tyX11_ok, nmX11, rfl, by decide +kernel, fun _ => rfl⟩
theorem fp_RX11_73 : FP RX11 73 11 32 RX11 TX11 38 tyX11 (.array .boolean) true := ⟨fl_RX11_73, tyX11_ok, nmX11, rfl, by decide +kernel, fun _ => rfl⟩
theorem fp_RX11_77 : FP RX11 77 11 33 RX11 TX11 38 tyX11 (.array .int) true := ⟨fl_RX11_77, tyX11_ok, nmX11, rfl, by decide +kernel, fun _ => rfl⟩
theorem fp_RX11_80 : FP RX11 80 11 34 RX11 TX11 38 tyX11 (.array .int) true := ⟨fl_RX11_80, tyX11_ok, nmX11, rfl, by decide +kernel, fun _ => rfl⟩
theorem fp_RX11_83 : FP RX11 83 11 35 RX11 TX11 38 tyX11 (.array .boolean) true := ⟨fl_RX11_83, tyX11_ok, nmX11, rfl, by decide +kernel, fun _ => rfl⟩
theorem fp_RX11_86 : FP RX11 86 11 1 RX11 TX11 38 tyX11 .int false := ⟨fl_RX11_86, tyX11_ok, nmX11, rfl, by decide +kernel, fun h => by cases h⟩
theorem fp_RX11_90 : FP RX11 90 11 2 RX11 TX11 38 tyX11 .int false := ⟨fl_RX11_90, tyX11_ok, nmX11, rfl, by decide +kernel, fun h => by cases h⟩
theorem fp_RX11_99 : FP RX11 99 11 0 RX11 TX11 38 tyX11 .int false := ⟨fl_RX11_99, tyX11_ok, nmX11, rfl, by decide +kernel, fun h => by cases h⟩
theorem fp_RX1_24 : FP RX1 24 1 1 RX1 TX1 2 tyX1 .int false := ⟨fl_RX1_24, tyX1_ok, nmX1, rfl, by decide +kernel, fun h => by cases h⟩
theorem fp_RX1_9 : FP RX1 9 1 0 RX1 TX1 2 tyX1 (.array .int) true := ⟨fl_RX1_9, tyX1_ok, nmX1, rfl, by decide +kernel, fun _ => rfl⟩
theorem fp_RX2_15 : FP RX2 15 2 1 RX2 TX2 3 tyX2 (.array .int) true := ⟨fl_RX2_15, tyX2_ok, nmX2, rfl, by decide +kernel, fun _ => rfl⟩
theorem fp_RX2_18 : FP RX2 18 2 2 RX2 TX2 3 tyX2 (.array .int) true := ⟨fl_RX2_18, tyX2_ok, nmX2, rfl, by decide +kernel, fun _ => rfl⟩
theorem fp_RX2_9 : FP RX2 9 2 0 RX2 TX2 3 tyX2 (.array .int) true := ⟨fl_RX2_9, tyX2_ok, nmX2, rfl, by decide +kernel, fun _ => rfl⟩
theorem fp_RX3_15 : FP RX3 15 3 0 RX3 TX3 2 tyX3 .int false := ⟨fl_RX3_15, tyX3_ok, nmX3, rfl, by decide +kernel, fun h => by cases h⟩
theorem fp_RX3_9 : FP RX3 9 3 1 RX3 TX3 2 tyX3 (.array .int) true := ⟨fl_RX3_9, tyX3_ok, nmX3, rfl, by decide +kernel, fun _ => rfl⟩
theorem fp_RX4_12 : FP RX4 12 4 0 RX4 TX4 3 tyX4 (.object "StoneGhosts$Shelf") true := ⟨fl_RX4_12, tyX4_ok, nmX4, rfl, by decide +kernel, fun _ => rfl⟩
theorem fp_RX4_21 : FP RX4 21 4 1 RX4 TX4 3 tyX4 (.object "StoneGhosts$Rules") true := ⟨fl_RX4_21, tyX4_ok, nmX4, rfl, by decide +kernel, fun _ => rfl⟩
theorem fp_RX4_28 : FP RX4 28 4 2 RX4 TX4 3 tyX4 (.object "StoneGhosts$Sights") true := ⟨fl_RX4_28, tyX4_ok, nmX4, rfl, by decide +kernel, fun _ => rfl⟩
theorem fp_RX5_15 : FP RX5 15 5 1 RX5 TX5 6 tyX5 .int false := ⟨fl_RX5_15, tyX5_ok, nmX5, rfl, by decide +kernel, fun h => by cases h⟩
theorem fp_RX5_18 : FP RX5 18 5 2 RX5 TX5 6 tyX5 (.array .int) true := ⟨fl_RX5_18, tyX5_ok, nmX5, rfl, by decide +kernel, fun _ => rfl⟩
theorem fp_RX5_22 : FP RX5 22 5 3 RX5 TX5 6 tyX5 (.array .int) true := ⟨fl_RX5_22, tyX5_ok, nmX5, rfl, by decide +kernel, fun _ => rfl⟩
theorem fp_RX5_25 : FP RX5 25 5 4 RX5 TX5 6 tyX5 (.array .int) true := ⟨fl_RX5_25, tyX5_ok, nmX5, rfl, by decide +kernel, fun _ => rfl⟩
theorem fp_RX5_28 : FP RX5 28 5 5 RX5 TX5 6 tyX5 (.array .int) true := ⟨fl_RX5_28, tyX5_ok, nmX5, rfl, by decide +kernel, fun _ => rfl⟩
theorem fp_RX5_9 : FP RX5 9 5 0 RX5 TX5 6 tyX5 .int false := ⟨fl_RX5_9, tyX5_ok, nmX5, rfl, by decide +kernel, fun h => by cases h⟩
theorem fp_RX6_15 : FP RX6 15 6 2 RX6 TX6 7 tyX6 (.array .int) true := ⟨fl_RX6_15, tyX6_ok, nmX6, rfl, by decide +kernel, fun _ => rfl⟩
theorem fp_RX6_18 : FP RX6 18 6 3 RX6 TX6 7 tyX6 (.array .int) true := ⟨fl_RX6_18, tyX6_ok, nmX6, rfl, by decide +kernel, fun _ => rfl⟩
theorem fp_RX6_21 : FP RX6 21 6 4 RX6 TX6 7 tyX6 (.array .int) true := ⟨fl_RX6_21, tyX6_ok, nmX6, rfl, by decide +kernel, fun _ => rfl⟩
theorem fp_RX6_24 : FP RX6 24 6 5 RX6 TX6 7 tyX6 (.array .int) true := ⟨fl_RX6_24, tyX6_ok, nmX6, rfl, by decide +kernel, fun _ => rfl⟩
theorem fp_RX6_27 : FP RX6 27 6 6 RX6 TX6 7 tyX6 (.array .int) true := ⟨fl_RX6_27, tyX6_ok, nmX6, rfl, by decide +kernel, fun _ => rfl⟩
theorem fp_RX6_30 : FP RX6 30 6 0 RX6 TX6 7 tyX6 .int false := ⟨fl_RX6_30, tyX6_ok, nmX6, rfl, by decide +kernel, fun h => by cases h⟩
theorem fp_RX6_9 : FP RX6 9 6 1 RX6 TX6 7 tyX6 (.array .int) true := ⟨fl_RX6_9, tyX6_ok, nmX6, rfl, by decide +kernel, fun _ => rfl⟩
theorem fp_RX7_15 : FP RX7 15 7 3 RX7 TX7 4 tyX7 (.array .int) true := ⟨fl_RX7_15, tyX7_ok, nmX7, rfl, by decide +kernel, fun _ => rfl⟩
theorem fp_RX7_18 : FP RX7 18 7 0 RX7 TX7 4 tyX7 .int false := ⟨fl_RX7_18, tyX7_ok, nmX7, rfl, by decide +kernel, fun h => by cases h⟩
theorem fp_RX7_26 : FP RX7 26 7 1 RX7 TX7 4 tyX7 .int false := ⟨fl_RX7_26, tyX7_ok, nmX7, rfl, by decide +kernel, fun h => by cases h⟩
theorem fp_RX7_9 : FP RX7 9 7 2 RX7 TX7 4 tyX7 (.array .int) true := ⟨fl_RX7_9, tyX7_ok, nmX7, rfl, by decide +kernel, fun _ => rfl⟩
theorem fp_RX8_15 : FP RX8 15 8 0 RX8 TX8 4 tyX8 .int false := ⟨fl_RX8_15, tyX8_ok, nmX8, rfl, by decide +kernel, fun h => by cases h⟩
theorem fp_RX8_19 : FP RX8 19 8 1 RX8 TX8 4 tyX8 .int false := ⟨fl_RX8_19, tyX8_ok, nmX8, rfl, by decide +kernel, fun h => by cases h⟩
theorem fp_RX8_22 : FP RX8 22 8 2 RX8 TX8 4 tyX8 .int false := ⟨fl_RX8_22, tyX8_ok, nmX8, rfl, by decide +kernel, fun h => by cases h⟩
theorem fp_RX8_9 : FP RX8 9 8 3 RX8 TX8 4 tyX8 (.array .int) true := ⟨fl_RX8_9, tyX8_ok, nmX8, rfl, by decide +kernel, fun _ => rfl⟩
theorem fp_RX9_12 : FP RX9 12 9 0 RX9 TX9 7 tyX9 (.object "StoneGhosts$Rules") true := ⟨fl_RX9_12, tyX9_ok, nmX9, rfl, by decide +kernel, fun _ => rfl⟩
theorem fp_RX9_21 : FP RX9 21 9 1 RX9 TX9 7 tyX9 (.object "StoneGhosts$Shelf") true := ⟨fl_RX9_21, tyX9_ok, nmX9, rfl, by decide +kernel, fun _ => rfl⟩
theorem fp_RX9_28 : FP RX9 28 9 2 RX9 TX9 7 tyX9 (.object "StoneGhosts$Tally") true := ⟨fl_RX9_28, tyX9_ok, nmX9, rfl, by decide +kernel, fun _ => rfl⟩
theorem fp_RX9_35 : FP RX9 35 9 3 RX9 TX9 7 tyX9 (.object "StoneGhosts$Act") true := ⟨fl_RX9_35, tyX9_ok, nmX9, rfl, by decide +kernel, fun _ => rfl⟩
theorem fp_RX9_53 : FP RX9 53 9 4 RX9 TX9 7 tyX9 .int false := ⟨fl_RX9_53, tyX9_ok, nmX9, rfl, by decide +kernel, fun h => by cases h⟩
theorem fp_RX9_57 : FP RX9 57 9 5 RX9 TX9 7 tyX9 .int false := ⟨fl_RX9_57, tyX9_ok, nmX9, rfl, by decide +kernel, fun h => by cases h⟩
theorem fp_RX9_60 : FP RX9 60 9 6 RX9 TX9 7 tyX9 .int false := ⟨fl_RX9_60, tyX9_ok, nmX9, rfl, by decide +kernel, fun h => by cases h⟩
theorem li_RX10_11 : LkI RX10 11 yX4_init cX4_init 1 0 := ⟨wd_55, wd_56, wd_31, wd_57, rfl, by decide, by decide, by decide +kernel⟩
theorem li_RX10_18 : LkI RX10 18 yX3_init cX3_init 1 0 := ⟨wd_174, wd_175, wd_35, wd_176, rfl, by decide, by decide, by decide +kernel⟩
theorem li_RX10_25 : LkI RX10 25 yX9_init cX9_init 1 0 := ⟨wd_189, wd_190, wd_36, wd_191, rfl, by decide, by decide, by decide +kernel⟩
theorem li_RX10_32 : LkI RX10 32 yX2_init cX2_init 1 0 := ⟨wd_268, wd_269, wd_39, wd_270, rfl, by decide, by decide, by decide +kernel⟩
theorem li_RX10_39 : LkI RX10 39 yX1_init cX1_init 1 0 := ⟨wd_284, wd_285, wd_40, wd_286, rfl, by decide, by decide, by decide +kernel⟩
theorem li_RX4_11 : LkI RX4 11 yX6_init cX6_init 1 0 := ⟨wd_61, wd_62, wd_32, wd_63, rfl, by decide, by decide, by decide +kernel⟩
theorem li_RX4_20 : LkI RX4 20 yX5_init cX5_init 2 0 := ⟨wd_99, wd_100, wd_33, wd_101, rfl, by decide, by decide, by decide +kernel⟩
theorem li_RX4_27 : LkI RX4 27 yX7_init cX7_init 1 0 := ⟨wd_134, wd_135, wd_34, wd_136, rfl, by decide, by decide, by decide +kernel⟩
theorem li_RX9_11 : LkI RX9 11 yX5_init cX5_init 2 0 := ⟨wd_194, wd_100, wd_33, wd_101, rfl, by decide, by decide, by decide +kernel⟩
theorem li_RX9_20 : LkI RX9 20 yX6_init cX6_init 1 0 := ⟨wd_196, wd_62, wd_32, wd_63, rfl, by decide, by decide, by decide +kernel⟩
theorem li_RX9_27 : LkI RX9 27 yX8_init cX8_init 1 0 := ⟨wd_199, wd_200, wd_37, wd_201, rfl, by decide, by decide, by decide +kernel⟩
theorem li_RX9_34 : LkI RX9 34 yX0_init cX0_init 1 0 := ⟨wd_222, wd_223, wd_38, wd_224, rfl, by decide, by decide, by decide +kernel⟩
theorem lk_RX10_100 : LkV RX10 100 yX3_write cX3_write 2 (some .boolean) 1 := ⟨wd_367, wd_368, wd_369, wd_35, wd_370, by decide, by decide, by decide +kernel⟩
theorem lk_RX10_106 : LkV RX10 106 yX3_firstFault cX3_firstFault 4 (some .int) 0 := ⟨wd_380, wd_381, wd_382, wd_35, wd_383, by decide, by decide, by decide +kernel⟩
theorem lk_RX10_109 : LkV RX10 109 yX10_tryShop cX10_tryShop 1 (some .int) 0 := ⟨wd_408, wd_410, wd_0, wd_30, wd_411, by decide, by decide, by decide +kernel⟩
theorem lk_RX10_131 : LkV RX10 131 yX6_tell cX6_tell 3 (some .int) 2 := ⟨wd_523, wd_524, wd_525, wd_32, wd_526, by decide, by decide, by decide +kernel⟩
theorem lk_RX10_135 : LkV RX10 135 yX6_fatOf cX6_fatOf 3 (some .int) 2 := ⟨wd_531, wd_532, wd_533, wd_32, wd_534, by decide, by decide, by decide +kernel⟩
theorem lk_RX10_144 : LkV RX10 144 yX6_copyFrom cX6_copyFrom 2 none 1 := ⟨wd_543, wd_424, wd_425, wd_32, wd_426, by decide, by decide, by decide +kernel⟩
theorem lk_RX10_151 : LkV RX10 151 yX9_begin cX9_begin 2 none 1 := ⟨wd_412, wd_413, wd_414, wd_36, wd_415, by decide, by decide, by decide +kernel⟩
theorem lk_RX10_155 : LkV RX10 155 yX9_playPad cX9_playPad 4 none 1 := ⟨wd_432, wd_433, wd_434, wd_36, wd_435, by decide, by decide, by decide +kernel⟩
theorem lk_RX10_162 : LkV RX10 162 yX6_ghostFat cX6_ghostFat 6 (some .int) 2 := ⟨wd_548, wd_497, wd_498, wd_32, wd_499, by decide, by decide, by decide +kernel⟩
theorem lk_RX10_165 : LkV RX10 165 yX5_wear cX5_wear 2 (some .int) 1 := ⟨wd_549, wd_489, wd_490, wd_33, wd_491, by decide, by decide, by decide +kernel⟩
theorem lk_RX10_172 : LkS RX10 172 yX10_pullsAhead cX10_pullsAhead 6 (some .int) 4 := ⟨wd_550, wd_551, wd_30, wd_552, by decide, by decide, by decide +kernel⟩
theorem lk_RX10_179 : LkV RX10 179 yX4_wouldLast cX4_wouldLast 6 (some .boolean) 4 := ⟨wd_558, wd_559, wd_560, wd_31, wd_561, by decide, by decide, by decide +kernel⟩
theorem lk_RX10_183 : LkS RX10 183 yX10_hasBit cX10_hasBit 2 (some .boolean) 2 := ⟨wd_575, wd_576, wd_30, wd_577, by decide, by decide, by decide +kernel⟩
theorem lk_RX10_187 : LkV RX10 187 yX2_fill cX2_fill 6 none 3 := ⟨wd_578, wd_579, wd_580, wd_39, wd_581, by decide, by decide, by decide +kernel⟩
theorem lk_RX10_191 : LkV RX10 191 yX2_mostPay cX2_mostPay 1 (some .int) 0 := ⟨wd_615, wd_616, wd_617, wd_39, wd_618, by decide, by decide, by decide +kernel⟩
theorem lk_RX10_194 : LkV RX10 194 yX2_stoneFor cX2_stoneFor 5 (some .int) 1 := ⟨wd_619, wd_620, wd_621, wd_39, wd_622, by decide, by decide, by decide +kernel⟩
theorem lk_RX10_197 : LkV RX10 197 yX1_fill cX1_fill 5 none 2 := ⟨wd_631, wd_632, wd_633, wd_40, wd_634, by decide, by decide, by decide +kernel⟩
theorem lk_RX10_202 : LkV RX10 202 yX1_firstBest cX1_firstBest 7 (some .int) 2 := ⟨wd_651, wd_638, wd_639, wd_40, wd_640, by decide, by decide, by decide +kernel⟩
theorem lk_RX10_210 : LkM RX10 210 Lib.Math.min.name Lib.Math.min.code 2 (some .int) := ⟨wd_658, wd_475, wd_44, wd_476⟩
theorem lk_RX10_215 : LkM RX10 215 Lib.Math.max.name Lib.Math.max.code 2 (some .int) := ⟨wd_553, wd_478, wd_44, wd_479⟩
theorem lk_RX10_220 : LkS RX10 220 yX10_lowestTerms cX10_lowestTerms 12 (some .long) 3 := ⟨wd_660, wd_661, wd_30, wd_662, by decide, by decide, by decide +kernel⟩
theorem lk_RX10_228 : LkV RX10 228 yX7_add cX7_add 4 (some .boolean) 3 := ⟨wd_670, wd_671, wd_672, wd_34, wd_673, by decide, by decide, by decide +kernel⟩
theorem lk_RX10_235 : LkV RX10 235 yX4_countTwos cX4_countTwos 2 (some .int) 1 := ⟨wd_683, wd_684, wd_685, wd_31, wd_686, by decide, by decide, by decide +kernel⟩
theorem lk_RX10_238 : LkV RX10 238 yX4_fewestMinutes cX4_fewestMinutes 5 (some .int) 1 := ⟨wd_704, wd_701, wd_702, wd_31, wd_703, by decide, by decide, by decide +kernel⟩
theorem lk_RX10_244 : LkV RX10 244 yX4_mostLeft cX4_mostLeft 7 (some .int) 2 := ⟨wd_714, wd_715, wd_716, wd_31, wd_717, by decide, by decide, by decide +kernel⟩
theorem lk_RX10_247 : LkV RX10 247 yX9_playYear cX9_playYear 5 none 2 := ⟨wd_723, wd_724, wd_725, wd_36, wd_726, by decide, by decide, by decide +kernel⟩
theorem lk_RX10_251 : LkV RX10 251 yX6_countFresh cX6_countFresh 3 (some .int) 0 := ⟨wd_733, wd_734, wd_735, wd_32, wd_736, by decide, by decide, by decide +kernel⟩
theorem lk_RX10_254 : LkV RX10 254 yX4_copyFrom cX4_copyFrom 2 none 1 := ⟨wd_741, wd_742, wd_743, wd_31, wd_744, by decide, by decide, by decide +kernel⟩
theorem lk_RX10_256 : LkV RX10 256 yX10_tellWhole cX10_tellWhole 2 (some .int) 1 := ⟨wd_760, wd_762, wd_1, wd_30, wd_763, by decide, by decide, by decide +kernel⟩
theorem lk_RX10_259 : LkV RX10 259 yX5_tell cX5_tell 3 (some .int) 2 := ⟨wd_764, wd_765, wd_766, wd_33, wd_767, by decide, by decide, by decide +kernel⟩
theorem lk_RX10_263 : LkM RX10 263 Lib.MathLoose.max_long.x Lib.MathLoose.max_long.code 4 (some .long) := ⟨wd_663, wd_664, wd_44, wd_665⟩
theorem lk_RX10_48 : LkS RX10 48 yX10_inside cX10_inside 3 (some .boolean) 3 := ⟨wd_320, wd_321, wd_30, wd_322, by decide, by decide, by decide +kernel⟩
theorem lk_RX10_56 : LkV RX10 56 yX6_put cX6_put 6 none 4 := ⟨wd_323, wd_324, wd_325, wd_32, wd_326, by decide, by decide, by decide +kernel⟩
theorem lk_RX10_62 : LkV RX10 62 yX6_count cX6_count 1 (some .int) 0 := ⟨wd_328, wd_329, wd_330, wd_32, wd_331, by decide, by decide, by decide +kernel⟩
theorem lk_RX10_66 : LkV RX10 66 yX6_has cX6_has 2 (some .boolean) 1 := ⟨wd_342, wd_343, wd_344, wd_32, wd_345, by decide, by decide, by decide +kernel⟩
theorem lk_RX10_70 : LkV RX10 70 yX6_take cX6_take 2 none 1 := ⟨wd_346, wd_347, wd_348, wd_32, wd_349, by decide, by decide, by decide +kernel⟩
theorem lk_RX11_110 : LkS RX11 110 yX11_at cX11_at 2 (some .int) 2 := ⟨wd_901, wd_902, wd_41, wd_903, by decide, by decide, by decide +kernel⟩
theorem lk_RX11_114 : LkS RX11 114 yX11_ones cX11_ones 3 (some .int) 1 := ⟨wd_904, wd_905, wd_41, wd_906, by decide, by decide, by decide +kernel⟩
theorem lk_RX11_118 : LkV RX11 118 yX11_isStone cX11_isStone 2 (some .boolean) 1 := ⟨wd_911, wd_913, wd_2, wd_41, wd_914, by decide, by decide, by decide +kernel⟩
theorem lk_RX11_122 : LkS RX11 122 yX11_isPicture cX11_isPicture 1 (some .boolean) 1 := ⟨wd_919, wd_920, wd_41, wd_921, by decide, by decide, by decide +kernel⟩
theorem lk_RX11_153 : LkS RX11 153 yX11_stoneOf cX11_stoneOf 1 (some .int) 1 := ⟨wd_956, wd_957, wd_41, wd_958, by decide, by decide, by decide +kernel⟩
theorem lk_RX11_156 : LkV RX11 156 yX11_close cX11_close 3 (some .int) 2 := ⟨wd_961, wd_963, wd_4, wd_41, wd_964, by decide, by decide, by decide +kernel⟩
theorem lk_RX11_163 : LkV RX11 163 yX11_readOn cX11_readOn 4 (some .int) 2 := ⟨wd_950, wd_952, wd_3, wd_41, wd_953, by decide, by decide, by decide +kernel⟩
theorem lk_RX11_166 : LkV RX11 166 yX11_ghostOn cX11_ghostOn 6 (some .int) 2 := ⟨wd_1012, wd_1014, wd_14, wd_41, wd_1015, by decide, by decide, by decide +kernel⟩
theorem lk_RX11_169 : LkS RX11 169 yX11_notBelow0 cX11_notBelow0 1 (some .int) 1 := ⟨wd_1001, wd_1002, wd_41, wd_1003, by decide, by decide, by decide +kernel⟩
theorem lk_RX11_172 : LkV RX11 172 yX11_wearOf cX11_wearOf 2 (some .int) 1 := ⟨wd_1004, wd_1006, wd_12, wd_41, wd_1007, by decide, by decide, by decide +kernel⟩
theorem lk_RX11_175 : LkV RX11 175 yX11_ghostFat cX11_ghostFat 4 (some .int) 2 := ⟨wd_1008, wd_1010, wd_13, wd_41, wd_1011, by decide, by decide, by decide +kernel⟩
theorem lk_RX11_187 : LkV RX11 187 yX11_pullOnce cX11_pullOnce 5 none 1 := ⟨wd_997, wd_999, wd_11, wd_41, wd_1000, by decide, by decide, by decide +kernel⟩
theorem lk_RX11_191 : LkV RX11 191 yX11_grindFor cX11_grindFor 5 none 3 := ⟨wd_1016, wd_1018, wd_15, wd_41, wd_1019, by decide, by decide, by decide +kernel⟩
theorem lk_RX11_195 : LkV RX11 195 yX11_beginCount cX11_beginCount 2 none 0 := ⟨wd_985, wd_987, wd_8, wd_41, wd_988, by decide, by decide, by decide +kernel⟩
theorem lk_RX11_204 : LkV RX11 204 yX11_whyNot cX11_whyNot 5 (some .int) 3 := ⟨wd_989, wd_991, wd_9, wd_41, wd_992, by decide, by decide, by decide +kernel⟩
theorem lk_RX11_208 : LkV RX11 208 yX11_happen cX11_happen 5 none 3 := ⟨wd_993, wd_995, wd_10, wd_41, wd_996, by decide, by decide, by decide +kernel⟩
theorem lk_RX11_211 : LkV RX11 211 yX11_fault cX11_fault 3 (some .int) 0 := ⟨wd_976, wd_947, wd_948, wd_41, wd_949, by decide, by decide, by decide +kernel⟩
theorem lk_RX11_215 : LkV RX11 215 yX11_store cX11_store 3 none 1 := ⟨wd_977, wd_979, wd_6, wd_41, wd_980, by decide, by decide, by decide +kernel⟩
theorem lk_RX11_219 : LkV RX11 219 yX11_goShop cX11_goShop 3 none 0 := ⟨wd_981, wd_983, wd_7, wd_41, wd_984, by decide, by decide, by decide +kernel⟩
theorem lk_RX11_222 : LkV RX11 222 yX11_putBack cX11_putBack 2 none 0 := ⟨wd_1020, wd_1022, wd_16, wd_41, wd_1023, by decide, by decide, by decide +kernel⟩
theorem lk_RX11_227 : LkV RX11 227 yX11_refusal cX11_refusal 1 (some .int) 0 := ⟨wd_972, wd_974, wd_5, wd_41, wd_975, by decide, by decide, by decide +kernel⟩
theorem lk_RX11_230 : LkV RX11 230 yX11_lasts cX11_lasts 8 (some .int) 4 := ⟨wd_1048, wd_1050, wd_17, wd_41, wd_1051, by decide, by decide, by decide +kernel⟩
theorem lk_RX11_234 : LkV RX11 234 yX11_bestFrom cX11_bestFrom 6 (some .int) 2 := ⟨wd_1069, wd_1071, wd_19, wd_41, wd_1072, by decide, by decide, by decide +kernel⟩
theorem lk_RX11_237 : LkV RX11 237 yX11_withOn cX11_withOn 5 (some .int) 3 := ⟨wd_1073, wd_1075, wd_20, wd_41, wd_1076, by decide, by decide, by decide +kernel⟩
theorem lk_RX11_242 : LkV RX11 242 yX11_layOrders cX11_layOrders 6 none 2 := ⟨wd_1065, wd_1067, wd_18, wd_41, wd_1068, by decide, by decide, by decide +kernel⟩
theorem lk_RX11_248 : LkS RX11 248 yX11_size cX11_size 1 (some .int) 1 := ⟨wd_1082, wd_1083, wd_41, wd_1084, by decide, by decide, by decide +kernel⟩
theorem lk_RX11_259 : LkS RX11 259 yX11_lowest cX11_lowest 11 (some .long) 3 := ⟨wd_1093, wd_1094, wd_41, wd_1095, by decide, by decide, by decide +kernel⟩
theorem lk_RX11_266 : LkV RX11 266 yX11_shows cX11_shows 7 (some .boolean) 4 := ⟨wd_1112, wd_1114, wd_22, wd_41, wd_1115, by decide, by decide, by decide +kernel⟩
theorem lk_RX11_270 : LkV RX11 270 yX11_fits cX11_fits 5 (some .boolean) 2 := ⟨wd_1108, wd_1110, wd_21, wd_41, wd_1111, by decide, by decide, by decide +kernel⟩
theorem lk_RX11_274 : LkV RX11 274 yX11_suspects cX11_suspects 3 (some .int) 0 := ⟨wd_1124, wd_1117, wd_1118, wd_41, wd_1119, by decide, by decide, by decide +kernel⟩
theorem lk_RX11_277 : LkV RX11 277 yX11_mostLeft cX11_mostLeft 8 (some .int) 2 := ⟨wd_1125, wd_1127, wd_23, wd_41, wd_1128, by decide, by decide, by decide +kernel⟩
theorem lk_RX11_293 : LkV RX11 293 yX11_pass cX11_pass 3 (some .int) 1 := ⟨wd_1148, wd_1150, wd_26, wd_41, wd_1151, by decide, by decide, by decide +kernel⟩
theorem lk_RX11_296 : LkV RX11 296 yX11_passStones cX11_passStones 2 none 0 := ⟨wd_1144, wd_1146, wd_25, wd_41, wd_1147, by decide, by decide, by decide +kernel⟩
theorem lk_RX11_299 : LkV RX11 299 yX11_passAll cX11_passAll 2 none 0 := ⟨wd_1140, wd_1142, wd_24, wd_41, wd_1143, by decide, by decide, by decide +kernel⟩
theorem lk_RX11_310 : LkV RX11 310 yX11_toldOfPicture cX11_toldOfPicture 3 (some .int) 2 := ⟨wd_1164, wd_1166, wd_27, wd_41, wd_1167, by decide, by decide, by decide +kernel⟩
theorem lk_RX11_319 : LkV RX11 319 yX11_toldOfStone cX11_toldOfStone 3 (some .int) 2 := ⟨wd_1171, wd_1173, wd_28, wd_41, wd_1174, by decide, by decide, by decide +kernel⟩
theorem lk_RX11_95 : LkS RX11 95 yX11_in cX11_in 6 (some .boolean) 3 := ⟨wd_895, wd_896, wd_41, wd_897, by decide, by decide, by decide +kernel⟩
theorem lk_RX1_15 : LkM RX1 15 Lib.Math.min.name Lib.Math.min.code 2 (some .int) := ⟨wd_635, wd_475, wd_44, wd_476⟩
theorem lk_RX1_21 : LkM RX1 21 Lib.Math.max.name Lib.Math.max.code 2 (some .int) := ⟨wd_636, wd_478, wd_44, wd_479⟩
theorem lk_RX1_28 : LkV RX1 28 yX1_firstBest cX1_firstBest 7 (some .int) 2 := ⟨wd_637, wd_638, wd_639, wd_40, wd_640, by decide, by decide, by decide +kernel⟩
theorem lk_RX1_32 : LkV RX1 32 yX1_missedWith cX1_missedWith 6 (some .int) 3 := ⟨wd_643, wd_644, wd_645, wd_40, wd_646, by decide, by decide, by decide +kernel⟩
theorem lk_RX1_39 : LkN RX1 39 yX10_hasBit cX10_hasBit 2 (some .boolean) 2 RX10 := ⟨List.mem_of_getElem? (i := 7) rfl, wd_576, wd_30, wd_577, by decide, by decide, by decide +kernel⟩
theorem lk_RX1_43 : LkS RX1 43 yJ6_bitCount_0f7a4 cJ6_bitCount_0f7a4 1 (some .int) 1 := ⟨wd_647, wd_333, wd_42, wd_334, by decide, by decide, by decide +kernel⟩
theorem lk_RX1_47 : LkM RX1 47 Lib.Math.abs.name Lib.Math.abs.code 1 (some .int) := ⟨wd_648, wd_649, wd_44, wd_650⟩
theorem lk_RX2_27 : LkV RX2 27 yX5_payOf cX5_payOf 2 (some .int) 1 := ⟨wd_582, wd_583, wd_584, wd_33, wd_585, by decide, by decide, by decide +kernel⟩
theorem lk_RX2_33 : LkN RX2 33 yX10_hasBit cX10_hasBit 2 (some .boolean) 2 RX10 := ⟨List.mem_of_getElem? (i := 5) rfl, wd_576, wd_30, wd_577, by decide, by decide, by decide +kernel⟩
theorem lk_RX2_37 : LkV RX2 37 yX2_stonesFor cX2_stonesFor 6 (some .int) 3 := ⟨wd_587, wd_588, wd_589, wd_39, wd_590, by decide, by decide, by decide +kernel⟩
theorem lk_RX2_41 : LkV RX2 41 yX2_bestFrom cX2_bestFrom 5 (some .int) 2 := ⟨wd_597, wd_598, wd_599, wd_39, wd_600, by decide, by decide, by decide +kernel⟩
theorem lk_RX2_45 : LkV RX2 45 yX4_takesOrders cX4_takesOrders 2 (some .boolean) 1 := ⟨wd_591, wd_592, wd_593, wd_31, wd_594, by decide, by decide, by decide +kernel⟩
theorem lk_RX2_49 : LkV RX2 49 yX4_wouldLast cX4_wouldLast 6 (some .boolean) 4 := ⟨wd_596, wd_559, wd_560, wd_31, wd_561, by decide, by decide, by decide +kernel⟩
theorem lk_RX2_53 : LkV RX2 53 yX2_payBehind cX2_payBehind 4 (some .int) 2 := ⟨wd_601, wd_602, wd_603, wd_39, wd_604, by decide, by decide, by decide +kernel⟩
theorem lk_RX2_56 : LkV RX2 56 yX2_isFree cX2_isFree 4 (some .boolean) 3 := ⟨wd_605, wd_606, wd_607, wd_39, wd_608, by decide, by decide, by decide +kernel⟩
theorem lk_RX2_60 : LkV RX2 60 yX2_payWith cX2_payWith 4 (some .int) 3 := ⟨wd_610, wd_611, wd_612, wd_39, wd_613, by decide, by decide, by decide +kernel⟩
theorem lk_RX2_64 : LkM RX2 64 Lib.Math.max.name Lib.Math.max.code 2 (some .int) := ⟨wd_614, wd_478, wd_44, wd_479⟩
theorem lk_RX2_69 : LkN RX2 69 yX10_inside cX10_inside 3 (some .boolean) 3 RX10 := ⟨List.mem_of_getElem? (i := 6) rfl, wd_321, wd_30, wd_322, by decide, by decide, by decide +kernel⟩
theorem lk_RX2_72 : LkV RX2 72 yX2_firstBest cX2_firstBest 5 (some .int) 2 := ⟨wd_623, wd_624, wd_625, wd_39, wd_626, by decide, by decide, by decide +kernel⟩
theorem lk_RX3_19 : LkN RX3 19 yX10_inside cX10_inside 3 (some .boolean) 3 RX10 := ⟨List.mem_of_getElem? (i := 1) rfl, wd_321, wd_30, wd_322, by decide, by decide, by decide +kernel⟩
theorem lk_RX3_23 : LkV RX3 23 yX3_signAt cX3_signAt 2 (some .int) 1 := ⟨wd_384, wd_385, wd_386, wd_35, wd_387, by decide, by decide, by decide +kernel⟩
theorem lk_RX3_27 : LkS RX3 27 yX3_isStone cX3_isStone 1 (some .boolean) 1 := ⟨wd_388, wd_389, wd_35, wd_390, by decide, by decide, by decide +kernel⟩
theorem lk_RX3_31 : LkS RX3 31 yX3_isPicture cX3_isPicture 1 (some .boolean) 1 := ⟨wd_391, wd_392, wd_35, wd_393, by decide, by decide, by decide +kernel⟩
theorem lk_RX3_34 : LkS RX3 34 yX3_isDigit cX3_isDigit 1 (some .boolean) 1 := ⟨wd_394, wd_395, wd_35, wd_396, by decide, by decide, by decide +kernel⟩
theorem lk_RX3_37 : LkS RX3 37 yX3_takesDigit cX3_takesDigit 1 (some .boolean) 1 := ⟨wd_397, wd_398, wd_35, wd_399, by decide, by decide, by decide +kernel⟩
theorem lk_RX3_40 : LkV RX3 40 yX3_hasThird cX3_hasThird 3 (some .boolean) 1 := ⟨wd_400, wd_401, wd_402, wd_35, wd_403, by decide, by decide, by decide +kernel⟩
theorem lk_RX3_43 : LkV RX3 43 yX0_become cX0_become 4 none 3 := ⟨wd_440, wd_441, wd_442, wd_38, wd_443, by decide, by decide, by decide +kernel⟩
theorem lk_RX4_102 : LkV RX4 102 yX5_minutesShowing cX5_minutesShowing 6 (some .int) 3 := ⟨wd_692, wd_693, wd_694, wd_33, wd_695, by decide, by decide, by decide +kernel⟩
theorem lk_RX4_106 : LkM RX4 106 Lib.Math.min.name Lib.Math.min.code 2 (some .int) := ⟨wd_699, wd_475, wd_44, wd_476⟩
theorem lk_RX4_109 : LkV RX4 109 yX4_countTwos cX4_countTwos 2 (some .int) 1 := ⟨wd_718, wd_684, wd_685, wd_31, wd_686, by decide, by decide, by decide +kernel⟩
theorem lk_RX4_32 : LkV RX4 32 yX6_copyFrom cX6_copyFrom 2 none 1 := ⟨wd_745, wd_424, wd_425, wd_32, wd_426, by decide, by decide, by decide +kernel⟩
theorem lk_RX4_36 : LkV RX4 36 yX5_copyFrom cX5_copyFrom 2 none 1 := ⟨wd_746, wd_417, wd_418, wd_33, wd_419, by decide, by decide, by decide +kernel⟩
theorem lk_RX4_39 : LkV RX4 39 yX7_copyFrom cX7_copyFrom 2 none 1 := ⟨wd_747, wd_748, wd_749, wd_34, wd_750, by decide, by decide, by decide +kernel⟩
theorem lk_RX4_42 : LkV RX4 42 yX6_ghostFat cX6_ghostFat 6 (some .int) 2 := ⟨wd_562, wd_497, wd_498, wd_32, wd_499, by decide, by decide, by decide +kernel⟩
theorem lk_RX4_46 : LkM RX4 46 Lib.Math.max.name Lib.Math.max.code 2 (some .int) := ⟨wd_563, wd_478, wd_44, wd_479⟩
theorem lk_RX4_51 : LkV RX4 51 yX5_deepOf cX5_deepOf 2 (some .int) 1 := ⟨wd_564, wd_462, wd_463, wd_33, wd_464, by decide, by decide, by decide +kernel⟩
theorem lk_RX4_55 : LkV RX4 55 yX5_wear cX5_wear 2 (some .int) 1 := ⟨wd_565, wd_489, wd_490, wd_33, wd_491, by decide, by decide, by decide +kernel⟩
theorem lk_RX4_58 : LkN RX4 58 yX10_pullsAhead cX10_pullsAhead 6 (some .int) 4 RX10 := ⟨List.mem_of_getElem? (i := 4) rfl, wd_551, wd_30, wd_552, by decide, by decide, by decide +kernel⟩
theorem lk_RX4_62 : LkV RX4 62 yX6_has cX6_has 2 (some .boolean) 1 := ⟨wd_595, wd_343, wd_344, wd_32, wd_345, by decide, by decide, by decide +kernel⟩
theorem lk_RX4_80 : LkV RX4 80 yX4_mostMinutes cX4_mostMinutes 5 (some .int) 1 := ⟨wd_687, wd_688, wd_689, wd_31, wd_690, by decide, by decide, by decide +kernel⟩
theorem lk_RX4_83 : LkV RX4 83 yX4_fewestMinutes cX4_fewestMinutes 5 (some .int) 1 := ⟨wd_700, wd_701, wd_702, wd_31, wd_703, by decide, by decide, by decide +kernel⟩
theorem lk_RX4_92 : LkN RX4 92 yX10_hasBit cX10_hasBit 2 (some .boolean) 2 RX10 := ⟨List.mem_of_getElem? (i := 9) rfl, wd_576, wd_30, wd_577, by decide, by decide, by decide +kernel⟩
theorem lk_RX5_31 : LkC RX5 31 := ⟨wd_420, wd_422, wd_421, wd_43⟩
theorem lk_RX5_37 : LkN RX5 37 yX10_inside cX10_inside 3 (some .boolean) 3 RX10 := ⟨List.mem_of_getElem? (i := 2) rfl, wd_321, wd_30, wd_322, by decide, by decide, by decide +kernel⟩
theorem lk_RX5_41 : LkV RX5 41 yX5_deepOf cX5_deepOf 2 (some .int) 1 := ⟨wd_696, wd_462, wd_463, wd_33, wd_464, by decide, by decide, by decide +kernel⟩
theorem lk_RX5_45 : LkV RX5 45 yX5_wear cX5_wear 2 (some .int) 1 := ⟨wd_697, wd_489, wd_490, wd_33, wd_491, by decide, by decide, by decide +kernel⟩
theorem lk_RX5_48 : LkM RX5 48 Lib.Math.max.name Lib.Math.max.code 2 (some .int) := ⟨wd_698, wd_478, wd_44, wd_479⟩
theorem lk_RX6_34 : LkS RX6 34 yJ6_bitCount_0f7a4 cJ6_bitCount_0f7a4 1 (some .int) 1 := ⟨wd_332, wd_333, wd_42, wd_334, by decide, by decide, by decide +kernel⟩
theorem lk_RX6_40 : LkV RX6 40 yX6_has cX6_has 2 (some .boolean) 1 := ⟨wd_350, wd_343, wd_344, wd_32, wd_345, by decide, by decide, by decide +kernel⟩
theorem lk_RX6_44 : LkN RX6 44 yX10_inside cX10_inside 3 (some .boolean) 3 RX10 := ⟨List.mem_of_getElem? (i := 0) rfl, wd_321, wd_30, wd_322, by decide, by decide, by decide +kernel⟩
theorem lk_RX6_48 : LkC RX6 48 := ⟨wd_427, wd_422, wd_421, wd_43⟩
theorem lk_RX6_54 : LkV RX6 54 yX6_ghostFat cX6_ghostFat 6 (some .int) 2 := ⟨wd_496, wd_497, wd_498, wd_32, wd_499, by decide, by decide, by decide +kernel⟩
theorem lk_RX6_58 : LkM RX6 58 Lib.Math.min.name Lib.Math.min.code 2 (some .int) := ⟨wd_474, wd_475, wd_44, wd_476⟩
theorem lk_RX6_63 : LkM RX6 63 Lib.Math.max.name Lib.Math.max.code 2 (some .int) := ⟨wd_477, wd_478, wd_44, wd_479⟩
theorem lk_RX6_66 : LkV RX6 66 yX6_take cX6_take 2 none 1 := ⟨wd_513, wd_347, wd_348, wd_32, wd_349, by decide, by decide, by decide +kernel⟩
theorem lk_RX7_22 : LkN RX7 22 yX10_inside cX10_inside 3 (some .boolean) 3 RX10 := ⟨List.mem_of_getElem? (i := 8) rfl, wd_321, wd_30, wd_322, by decide, by decide, by decide +kernel⟩
theorem lk_RX7_29 : LkC RX7 29 := ⟨wd_751, wd_422, wd_421, wd_43⟩
theorem lk_RX8_25 : LkN RX8 25 yX10_inside cX10_inside 3 (some .boolean) 3 RX10 := ⟨List.mem_of_getElem? (i := 3) rfl, wd_321, wd_30, wd_322, by decide, by decide, by decide +kernel⟩
theorem lk_RX9_104 : LkV RX9 104 yX9_reasonAgainstDraw cX9_reasonAgainstDraw 2 (some .int) 1 := ⟨wd_449, wd_450, wd_451, wd_36, wd_452, by decide, by decide, by decide +kernel⟩
theorem lk_RX9_108 : LkV RX9 108 yX9_reasonAgainstPulls cX9_reasonAgainstPulls 2 (some .int) 1 := ⟨wd_453, wd_454, wd_455, wd_36, wd_456, by decide, by decide, by decide +kernel⟩
theorem lk_RX9_127 : LkV RX9 127 yX5_deepOf cX5_deepOf 2 (some .int) 1 := ⟨wd_461, wd_462, wd_463, wd_33, wd_464, by decide, by decide, by decide +kernel⟩
theorem lk_RX9_130 : LkV RX9 130 yX6_draw cX6_draw 4 none 3 := ⟨wd_466, wd_467, wd_468, wd_32, wd_469, by decide, by decide, by decide +kernel⟩
theorem lk_RX9_133 : LkV RX9 133 yX6_grindOff cX6_grindOff 6 none 3 := ⟨wd_470, wd_471, wd_472, wd_32, wd_473, by decide, by decide, by decide +kernel⟩
theorem lk_RX9_137 : LkV RX9 137 yX6_wet cX6_wet 3 none 2 := ⟨wd_480, wd_481, wd_482, wd_32, wd_483, by decide, by decide, by decide +kernel⟩
theorem lk_RX9_141 : LkV RX9 141 yX9_pullSeveral cX9_pullSeveral 6 none 2 := ⟨wd_484, wd_485, wd_486, wd_36, wd_487, by decide, by decide, by decide +kernel⟩
theorem lk_RX9_144 : LkV RX9 144 yX6_glueBelow cX6_glueBelow 3 none 2 := ⟨wd_509, wd_510, wd_511, wd_32, wd_512, by decide, by decide, by decide +kernel⟩
theorem lk_RX9_147 : LkV RX9 147 yX5_wear cX5_wear 2 (some .int) 1 := ⟨wd_488, wd_489, wd_490, wd_33, wd_491, by decide, by decide, by decide +kernel⟩
theorem lk_RX9_150 : LkV RX9 150 yX6_pullOnce cX6_pullOnce 5 (some .int) 2 := ⟨wd_492, wd_493, wd_494, wd_32, wd_495, by decide, by decide, by decide +kernel⟩
theorem lk_RX9_154 : LkV RX9 154 yX6_greatestGhost cX6_greatestGhost 5 (some .int) 2 := ⟨wd_500, wd_501, wd_502, wd_32, wd_503, by decide, by decide, by decide +kernel⟩
theorem lk_RX9_157 : LkV RX9 157 yX8_add cX8_add 3 none 2 := ⟨wd_504, wd_505, wd_506, wd_37, wd_507, by decide, by decide, by decide +kernel⟩
theorem lk_RX9_42 : LkV RX9 42 yX5_copyFrom cX5_copyFrom 2 none 1 := ⟨wd_416, wd_417, wd_418, wd_33, wd_419, by decide, by decide, by decide +kernel⟩
theorem lk_RX9_47 : LkV RX9 47 yX6_copyFrom cX6_copyFrom 2 none 1 := ⟨wd_423, wd_424, wd_425, wd_32, wd_426, by decide, by decide, by decide +kernel⟩
theorem lk_RX9_50 : LkV RX9 50 yX8_clear cX8_clear 2 none 0 := ⟨wd_428, wd_429, wd_430, wd_37, wd_431, by decide, by decide, by decide +kernel⟩
theorem lk_RX9_68 : LkV RX9 68 yX3_readAct cX3_readAct 6 none 2 := ⟨wd_436, wd_437, wd_438, wd_35, wd_439, by decide, by decide, by decide +kernel⟩
theorem lk_RX9_72 : LkV RX9 72 yX9_reasonAgainst cX9_reasonAgainst 2 (some .int) 0 := ⟨wd_444, wd_445, wd_446, wd_36, wd_447, by decide, by decide, by decide +kernel⟩
theorem lk_RX9_76 : LkV RX9 76 yX9_carryOut cX9_carryOut 2 none 0 := ⟨wd_457, wd_458, wd_459, wd_36, wd_460, by decide, by decide, by decide +kernel⟩
theorem lk_RX9_79 : LkV RX9 79 yX3_hasThird cX3_hasThird 3 (some .boolean) 1 := ⟨wd_514, wd_401, wd_402, wd_35, wd_403, by decide, by decide, by decide +kernel⟩
theorem lk_RX9_84 : LkV RX9 84 yX9_readDraw cX9_readDraw 3 none 1 := ⟨wd_728, wd_729, wd_730, wd_36, wd_731, by decide, by decide, by decide +kernel⟩
theorem lk_RX9_88 : LkV RX9 88 yX0_become cX0_become 4 none 3 := ⟨wd_732, wd_441, wd_442, wd_38, wd_443, by decide, by decide, by decide +kernel⟩
theorem lk_RX9_95 : LkV RX9 95 yX6_has cX6_has 2 (some .boolean) 1 := ⟨wd_448, wd_343, wd_344, wd_32, wd_345, by decide, by decide, by decide +kernel⟩
theorem nw_RX10_16 : LkW RX10 16 3 RX3 TX3 2 tyX3 := ⟨rfl, iX3, tyX3_ok, wd_172, wd_173, wd_35⟩
theorem nw_RX10_23 : LkW RX10 23 9 RX9 TX9 7 tyX9 := ⟨rfl, iX9, tyX9_ok, wd_187, wd_188, wd_36⟩
theorem nw_RX10_30 : LkW RX10 30 2 RX2 TX2 3 tyX2 := ⟨rfl, iX2, tyX2_ok, wd_266, wd_267, wd_39⟩
theorem nw_RX10_37 : LkW RX10 37 1 RX1 TX1 2 tyX1 := ⟨rfl, iX1, tyX1_ok, wd_282, wd_283, wd_40⟩
theorem nw_RX10_9 : LkW RX10 9 4 RX4 TX4 3 tyX4 := ⟨rfl, iX4, tyX4_ok, wd_53, wd_54, wd_31⟩
theorem nw_RX4_18 : LkW RX4 18 5 RX5 TX5 6 tyX5 := ⟨rfl, iX5, tyX5_ok, wd_97, wd_98, wd_33⟩
theorem nw_RX4_25 : LkW RX4 25 7 RX7 TX7 4 tyX7 := ⟨rfl, iX7, tyX7_ok, wd_132, wd_133, wd_34⟩
theorem nw_RX4_9 : LkW RX4 9 6 RX6 TX6 7 tyX6 := ⟨rfl, iX6, tyX6_ok, wd_59, wd_60, wd_32⟩
theorem nw_RX9_18 : LkW RX9 18 6 RX6 TX6 7 tyX6 := ⟨rfl, iX6, tyX6_ok, wd_195, wd_60, wd_32⟩
theorem nw_RX9_25 : LkW RX9 25 8 RX8 TX8 4 tyX8 := ⟨rfl, iX8, tyX8_ok, wd_197, wd_198, wd_37⟩
theorem nw_RX9_32 : LkW RX9 32 0 RX0 TX0 3 tyX0 := ⟨rfl, iX0, tyX0_ok, wd_220, wd_221, wd_38⟩
theorem nw_RX9_9 : LkW RX9 9 5 RX5 TX5 6 tyX5 := ⟨rfl, iX5, tyX5_ok, wd_193, wd_98, wd_33⟩
theorem ob_RX0_1 : LkO RX0 1 := ⟨wd_225, wd_51, wd_52⟩
theorem ob_RX10_3 : LkO RX10 3 := ⟨wd_50, wd_51, wd_52⟩
theorem ob_RX11_1 : LkO RX11 1 := ⟨wd_773, wd_51, wd_52⟩
theorem ob_RX1_3 : LkO RX1 3 := ⟨wd_287, wd_51, wd_52⟩
theorem ob_RX2_3 : LkO RX2 3 := ⟨wd_271, wd_51, wd_52⟩
theorem ob_RX3_3 : LkO RX3 3 := ⟨wd_177, wd_51, wd_52⟩
theorem ob_RX4_3 : LkO RX4 3 := ⟨wd_58, wd_51, wd_52⟩
theorem ob_RX5_3 : LkO RX5 3 := ⟨wd_102, wd_51, wd_52⟩
theorem ob_RX6_3 : LkO RX6 3 := ⟨wd_64, wd_51, wd_52⟩
theorem ob_RX7_3 : LkO RX7 3 := ⟨wd_137, wd_51, wd_52⟩
theorem ob_RX8_3 : LkO RX8 3 := ⟨wd_202, wd_51, wd_52⟩
theorem ob_RX9_3 : LkO RX9 3 := ⟨wd_192, wd_51, wd_52⟩
