theorem zdrop_all {α : Type} {l : List α} {f : α → Bool} {a : Nat} (h1 : ((l.drop a).take 60).all f = true) (h2 : (l.drop (a + 60)).all f = true) : (l.drop a).all f = true := by
  have e : l.drop a = (l.drop a).take 60 ++ l.drop (a + 60) := by
    rw [← List.drop_drop, List.take_append_drop]
  rw [e, List.all_append, h1, h2]
  rfl
set_option maxRecDepth 100000 in
theorem zi_law_end : (zi_law.drop 480).all (zdB code) = true := by
  have e : zi_law.drop 480 = [] := List.drop_eq_nil_of_le (Nat.le_of_ble_eq_true rfl)
  rw [e]
  rfl
theorem zi_law_d_420 : (zi_law.drop 420).all (zdB code) = true := zdrop_all (a := 420) zi_law_chk_420 zi_law_end
theorem zi_law_d_360 : (zi_law.drop 360).all (zdB code) = true := zdrop_all (a := 360) zi_law_chk_360 zi_law_d_420
theorem zi_law_d_300 : (zi_law.drop 300).all (zdB code) = true := zdrop_all (a := 300) zi_law_chk_300 zi_law_d_360
theorem zi_law_d_240 : (zi_law.drop 240).all (zdB code) = true := zdrop_all (a := 240) zi_law_chk_240 zi_law_d_300
theorem zi_law_d_180 : (zi_law.drop 180).all (zdB code) = true := zdrop_all (a := 180) zi_law_chk_180 zi_law_d_240
theorem zi_law_d_120 : (zi_law.drop 120).all (zdB code) = true := zdrop_all (a := 120) zi_law_chk_120 zi_law_d_180
theorem zi_law_d_60 : (zi_law.drop 60).all (zdB code) = true := zdrop_all (a := 60) zi_law_chk_60 zi_law_d_120
theorem zi_law_d_0 : (zi_law.drop 0).all (zdB code) = true := zdrop_all (a := 0) zi_law_chk_0 zi_law_d_60
theorem zi_law_chk : zi_law.all (zdB code) = true := by
  have h := zi_law_d_0
  rwa [List.drop_zero] at h
theorem zil_law : zil 151 = zi_law := rfl
theorem zmt_law : zmt 151 = zLawMt := rfl
theorem zdA_law : zdA 151 = true := by
  unfold zdA
  rw [zil_law, zmt_law]
  exact zi_law_chk
theorem zdA_all (i : Nat) (hi : i ≤ 151) : zdA i = true := by
  by_cases h0 : i < 20
  · exact zrng zi_chk_0 (by omega) (by omega)
  by_cases h20 : i < 40
  · exact zrng zi_chk_20 (by omega) (by omega)
  by_cases h40 : i < 60
  · exact zrng zi_chk_40 (by omega) (by omega)
  by_cases h60 : i < 80
  · exact zrng zi_chk_60 (by omega) (by omega)
  by_cases h80 : i < 100
  · exact zrng zi_chk_80 (by omega) (by omega)
  by_cases h100 : i < 120
  · exact zrng zi_chk_100 (by omega) (by omega)
  by_cases h120 : i < 140
  · exact zrng zi_chk_120 (by omega) (by omega)
  by_cases h140 : i < 151
  · exact zrng zi_chk_140 (by omega) (by omega)
  have e : i = 151 := by omega
  rw [e]
  exact zdA_law
theorem zi_ok {i pc : Nat} {ins : Instr} (h : zfd (zil i) pc = some ins) (hi : i ≤ 151) : zDc (zmt i).2.1 pc ins := by
  have h1 := zdA_all i hi
  unfold zdA at h1
  have h2 : zdB (zmt i).2.1 (pc, ins) = true := List.all_eq_true.mp h1 (pc, ins) (zfd_mem h)
  have h3 : zDc (zmt i).2.1 (pc, ins).1 (pc, ins).2 := zdB_ok (cc := (zmt i).2.1) (e := (pc, ins)) h2
  exact h3
theorem zcw_0 : zcw 0 ∈ zT := zwd_mem (i := 2022) rfl
theorem zcw_1 : zcw 1 ∈ zT := zwd_mem (i := 2027) rfl
theorem zcw_2 : zcw 2 ∈ zT := zwd_mem (i := 2031) rfl
theorem zcw_3 : zcw 3 ∈ zT := zwd_mem (i := 2038) rfl
theorem zcw_4 : zcw 4 ∈ zT := zwd_mem (i := 2042) rfl
theorem zcw_5 : zcw 5 ∈ zT := zwd_mem (i := 2046) rfl
theorem zcw_6 : zcw 6 ∈ zT := zwd_mem (i := 2123) rfl
theorem zcw_7 : zcw 7 ∈ zT := zwd_mem (i := 2127) rfl
theorem zcw_8 : zcw 8 ∈ zT := zwd_mem (i := 2131) rfl
theorem zcw_9 : zcw 9 ∈ zT := zwd_mem (i := 2135) rfl
theorem zcw_10 : zcw 10 ∈ zT := zwd_mem (i := 2140) rfl
theorem zcw_11 : zcw 11 ∈ zT := zwd_mem (i := 2144) rfl
theorem zcw_12 : zcw 12 ∈ zT := zwd_mem (i := 2148) rfl
theorem zcw_13 : zcw 13 ∈ zT := zwd_mem (i := 2152) rfl
theorem zcw_14 : zcw 14 ∈ zT := zwd_mem (i := 2156) rfl
theorem zcw_15 : zcw 15 ∈ zT := zwd_mem (i := 2161) rfl
theorem zcw_16 : zcw 16 ∈ zT := zwd_mem (i := 2166) rfl
theorem zcw_17 : zcw 17 ∈ zT := zwd_mem (i := 2170) rfl
theorem zcw_18 : zcw 18 ∈ zT := zwd_mem (i := 2174) rfl
theorem zcw_19 : zcw 19 ∈ zT := zwd_mem (i := 2178) rfl
theorem zcw_20 : zcw 20 ∈ zT := zwd_mem (i := 2185) rfl
theorem zcw_21 : zcw 21 ∈ zT := zwd_mem (i := 2189) rfl
theorem zcw_22 : zcw 22 ∈ zT := zwd_mem (i := 2193) rfl
theorem zcw_23 : zcw 23 ∈ zT := zwd_mem (i := 2197) rfl
theorem zcw_24 : zcw 24 ∈ zT := zwd_mem (i := 2202) rfl
theorem zcw_25 : zcw 25 ∈ zT := zwd_mem (i := 2206) rfl
theorem zcw_26 : zcw 26 ∈ zT := zwd_mem (i := 2210) rfl
theorem zcw_27 : zcw 27 ∈ zT := zwd_mem (i := 2214) rfl
theorem zcw_28 : zcw 28 ∈ zT := zwd_mem (i := 2218) rfl
theorem zcw_29 : zcw 29 ∈ zT := zwd_mem (i := 2222) rfl
theorem zcw_30 : zcw 30 ∈ zT := zwd_mem (i := 2226) rfl
theorem zcw_31 : zcw 31 ∈ zT := zwd_mem (i := 2231) rfl
theorem zcw_32 : zcw 32 ∈ zT := zwd_mem (i := 2235) rfl
theorem zcw_33 : zcw 33 ∈ zT := zwd_mem (i := 3002) rfl
theorem zcw_34 : zcw 34 ∈ zT := zwd_mem (i := 3025) rfl
theorem zcw_35 : zcw 35 ∈ zT := zwd_mem (i := 3031) rfl
theorem zcw_36 : zcw 36 ∈ zT := zwd_mem (i := 3035) rfl
theorem zcw_37 : zcw 37 ∈ zT := zwd_mem (i := 3038) rfl
theorem zcw_38 : zcw 38 ∈ zT := zwd_mem (i := 3046) rfl
theorem zcw_39 : zcw 39 ∈ zT := zwd_mem (i := 3052) rfl
theorem zcw_40 : zcw 40 ∈ zT := zwd_mem (i := 3055) rfl
theorem zcw_41 : zcw 41 ∈ zT := zwd_mem (i := 3058) rfl
theorem zcw_42 : zcw 42 ∈ zT := zwd_mem (i := 3061) rfl
theorem zcw_43 : zcw 43 ∈ zT := zwd_mem (i := 3068) rfl
theorem zcw_44 : zcw 44 ∈ zT := zwd_mem (i := 3073) rfl
theorem zcw_45 : zcw 45 ∈ zT := zwd_mem (i := 3076) rfl
theorem zcw_46 : zcw 46 ∈ zT := zwd_mem (i := 3082) rfl
theorem zcw_47 : zcw 47 ∈ zT := zwd_mem (i := 3087) rfl
theorem zcw_48 : zcw 48 ∈ zT := zwd_mem (i := 3093) rfl
theorem zcw_49 : zcw 49 ∈ zT := zwd_mem (i := 3096) rfl
theorem zcw_50 : zcw 50 ∈ zT := zwd_mem (i := 3100) rfl
theorem zcw_51 : zcw 51 ∈ zT := zwd_mem (i := 3106) rfl
theorem zcw_52 : zcw 52 ∈ zT := zwd_mem (i := 3111) rfl
theorem zcw_53 : zcw 53 ∈ zT := zwd_mem (i := 3116) rfl
theorem zcw_54 : zcw 54 ∈ zT := zwd_mem (i := 3123) rfl
theorem zcw_55 : zcw 55 ∈ zT := zwd_mem (i := 3128) rfl
theorem zcw_56 : zcw 56 ∈ zT := zwd_mem (i := 3131) rfl
theorem zcw_57 : zcw 57 ∈ zT := zwd_mem (i := 3140) rfl
theorem zcw_58 : zcw 58 ∈ zT := zwd_mem (i := 3144) rfl
theorem zcw_59 : zcw 59 ∈ zT := zwd_mem (i := 3148) rfl
theorem zcw_60 : zcw 60 ∈ zT := zwd_mem (i := 3153) rfl
theorem zcw_61 : zcw 61 ∈ zT := zwd_mem (i := 3157) rfl
theorem zcw_62 : zcw 62 ∈ zT := zwd_mem (i := 3161) rfl
theorem zcw_63 : zcw 63 ∈ zT := zwd_mem (i := 3165) rfl
theorem zcw_64 : zcw 64 ∈ zT := zwd_mem (i := 3172) rfl
theorem zcw_65 : zcw 65 ∈ zT := zwd_mem (i := 3179) rfl
theorem zcw_66 : zcw 66 ∈ zT := zwd_mem (i := 3182) rfl
theorem zcw_67 : zcw 67 ∈ zT := zwd_mem (i := 3185) rfl
theorem zcw_68 : zcw 68 ∈ zT := zwd_mem (i := 3189) rfl
theorem zcw_69 : zcw 69 ∈ zT := zwd_mem (i := 3196) rfl
theorem zcw_70 : zcw 70 ∈ zT := zwd_mem (i := 3204) rfl
theorem zcw_71 : zcw 71 ∈ zT := zwd_mem (i := 3207) rfl
theorem zcw_72 : zcw 72 ∈ zT := zwd_mem (i := 3212) rfl
theorem zcw_73 : zcw 73 ∈ zT := zwd_mem (i := 3216) rfl
theorem zcw_74 : zcw 74 ∈ zT := zwd_mem (i := 3220) rfl
theorem zcw_75 : zcw 75 ∈ zT := zwd_mem (i := 3229) rfl
theorem zcw_76 : zcw 76 ∈ zT := zwd_mem (i := 3232) rfl
theorem zcw_77 : zcw 77 ∈ zT := zwd_mem (i := 3236) rfl
theorem zcw_78 : zcw 78 ∈ zT := zwd_mem (i := 3239) rfl
theorem zcw_79 : zcw 79 ∈ zT := zwd_mem (i := 4003) rfl
theorem zcw_80 : zcw 80 ∈ zT := zwd_mem (i := 4007) rfl
theorem zcw_81 : zcw 81 ∈ zT := zwd_mem (i := 4016) rfl
theorem zcw_82 : zcw 82 ∈ zT := zwd_mem (i := 4020) rfl
theorem zcw_83 : zcw 83 ∈ zT := zwd_mem (i := 4024) rfl
theorem zcw_84 : zcw 84 ∈ zT := zwd_mem (i := 4030) rfl
theorem zcw_85 : zcw 85 ∈ zT := zwd_mem (i := 4035) rfl
theorem zcw_86 : zcw 86 ∈ zT := zwd_mem (i := 4042) rfl
theorem zcw_87 : zcw 87 ∈ zT := zwd_mem (i := 4045) rfl
theorem zcw_88 : zcw 88 ∈ zT := zwd_mem (i := 4050) rfl
theorem zcw_89 : zcw 89 ∈ zT := zwd_mem (i := 4057) rfl
theorem zcw_90 : zcw 90 ∈ zT := zwd_mem (i := 4063) rfl
theorem zcw_91 : zcw 91 ∈ zT := zwd_mem (i := 4075) rfl
theorem zcw_92 : zcw 92 ∈ zT := zwd_mem (i := 4079) rfl
theorem zcw_93 : zcw 93 ∈ zT := zwd_mem (i := 4087) rfl
theorem zcw_94 : zcw 94 ∈ zT := zwd_mem (i := 4094) rfl
theorem zcw_95 : zcw 95 ∈ zT := zwd_mem (i := 4101) rfl
theorem zcw_96 : zcw 96 ∈ zT := zwd_mem (i := 4107) rfl
theorem zcw_97 : zcw 97 ∈ zT := zwd_mem (i := 4111) rfl
theorem zcw_98 : zcw 98 ∈ zT := zwd_mem (i := 4117) rfl
theorem zcw_99 : zcw 99 ∈ zT := zwd_mem (i := 4120) rfl
theorem zcw_100 : zcw 100 ∈ zT := zwd_mem (i := 4124) rfl
theorem zcw_101 : zcw 101 ∈ zT := zwd_mem (i := 4134) rfl
theorem zcw_102 : zcw 102 ∈ zT := zwd_mem (i := 4145) rfl
theorem zcw_103 : zcw 103 ∈ zT := zwd_mem (i := 4148) rfl
theorem zcw_104 : zcw 104 ∈ zT := zwd_mem (i := 4155) rfl
theorem zcw_105 : zcw 105 ∈ zT := zwd_mem (i := 4160) rfl
theorem zcw_106 : zcw 106 ∈ zT := zwd_mem (i := 4165) rfl
theorem zcw_107 : zcw 107 ∈ zT := zwd_mem (i := 4170) rfl
theorem zcw_108 : zcw 108 ∈ zT := zwd_mem (i := 4189) rfl
theorem zcw_109 : zcw 109 ∈ zT := zwd_mem (i := 4192) rfl
theorem zcw_110 : zcw 110 ∈ zT := zwd_mem (i := 4197) rfl
theorem zcw_111 : zcw 111 ∈ zT := zwd_mem (i := 4222) rfl
theorem zcw_112 : zcw 112 ∈ zT := zwd_mem (i := 5066) rfl
theorem zcw_113 : zcw 113 ∈ zT := zwd_mem (i := 5085) rfl
theorem zcw_114 : zcw 114 ∈ zT := zwd_mem (i := 5132) rfl
theorem zcw_115 : zcw 115 ∈ zT := zwd_mem (i := 5190) rfl
theorem zcw_116 : zcw 116 ∈ zT := zwd_mem (i := 5193) rfl
theorem zcw_117 : zcw 117 ∈ zT := zwd_mem (i := 5197) rfl
theorem zcw_118 : zcw 118 ∈ zT := zwd_mem (i := 5202) rfl
theorem zcw_119 : zcw 119 ∈ zT := zwd_mem (i := 5207) rfl
theorem zcw_120 : zcw 120 ∈ zT := zwd_mem (i := 5213) rfl
theorem zcw_121 : zcw 121 ∈ zT := zwd_mem (i := 5220) rfl
theorem zcw_122 : zcw 122 ∈ zT := zwd_mem (i := 5225) rfl
theorem zcw_123 : zcw 123 ∈ zT := zwd_mem (i := 5230) rfl
theorem zcw_124 : zcw 124 ∈ zT := zwd_mem (i := 5234) rfl
theorem zcw_125 : zcw 125 ∈ zT := zwd_mem (i := 5239) rfl
theorem zcw_126 : zcw 126 ∈ zT := zwd_mem (i := 6003) rfl
theorem zcw_127 : zcw 127 ∈ zT := zwd_mem (i := 6007) rfl
theorem zcw_128 : zcw 128 ∈ zT := zwd_mem (i := 6011) rfl
theorem zcw_129 : zcw 129 ∈ zT := zwd_mem (i := 6015) rfl
theorem zcw_130 : zcw 130 ∈ zT := zwd_mem (i := 6023) rfl
theorem zcw_131 : zcw 131 ∈ zT := zwd_mem (i := 6027) rfl
theorem zcw_132 : zcw 132 ∈ zT := zwd_mem (i := 6031) rfl
theorem zcw_133 : zcw 133 ∈ zT := zwd_mem (i := 6035) rfl
theorem zcw_134 : zcw 134 ∈ zT := zwd_mem (i := 6039) rfl
theorem zcw_135 : zcw 135 ∈ zT := zwd_mem (i := 6059) rfl
theorem zcw_136 : zcw 136 ∈ zT := zwd_mem (i := 6064) rfl
theorem zcw_137 : zcw 137 ∈ zT := zwd_mem (i := 6070) rfl
theorem zcw_138 : zcw 138 ∈ zT := zwd_mem (i := 6074) rfl
theorem zcw_139 : zcw 139 ∈ zT := zwd_mem (i := 6079) rfl
theorem zcw_140 : zcw 140 ∈ zT := zwd_mem (i := 6083) rfl
theorem zcw_141 : zcw 141 ∈ zT := zwd_mem (i := 6088) rfl
theorem zcw_142 : zcw 142 ∈ zT := zwd_mem (i := 6092) rfl
theorem zcw_143 : zcw 143 ∈ zT := zwd_mem (i := 6097) rfl
theorem zcw_144 : zcw 144 ∈ zT := zwd_mem (i := 6101) rfl
theorem zcw_145 : zcw 145 ∈ zT := zwd_mem (i := 6107) rfl
theorem zcw_146 : zcw 146 ∈ zT := zwd_mem (i := 6111) rfl
theorem zcw_147 : zcw 147 ∈ zT := zwd_mem (i := 6116) rfl
theorem zcw_148 : zcw 148 ∈ zT := zwd_mem (i := 6120) rfl
theorem zcw_149 : zcw 149 ∈ zT := zwd_mem (i := 6125) rfl
theorem zcw_150 : zcw 150 ∈ zT := zwd_mem (i := 6129) rfl
set_option maxRecDepth 100000 in
theorem zcw_to_40 : ∀ i, i < 40 → zcw i ∈ zT := lt_s (lt_s (lt_s (lt_s (lt_s (lt_s (lt_s (lt_s (lt_s (lt_s (lt_s (lt_s (lt_s (lt_s (lt_s (lt_s (lt_s (lt_s (lt_s (lt_s (lt_s (lt_s (lt_s (lt_s (lt_s (lt_s (lt_s (lt_s (lt_s (lt_s (lt_s (lt_s (lt_s (lt_s (lt_s (lt_s (lt_s (lt_s (lt_s (lt_s (lt_0) zcw_0) zcw_1) zcw_2) zcw_3) zcw_4) zcw_5) zcw_6) zcw_7) zcw_8) zcw_9) zcw_10) zcw_11) zcw_12) zcw_13) zcw_14) zcw_15) zcw_16) zcw_17) zcw_18) zcw_19) zcw_20) zcw_21) zcw_22) zcw_23) zcw_24) zcw_25) zcw_26) zcw_27) zcw_28) zcw_29) zcw_30) zcw_31) zcw_32) zcw_33) zcw_34) zcw_35) zcw_36) zcw_37) zcw_38) zcw_39
set_option maxRecDepth 100000 in
theorem zcw_to_80 : ∀ i, i < 80 → zcw i ∈ zT := lt_s (lt_s (lt_s (lt_s (lt_s (lt_s (lt_s (lt_s (lt_s (lt_s (lt_s (lt_s (lt_s (lt_s (lt_s (lt_s (lt_s (lt_s (lt_s (lt_s (lt_s (lt_s (lt_s (lt_s (lt_s (lt_s (lt_s (lt_s (lt_s (lt_s (lt_s (lt_s (lt_s (lt_s (lt_s (lt_s (lt_s (lt_s (lt_s (lt_s (zcw_to_40) zcw_40) zcw_41) zcw_42) zcw_43) zcw_44) zcw_45) zcw_46) zcw_47) zcw_48) zcw_49) zcw_50) zcw_51) zcw_52) zcw_53) zcw_54) zcw_55) zcw_56) zcw_57) zcw_58) zcw_59) zcw_60) zcw_61) zcw_62) zcw_63) zcw_64) zcw_65) zcw_66) zcw_67) zcw_68) zcw_69) zcw_70) zcw_71) zcw_72) zcw_73) zcw_74) zcw_75) zcw_76) zcw_77) zcw_78) zcw_79
set_option maxRecDepth 100000 in
theorem zcw_to_120 : ∀ i, i < 120 → zcw i ∈ zT := lt_s (lt_s (lt_s (lt_s (lt_s (lt_s (lt_s (lt_s (lt_s (lt_s (lt_s (lt_s (lt_s (lt_s (lt_s (lt_s (lt_s (lt_s (lt_s (lt_s (lt_s (lt_s (lt_s (lt_s (lt_s (lt_s (lt_s (lt_s (lt_s (lt_s (lt_s (lt_s (lt_s (lt_s (lt_s (lt_s (lt_s (lt_s (lt_s (lt_s (zcw_to_80) zcw_80) zcw_81) zcw_82) zcw_83) zcw_84) zcw_85) zcw_86) zcw_87) zcw_88) zcw_89) zcw_90) zcw_91) zcw_92) zcw_93) zcw_94) zcw_95) zcw_96) zcw_97) zcw_98) zcw_99) zcw_100) zcw_101) zcw_102) zcw_103) zcw_104) zcw_105) zcw_106) zcw_107) zcw_108) zcw_109) zcw_110) zcw_111) zcw_112) zcw_113) zcw_114) zcw_115) zcw_116) zcw_117) zcw_118) zcw_119
set_option maxRecDepth 100000 in
theorem zcw_to_151 : ∀ i, i < 151 → zcw i ∈ zT := lt_s (lt_s (lt_s (lt_s (lt_s (lt_s (lt_s (lt_s (lt_s (lt_s (lt_s (lt_s (lt_s (lt_s (lt_s (lt_s (lt_s (lt_s (lt_s (lt_s (lt_s (lt_s (lt_s (lt_s (lt_s (lt_s (lt_s (lt_s (lt_s (lt_s (lt_s (zcw_to_120) zcw_120) zcw_121) zcw_122) zcw_123) zcw_124) zcw_125) zcw_126) zcw_127) zcw_128) zcw_129) zcw_130) zcw_131) zcw_132) zcw_133) zcw_134) zcw_135) zcw_136) zcw_137) zcw_138) zcw_139) zcw_140) zcw_141) zcw_142) zcw_143) zcw_144) zcw_145) zcw_146) zcw_147) zcw_148) zcw_149) zcw_150
theorem zcw_ok {i : Nat} (h : i < zLaw) : zcw i ∈ zG ∧ zon (zoc i) = (zmt i).1.cls ∧ plainName (zmt i).1.cls = true ∧ (zmt i).1.cls ≠ "java/lang/invoke/MethodHandle" ∧ (zmt i).1.cls ≠ "java/lang/invoke/VarHandle" := by
  have h1 := List.all_eq_true.mp zcw_chk i (List.mem_range.mpr h)
  simp only [Bool.and_eq_true, decide_eq_true_eq] at h1
  exact ⟨List.mem_filter.mpr ⟨zcw_to_151 i h, zcw_good i⟩, h1.1.1.1, h1.1.1.2, h1.1.2, h1.2⟩
