theorem zdrop_all {α : Type} {l : List α} {f : α → Bool} {a : Nat} (h1 : ((l.drop a).take 60).all f = true) (h2 : (l.drop (a + 60)).all f = true) : (l.drop a).all f = true := by
  have e : l.drop a = (l.drop a).take 60 ++ l.drop (a + 60) := by
    rw [← List.drop_drop, List.take_append_drop]
  rw [e, List.all_append, h1, h2]
  rfl
set_option maxRecDepth 100000 in
theorem zi_law_end : (zi_law.drop 840).all (zdB code) = true := by
  have e : zi_law.drop 840 = [] := List.drop_eq_nil_of_le (Nat.le_of_ble_eq_true rfl)
  rw [e]
  rfl
theorem zi_law_d_780 : (zi_law.drop 780).all (zdB code) = true := zdrop_all (a := 780) zi_law_chk_780 zi_law_end
theorem zi_law_d_720 : (zi_law.drop 720).all (zdB code) = true := zdrop_all (a := 720) zi_law_chk_720 zi_law_d_780
theorem zi_law_d_660 : (zi_law.drop 660).all (zdB code) = true := zdrop_all (a := 660) zi_law_chk_660 zi_law_d_720
theorem zi_law_d_600 : (zi_law.drop 600).all (zdB code) = true := zdrop_all (a := 600) zi_law_chk_600 zi_law_d_660
theorem zi_law_d_540 : (zi_law.drop 540).all (zdB code) = true := zdrop_all (a := 540) zi_law_chk_540 zi_law_d_600
theorem zi_law_d_480 : (zi_law.drop 480).all (zdB code) = true := zdrop_all (a := 480) zi_law_chk_480 zi_law_d_540
theorem zi_law_d_420 : (zi_law.drop 420).all (zdB code) = true := zdrop_all (a := 420) zi_law_chk_420 zi_law_d_480
theorem zi_law_d_360 : (zi_law.drop 360).all (zdB code) = true := zdrop_all (a := 360) zi_law_chk_360 zi_law_d_420
theorem zi_law_d_300 : (zi_law.drop 300).all (zdB code) = true := zdrop_all (a := 300) zi_law_chk_300 zi_law_d_360
theorem zi_law_d_240 : (zi_law.drop 240).all (zdB code) = true := zdrop_all (a := 240) zi_law_chk_240 zi_law_d_300
theorem zi_law_d_180 : (zi_law.drop 180).all (zdB code) = true := zdrop_all (a := 180) zi_law_chk_180 zi_law_d_240
theorem zi_law_d_120 : (zi_law.drop 120).all (zdB code) = true := zdrop_all (a := 120) zi_law_chk_120 zi_law_d_180
theorem zi_law_d_60 : (zi_law.drop 60).all (zdB code) = true := zdrop_all (a := 60) zi_law_chk_60 zi_law_d_120
theorem zi_law_d_0 : (zi_law.drop 0).all (zdB code) = true := zdrop_all (a := 0) zi_law_chk_0 zi_law_d_60
theorem zi_law_chk : zi_law.all (zdB code) = true := by
  have h := zi_law_d_0
  rwa [List.drop_zero] at h
theorem zil_law : zil 229 = zi_law := rfl
theorem zmt_law : zmt 229 = zLawMt := rfl
theorem zdA_law : zdA 229 = true := by
  unfold zdA
  rw [zil_law, zmt_law]
  exact zi_law_chk
theorem zdA_all (i : Nat) (hi : i ≤ 229) : zdA i = true := by
  by_cases h0 : i < 20
  · exact zrng zi_chk_0 (by omega) (by omega)
  by_cases h20 : i < 40
  · exact zrng zi_chk_20 (by omega) (by omega)
  by_cases h40 : i < 60
  · exact zrng zi_chk_40 (by omega) (by omega)
  by_cases h60 : i < 80
  · exact zrng zi_chk_60 (by omega) (by omega)
  by_cases h80 : i < 100
  · exact zrng zi_chk_80 (by omega) (by omega)
  by_cases h100 : i < 120
  · exact zrng zi_chk_100 (by omega) (by omega)
  by_cases h120 : i < 140
  · exact zrng zi_chk_120 (by omega) (by omega)
  by_cases h140 : i < 160
  · exact zrng zi_chk_140 (by omega) (by omega)
  by_cases h160 : i < 180
  · exact zrng zi_chk_160 (by omega) (by omega)
  by_cases h180 : i < 200
  · exact zrng zi_chk_180 (by omega) (by omega)
  by_cases h200 : i < 220
  · exact zrng zi_chk_200 (by omega) (by omega)
  by_cases h220 : i < 229
  · exact zrng zi_chk_220 (by omega) (by omega)
  have e : i = 229 := by omega
  rw [e]
  exact zdA_law
theorem zi_ok {i pc : Nat} {ins : Instr} (h : zfd (zil i) pc = some ins) (hi : i ≤ 229) : zDc (zmt i).2.1 pc ins := by
  have h1 := zdA_all i hi
  unfold zdA at h1
  have h2 : zdB (zmt i).2.1 (pc, ins) = true := List.all_eq_true.mp h1 (pc, ins) (zfd_mem h)
  have h3 : zDc (zmt i).2.1 (pc, ins).1 (pc, ins).2 := zdB_ok (cc := (zmt i).2.1) (e := (pc, ins)) h2
  exact h3
theorem zcw_0 : zcw 0 ∈ zT := zwd_mem (i := 2024) rfl
theorem zcw_1 : zcw 1 ∈ zT := zwd_mem (i := 2032) rfl
theorem zcw_2 : zcw 2 ∈ zT := zwd_mem (i := 2052) rfl
theorem zcw_3 : zcw 3 ∈ zT := zwd_mem (i := 2055) rfl
theorem zcw_4 : zcw 4 ∈ zT := zwd_mem (i := 2061) rfl
theorem zcw_5 : zcw 5 ∈ zT := zwd_mem (i := 2086) rfl
theorem zcw_6 : zcw 6 ∈ zT := zwd_mem (i := 2170) rfl
theorem zcw_7 : zcw 7 ∈ zT := zwd_mem (i := 2190) rfl
theorem zcw_8 : zcw 8 ∈ zT := zwd_mem (i := 2237) rfl
theorem zcw_9 : zcw 9 ∈ zT := zwd_mem (i := 3001) rfl
theorem zcw_10 : zcw 10 ∈ zT := zwd_mem (i := 3005) rfl
theorem zcw_11 : zcw 11 ∈ zT := zwd_mem (i := 3009) rfl
theorem zcw_12 : zcw 12 ∈ zT := zwd_mem (i := 3016) rfl
theorem zcw_13 : zcw 13 ∈ zT := zwd_mem (i := 3020) rfl
theorem zcw_14 : zcw 14 ∈ zT := zwd_mem (i := 3024) rfl
theorem zcw_15 : zcw 15 ∈ zT := zwd_mem (i := 3028) rfl
theorem zcw_16 : zcw 16 ∈ zT := zwd_mem (i := 3035) rfl
theorem zcw_17 : zcw 17 ∈ zT := zwd_mem (i := 3039) rfl
theorem zcw_18 : zcw 18 ∈ zT := zwd_mem (i := 3046) rfl
theorem zcw_19 : zcw 19 ∈ zT := zwd_mem (i := 3050) rfl
theorem zcw_20 : zcw 20 ∈ zT := zwd_mem (i := 3054) rfl
theorem zcw_21 : zcw 21 ∈ zT := zwd_mem (i := 3061) rfl
theorem zcw_22 : zcw 22 ∈ zT := zwd_mem (i := 3065) rfl
theorem zcw_23 : zcw 23 ∈ zT := zwd_mem (i := 3069) rfl
theorem zcw_24 : zcw 24 ∈ zT := zwd_mem (i := 3076) rfl
theorem zcw_25 : zcw 25 ∈ zT := zwd_mem (i := 3080) rfl
theorem zcw_26 : zcw 26 ∈ zT := zwd_mem (i := 3084) rfl
theorem zcw_27 : zcw 27 ∈ zT := zwd_mem (i := 3088) rfl
theorem zcw_28 : zcw 28 ∈ zT := zwd_mem (i := 3092) rfl
theorem zcw_29 : zcw 29 ∈ zT := zwd_mem (i := 3096) rfl
theorem zcw_30 : zcw 30 ∈ zT := zwd_mem (i := 3100) rfl
theorem zcw_31 : zcw 31 ∈ zT := zwd_mem (i := 3104) rfl
theorem zcw_32 : zcw 32 ∈ zT := zwd_mem (i := 3108) rfl
theorem zcw_33 : zcw 33 ∈ zT := zwd_mem (i := 3115) rfl
theorem zcw_34 : zcw 34 ∈ zT := zwd_mem (i := 3119) rfl
theorem zcw_35 : zcw 35 ∈ zT := zwd_mem (i := 3126) rfl
theorem zcw_36 : zcw 36 ∈ zT := zwd_mem (i := 3132) rfl
theorem zcw_37 : zcw 37 ∈ zT := zwd_mem (i := 3139) rfl
theorem zcw_38 : zcw 38 ∈ zT := zwd_mem (i := 3145) rfl
theorem zcw_39 : zcw 39 ∈ zT := zwd_mem (i := 3148) rfl
theorem zcw_40 : zcw 40 ∈ zT := zwd_mem (i := 3151) rfl
theorem zcw_41 : zcw 41 ∈ zT := zwd_mem (i := 3154) rfl
theorem zcw_42 : zcw 42 ∈ zT := zwd_mem (i := 3162) rfl
theorem zcw_43 : zcw 43 ∈ zT := zwd_mem (i := 3168) rfl
theorem zcw_44 : zcw 44 ∈ zT := zwd_mem (i := 3173) rfl
theorem zcw_45 : zcw 45 ∈ zT := zwd_mem (i := 3176) rfl
theorem zcw_46 : zcw 46 ∈ zT := zwd_mem (i := 3181) rfl
theorem zcw_47 : zcw 47 ∈ zT := zwd_mem (i := 3185) rfl
theorem zcw_48 : zcw 48 ∈ zT := zwd_mem (i := 3189) rfl
theorem zcw_49 : zcw 49 ∈ zT := zwd_mem (i := 3195) rfl
theorem zcw_50 : zcw 50 ∈ zT := zwd_mem (i := 3198) rfl
theorem zcw_51 : zcw 51 ∈ zT := zwd_mem (i := 3202) rfl
theorem zcw_52 : zcw 52 ∈ zT := zwd_mem (i := 3206) rfl
theorem zcw_53 : zcw 53 ∈ zT := zwd_mem (i := 3210) rfl
theorem zcw_54 : zcw 54 ∈ zT := zwd_mem (i := 3215) rfl
theorem zcw_55 : zcw 55 ∈ zT := zwd_mem (i := 3220) rfl
theorem zcw_56 : zcw 56 ∈ zT := zwd_mem (i := 3227) rfl
theorem zcw_57 : zcw 57 ∈ zT := zwd_mem (i := 3232) rfl
theorem zcw_58 : zcw 58 ∈ zT := zwd_mem (i := 3236) rfl
theorem zcw_59 : zcw 59 ∈ zT := zwd_mem (i := 4000) rfl
theorem zcw_60 : zcw 60 ∈ zT := zwd_mem (i := 4004) rfl
theorem zcw_61 : zcw 61 ∈ zT := zwd_mem (i := 4008) rfl
theorem zcw_62 : zcw 62 ∈ zT := zwd_mem (i := 4015) rfl
theorem zcw_63 : zcw 63 ∈ zT := zwd_mem (i := 4022) rfl
theorem zcw_64 : zcw 64 ∈ zT := zwd_mem (i := 4025) rfl
theorem zcw_65 : zcw 65 ∈ zT := zwd_mem (i := 4028) rfl
theorem zcw_66 : zcw 66 ∈ zT := zwd_mem (i := 4032) rfl
theorem zcw_67 : zcw 67 ∈ zT := zwd_mem (i := 4036) rfl
theorem zcw_68 : zcw 68 ∈ zT := zwd_mem (i := 4043) rfl
theorem zcw_69 : zcw 69 ∈ zT := zwd_mem (i := 4051) rfl
theorem zcw_70 : zcw 70 ∈ zT := zwd_mem (i := 4054) rfl
theorem zcw_71 : zcw 71 ∈ zT := zwd_mem (i := 4059) rfl
theorem zcw_72 : zcw 72 ∈ zT := zwd_mem (i := 4063) rfl
theorem zcw_73 : zcw 73 ∈ zT := zwd_mem (i := 4068) rfl
theorem zcw_74 : zcw 74 ∈ zT := zwd_mem (i := 4069) rfl
theorem zcw_75 : zcw 75 ∈ zT := zwd_mem (i := 4073) rfl
theorem zcw_76 : zcw 76 ∈ zT := zwd_mem (i := 4082) rfl
theorem zcw_77 : zcw 77 ∈ zT := zwd_mem (i := 4085) rfl
theorem zcw_78 : zcw 78 ∈ zT := zwd_mem (i := 4089) rfl
theorem zcw_79 : zcw 79 ∈ zT := zwd_mem (i := 4092) rfl
theorem zcw_80 : zcw 80 ∈ zT := zwd_mem (i := 4096) rfl
theorem zcw_81 : zcw 81 ∈ zT := zwd_mem (i := 4100) rfl
theorem zcw_82 : zcw 82 ∈ zT := zwd_mem (i := 4109) rfl
theorem zcw_83 : zcw 83 ∈ zT := zwd_mem (i := 4113) rfl
theorem zcw_84 : zcw 84 ∈ zT := zwd_mem (i := 4117) rfl
theorem zcw_85 : zcw 85 ∈ zT := zwd_mem (i := 4123) rfl
theorem zcw_86 : zcw 86 ∈ zT := zwd_mem (i := 4127) rfl
theorem zcw_87 : zcw 87 ∈ zT := zwd_mem (i := 4134) rfl
theorem zcw_88 : zcw 88 ∈ zT := zwd_mem (i := 4137) rfl
theorem zcw_89 : zcw 89 ∈ zT := zwd_mem (i := 4142) rfl
theorem zcw_90 : zcw 90 ∈ zT := zwd_mem (i := 4149) rfl
theorem zcw_91 : zcw 91 ∈ zT := zwd_mem (i := 4155) rfl
theorem zcw_92 : zcw 92 ∈ zT := zwd_mem (i := 4167) rfl
theorem zcw_93 : zcw 93 ∈ zT := zwd_mem (i := 4171) rfl
theorem zcw_94 : zcw 94 ∈ zT := zwd_mem (i := 4179) rfl
theorem zcw_95 : zcw 95 ∈ zT := zwd_mem (i := 4186) rfl
theorem zcw_96 : zcw 96 ∈ zT := zwd_mem (i := 4193) rfl
theorem zcw_97 : zcw 97 ∈ zT := zwd_mem (i := 4199) rfl
theorem zcw_98 : zcw 98 ∈ zT := zwd_mem (i := 4203) rfl
theorem zcw_99 : zcw 99 ∈ zT := zwd_mem (i := 4208) rfl
theorem zcw_100 : zcw 100 ∈ zT := zwd_mem (i := 4212) rfl
theorem zcw_101 : zcw 101 ∈ zT := zwd_mem (i := 4221) rfl
theorem zcw_102 : zcw 102 ∈ zT := zwd_mem (i := 4233) rfl
theorem zcw_103 : zcw 103 ∈ zT := zwd_mem (i := 4237) rfl
theorem zcw_104 : zcw 104 ∈ zT := zwd_mem (i := 5002) rfl
theorem zcw_105 : zcw 105 ∈ zT := zwd_mem (i := 5005) rfl
theorem zcw_106 : zcw 106 ∈ zT := zwd_mem (i := 5079) rfl
theorem zcw_107 : zcw 107 ∈ zT := zwd_mem (i := 5086) rfl
theorem zcw_108 : zcw 108 ∈ zT := zwd_mem (i := 5091) rfl
theorem zcw_109 : zcw 109 ∈ zT := zwd_mem (i := 5095) rfl
theorem zcw_110 : zcw 110 ∈ zT := zwd_mem (i := 5100) rfl
theorem zcw_111 : zcw 111 ∈ zT := zwd_mem (i := 5103) rfl
theorem zcw_112 : zcw 112 ∈ zT := zwd_mem (i := 5124) rfl
theorem zcw_113 : zcw 113 ∈ zT := zwd_mem (i := 5129) rfl
theorem zcw_114 : zcw 114 ∈ zT := zwd_mem (i := 5132) rfl
theorem zcw_115 : zcw 115 ∈ zT := zwd_mem (i := 5137) rfl
theorem zcw_116 : zcw 116 ∈ zT := zwd_mem (i := 5141) rfl
theorem zcw_117 : zcw 117 ∈ zT := zwd_mem (i := 5161) rfl
theorem zcw_118 : zcw 118 ∈ zT := zwd_mem (i := 5166) rfl
theorem zcw_119 : zcw 119 ∈ zT := zwd_mem (i := 5170) rfl
theorem zcw_120 : zcw 120 ∈ zT := zwd_mem (i := 5173) rfl
theorem zcw_121 : zcw 121 ∈ zT := zwd_mem (i := 5177) rfl
theorem zcw_122 : zcw 122 ∈ zT := zwd_mem (i := 5181) rfl
theorem zcw_123 : zcw 123 ∈ zT := zwd_mem (i := 5185) rfl
theorem zcw_124 : zcw 124 ∈ zT := zwd_mem (i := 5189) rfl
theorem zcw_125 : zcw 125 ∈ zT := zwd_mem (i := 5193) rfl
theorem zcw_126 : zcw 126 ∈ zT := zwd_mem (i := 5197) rfl
theorem zcw_127 : zcw 127 ∈ zT := zwd_mem (i := 5201) rfl
theorem zcw_128 : zcw 128 ∈ zT := zwd_mem (i := 5204) rfl
theorem zcw_129 : zcw 129 ∈ zT := zwd_mem (i := 5208) rfl
theorem zcw_130 : zcw 130 ∈ zT := zwd_mem (i := 5211) rfl
theorem zcw_131 : zcw 131 ∈ zT := zwd_mem (i := 5215) rfl
theorem zcw_132 : zcw 132 ∈ zT := zwd_mem (i := 5218) rfl
theorem zcw_133 : zcw 133 ∈ zT := zwd_mem (i := 5222) rfl
theorem zcw_134 : zcw 134 ∈ zT := zwd_mem (i := 5225) rfl
theorem zcw_135 : zcw 135 ∈ zT := zwd_mem (i := 5229) rfl
theorem zcw_136 : zcw 136 ∈ zT := zwd_mem (i := 5234) rfl
theorem zcw_137 : zcw 137 ∈ zT := zwd_mem (i := 5238) rfl
theorem zcw_138 : zcw 138 ∈ zT := zwd_mem (i := 6002) rfl
theorem zcw_139 : zcw 139 ∈ zT := zwd_mem (i := 6006) rfl
theorem zcw_140 : zcw 140 ∈ zT := zwd_mem (i := 6010) rfl
theorem zcw_141 : zcw 141 ∈ zT := zwd_mem (i := 6014) rfl
theorem zcw_142 : zcw 142 ∈ zT := zwd_mem (i := 6017) rfl
theorem zcw_143 : zcw 143 ∈ zT := zwd_mem (i := 6021) rfl
theorem zcw_144 : zcw 144 ∈ zT := zwd_mem (i := 6025) rfl
theorem zcw_145 : zcw 145 ∈ zT := zwd_mem (i := 6029) rfl
theorem zcw_146 : zcw 146 ∈ zT := zwd_mem (i := 6033) rfl
theorem zcw_147 : zcw 147 ∈ zT := zwd_mem (i := 6037) rfl
theorem zcw_148 : zcw 148 ∈ zT := zwd_mem (i := 6040) rfl
theorem zcw_149 : zcw 149 ∈ zT := zwd_mem (i := 6044) rfl
theorem zcw_150 : zcw 150 ∈ zT := zwd_mem (i := 6048) rfl
theorem zcw_151 : zcw 151 ∈ zT := zwd_mem (i := 6052) rfl
theorem zcw_152 : zcw 152 ∈ zT := zwd_mem (i := 6059) rfl
theorem zcw_153 : zcw 153 ∈ zT := zwd_mem (i := 6064) rfl
theorem zcw_154 : zcw 154 ∈ zT := zwd_mem (i := 6070) rfl
theorem zcw_155 : zcw 155 ∈ zT := zwd_mem (i := 6154) rfl
theorem zcw_156 : zcw 156 ∈ zT := zwd_mem (i := 6158) rfl
theorem zcw_157 : zcw 157 ∈ zT := zwd_mem (i := 6161) rfl
theorem zcw_158 : zcw 158 ∈ zT := zwd_mem (i := 6165) rfl
theorem zcw_159 : zcw 159 ∈ zT := zwd_mem (i := 6169) rfl
theorem zcw_160 : zcw 160 ∈ zT := zwd_mem (i := 6172) rfl
theorem zcw_161 : zcw 161 ∈ zT := zwd_mem (i := 6176) rfl
theorem zcw_162 : zcw 162 ∈ zT := zwd_mem (i := 6180) rfl
theorem zcw_163 : zcw 163 ∈ zT := zwd_mem (i := 6184) rfl
theorem zcw_164 : zcw 164 ∈ zT := zwd_mem (i := 6188) rfl
theorem zcw_165 : zcw 165 ∈ zT := zwd_mem (i := 6192) rfl
theorem zcw_166 : zcw 166 ∈ zT := zwd_mem (i := 6196) rfl
theorem zcw_167 : zcw 167 ∈ zT := zwd_mem (i := 6200) rfl
theorem zcw_168 : zcw 168 ∈ zT := zwd_mem (i := 6204) rfl
theorem zcw_169 : zcw 169 ∈ zT := zwd_mem (i := 6208) rfl
theorem zcw_170 : zcw 170 ∈ zT := zwd_mem (i := 6212) rfl
theorem zcw_171 : zcw 171 ∈ zT := zwd_mem (i := 6216) rfl
theorem zcw_172 : zcw 172 ∈ zT := zwd_mem (i := 6220) rfl
theorem zcw_173 : zcw 173 ∈ zT := zwd_mem (i := 6224) rfl
theorem zcw_174 : zcw 174 ∈ zT := zwd_mem (i := 6228) rfl
theorem zcw_175 : zcw 175 ∈ zT := zwd_mem (i := 6232) rfl
theorem zcw_176 : zcw 176 ∈ zT := zwd_mem (i := 6236) rfl
theorem zcw_177 : zcw 177 ∈ zT := zwd_mem (i := 7000) rfl
theorem zcw_178 : zcw 178 ∈ zT := zwd_mem (i := 7004) rfl
theorem zcw_179 : zcw 179 ∈ zT := zwd_mem (i := 7009) rfl
theorem zcw_180 : zcw 180 ∈ zT := zwd_mem (i := 7013) rfl
theorem zcw_181 : zcw 181 ∈ zT := zwd_mem (i := 7018) rfl
theorem zcw_182 : zcw 182 ∈ zT := zwd_mem (i := 7022) rfl
theorem zcw_183 : zcw 183 ∈ zT := zwd_mem (i := 7026) rfl
theorem zcw_184 : zcw 184 ∈ zT := zwd_mem (i := 7031) rfl
theorem zcw_185 : zcw 185 ∈ zT := zwd_mem (i := 7035) rfl
theorem zcw_186 : zcw 186 ∈ zT := zwd_mem (i := 7040) rfl
theorem zcw_187 : zcw 187 ∈ zT := zwd_mem (i := 7044) rfl
theorem zcw_188 : zcw 188 ∈ zT := zwd_mem (i := 7048) rfl
theorem zcw_189 : zcw 189 ∈ zT := zwd_mem (i := 7052) rfl
theorem zcw_190 : zcw 190 ∈ zT := zwd_mem (i := 7056) rfl
theorem zcw_191 : zcw 191 ∈ zT := zwd_mem (i := 7060) rfl
theorem zcw_192 : zcw 192 ∈ zT := zwd_mem (i := 7064) rfl
theorem zcw_193 : zcw 193 ∈ zT := zwd_mem (i := 7068) rfl
theorem zcw_194 : zcw 194 ∈ zT := zwd_mem (i := 7072) rfl
theorem zcw_195 : zcw 195 ∈ zT := zwd_mem (i := 7076) rfl
theorem zcw_196 : zcw 196 ∈ zT := zwd_mem (i := 7080) rfl
theorem zcw_197 : zcw 197 ∈ zT := zwd_mem (i := 7084) rfl
theorem zcw_198 : zcw 198 ∈ zT := zwd_mem (i := 7088) rfl
theorem zcw_199 : zcw 199 ∈ zT := zwd_mem (i := 7092) rfl
theorem zcw_200 : zcw 200 ∈ zT := zwd_mem (i := 7096) rfl
theorem zcw_201 : zcw 201 ∈ zT := zwd_mem (i := 7100) rfl
theorem zcw_202 : zcw 202 ∈ zT := zwd_mem (i := 7104) rfl
theorem zcw_203 : zcw 203 ∈ zT := zwd_mem (i := 7108) rfl
theorem zcw_204 : zcw 204 ∈ zT := zwd_mem (i := 7112) rfl
theorem zcw_205 : zcw 205 ∈ zT := zwd_mem (i := 7115) rfl
theorem zcw_206 : zcw 206 ∈ zT := zwd_mem (i := 7120) rfl
theorem zcw_207 : zcw 207 ∈ zT := zwd_mem (i := 7124) rfl
theorem zcw_208 : zcw 208 ∈ zT := zwd_mem (i := 7128) rfl
theorem zcw_209 : zcw 209 ∈ zT := zwd_mem (i := 7132) rfl
theorem zcw_210 : zcw 210 ∈ zT := zwd_mem (i := 7138) rfl
theorem zcw_211 : zcw 211 ∈ zT := zwd_mem (i := 7142) rfl
theorem zcw_212 : zcw 212 ∈ zT := zwd_mem (i := 7147) rfl
theorem zcw_213 : zcw 213 ∈ zT := zwd_mem (i := 7151) rfl
theorem zcw_214 : zcw 214 ∈ zT := zwd_mem (i := 7155) rfl
theorem zcw_215 : zcw 215 ∈ zT := zwd_mem (i := 7159) rfl
theorem zcw_216 : zcw 216 ∈ zT := zwd_mem (i := 7163) rfl
theorem zcw_217 : zcw 217 ∈ zT := zwd_mem (i := 7167) rfl
theorem zcw_218 : zcw 218 ∈ zT := zwd_mem (i := 7171) rfl
theorem zcw_219 : zcw 219 ∈ zT := zwd_mem (i := 7175) rfl
theorem zcw_220 : zcw 220 ∈ zT := zwd_mem (i := 7179) rfl
theorem zcw_221 : zcw 221 ∈ zT := zwd_mem (i := 7183) rfl
theorem zcw_222 : zcw 222 ∈ zT := zwd_mem (i := 7194) rfl
theorem zcw_223 : zcw 223 ∈ zT := zwd_mem (i := 7198) rfl
theorem zcw_224 : zcw 224 ∈ zT := zwd_mem (i := 7202) rfl
theorem zcw_225 : zcw 225 ∈ zT := zwd_mem (i := 7205) rfl
theorem zcw_226 : zcw 226 ∈ zT := zwd_mem (i := 7209) rfl
theorem zcw_227 : zcw 227 ∈ zT := zwd_mem (i := 7213) rfl
theorem zcw_228 : zcw 228 ∈ zT := zwd_mem (i := 7217) rfl
set_option maxRecDepth 100000 in
theorem zcw_to_40 : ∀ i, i < 40 → zcw i ∈ zT := lt_s (lt_s (lt_s (lt_s (lt_s (lt_s (lt_s (lt_s (lt_s (lt_s (lt_s (lt_s (lt_s (lt_s (lt_s (lt_s (lt_s (lt_s (lt_s (lt_s (lt_s (lt_s (lt_s (lt_s (lt_s (lt_s (lt_s (lt_s (lt_s (lt_s (lt_s (lt_s (lt_s (lt_s (lt_s (lt_s (lt_s (lt_s (lt_s (lt_s (lt_0) zcw_0) zcw_1) zcw_2) zcw_3) zcw_4) zcw_5) zcw_6) zcw_7) zcw_8) zcw_9) zcw_10) zcw_11) zcw_12) zcw_13) zcw_14) zcw_15) zcw_16) zcw_17) zcw_18) zcw_19) zcw_20) zcw_21) zcw_22) zcw_23) zcw_24) zcw_25) zcw_26) zcw_27) zcw_28) zcw_29) zcw_30) zcw_31) zcw_32) zcw_33) zcw_34) zcw_35) zcw_36) zcw_37) zcw_38) zcw_39
set_option maxRecDepth 100000 in
theorem zcw_to_80 : ∀ i, i < 80 → zcw i ∈ zT := lt_s (lt_s (lt_s (lt_s (lt_s (lt_s (lt_s (lt_s (lt_s (lt_s (lt_s (lt_s (lt_s (lt_s (lt_s (lt_s (lt_s (lt_s (lt_s (lt_s (lt_s (lt_s (lt_s (lt_s (lt_s (lt_s (lt_s (lt_s (lt_s (lt_s (lt_s (lt_s (lt_s (lt_s (lt_s (lt_s (lt_s (lt_s (lt_s (lt_s (zcw_to_40) zcw_40) zcw_41) zcw_42) zcw_43) zcw_44) zcw_45) zcw_46) zcw_47) zcw_48) zcw_49) zcw_50) zcw_51) zcw_52) zcw_53) zcw_54) zcw_55) zcw_56) zcw_57) zcw_58) zcw_59) zcw_60) zcw_61) zcw_62) zcw_63) zcw_64) zcw_65) zcw_66) zcw_67) zcw_68) zcw_69) zcw_70) zcw_71) zcw_72) zcw_73) zcw_74) zcw_75) zcw_76) zcw_77) zcw_78) zcw_79
set_option maxRecDepth 100000 in
theorem zcw_to_120 : ∀ i, i < 120 → zcw i ∈ zT := lt_s (lt_s (lt_s (lt_s (lt_s (lt_s (lt_s (lt_s (lt_s (lt_s (lt_s (lt_s (lt_s (lt_s (lt_s (lt_s (lt_s (lt_s (lt_s (lt_s (lt_s (lt_s (lt_s (lt_s (lt_s (lt_s (lt_s (lt_s (lt_s (lt_s (lt_s (lt_s (lt_s (lt_s (lt_s (lt_s (lt_s (lt_s (lt_s (lt_s (zcw_to_80) zcw_80) zcw_81) zcw_82) zcw_83) zcw_84) zcw_85) zcw_86) zcw_87) zcw_88) zcw_89) zcw_90) zcw_91) zcw_92) zcw_93) zcw_94) zcw_95) zcw_96) zcw_97) zcw_98) zcw_99) zcw_100) zcw_101) zcw_102) zcw_103) zcw_104) zcw_105) zcw_106) zcw_107) zcw_108) zcw_109) zcw_110) zcw_111) zcw_112) zcw_113) zcw_114) zcw_115) zcw_116) zcw_117) zcw_118) zcw_119
set_option maxRecDepth 100000 in
theorem zcw_to_160 : ∀ i, i < 160 → zcw i ∈ zT := lt_s (lt_s (lt_s (lt_s (lt_s (lt_s (lt_s (lt_s (lt_s (lt_s (lt_s (lt_s (lt_s (lt_s (lt_s (lt_s (lt_s (lt_s (lt_s (lt_s (lt_s (lt_s (lt_s (lt_s (lt_s (lt_s (lt_s (lt_s (lt_s (lt_s (lt_s (lt_s (lt_s (lt_s (lt_s (lt_s (lt_s (lt_s (lt_s (lt_s (zcw_to_120) zcw_120) zcw_121) zcw_122) zcw_123) zcw_124) zcw_125) zcw_126) zcw_127) zcw_128) zcw_129) zcw_130) zcw_131) zcw_132) zcw_133) zcw_134) zcw_135) zcw_136) zcw_137) zcw_138) zcw_139) zcw_140) zcw_141) zcw_142) zcw_143) zcw_144) zcw_145) zcw_146) zcw_147) zcw_148) zcw_149) zcw_150) zcw_151) zcw_152) zcw_153) zcw_154) zcw_155) zcw_156) zcw_157) zcw_158) zcw_159
set_option maxRecDepth 100000 in
theorem zcw_to_200 : ∀ i, i < 200 → zcw i ∈ zT := lt_s (lt_s (lt_s (lt_s (lt_s (lt_s (lt_s (lt_s (lt_s (lt_s (lt_s (lt_s (lt_s (lt_s (lt_s (lt_s (lt_s (lt_s (lt_s (lt_s (lt_s (lt_s (lt_s (lt_s (lt_s (lt_s (lt_s (lt_s (lt_s (lt_s (lt_s (lt_s (lt_s (lt_s (lt_s (lt_s (lt_s (lt_s (lt_s (lt_s (zcw_to_160) zcw_160) zcw_161) zcw_162) zcw_163) zcw_164) zcw_165) zcw_166) zcw_167) zcw_168) zcw_169) zcw_170) zcw_171) zcw_172) zcw_173) zcw_174) zcw_175) zcw_176) zcw_177) zcw_178) zcw_179) zcw_180) zcw_181) zcw_182) zcw_183) zcw_184) zcw_185) zcw_186) zcw_187) zcw_188) zcw_189) zcw_190) zcw_191) zcw_192) zcw_193) zcw_194) zcw_195) zcw_196) zcw_197) zcw_198) zcw_199
set_option maxRecDepth 100000 in
theorem zcw_to_229 : ∀ i, i < 229 → zcw i ∈ zT := lt_s (lt_s (lt_s (lt_s (lt_s (lt_s (lt_s (lt_s (lt_s (lt_s (lt_s (lt_s (lt_s (lt_s (lt_s (lt_s (lt_s (lt_s (lt_s (lt_s (lt_s (lt_s (lt_s (lt_s (lt_s (lt_s (lt_s (lt_s (lt_s (zcw_to_200) zcw_200) zcw_201) zcw_202) zcw_203) zcw_204) zcw_205) zcw_206) zcw_207) zcw_208) zcw_209) zcw_210) zcw_211) zcw_212) zcw_213) zcw_214) zcw_215) zcw_216) zcw_217) zcw_218) zcw_219) zcw_220) zcw_221) zcw_222) zcw_223) zcw_224) zcw_225) zcw_226) zcw_227) zcw_228
theorem zcw_ok {i : Nat} (h : i < zLaw) : zcw i ∈ zG ∧ zon (zoc i) = (zmt i).1.cls ∧ plainName (zmt i).1.cls = true ∧ (zmt i).1.cls ≠ "java/lang/invoke/MethodHandle" ∧ (zmt i).1.cls ≠ "java/lang/invoke/VarHandle" := by
  have h1 := List.all_eq_true.mp zcw_chk i (List.mem_range.mpr h)
  simp only [Bool.and_eq_true, decide_eq_true_eq] at h1
  exact ⟨List.mem_filter.mpr ⟨zcw_to_229 i h, zcw_good i⟩, h1.1.1.1, h1.1.1.2, h1.1.2, h1.2⟩
