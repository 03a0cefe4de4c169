theorem okm_0_0 : ((c_0.drop 0).take 60).all (okE 0) = true := by decide +kernel
theorem okm_0_1 : ((c_0.drop 60).take 60).all (okE 0) = true := by decide +kernel
theorem okm_0_2 : ((c_0.drop 120).take 60).all (okE 0) = true := by decide +kernel
theorem okm_0_3 : ((c_0.drop 180).take 60).all (okE 0) = true := by decide +kernel
theorem okm_0_4 : ((c_0.drop 240).take 60).all (okE 0) = true := by decide +kernel
theorem okm_0_5 : ((c_0.drop 300).take 60).all (okE 0) = true := by decide +kernel
theorem okm_0_6 : ((c_0.drop 360).take 60).all (okE 0) = true := by decide +kernel
theorem okm_0_7 : ((c_0.drop 420).take 60).all (okE 0) = true := by decide +kernel
theorem okm_0_8 : ((c_0.drop 480).take 60).all (okE 0) = true := by decide +kernel
theorem okm_0_9 : ((c_0.drop 540).take 60).all (okE 0) = true := by decide +kernel
theorem okm_0_10 : ((c_0.drop 600).take 60).all (okE 0) = true := by decide +kernel
theorem okm_0_11 : ((c_0.drop 660).take 60).all (okE 0) = true := by decide +kernel
theorem okm_0_12 : ((c_0.drop 720).take 60).all (okE 0) = true := by decide +kernel
theorem okm_0_13 : ((c_0.drop 780).take 60).all (okE 0) = true := by decide +kernel
theorem okm_0_14 : ((c_0.drop 840).take 60).all (okE 0) = true := by decide +kernel
theorem okm_0 : c_0.all (okE 0) = true := by
  have h : c_0 = (c_0.drop 0).take 60 ++ (c_0.drop 60).take 60 ++ (c_0.drop 120).take 60 ++ (c_0.drop 180).take 60 ++ (c_0.drop 240).take 60 ++ (c_0.drop 300).take 60 ++ (c_0.drop 360).take 60 ++ (c_0.drop 420).take 60 ++ (c_0.drop 480).take 60 ++ (c_0.drop 540).take 60 ++ (c_0.drop 600).take 60 ++ (c_0.drop 660).take 60 ++ (c_0.drop 720).take 60 ++ (c_0.drop 780).take 60 ++ (c_0.drop 840).take 60 := by decide +kernel
  rw [h]
  simp only [List.all_append, okm_0_0, okm_0_1, okm_0_2, okm_0_3, okm_0_4, okm_0_5, okm_0_6, okm_0_7, okm_0_8, okm_0_9, okm_0_10, okm_0_11, okm_0_12, okm_0_13, okm_0_14, Bool.and_true, Bool.and_self]
theorem okm_1 : c_1.all (okE 1) = true := by decide +kernel
theorem okm_2_0 : ((c_2.drop 0).take 60).all (okE 2) = true := by decide +kernel
theorem okm_2_1 : ((c_2.drop 60).take 60).all (okE 2) = true := by decide +kernel
theorem okm_2_2 : ((c_2.drop 120).take 27).all (okE 2) = true := by decide +kernel
theorem okm_2 : c_2.all (okE 2) = true := by
  have h : c_2 = (c_2.drop 0).take 60 ++ (c_2.drop 60).take 60 ++ (c_2.drop 120).take 27 := by decide +kernel
  rw [h]
  simp only [List.all_append, okm_2_0, okm_2_1, okm_2_2, Bool.and_true, Bool.and_self]
theorem okm_3 : c_3.all (okE 3) = true := by decide +kernel
theorem okm_4 : c_4.all (okE 4) = true := by decide +kernel
theorem okm_5 : c_5.all (okE 5) = true := by decide +kernel
theorem okm_6 : c_6.all (okE 6) = true := by decide +kernel
theorem okm_7 : c_7.all (okE 7) = true := by decide +kernel
theorem okm_8 : c_8.all (okE 8) = true := by decide +kernel
theorem okm_9 : c_9.all (okE 9) = true := by decide +kernel
theorem okm_10 : c_10.all (okE 10) = true := by decide +kernel
theorem okm_11 : c_11.all (okE 11) = true := by decide +kernel
theorem okm_12 : c_12.all (okE 12) = true := by decide +kernel
theorem okm_13 : c_13.all (okE 13) = true := by decide +kernel
theorem okm_14 : c_14.all (okE 14) = true := by decide +kernel
theorem okm_15 : c_15.all (okE 15) = true := by decide +kernel
theorem okm_16 : c_16.all (okE 16) = true := by decide +kernel
theorem okm_17 : c_17.all (okE 17) = true := by decide +kernel
theorem okm_18 : c_18.all (okE 18) = true := by decide +kernel
theorem okm_19 : c_19.all (okE 19) = true := by decide +kernel
theorem okm_20 : c_20.all (okE 20) = true := by decide +kernel
theorem okm_21 : c_21.all (okE 21) = true := by decide +kernel
theorem okm_22 : c_22.all (okE 22) = true := by decide +kernel
theorem okm_23 : c_23.all (okE 23) = true := by decide +kernel
theorem okm_24 : c_24.all (okE 24) = true := by decide +kernel
theorem okm_25 : c_25.all (okE 25) = true := by decide +kernel
theorem okm_26 : c_26.all (okE 26) = true := by decide +kernel
theorem okm_27 : c_27.all (okE 27) = true := by decide +kernel
theorem okm_28 : c_28.all (okE 28) = true := by decide +kernel
theorem okm_29 : c_29.all (okE 29) = true := by decide +kernel
theorem okm_30 : c_30.all (okE 30) = true := by decide +kernel
theorem okm_31 : c_31.all (okE 31) = true := by decide +kernel
theorem okm_32 : c_32.all (okE 32) = true := by decide +kernel
theorem okm_33 : c_33.all (okE 33) = true := by decide +kernel
theorem okm_34 : c_34.all (okE 34) = true := by decide +kernel
theorem okm_35 : c_35.all (okE 35) = true := by decide +kernel
theorem okm_36 : c_36.all (okE 36) = true := by decide +kernel
theorem okm_37 : c_37.all (okE 37) = true := by decide +kernel
theorem okm_38 : c_38.all (okE 38) = true := by decide +kernel
theorem okm_39 : c_39.all (okE 39) = true := by decide +kernel
theorem okm_40 : c_40.all (okE 40) = true := by decide +kernel
theorem okm_41 : c_41.all (okE 41) = true := by decide +kernel
theorem okm_42 : c_42.all (okE 42) = true := by decide +kernel
theorem okm_43 : c_43.all (okE 43) = true := by decide +kernel
theorem okm_44 : c_44.all (okE 44) = true := by decide +kernel
theorem okm_45 : c_45.all (okE 45) = true := by decide +kernel
theorem okm_46 : c_46.all (okE 46) = true := by decide +kernel
theorem okm_47 : c_47.all (okE 47) = true := by decide +kernel
theorem okm_48 : c_48.all (okE 48) = true := by decide +kernel
theorem okm_49 : c_49.all (okE 49) = true := by decide +kernel
theorem okm_50 : c_50.all (okE 50) = true := by decide +kernel
theorem okm_51 : c_51.all (okE 51) = true := by decide +kernel
theorem okm_52 : c_52.all (okE 52) = true := by decide +kernel
theorem okm_53 : c_53.all (okE 53) = true := by decide +kernel
theorem okm_54 : c_54.all (okE 54) = true := by decide +kernel
theorem okm_55 : c_55.all (okE 55) = true := by decide +kernel
theorem okm_56 : c_56.all (okE 56) = true := by decide +kernel
theorem okm_57 : c_57.all (okE 57) = true := by decide +kernel
theorem okm_58 : c_58.all (okE 58) = true := by decide +kernel
theorem okm_59 : c_59.all (okE 59) = true := by decide +kernel
theorem okm_60 : c_60.all (okE 60) = true := by decide +kernel
theorem okm_61 : c_61.all (okE 61) = true := by decide +kernel
theorem okm_62 : c_62.all (okE 62) = true := by decide +kernel
theorem okm_63 : c_63.all (okE 63) = true := by decide +kernel
theorem okm_64 : c_64.all (okE 64) = true := by decide +kernel
theorem okm_65 : c_65.all (okE 65) = true := by decide +kernel
theorem okm_66 : c_66.all (okE 66) = true := by decide +kernel
theorem okm_67 : c_67.all (okE 67) = true := by decide +kernel
theorem okm_68 : c_68.all (okE 68) = true := by decide +kernel
theorem okm_69 : c_69.all (okE 69) = true := by decide +kernel
theorem okm_70 : c_70.all (okE 70) = true := by decide +kernel
theorem okm_71 : c_71.all (okE 71) = true := by decide +kernel
theorem okm_72 : c_72.all (okE 72) = true := by decide +kernel
theorem okm_73 : c_73.all (okE 73) = true := by decide +kernel
theorem okm_74 : c_74.all (okE 74) = true := by decide +kernel
theorem okm_75 : c_75.all (okE 75) = true := by decide +kernel
theorem okm_76 : c_76.all (okE 76) = true := by decide +kernel
theorem okm_77 : c_77.all (okE 77) = true := by decide +kernel
theorem okm_78 : c_78.all (okE 78) = true := by decide +kernel
theorem okm_79 : c_79.all (okE 79) = true := by decide +kernel
theorem okm_80 : c_80.all (okE 80) = true := by decide +kernel
theorem okm_81 : c_81.all (okE 81) = true := by decide +kernel
theorem okm_82 : c_82.all (okE 82) = true := by decide +kernel
theorem okm_83 : c_83.all (okE 83) = true := by decide +kernel
theorem okm_84 : c_84.all (okE 84) = true := by decide +kernel
theorem okm_85 : c_85.all (okE 85) = true := by decide +kernel
theorem okm_86 : c_86.all (okE 86) = true := by decide +kernel
theorem okm_87 : c_87.all (okE 87) = true := by decide +kernel
theorem okm_88 : c_88.all (okE 88) = true := by decide +kernel
theorem okm_89 : c_89.all (okE 89) = true := by decide +kernel
theorem okm_90 : c_90.all (okE 90) = true := by decide +kernel
theorem okm_91 : c_91.all (okE 91) = true := by decide +kernel
theorem okm_92 : c_92.all (okE 92) = true := by decide +kernel
theorem okm_93 : c_93.all (okE 93) = true := by decide +kernel
theorem okm_94 : c_94.all (okE 94) = true := by decide +kernel
theorem okm_95 : c_95.all (okE 95) = true := by decide +kernel
theorem okm_96 : c_96.all (okE 96) = true := by decide +kernel
theorem okm_97 : c_97.all (okE 97) = true := by decide +kernel
theorem okm_98 : c_98.all (okE 98) = true := by decide +kernel
theorem okm_99 : c_99.all (okE 99) = true := by decide +kernel
theorem okm_100 : c_100.all (okE 100) = true := by decide +kernel
theorem okm_101 : c_101.all (okE 101) = true := by decide +kernel
theorem okm_102 : c_102.all (okE 102) = true := by decide +kernel
theorem okm_103 : c_103.all (okE 103) = true := by decide +kernel
theorem okm_104 : c_104.all (okE 104) = true := by decide +kernel
theorem okm_105 : c_105.all (okE 105) = true := by decide +kernel
theorem okm_106 : c_106.all (okE 106) = true := by decide +kernel
theorem okm_107 : c_107.all (okE 107) = true := by decide +kernel
theorem okm_108_0 : ((c_108.drop 0).take 60).all (okE 108) = true := by decide +kernel
theorem okm_108_1 : ((c_108.drop 60).take 60).all (okE 108) = true := by decide +kernel
theorem okm_108_2 : ((c_108.drop 120).take 60).all (okE 108) = true := by decide +kernel
theorem okm_108_3 : ((c_108.drop 180).take 60).all (okE 108) = true := by decide +kernel
theorem okm_108_4 : ((c_108.drop 240).take 60).all (okE 108) = true := by decide +kernel
theorem okm_108_5 : ((c_108.drop 300).take 8).all (okE 108) = true := by decide +kernel
theorem okm_108 : c_108.all (okE 108) = true := by
  have h : c_108 = (c_108.drop 0).take 60 ++ (c_108.drop 60).take 60 ++ (c_108.drop 120).take 60 ++ (c_108.drop 180).take 60 ++ (c_108.drop 240).take 60 ++ (c_108.drop 300).take 8 := by decide +kernel
  rw [h]
  simp only [List.all_append, okm_108_0, okm_108_1, okm_108_2, okm_108_3, okm_108_4, okm_108_5, Bool.and_true, Bool.and_self]
theorem okm_109 : c_109.all (okE 109) = true := by decide +kernel
theorem okm_110 : c_110.all (okE 110) = true := by decide +kernel
theorem okm_111 : c_111.all (okE 111) = true := by decide +kernel
theorem okm_112 : c_112.all (okE 112) = true := by decide +kernel
theorem okm_113 : c_113.all (okE 113) = true := by decide +kernel
theorem okm_114 : c_114.all (okE 114) = true := by decide +kernel
theorem okm_115 : c_115.all (okE 115) = true := by decide +kernel
theorem okm_116 : c_116.all (okE 116) = true := by decide +kernel
theorem okm_117 : c_117.all (okE 117) = true := by decide +kernel
theorem okm_118 : c_118.all (okE 118) = true := by decide +kernel
theorem okm_119 : c_119.all (okE 119) = true := by decide +kernel
theorem okm_120 : c_120.all (okE 120) = true := by decide +kernel
theorem okm_121 : c_121.all (okE 121) = true := by decide +kernel
theorem okm_122 : c_122.all (okE 122) = true := by decide +kernel
theorem okm_123 : c_123.all (okE 123) = true := by decide +kernel
theorem okm_124 : c_124.all (okE 124) = true := by decide +kernel
theorem okm_125 : c_125.all (okE 125) = true := by decide +kernel
theorem okm_126 : c_126.all (okE 126) = true := by decide +kernel
theorem okm_127 : c_127.all (okE 127) = true := by decide +kernel
theorem okm_128 : c_128.all (okE 128) = true := by decide +kernel
theorem okm_129_0 : ((c_129.drop 0).take 60).all (okE 129) = true := by decide +kernel
theorem okm_129_1 : ((c_129.drop 60).take 60).all (okE 129) = true := by decide +kernel
theorem okm_129_2 : ((c_129.drop 120).take 14).all (okE 129) = true := by decide +kernel
theorem okm_129 : c_129.all (okE 129) = true := by
  have h : c_129 = (c_129.drop 0).take 60 ++ (c_129.drop 60).take 60 ++ (c_129.drop 120).take 14 := by decide +kernel
  rw [h]
  simp only [List.all_append, okm_129_0, okm_129_1, okm_129_2, Bool.and_true, Bool.and_self]
theorem okm_130 : c_130.all (okE 130) = true := by decide +kernel
theorem okm_131 : c_131.all (okE 131) = true := by decide +kernel
theorem okm_132 : c_132.all (okE 132) = true := by decide +kernel
theorem okm_133 : c_133.all (okE 133) = true := by decide +kernel
theorem okm_134 : c_134.all (okE 134) = true := by decide +kernel
theorem okm_135 : c_135.all (okE 135) = true := by decide +kernel
theorem okm_136 : c_136.all (okE 136) = true := by decide +kernel
theorem okm_137_0 : ((c_137.drop 0).take 60).all (okE 137) = true := by decide +kernel
theorem okm_137_1 : ((c_137.drop 60).take 60).all (okE 137) = true := by decide +kernel
theorem okm_137_2 : ((c_137.drop 120).take 19).all (okE 137) = true := by decide +kernel
theorem okm_137 : c_137.all (okE 137) = true := by
  have h : c_137 = (c_137.drop 0).take 60 ++ (c_137.drop 60).take 60 ++ (c_137.drop 120).take 19 := by decide +kernel
  rw [h]
  simp only [List.all_append, okm_137_0, okm_137_1, okm_137_2, Bool.and_true, Bool.and_self]
theorem okm_138 : c_138.all (okE 138) = true := by decide +kernel
theorem okm_139 : c_139.all (okE 139) = true := by decide +kernel
theorem okm_140 : c_140.all (okE 140) = true := by decide +kernel
theorem okm_141 : c_141.all (okE 141) = true := by decide +kernel
theorem okm_142 : c_142.all (okE 142) = true := by decide +kernel
theorem okm_143 : c_143.all (okE 143) = true := by decide +kernel
theorem okm_144 : c_144.all (okE 144) = true := by decide +kernel
theorem okm_145 : c_145.all (okE 145) = true := by decide +kernel
theorem okm_146 : c_146.all (okE 146) = true := by decide +kernel
theorem okm_147 : c_147.all (okE 147) = true := by decide +kernel
theorem okm_148 : c_148.all (okE 148) = true := by decide +kernel
theorem okm_149 : c_149.all (okE 149) = true := by decide +kernel
theorem okm_150 : c_150.all (okE 150) = true := by decide +kernel
theorem okm_151 : c_151.all (okE 151) = true := by decide +kernel
theorem okm_152 : c_152.all (okE 152) = true := by decide +kernel
theorem okm_153 : c_153.all (okE 153) = true := by decide +kernel
theorem okm_154 : c_154.all (okE 154) = true := by decide +kernel
theorem okm_155 : c_155.all (okE 155) = true := by decide +kernel
theorem okm_156 : c_156.all (okE 156) = true := by decide +kernel
theorem okm_157 : c_157.all (okE 157) = true := by decide +kernel
theorem okm_158 : c_158.all (okE 158) = true := by decide +kernel
theorem okm_159 : c_159.all (okE 159) = true := by decide +kernel
theorem okm_160 : c_160.all (okE 160) = true := by decide +kernel
theorem okm_161 : c_161.all (okE 161) = true := by decide +kernel
theorem okm_162 : c_162.all (okE 162) = true := by decide +kernel
theorem okm_163 : c_163.all (okE 163) = true := by decide +kernel
theorem okm_164 : c_164.all (okE 164) = true := by decide +kernel
theorem okm_165 : c_165.all (okE 165) = true := by decide +kernel
theorem okm_166 : c_166.all (okE 166) = true := by decide +kernel
theorem okm_167 : c_167.all (okE 167) = true := by decide +kernel
theorem okm_168 : c_168.all (okE 168) = true := by decide +kernel
theorem okm_169 : c_169.all (okE 169) = true := by decide +kernel
theorem okm_170 : c_170.all (okE 170) = true := by decide +kernel
theorem okm_171 : c_171.all (okE 171) = true := by decide +kernel
theorem okm_172 : c_172.all (okE 172) = true := by decide +kernel
theorem okm_173 : c_173.all (okE 173) = true := by decide +kernel
theorem okm_174 : c_174.all (okE 174) = true := by decide +kernel
theorem okm_175 : c_175.all (okE 175) = true := by decide +kernel
theorem okm_176 : c_176.all (okE 176) = true := by decide +kernel
theorem okm_177 : c_177.all (okE 177) = true := by decide +kernel
theorem okm_178 : c_178.all (okE 178) = true := by decide +kernel
theorem okm_179 : c_179.all (okE 179) = true := by decide +kernel
theorem okm_180 : c_180.all (okE 180) = true := by decide +kernel
theorem okm_181 : c_181.all (okE 181) = true := by decide +kernel
theorem okm_182 : c_182.all (okE 182) = true := by decide +kernel
theorem okm_183 : c_183.all (okE 183) = true := by decide +kernel
theorem okm_184 : c_184.all (okE 184) = true := by decide +kernel
theorem okm_185 : c_185.all (okE 185) = true := by decide +kernel
theorem okm_186 : c_186.all (okE 186) = true := by decide +kernel
theorem okm_187 : c_187.all (okE 187) = true := by decide +kernel
theorem okm_188 : c_188.all (okE 188) = true := by decide +kernel
theorem okm_189 : c_189.all (okE 189) = true := by decide +kernel
theorem okm_190 : c_190.all (okE 190) = true := by decide +kernel
theorem okm_191 : c_191.all (okE 191) = true := by decide +kernel
theorem okm_192 : c_192.all (okE 192) = true := by decide +kernel
theorem okm_193 : c_193.all (okE 193) = true := by decide +kernel
theorem okm_194 : c_194.all (okE 194) = true := by decide +kernel
theorem okm_195 : c_195.all (okE 195) = true := by decide +kernel
theorem okm_196 : c_196.all (okE 196) = true := by decide +kernel
theorem okm_197 : c_197.all (okE 197) = true := by decide +kernel
theorem okm_198 : c_198.all (okE 198) = true := by decide +kernel
theorem okm_199 : c_199.all (okE 199) = true := by decide +kernel
theorem okm_200 : c_200.all (okE 200) = true := by decide +kernel
theorem okm_201 : c_201.all (okE 201) = true := by decide +kernel
theorem okm_202 : c_202.all (okE 202) = true := by decide +kernel
theorem okm_203 : c_203.all (okE 203) = true := by decide +kernel
theorem okm_204 : c_204.all (okE 204) = true := by decide +kernel
theorem okm_205 : c_205.all (okE 205) = true := by decide +kernel
theorem okm_206 : c_206.all (okE 206) = true := by decide +kernel
theorem okm_207 : c_207.all (okE 207) = true := by decide +kernel
theorem okm_208 : c_208.all (okE 208) = true := by decide +kernel
theorem okm_209 : c_209.all (okE 209) = true := by decide +kernel
theorem okm_210 : c_210.all (okE 210) = true := by decide +kernel
theorem okm_211 : c_211.all (okE 211) = true := by decide +kernel
theorem okm_212 : c_212.all (okE 212) = true := by decide +kernel
theorem okm_213 : c_213.all (okE 213) = true := by decide +kernel
theorem okm_214 : c_214.all (okE 214) = true := by decide +kernel
theorem okm_215 : c_215.all (okE 215) = true := by decide +kernel
theorem okm_216 : c_216.all (okE 216) = true := by decide +kernel
theorem okm_217 : c_217.all (okE 217) = true := by decide +kernel
theorem okm_218 : c_218.all (okE 218) = true := by decide +kernel
theorem okm_219 : c_219.all (okE 219) = true := by decide +kernel
theorem okm_220 : c_220.all (okE 220) = true := by decide +kernel
theorem okm_221 : c_221.all (okE 221) = true := by decide +kernel
theorem okm_222 : c_222.all (okE 222) = true := by decide +kernel
