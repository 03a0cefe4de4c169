set_option maxRecDepth 10000 in
theorem cw_1 : wAt 1215 = some (.code (mName 1) (mBytes 1) (mMaxL 1) (mRet 1)) := rfl
set_option maxRecDepth 10000 in
theorem cw_2 : wAt 4060 = some (.code (mName 2) (mBytes 2) (mMaxL 2) (mRet 2)) := rfl
set_option maxRecDepth 10000 in
theorem cw_3 : wAt 4063 = some (.code (mName 3) (mBytes 3) (mMaxL 3) (mRet 3)) := rfl
set_option maxRecDepth 10000 in
theorem cw_4 : wAt 4071 = some (.code (mName 4) (mBytes 4) (mMaxL 4) (mRet 4)) := rfl
set_option maxRecDepth 10000 in
theorem cw_5 : wAt 1098 = some (.code (mName 5) (mBytes 5) (mMaxL 5) (mRet 5)) := rfl
set_option maxRecDepth 10000 in
theorem cw_6 : wAt 2093 = some (.code (mName 6) (mBytes 6) (mMaxL 6) (mRet 6)) := rfl
set_option maxRecDepth 10000 in
theorem cw_7 : wAt 3205 = some (.code (mName 7) (mBytes 7) (mMaxL 7) (mRet 7)) := rfl
set_option maxRecDepth 10000 in
theorem cw_8 : wAt 3237 = some (.code (mName 8) (mBytes 8) (mMaxL 8) (mRet 8)) := rfl
set_option maxRecDepth 10000 in
theorem cw_9 : wAt 3175 = some (.code (mName 9) (mBytes 9) (mMaxL 9) (mRet 9)) := rfl
set_option maxRecDepth 10000 in
theorem cw_10 : wAt 2104 = some (.code (mName 10) (mBytes 10) (mMaxL 10) (mRet 10)) := rfl
set_option maxRecDepth 10000 in
theorem cw_11 : wAt 2116 = some (.code (mName 11) (mBytes 11) (mMaxL 11) (mRet 11)) := rfl
set_option maxRecDepth 10000 in
theorem cw_12 : wAt 2148 = some (.code (mName 12) (mBytes 12) (mMaxL 12) (mRet 12)) := rfl
set_option maxRecDepth 10000 in
theorem cw_13 : wAt 2155 = some (.code (mName 13) (mBytes 13) (mMaxL 13) (mRet 13)) := rfl
set_option maxRecDepth 10000 in
theorem cw_14 : wAt 2178 = some (.code (mName 14) (mBytes 14) (mMaxL 14) (mRet 14)) := rfl
set_option maxRecDepth 10000 in
theorem cw_15 : wAt 2159 = some (.code (mName 15) (mBytes 15) (mMaxL 15) (mRet 15)) := rfl
set_option maxRecDepth 10000 in
theorem cw_16 : wAt 2163 = some (.code (mName 16) (mBytes 16) (mMaxL 16) (mRet 16)) := rfl
set_option maxRecDepth 10000 in
theorem cw_17 : wAt 2167 = some (.code (mName 17) (mBytes 17) (mMaxL 17) (mRet 17)) := rfl
set_option maxRecDepth 10000 in
theorem cw_18 : wAt 2201 = some (.code (mName 18) (mBytes 18) (mMaxL 18) (mRet 18)) := rfl
set_option maxRecDepth 10000 in
theorem cw_19 : wAt 2206 = some (.code (mName 19) (mBytes 19) (mMaxL 19) (mRet 19)) := rfl
set_option maxRecDepth 10000 in
theorem cw_20 : wAt 2182 = some (.code (mName 20) (mBytes 20) (mMaxL 20) (mRet 20)) := rfl
set_option maxRecDepth 10000 in
theorem cw_21 : wAt 2186 = some (.code (mName 21) (mBytes 21) (mMaxL 21) (mRet 21)) := rfl
set_option maxRecDepth 10000 in
theorem cw_22 : wAt 2197 = some (.code (mName 22) (mBytes 22) (mMaxL 22) (mRet 22)) := rfl
set_option maxRecDepth 10000 in
theorem cw_23 : wAt 2193 = some (.code (mName 23) (mBytes 23) (mMaxL 23) (mRet 23)) := rfl
set_option maxRecDepth 10000 in
theorem cw_24 : wAt 2122 = some (.code (mName 24) (mBytes 24) (mMaxL 24) (mRet 24)) := rfl
set_option maxRecDepth 10000 in
theorem cw_25 : wAt 1030 = some (.code (mName 25) (mBytes 25) (mMaxL 25) (mRet 25)) := rfl
set_option maxRecDepth 10000 in
theorem cw_26 : wAt 2074 = some (.code (mName 26) (mBytes 26) (mMaxL 26) (mRet 26)) := rfl
set_option maxRecDepth 10000 in
theorem cw_27 : wAt 2078 = some (.code (mName 27) (mBytes 27) (mMaxL 27) (mRet 27)) := rfl
set_option maxRecDepth 10000 in
theorem cw_28 : wAt 2112 = some (.code (mName 28) (mBytes 28) (mMaxL 28) (mRet 28)) := rfl
set_option maxRecDepth 10000 in
theorem cw_29 : wAt 2108 = some (.code (mName 29) (mBytes 29) (mMaxL 29) (mRet 29)) := rfl
set_option maxRecDepth 10000 in
theorem cw_30 : wAt 4005 = some (.code (mName 30) (mBytes 30) (mMaxL 30) (mRet 30)) := rfl
set_option maxRecDepth 10000 in
theorem cw_31 : wAt 2066 = some (.code (mName 31) (mBytes 31) (mMaxL 31) (mRet 31)) := rfl
set_option maxRecDepth 10000 in
theorem cw_32 : wAt 3228 = some (.code (mName 32) (mBytes 32) (mMaxL 32) (mRet 32)) := rfl
set_option maxRecDepth 10000 in
theorem cw_33 : wAt 2097 = some (.code (mName 33) (mBytes 33) (mMaxL 33) (mRet 33)) := rfl
set_option maxRecDepth 10000 in
theorem cw_34 : wAt 2002 = some (.code (mName 34) (mBytes 34) (mMaxL 34) (mRet 34)) := rfl
set_option maxRecDepth 10000 in
theorem cw_35 : wAt 4037 = some (.code (mName 35) (mBytes 35) (mMaxL 35) (mRet 35)) := rfl
set_option maxRecDepth 10000 in
theorem cw_36 : wAt 4041 = some (.code (mName 36) (mBytes 36) (mMaxL 36) (mRet 36)) := rfl
set_option maxRecDepth 10000 in
theorem cw_37 : wAt 4115 = some (.code (mName 37) (mBytes 37) (mMaxL 37) (mRet 37)) := rfl
set_option maxRecDepth 10000 in
theorem cw_38 : wAt 4093 = some (.code (mName 38) (mBytes 38) (mMaxL 38) (mRet 38)) := rfl
set_option maxRecDepth 10000 in
theorem cw_39 : wAt 4103 = some (.code (mName 39) (mBytes 39) (mMaxL 39) (mRet 39)) := rfl
set_option maxRecDepth 10000 in
theorem cw_40 : wAt 1193 = some (.code (mName 40) (mBytes 40) (mMaxL 40) (mRet 40)) := rfl
set_option maxRecDepth 10000 in
theorem cw_41 : wAt 2226 = some (.code (mName 41) (mBytes 41) (mMaxL 41) (mRet 41)) := rfl
set_option maxRecDepth 10000 in
theorem cw_42 : wAt 2234 = some (.code (mName 42) (mBytes 42) (mMaxL 42) (mRet 42)) := rfl
set_option maxRecDepth 10000 in
theorem cw_43 : wAt 3002 = some (.code (mName 43) (mBytes 43) (mMaxL 43) (mRet 43)) := rfl
set_option maxRecDepth 10000 in
theorem cw_44 : wAt 3006 = some (.code (mName 44) (mBytes 44) (mMaxL 44) (mRet 44)) := rfl
set_option maxRecDepth 10000 in
theorem cw_45 : wAt 3073 = some (.code (mName 45) (mBytes 45) (mMaxL 45) (mRet 45)) := rfl
set_option maxRecDepth 10000 in
theorem cw_46 : wAt 3077 = some (.code (mName 46) (mBytes 46) (mMaxL 46) (mRet 46)) := rfl
set_option maxRecDepth 10000 in
theorem cw_47 : wAt 3081 = some (.code (mName 47) (mBytes 47) (mMaxL 47) (mRet 47)) := rfl
set_option maxRecDepth 10000 in
theorem cw_48 : wAt 3085 = some (.code (mName 48) (mBytes 48) (mMaxL 48) (mRet 48)) := rfl
set_option maxRecDepth 10000 in
theorem cw_49 : wAt 3014 = some (.code (mName 49) (mBytes 49) (mMaxL 49) (mRet 49)) := rfl
set_option maxRecDepth 10000 in
theorem cw_50 : wAt 3010 = some (.code (mName 50) (mBytes 50) (mMaxL 50) (mRet 50)) := rfl
set_option maxRecDepth 10000 in
theorem cw_51 : wAt 3019 = some (.code (mName 51) (mBytes 51) (mMaxL 51) (mRet 51)) := rfl
set_option maxRecDepth 10000 in
theorem cw_52 : wAt 3094 = some (.code (mName 52) (mBytes 52) (mMaxL 52) (mRet 52)) := rfl
set_option maxRecDepth 10000 in
theorem cw_53 : wAt 1106 = some (.code (mName 53) (mBytes 53) (mMaxL 53) (mRet 53)) := rfl
set_option maxRecDepth 10000 in
theorem cw_54 : wAt 2238 = some (.code (mName 54) (mBytes 54) (mMaxL 54) (mRet 54)) := rfl
set_option maxRecDepth 10000 in
theorem cw_55 : wAt 3089 = some (.code (mName 55) (mBytes 55) (mMaxL 55) (mRet 55)) := rfl
set_option maxRecDepth 10000 in
theorem cw_56 : wAt 3157 = some (.code (mName 56) (mBytes 56) (mMaxL 56) (mRet 56)) := rfl
set_option maxRecDepth 10000 in
theorem cw_57 : wAt 2129 = some (.code (mName 57) (mBytes 57) (mMaxL 57) (mRet 57)) := rfl
set_option maxRecDepth 10000 in
theorem cw_58 : wAt 2133 = some (.code (mName 58) (mBytes 58) (mMaxL 58) (mRet 58)) := rfl
set_option maxRecDepth 10000 in
theorem cw_59 : wAt 2137 = some (.code (mName 59) (mBytes 59) (mMaxL 59) (mRet 59)) := rfl
set_option maxRecDepth 10000 in
theorem cw_60 : wAt 3153 = some (.code (mName 60) (mBytes 60) (mMaxL 60) (mRet 60)) := rfl
set_option maxRecDepth 10000 in
theorem cw_61 : wAt 2144 = some (.code (mName 61) (mBytes 61) (mMaxL 61) (mRet 61)) := rfl
set_option maxRecDepth 10000 in
theorem cw_62 : wAt 1022 = some (.code (mName 62) (mBytes 62) (mMaxL 62) (mRet 62)) := rfl
set_option maxRecDepth 10000 in
theorem cw_63 : wAt 2056 = some (.code (mName 63) (mBytes 63) (mMaxL 63) (mRet 63)) := rfl
set_option maxRecDepth 10000 in
theorem cw_64 : wAt 2070 = some (.code (mName 64) (mBytes 64) (mMaxL 64) (mRet 64)) := rfl
set_option maxRecDepth 10000 in
theorem cw_65 : wAt 2210 = some (.code (mName 65) (mBytes 65) (mMaxL 65) (mRet 65)) := rfl
set_option maxRecDepth 10000 in
theorem cw_66 : wAt 2214 = some (.code (mName 66) (mBytes 66) (mMaxL 66) (mRet 66)) := rfl
set_option maxRecDepth 10000 in
theorem cw_67 : wAt 2218 = some (.code (mName 67) (mBytes 67) (mMaxL 67) (mRet 67)) := rfl
set_option maxRecDepth 10000 in
theorem cw_68 : wAt 2222 = some (.code (mName 68) (mBytes 68) (mMaxL 68) (mRet 68)) := rfl
set_option maxRecDepth 10000 in
theorem cw_69 : wAt 2230 = some (.code (mName 69) (mBytes 69) (mMaxL 69) (mRet 69)) := rfl
set_option maxRecDepth 10000 in
theorem cw_70 : wAt 3162 = some (.code (mName 70) (mBytes 70) (mMaxL 70) (mRet 70)) := rfl
set_option maxRecDepth 10000 in
theorem cw_71 : wAt 3167 = some (.code (mName 71) (mBytes 71) (mMaxL 71) (mRet 71)) := rfl
set_option maxRecDepth 10000 in
theorem cw_72 : wAt 3171 = some (.code (mName 72) (mBytes 72) (mMaxL 72) (mRet 72)) := rfl
set_option maxRecDepth 10000 in
theorem cw_73 : wAt 3181 = some (.code (mName 73) (mBytes 73) (mMaxL 73) (mRet 73)) := rfl
set_option maxRecDepth 10000 in
theorem cw_74 : wAt 3189 = some (.code (mName 74) (mBytes 74) (mMaxL 74) (mRet 74)) := rfl
set_option maxRecDepth 10000 in
theorem cw_75 : wAt 3193 = some (.code (mName 75) (mBytes 75) (mMaxL 75) (mRet 75)) := rfl
set_option maxRecDepth 10000 in
theorem cw_76 : wAt 3201 = some (.code (mName 76) (mBytes 76) (mMaxL 76) (mRet 76)) := rfl
set_option maxRecDepth 10000 in
theorem cw_77 : wAt 3209 = some (.code (mName 77) (mBytes 77) (mMaxL 77) (mRet 77)) := rfl
set_option maxRecDepth 10000 in
theorem cw_78 : wAt 3213 = some (.code (mName 78) (mBytes 78) (mMaxL 78) (mRet 78)) := rfl
set_option maxRecDepth 10000 in
theorem cw_79 : wAt 3217 = some (.code (mName 79) (mBytes 79) (mMaxL 79) (mRet 79)) := rfl
set_option maxRecDepth 10000 in
theorem cw_80 : wAt 3221 = some (.code (mName 80) (mBytes 80) (mMaxL 80) (mRet 80)) := rfl
set_option maxRecDepth 10000 in
theorem cw_81 : wAt 3233 = some (.code (mName 81) (mBytes 81) (mMaxL 81) (mRet 81)) := rfl
set_option maxRecDepth 10000 in
theorem cw_82 : wAt 4001 = some (.code (mName 82) (mBytes 82) (mMaxL 82) (mRet 82)) := rfl
set_option maxRecDepth 10000 in
theorem cw_83 : wAt 4009 = some (.code (mName 83) (mBytes 83) (mMaxL 83) (mRet 83)) := rfl
set_option maxRecDepth 10000 in
theorem cw_84 : wAt 4013 = some (.code (mName 84) (mBytes 84) (mMaxL 84) (mRet 84)) := rfl
set_option maxRecDepth 10000 in
theorem cw_85 : wAt 4021 = some (.code (mName 85) (mBytes 85) (mMaxL 85) (mRet 85)) := rfl
set_option maxRecDepth 10000 in
theorem cw_86 : wAt 4025 = some (.code (mName 86) (mBytes 86) (mMaxL 86) (mRet 86)) := rfl
set_option maxRecDepth 10000 in
theorem cw_87 : wAt 4029 = some (.code (mName 87) (mBytes 87) (mMaxL 87) (mRet 87)) := rfl
set_option maxRecDepth 10000 in
theorem cw_88 : wAt 4033 = some (.code (mName 88) (mBytes 88) (mMaxL 88) (mRet 88)) := rfl
set_option maxRecDepth 10000 in
theorem cw_89 : wAt 4047 = some (.code (mName 89) (mBytes 89) (mMaxL 89) (mRet 89)) := rfl
set_option maxRecDepth 10000 in
theorem cw_90 : wAt 4052 = some (.code (mName 90) (mBytes 90) (mMaxL 90) (mRet 90)) := rfl
set_option maxRecDepth 10000 in
theorem cw_91 : wAt 4056 = some (.code (mName 91) (mBytes 91) (mMaxL 91) (mRet 91)) := rfl
set_option maxRecDepth 10000 in
theorem cw_92 : wAt 4076 = some (.code (mName 92) (mBytes 92) (mMaxL 92) (mRet 92)) := rfl
set_option maxRecDepth 10000 in
theorem cw_93 : wAt 4080 = some (.code (mName 93) (mBytes 93) (mMaxL 93) (mRet 93)) := rfl
set_option maxRecDepth 10000 in
theorem cw_94 : wAt 4085 = some (.code (mName 94) (mBytes 94) (mMaxL 94) (mRet 94)) := rfl
set_option maxRecDepth 10000 in
theorem cw_95 : wAt 4089 = some (.code (mName 95) (mBytes 95) (mMaxL 95) (mRet 95)) := rfl
set_option maxRecDepth 10000 in
theorem cw_96 : wAt 4100 = some (.code (mName 96) (mBytes 96) (mMaxL 96) (mRet 96)) := rfl
set_option maxRecDepth 10000 in
theorem cw_97 : wAt 4107 = some (.code (mName 97) (mBytes 97) (mMaxL 97) (mRet 97)) := rfl
set_option maxRecDepth 10000 in
theorem cw_98 : wAt 4111 = some (.code (mName 98) (mBytes 98) (mMaxL 98) (mRet 98)) := rfl
set_option maxRecDepth 10000 in
theorem cw_99 : wAt 2085 = some (.code (mName 99) (mBytes 99) (mMaxL 99) (mRet 99)) := rfl
set_option maxRecDepth 10000 in
theorem cw_100 : wAt 2089 = some (.code (mName 100) (mBytes 100) (mMaxL 100) (mRet 100)) := rfl
set_option maxRecDepth 10000 in
theorem cw_101 : wAt 3197 = some (.code (mName 101) (mBytes 101) (mMaxL 101) (mRet 101)) := rfl
set_option maxRecDepth 10000 in
theorem cw_102 : wAt 2059 = some (.code (mName 102) (mBytes 102) (mMaxL 102) (mRet 102)) := rfl
set_option maxRecDepth 10000 in
theorem cw_103 : wAt 2062 = some (.code (mName 103) (mBytes 103) (mMaxL 103) (mRet 103)) := rfl
set_option maxRecDepth 10000 in
theorem cw_104 : wAt 2081 = some (.code (mName 104) (mBytes 104) (mMaxL 104) (mRet 104)) := rfl
set_option maxRecDepth 10000 in
theorem cw_105 : wAt 3184 = some (.code (mName 105) (mBytes 105) (mMaxL 105) (mRet 105)) := rfl
set_option maxRecDepth 10000 in
theorem cw_106 : wAt 3224 = some (.code (mName 106) (mBytes 106) (mMaxL 106) (mRet 106)) := rfl
set_option maxRecDepth 10000 in
theorem cw_107 : wAt 4017 = some (.code (mName 107) (mBytes 107) (mMaxL 107) (mRet 107)) := rfl
set_option maxRecDepth 10000 in
theorem cw_108 : wAt 4121 = some (.code (mName 108) (mBytes 108) (mMaxL 108) (mRet 108)) := rfl
set_option maxRecDepth 10000 in
theorem cw_109 : wAt 5084 = some (.code (mName 109) (mBytes 109) (mMaxL 109) (mRet 109)) := rfl
set_option maxRecDepth 10000 in
theorem cw_110 : wAt 5176 = some (.code (mName 110) (mBytes 110) (mMaxL 110) (mRet 110)) := rfl
set_option maxRecDepth 10000 in
theorem cw_111 : wAt 6048 = some (.code (mName 111) (mBytes 111) (mMaxL 111) (mRet 111)) := rfl
set_option maxRecDepth 10000 in
theorem cw_112 : wAt 5092 = some (.code (mName 112) (mBytes 112) (mMaxL 112) (mRet 112)) := rfl
set_option maxRecDepth 10000 in
theorem cw_113 : wAt 6000 = some (.code (mName 113) (mBytes 113) (mMaxL 113) (mRet 113)) := rfl
set_option maxRecDepth 10000 in
theorem cw_114 : wAt 5080 = some (.code (mName 114) (mBytes 114) (mMaxL 114) (mRet 114)) := rfl
set_option maxRecDepth 10000 in
theorem cw_115 : wAt 5088 = some (.code (mName 115) (mBytes 115) (mMaxL 115) (mRet 115)) := rfl
set_option maxRecDepth 10000 in
theorem cw_116 : wAt 5096 = some (.code (mName 116) (mBytes 116) (mMaxL 116) (mRet 116)) := rfl
set_option maxRecDepth 10000 in
theorem cw_117 : wAt 5100 = some (.code (mName 117) (mBytes 117) (mMaxL 117) (mRet 117)) := rfl
set_option maxRecDepth 10000 in
theorem cw_118 : wAt 5104 = some (.code (mName 118) (mBytes 118) (mMaxL 118) (mRet 118)) := rfl
set_option maxRecDepth 10000 in
theorem cw_119 : wAt 5124 = some (.code (mName 119) (mBytes 119) (mMaxL 119) (mRet 119)) := rfl
set_option maxRecDepth 10000 in
theorem cw_120 : wAt 5132 = some (.code (mName 120) (mBytes 120) (mMaxL 120) (mRet 120)) := rfl
set_option maxRecDepth 10000 in
theorem cw_121 : wAt 5128 = some (.code (mName 121) (mBytes 121) (mMaxL 121) (mRet 121)) := rfl
set_option maxRecDepth 10000 in
theorem cw_122 : wAt 5140 = some (.code (mName 122) (mBytes 122) (mMaxL 122) (mRet 122)) := rfl
set_option maxRecDepth 10000 in
theorem cw_123 : wAt 5136 = some (.code (mName 123) (mBytes 123) (mMaxL 123) (mRet 123)) := rfl
set_option maxRecDepth 10000 in
theorem cw_124 : wAt 5156 = some (.code (mName 124) (mBytes 124) (mMaxL 124) (mRet 124)) := rfl
set_option maxRecDepth 10000 in
theorem cw_125 : wAt 5160 = some (.code (mName 125) (mBytes 125) (mMaxL 125) (mRet 125)) := rfl
set_option maxRecDepth 10000 in
theorem cw_126 : wAt 5164 = some (.code (mName 126) (mBytes 126) (mMaxL 126) (mRet 126)) := rfl
set_option maxRecDepth 10000 in
theorem cw_127 : wAt 5152 = some (.code (mName 127) (mBytes 127) (mMaxL 127) (mRet 127)) := rfl
set_option maxRecDepth 10000 in
theorem cw_128 : wAt 5148 = some (.code (mName 128) (mBytes 128) (mMaxL 128) (mRet 128)) := rfl
set_option maxRecDepth 10000 in
theorem cw_129 : wAt 5144 = some (.code (mName 129) (mBytes 129) (mMaxL 129) (mRet 129)) := rfl
set_option maxRecDepth 10000 in
theorem cw_130 : wAt 5120 = some (.code (mName 130) (mBytes 130) (mMaxL 130) (mRet 130)) := rfl
set_option maxRecDepth 10000 in
theorem cw_131 : wAt 5116 = some (.code (mName 131) (mBytes 131) (mMaxL 131) (mRet 131)) := rfl
set_option maxRecDepth 10000 in
theorem cw_132 : wAt 5112 = some (.code (mName 132) (mBytes 132) (mMaxL 132) (mRet 132)) := rfl
set_option maxRecDepth 10000 in
theorem cw_133 : wAt 5108 = some (.code (mName 133) (mBytes 133) (mMaxL 133) (mRet 133)) := rfl
set_option maxRecDepth 10000 in
theorem cw_134 : wAt 5212 = some (.code (mName 134) (mBytes 134) (mMaxL 134) (mRet 134)) := rfl
set_option maxRecDepth 10000 in
theorem cw_135 : wAt 5216 = some (.code (mName 135) (mBytes 135) (mMaxL 135) (mRet 135)) := rfl
set_option maxRecDepth 10000 in
theorem cw_136 : wAt 5224 = some (.code (mName 136) (mBytes 136) (mMaxL 136) (mRet 136)) := rfl
set_option maxRecDepth 10000 in
theorem cw_137 : wAt 5220 = some (.code (mName 137) (mBytes 137) (mMaxL 137) (mRet 137)) := rfl
set_option maxRecDepth 10000 in
theorem cw_138 : wAt 5208 = some (.code (mName 138) (mBytes 138) (mMaxL 138) (mRet 138)) := rfl
set_option maxRecDepth 10000 in
theorem cw_139 : wAt 5172 = some (.code (mName 139) (mBytes 139) (mMaxL 139) (mRet 139)) := rfl
set_option maxRecDepth 10000 in
theorem cw_140 : wAt 5204 = some (.code (mName 140) (mBytes 140) (mMaxL 140) (mRet 140)) := rfl
set_option maxRecDepth 10000 in
theorem cw_141 : wAt 5228 = some (.code (mName 141) (mBytes 141) (mMaxL 141) (mRet 141)) := rfl
set_option maxRecDepth 10000 in
theorem cw_142 : wAt 5200 = some (.code (mName 142) (mBytes 142) (mMaxL 142) (mRet 142)) := rfl
set_option maxRecDepth 10000 in
theorem cw_143 : wAt 5196 = some (.code (mName 143) (mBytes 143) (mMaxL 143) (mRet 143)) := rfl
set_option maxRecDepth 10000 in
theorem cw_144 : wAt 5192 = some (.code (mName 144) (mBytes 144) (mMaxL 144) (mRet 144)) := rfl
set_option maxRecDepth 10000 in
theorem cw_145 : wAt 5184 = some (.code (mName 145) (mBytes 145) (mMaxL 145) (mRet 145)) := rfl
set_option maxRecDepth 10000 in
theorem cw_146 : wAt 5188 = some (.code (mName 146) (mBytes 146) (mMaxL 146) (mRet 146)) := rfl
set_option maxRecDepth 10000 in
theorem cw_147 : wAt 5180 = some (.code (mName 147) (mBytes 147) (mMaxL 147) (mRet 147)) := rfl
set_option maxRecDepth 10000 in
theorem cw_148 : wAt 5232 = some (.code (mName 148) (mBytes 148) (mMaxL 148) (mRet 148)) := rfl
set_option maxRecDepth 10000 in
theorem cw_149 : wAt 5168 = some (.code (mName 149) (mBytes 149) (mMaxL 149) (mRet 149)) := rfl
set_option maxRecDepth 10000 in
theorem cw_150 : wAt 5236 = some (.code (mName 150) (mBytes 150) (mMaxL 150) (mRet 150)) := rfl
set_option maxRecDepth 10000 in
theorem cw_151 : wAt 6024 = some (.code (mName 151) (mBytes 151) (mMaxL 151) (mRet 151)) := rfl
set_option maxRecDepth 10000 in
theorem cw_152 : wAt 6020 = some (.code (mName 152) (mBytes 152) (mMaxL 152) (mRet 152)) := rfl
set_option maxRecDepth 10000 in
theorem cw_153 : wAt 6028 = some (.code (mName 153) (mBytes 153) (mMaxL 153) (mRet 153)) := rfl
set_option maxRecDepth 10000 in
theorem cw_154 : wAt 6016 = some (.code (mName 154) (mBytes 154) (mMaxL 154) (mRet 154)) := rfl
set_option maxRecDepth 10000 in
theorem cw_155 : wAt 6036 = some (.code (mName 155) (mBytes 155) (mMaxL 155) (mRet 155)) := rfl
set_option maxRecDepth 10000 in
theorem cw_156 : wAt 6032 = some (.code (mName 156) (mBytes 156) (mMaxL 156) (mRet 156)) := rfl
set_option maxRecDepth 10000 in
theorem cw_157 : wAt 6012 = some (.code (mName 157) (mBytes 157) (mMaxL 157) (mRet 157)) := rfl
set_option maxRecDepth 10000 in
theorem cw_158 : wAt 6008 = some (.code (mName 158) (mBytes 158) (mMaxL 158) (mRet 158)) := rfl
set_option maxRecDepth 10000 in
theorem cw_159 : wAt 6004 = some (.code (mName 159) (mBytes 159) (mMaxL 159) (mRet 159)) := rfl
set_option maxRecDepth 10000 in
theorem cw_160 : wAt 6044 = some (.code (mName 160) (mBytes 160) (mMaxL 160) (mRet 160)) := rfl
set_option maxRecDepth 10000 in
theorem cw_161 : wAt 6052 = some (.code (mName 161) (mBytes 161) (mMaxL 161) (mRet 161)) := rfl
set_option maxRecDepth 10000 in
theorem cw_162 : wAt 6040 = some (.code (mName 162) (mBytes 162) (mMaxL 162) (mRet 162)) := rfl
set_option maxRecDepth 10000 in
theorem cw_163 : wAt 6060 = some (.code (mName 163) (mBytes 163) (mMaxL 163) (mRet 163)) := rfl
set_option maxRecDepth 10000 in
theorem cw_164 : wAt 6056 = some (.code (mName 164) (mBytes 164) (mMaxL 164) (mRet 164)) := rfl
set_option maxRecDepth 10000 in
theorem cw_165 : wAt 6064 = some (.code (mName 165) (mBytes 165) (mMaxL 165) (mRet 165)) := rfl
set_option maxRecDepth 10000 in
theorem cw_166 : wAt 6068 = some (.code (mName 166) (mBytes 166) (mMaxL 166) (mRet 166)) := rfl
set_option maxRecDepth 10000 in
theorem cw_167 : wAt 6072 = some (.code (mName 167) (mBytes 167) (mMaxL 167) (mRet 167)) := rfl
set_option maxRecDepth 10000 in
theorem cw_168 : wAt 6076 = some (.code (mName 168) (mBytes 168) (mMaxL 168) (mRet 168)) := rfl
set_option maxRecDepth 10000 in
theorem cw_169 : wAt 6080 = some (.code (mName 169) (mBytes 169) (mMaxL 169) (mRet 169)) := rfl
set_option maxRecDepth 10000 in
theorem cw_170 : wAt 6084 = some (.code (mName 170) (mBytes 170) (mMaxL 170) (mRet 170)) := rfl
set_option maxRecDepth 10000 in
theorem cw_171 : wAt 6092 = some (.code (mName 171) (mBytes 171) (mMaxL 171) (mRet 171)) := rfl
set_option maxRecDepth 10000 in
theorem cw_172 : wAt 6096 = some (.code (mName 172) (mBytes 172) (mMaxL 172) (mRet 172)) := rfl
set_option maxRecDepth 10000 in
theorem cw_173 : wAt 6088 = some (.code (mName 173) (mBytes 173) (mMaxL 173) (mRet 173)) := rfl
set_option maxRecDepth 10000 in
theorem cw_174 : wAt 6100 = some (.code (mName 174) (mBytes 174) (mMaxL 174) (mRet 174)) := rfl
set_option maxRecDepth 10000 in
theorem cw_175 : wAt 6104 = some (.code (mName 175) (mBytes 175) (mMaxL 175) (mRet 175)) := rfl
set_option maxRecDepth 10000 in
theorem cw_176 : wAt 6108 = some (.code (mName 176) (mBytes 176) (mMaxL 176) (mRet 176)) := rfl
set_option maxRecDepth 10000 in
theorem cw_177 : wAt 6121 = some (.code (mName 177) (mBytes 177) (mMaxL 177) (mRet 177)) := rfl
set_option maxRecDepth 10000 in
theorem cw_178 : wAt 6117 = some (.code (mName 178) (mBytes 178) (mMaxL 178) (mRet 178)) := rfl
set_option maxRecDepth 10000 in
theorem cw_179 : wAt 6112 = some (.code (mName 179) (mBytes 179) (mMaxL 179) (mRet 179)) := rfl
set_option maxRecDepth 10000 in
theorem cw_180 : wAt 6125 = some (.code (mName 180) (mBytes 180) (mMaxL 180) (mRet 180)) := rfl
set_option maxRecDepth 10000 in
theorem cw_181 : wAt 6129 = some (.code (mName 181) (mBytes 181) (mMaxL 181) (mRet 181)) := rfl
set_option maxRecDepth 10000 in
theorem cw_182 : wAt 6133 = some (.code (mName 182) (mBytes 182) (mMaxL 182) (mRet 182)) := rfl
set_option maxRecDepth 10000 in
theorem cw_183 : wAt 6137 = some (.code (mName 183) (mBytes 183) (mMaxL 183) (mRet 183)) := rfl
set_option maxRecDepth 10000 in
theorem cw_184 : wAt 6145 = some (.code (mName 184) (mBytes 184) (mMaxL 184) (mRet 184)) := rfl
set_option maxRecDepth 10000 in
theorem cw_185 : wAt 6149 = some (.code (mName 185) (mBytes 185) (mMaxL 185) (mRet 185)) := rfl
set_option maxRecDepth 10000 in
theorem cw_186 : wAt 6161 = some (.code (mName 186) (mBytes 186) (mMaxL 186) (mRet 186)) := rfl
set_option maxRecDepth 10000 in
theorem cw_187 : wAt 6165 = some (.code (mName 187) (mBytes 187) (mMaxL 187) (mRet 187)) := rfl
set_option maxRecDepth 10000 in
theorem cw_188 : wAt 6157 = some (.code (mName 188) (mBytes 188) (mMaxL 188) (mRet 188)) := rfl
set_option maxRecDepth 10000 in
theorem cw_189 : wAt 6177 = some (.code (mName 189) (mBytes 189) (mMaxL 189) (mRet 189)) := rfl
set_option maxRecDepth 10000 in
theorem cw_190 : wAt 6173 = some (.code (mName 190) (mBytes 190) (mMaxL 190) (mRet 190)) := rfl
set_option maxRecDepth 10000 in
theorem cw_191 : wAt 6169 = some (.code (mName 191) (mBytes 191) (mMaxL 191) (mRet 191)) := rfl
set_option maxRecDepth 10000 in
theorem cw_192 : wAt 6185 = some (.code (mName 192) (mBytes 192) (mMaxL 192) (mRet 192)) := rfl
set_option maxRecDepth 10000 in
theorem cw_193 : wAt 6181 = some (.code (mName 193) (mBytes 193) (mMaxL 193) (mRet 193)) := rfl
set_option maxRecDepth 10000 in
theorem cw_194 : wAt 6153 = some (.code (mName 194) (mBytes 194) (mMaxL 194) (mRet 194)) := rfl
set_option maxRecDepth 10000 in
theorem cw_195 : wAt 6189 = some (.code (mName 195) (mBytes 195) (mMaxL 195) (mRet 195)) := rfl
set_option maxRecDepth 10000 in
theorem cw_196 : wAt 6193 = some (.code (mName 196) (mBytes 196) (mMaxL 196) (mRet 196)) := rfl
set_option maxRecDepth 10000 in
theorem cw_197 : wAt 6197 = some (.code (mName 197) (mBytes 197) (mMaxL 197) (mRet 197)) := rfl
set_option maxRecDepth 10000 in
theorem cw_198 : wAt 6141 = some (.code (mName 198) (mBytes 198) (mMaxL 198) (mRet 198)) := rfl
set_option maxRecDepth 10000 in
theorem cw_199 : wAt 6201 = some (.code (mName 199) (mBytes 199) (mMaxL 199) (mRet 199)) := rfl
set_option maxRecDepth 10000 in
theorem cw_200 : wAt 6209 = some (.code (mName 200) (mBytes 200) (mMaxL 200) (mRet 200)) := rfl
set_option maxRecDepth 10000 in
theorem cw_201 : wAt 6205 = some (.code (mName 201) (mBytes 201) (mMaxL 201) (mRet 201)) := rfl
set_option maxRecDepth 10000 in
theorem cw_202 : wAt 6213 = some (.code (mName 202) (mBytes 202) (mMaxL 202) (mRet 202)) := rfl
set_option maxRecDepth 10000 in
theorem cw_203 : wAt 6217 = some (.code (mName 203) (mBytes 203) (mMaxL 203) (mRet 203)) := rfl
set_option maxRecDepth 10000 in
theorem cw_204 : wAt 2170 = some (.code (mName 204) (mBytes 204) (mMaxL 204) (mRet 204)) := rfl
set_option maxRecDepth 10000 in
theorem cw_205 : wAt 2125 = some (.code (mName 205) (mBytes 205) (mMaxL 205) (mRet 205)) := rfl
set_option maxRecDepth 10000 in
theorem cw_206 : wAt 2151 = some (.code (mName 206) (mBytes 206) (mMaxL 206) (mRet 206)) := rfl
set_option maxRecDepth 10000 in
theorem cw_207 : wAt 2140 = some (.code (mName 207) (mBytes 207) (mMaxL 207) (mRet 207)) := rfl
set_option maxRecDepth 10000 in
theorem cw_208 : wAt 2189 = some (.code (mName 208) (mBytes 208) (mMaxL 208) (mRet 208)) := rfl
set_option maxRecDepth 10000 in
theorem cw_209 : wAt 3023 = some (.code (mName 209) (mBytes 209) (mMaxL 209) (mRet 209)) := rfl
set_option maxRecDepth 10000 in
theorem cw_210 : wAt 3033 = some (.code (mName 210) (mBytes 210) (mMaxL 210) (mRet 210)) := rfl
set_option maxRecDepth 10000 in
theorem cw_211 : wAt 3098 = some (.code (mName 211) (mBytes 211) (mMaxL 211) (mRet 211)) := rfl
set_option maxRecDepth 10000 in
theorem cw_212 : wAt 3102 = some (.code (mName 212) (mBytes 212) (mMaxL 212) (mRet 212)) := rfl
set_option maxRecDepth 10000 in
theorem cw_213 : wAt 3027 = some (.code (mName 213) (mBytes 213) (mMaxL 213) (mRet 213)) := rfl
set_option maxRecDepth 10000 in
theorem cw_214 : wAt 3037 = some (.code (mName 214) (mBytes 214) (mMaxL 214) (mRet 214)) := rfl
set_option maxRecDepth 10000 in
theorem cw_215 : wAt 3043 = some (.code (mName 215) (mBytes 215) (mMaxL 215) (mRet 215)) := rfl
set_option maxRecDepth 10000 in
theorem cw_216 : wAt 3040 = some (.code (mName 216) (mBytes 216) (mMaxL 216) (mRet 216)) := rfl
set_option maxRecDepth 10000 in
theorem cw_217 : wAt 3109 = some (.code (mName 217) (mBytes 217) (mMaxL 217) (mRet 217)) := rfl
set_option maxRecDepth 10000 in
theorem cw_218 : wAt 3106 = some (.code (mName 218) (mBytes 218) (mMaxL 218) (mRet 218)) := rfl
set_option maxRecDepth 10000 in
theorem cw_219 : wAt 3114 = some (.code (mName 219) (mBytes 219) (mMaxL 219) (mRet 219)) := rfl
set_option maxRecDepth 10000 in
theorem cw_220 : wAt 4096 = some (.code (mName 220) (mBytes 220) (mMaxL 220) (mRet 220)) := rfl
set_option maxRecDepth 10000 in
theorem cw_221 : wAt 2008 = some (.code (mName 221) (mBytes 221) (mMaxL 221) (mRet 221)) := rfl
set_option maxRecDepth 10000 in
theorem cw_222 : wAt 3048 = some (.code (mName 222) (mBytes 222) (mMaxL 222) (mRet 222)) := rfl
theorem ok_codes : ∀ c, 0 < c → c < 223 → Jvm.Cond.code (mName c) (mBytes c) (mMaxL c) (mRet c) ∈ BIGG := by
  intro c h0 hc
  match c, h0, hc with
  | 0, h0, _ => exact absurd h0 (by decide)
  | 1, _, _ => exact List.mem_filter.mpr ⟨wAt_in cw_1, rfl⟩
  | 2, _, _ => exact List.mem_filter.mpr ⟨wAt_in cw_2, rfl⟩
  | 3, _, _ => exact List.mem_filter.mpr ⟨wAt_in cw_3, rfl⟩
  | 4, _, _ => exact List.mem_filter.mpr ⟨wAt_in cw_4, rfl⟩
  | 5, _, _ => exact List.mem_filter.mpr ⟨wAt_in cw_5, rfl⟩
  | 6, _, _ => exact List.mem_filter.mpr ⟨wAt_in cw_6, rfl⟩
  | 7, _, _ => exact List.mem_filter.mpr ⟨wAt_in cw_7, rfl⟩
  | 8, _, _ => exact List.mem_filter.mpr ⟨wAt_in cw_8, rfl⟩
  | 9, _, _ => exact List.mem_filter.mpr ⟨wAt_in cw_9, rfl⟩
  | 10, _, _ => exact List.mem_filter.mpr ⟨wAt_in cw_10, rfl⟩
  | 11, _, _ => exact List.mem_filter.mpr ⟨wAt_in cw_11, rfl⟩
  | 12, _, _ => exact List.mem_filter.mpr ⟨wAt_in cw_12, rfl⟩
  | 13, _, _ => exact List.mem_filter.mpr ⟨wAt_in cw_13, rfl⟩
  | 14, _, _ => exact List.mem_filter.mpr ⟨wAt_in cw_14, rfl⟩
  | 15, _, _ => exact List.mem_filter.mpr ⟨wAt_in cw_15, rfl⟩
  | 16, _, _ => exact List.mem_filter.mpr ⟨wAt_in cw_16, rfl⟩
  | 17, _, _ => exact List.mem_filter.mpr ⟨wAt_in cw_17, rfl⟩
  | 18, _, _ => exact List.mem_filter.mpr ⟨wAt_in cw_18, rfl⟩
  | 19, _, _ => exact List.mem_filter.mpr ⟨wAt_in cw_19, rfl⟩
  | 20, _, _ => exact List.mem_filter.mpr ⟨wAt_in cw_20, rfl⟩
  | 21, _, _ => exact List.mem_filter.mpr ⟨wAt_in cw_21, rfl⟩
  | 22, _, _ => exact List.mem_filter.mpr ⟨wAt_in cw_22, rfl⟩
  | 23, _, _ => exact List.mem_filter.mpr ⟨wAt_in cw_23, rfl⟩
  | 24, _, _ => exact List.mem_filter.mpr ⟨wAt_in cw_24, rfl⟩
  | 25, _, _ => exact List.mem_filter.mpr ⟨wAt_in cw_25, rfl⟩
  | 26, _, _ => exact List.mem_filter.mpr ⟨wAt_in cw_26, rfl⟩
  | 27, _, _ => exact List.mem_filter.mpr ⟨wAt_in cw_27, rfl⟩
  | 28, _, _ => exact List.mem_filter.mpr ⟨wAt_in cw_28, rfl⟩
  | 29, _, _ => exact List.mem_filter.mpr ⟨wAt_in cw_29, rfl⟩
  | 30, _, _ => exact List.mem_filter.mpr ⟨wAt_in cw_30, rfl⟩
  | 31, _, _ => exact List.mem_filter.mpr ⟨wAt_in cw_31, rfl⟩
  | 32, _, _ => exact List.mem_filter.mpr ⟨wAt_in cw_32, rfl⟩
  | 33, _, _ => exact List.mem_filter.mpr ⟨wAt_in cw_33, rfl⟩
  | 34, _, _ => exact List.mem_filter.mpr ⟨wAt_in cw_34, rfl⟩
  | 35, _, _ => exact List.mem_filter.mpr ⟨wAt_in cw_35, rfl⟩
  | 36, _, _ => exact List.mem_filter.mpr ⟨wAt_in cw_36, rfl⟩
  | 37, _, _ => exact List.mem_filter.mpr ⟨wAt_in cw_37, rfl⟩
  | 38, _, _ => exact List.mem_filter.mpr ⟨wAt_in cw_38, rfl⟩
  | 39, _, _ => exact List.mem_filter.mpr ⟨wAt_in cw_39, rfl⟩
  | 40, _, _ => exact List.mem_filter.mpr ⟨wAt_in cw_40, rfl⟩
  | 41, _, _ => exact List.mem_filter.mpr ⟨wAt_in cw_41, rfl⟩
  | 42, _, _ => exact List.mem_filter.mpr ⟨wAt_in cw_42, rfl⟩
  | 43, _, _ => exact List.mem_filter.mpr ⟨wAt_in cw_43, rfl⟩
  | 44, _, _ => exact List.mem_filter.mpr ⟨wAt_in cw_44, rfl⟩
  | 45, _, _ => exact List.mem_filter.mpr ⟨wAt_in cw_45, rfl⟩
  | 46, _, _ => exact List.mem_filter.mpr ⟨wAt_in cw_46, rfl⟩
  | 47, _, _ => exact List.mem_filter.mpr ⟨wAt_in cw_47, rfl⟩
  | 48, _, _ => exact List.mem_filter.mpr ⟨wAt_in cw_48, rfl⟩
  | 49, _, _ => exact List.mem_filter.mpr ⟨wAt_in cw_49, rfl⟩
  | 50, _, _ => exact List.mem_filter.mpr ⟨wAt_in cw_50, rfl⟩
  | 51, _, _ => exact List.mem_filter.mpr ⟨wAt_in cw_51, rfl⟩
  | 52, _, _ => exact List.mem_filter.mpr ⟨wAt_in cw_52, rfl⟩
  | 53, _, _ => exact List.mem_filter.mpr ⟨wAt_in cw_53, rfl⟩
  | 54, _, _ => exact List.mem_filter.mpr ⟨wAt_in cw_54, rfl⟩
  | 55, _, _ => exact List.mem_filter.mpr ⟨wAt_in cw_55, rfl⟩
  | 56, _, _ => exact List.mem_filter.mpr ⟨wAt_in cw_56, rfl⟩
  | 57, _, _ => exact List.mem_filter.mpr ⟨wAt_in cw_57, rfl⟩
  | 58, _, _ => exact List.mem_filter.mpr ⟨wAt_in cw_58, rfl⟩
  | 59, _, _ => exact List.mem_filter.mpr ⟨wAt_in cw_59, rfl⟩
  | 60, _, _ => exact List.mem_filter.mpr ⟨wAt_in cw_60, rfl⟩
  | 61, _, _ => exact List.mem_filter.mpr ⟨wAt_in cw_61, rfl⟩
  | 62, _, _ => exact List.mem_filter.mpr ⟨wAt_in cw_62, rfl⟩
  | 63, _, _ => exact List.mem_filter.mpr ⟨wAt_in cw_63, rfl⟩
  | 64, _, _ => exact List.mem_filter.mpr ⟨wAt_in cw_64, rfl⟩
  | 65, _, _ => exact List.mem_filter.mpr ⟨wAt_in cw_65, rfl⟩
  | 66, _, _ => exact List.mem_filter.mpr ⟨wAt_in cw_66, rfl⟩
  | 67, _, _ => exact List.mem_filter.mpr ⟨wAt_in cw_67, rfl⟩
  | 68, _, _ => exact List.mem_filter.mpr ⟨wAt_in cw_68, rfl⟩
  | 69, _, _ => exact List.mem_filter.mpr ⟨wAt_in cw_69, rfl⟩
  | 70, _, _ => exact List.mem_filter.mpr ⟨wAt_in cw_70, rfl⟩
  | 71, _, _ => exact List.mem_filter.mpr ⟨wAt_in cw_71, rfl⟩
  | 72, _, _ => exact List.mem_filter.mpr ⟨wAt_in cw_72, rfl⟩
  | 73, _, _ => exact List.mem_filter.mpr ⟨wAt_in cw_73, rfl⟩
  | 74, _, _ => exact List.mem_filter.mpr ⟨wAt_in cw_74, rfl⟩
  | 75, _, _ => exact List.mem_filter.mpr ⟨wAt_in cw_75, rfl⟩
  | 76, _, _ => exact List.mem_filter.mpr ⟨wAt_in cw_76, rfl⟩
  | 77, _, _ => exact List.mem_filter.mpr ⟨wAt_in cw_77, rfl⟩
  | 78, _, _ => exact List.mem_filter.mpr ⟨wAt_in cw_78, rfl⟩
  | 79, _, _ => exact List.mem_filter.mpr ⟨wAt_in cw_79, rfl⟩
  | 80, _, _ => exact List.mem_filter.mpr ⟨wAt_in cw_80, rfl⟩
  | 81, _, _ => exact List.mem_filter.mpr ⟨wAt_in cw_81, rfl⟩
  | 82, _, _ => exact List.mem_filter.mpr ⟨wAt_in cw_82, rfl⟩
  | 83, _, _ => exact List.mem_filter.mpr ⟨wAt_in cw_83, rfl⟩
  | 84, _, _ => exact List.mem_filter.mpr ⟨wAt_in cw_84, rfl⟩
  | 85, _, _ => exact List.mem_filter.mpr ⟨wAt_in cw_85, rfl⟩
  | 86, _, _ => exact List.mem_filter.mpr ⟨wAt_in cw_86, rfl⟩
  | 87, _, _ => exact List.mem_filter.mpr ⟨wAt_in cw_87, rfl⟩
  | 88, _, _ => exact List.mem_filter.mpr ⟨wAt_in cw_88, rfl⟩
  | 89, _, _ => exact List.mem_filter.mpr ⟨wAt_in cw_89, rfl⟩
  | 90, _, _ => exact List.mem_filter.mpr ⟨wAt_in cw_90, rfl⟩
  | 91, _, _ => exact List.mem_filter.mpr ⟨wAt_in cw_91, rfl⟩
  | 92, _, _ => exact List.mem_filter.mpr ⟨wAt_in cw_92, rfl⟩
  | 93, _, _ => exact List.mem_filter.mpr ⟨wAt_in cw_93, rfl⟩
  | 94, _, _ => exact List.mem_filter.mpr ⟨wAt_in cw_94, rfl⟩
  | 95, _, _ => exact List.mem_filter.mpr ⟨wAt_in cw_95, rfl⟩
  | 96, _, _ => exact List.mem_filter.mpr ⟨wAt_in cw_96, rfl⟩
  | 97, _, _ => exact List.mem_filter.mpr ⟨wAt_in cw_97, rfl⟩
  | 98, _, _ => exact List.mem_filter.mpr ⟨wAt_in cw_98, rfl⟩
  | 99, _, _ => exact List.mem_filter.mpr ⟨wAt_in cw_99, rfl⟩
  | 100, _, _ => exact List.mem_filter.mpr ⟨wAt_in cw_100, rfl⟩
  | 101, _, _ => exact List.mem_filter.mpr ⟨wAt_in cw_101, rfl⟩
  | 102, _, _ => exact List.mem_filter.mpr ⟨wAt_in cw_102, rfl⟩
  | 103, _, _ => exact List.mem_filter.mpr ⟨wAt_in cw_103, rfl⟩
  | 104, _, _ => exact List.mem_filter.mpr ⟨wAt_in cw_104, rfl⟩
  | 105, _, _ => exact List.mem_filter.mpr ⟨wAt_in cw_105, rfl⟩
  | 106, _, _ => exact List.mem_filter.mpr ⟨wAt_in cw_106, rfl⟩
  | 107, _, _ => exact List.mem_filter.mpr ⟨wAt_in cw_107, rfl⟩
  | 108, _, _ => exact List.mem_filter.mpr ⟨wAt_in cw_108, rfl⟩
  | 109, _, _ => exact List.mem_filter.mpr ⟨wAt_in cw_109, rfl⟩
  | 110, _, _ => exact List.mem_filter.mpr ⟨wAt_in cw_110, rfl⟩
  | 111, _, _ => exact List.mem_filter.mpr ⟨wAt_in cw_111, rfl⟩
  | 112, _, _ => exact List.mem_filter.mpr ⟨wAt_in cw_112, rfl⟩
  | 113, _, _ => exact List.mem_filter.mpr ⟨wAt_in cw_113, rfl⟩
  | 114, _, _ => exact List.mem_filter.mpr ⟨wAt_in cw_114, rfl⟩
  | 115, _, _ => exact List.mem_filter.mpr ⟨wAt_in cw_115, rfl⟩
  | 116, _, _ => exact List.mem_filter.mpr ⟨wAt_in cw_116, rfl⟩
  | 117, _, _ => exact List.mem_filter.mpr ⟨wAt_in cw_117, rfl⟩
  | 118, _, _ => exact List.mem_filter.mpr ⟨wAt_in cw_118, rfl⟩
  | 119, _, _ => exact List.mem_filter.mpr ⟨wAt_in cw_119, rfl⟩
  | 120, _, _ => exact List.mem_filter.mpr ⟨wAt_in cw_120, rfl⟩
  | 121, _, _ => exact List.mem_filter.mpr ⟨wAt_in cw_121, rfl⟩
  | 122, _, _ => exact List.mem_filter.mpr ⟨wAt_in cw_122, rfl⟩
  | 123, _, _ => exact List.mem_filter.mpr ⟨wAt_in cw_123, rfl⟩
  | 124, _, _ => exact List.mem_filter.mpr ⟨wAt_in cw_124, rfl⟩
  | 125, _, _ => exact List.mem_filter.mpr ⟨wAt_in cw_125, rfl⟩
  | 126, _, _ => exact List.mem_filter.mpr ⟨wAt_in cw_126, rfl⟩
  | 127, _, _ => exact List.mem_filter.mpr ⟨wAt_in cw_127, rfl⟩
  | 128, _, _ => exact List.mem_filter.mpr ⟨wAt_in cw_128, rfl⟩
  | 129, _, _ => exact List.mem_filter.mpr ⟨wAt_in cw_129, rfl⟩
  | 130, _, _ => exact List.mem_filter.mpr ⟨wAt_in cw_130, rfl⟩
  | 131, _, _ => exact List.mem_filter.mpr ⟨wAt_in cw_131, rfl⟩
  | 132, _, _ => exact List.mem_filter.mpr ⟨wAt_in cw_132, rfl⟩
  | 133, _, _ => exact List.mem_filter.mpr ⟨wAt_in cw_133, rfl⟩
  | 134, _, _ => exact List.mem_filter.mpr ⟨wAt_in cw_134, rfl⟩
  | 135, _, _ => exact List.mem_filter.mpr ⟨wAt_in cw_135, rfl⟩
  | 136, _, _ => exact List.mem_filter.mpr ⟨wAt_in cw_136, rfl⟩
  | 137, _, _ => exact List.mem_filter.mpr ⟨wAt_in cw_137, rfl⟩
  | 138, _, _ => exact List.mem_filter.mpr ⟨wAt_in cw_138, rfl⟩
  | 139, _, _ => exact List.mem_filter.mpr ⟨wAt_in cw_139, rfl⟩
  | 140, _, _ => exact List.mem_filter.mpr ⟨wAt_in cw_140, rfl⟩
  | 141, _, _ => exact List.mem_filter.mpr ⟨wAt_in cw_141, rfl⟩
  | 142, _, _ => exact List.mem_filter.mpr ⟨wAt_in cw_142, rfl⟩
  | 143, _, _ => exact List.mem_filter.mpr ⟨wAt_in cw_143, rfl⟩
  | 144, _, _ => exact List.mem_filter.mpr ⟨wAt_in cw_144, rfl⟩
  | 145, _, _ => exact List.mem_filter.mpr ⟨wAt_in cw_145, rfl⟩
  | 146, _, _ => exact List.mem_filter.mpr ⟨wAt_in cw_146, rfl⟩
  | 147, _, _ => exact List.mem_filter.mpr ⟨wAt_in cw_147, rfl⟩
  | 148, _, _ => exact List.mem_filter.mpr ⟨wAt_in cw_148, rfl⟩
  | 149, _, _ => exact List.mem_filter.mpr ⟨wAt_in cw_149, rfl⟩
  | 150, _, _ => exact List.mem_filter.mpr ⟨wAt_in cw_150, rfl⟩
  | 151, _, _ => exact List.mem_filter.mpr ⟨wAt_in cw_151, rfl⟩
  | 152, _, _ => exact List.mem_filter.mpr ⟨wAt_in cw_152, rfl⟩
  | 153, _, _ => exact List.mem_filter.mpr ⟨wAt_in cw_153, rfl⟩
  | 154, _, _ => exact List.mem_filter.mpr ⟨wAt_in cw_154, rfl⟩
  | 155, _, _ => exact List.mem_filter.mpr ⟨wAt_in cw_155, rfl⟩
  | 156, _, _ => exact List.mem_filter.mpr ⟨wAt_in cw_156, rfl⟩
  | 157, _, _ => exact List.mem_filter.mpr ⟨wAt_in cw_157, rfl⟩
  | 158, _, _ => exact List.mem_filter.mpr ⟨wAt_in cw_158, rfl⟩
  | 159, _, _ => exact List.mem_filter.mpr ⟨wAt_in cw_159, rfl⟩
  | 160, _, _ => exact List.mem_filter.mpr ⟨wAt_in cw_160, rfl⟩
  | 161, _, _ => exact List.mem_filter.mpr ⟨wAt_in cw_161, rfl⟩
  | 162, _, _ => exact List.mem_filter.mpr ⟨wAt_in cw_162, rfl⟩
  | 163, _, _ => exact List.mem_filter.mpr ⟨wAt_in cw_163, rfl⟩
  | 164, _, _ => exact List.mem_filter.mpr ⟨wAt_in cw_164, rfl⟩
  | 165, _, _ => exact List.mem_filter.mpr ⟨wAt_in cw_165, rfl⟩
  | 166, _, _ => exact List.mem_filter.mpr ⟨wAt_in cw_166, rfl⟩
  | 167, _, _ => exact List.mem_filter.mpr ⟨wAt_in cw_167, rfl⟩
  | 168, _, _ => exact List.mem_filter.mpr ⟨wAt_in cw_168, rfl⟩
  | 169, _, _ => exact List.mem_filter.mpr ⟨wAt_in cw_169, rfl⟩
  | 170, _, _ => exact List.mem_filter.mpr ⟨wAt_in cw_170, rfl⟩
  | 171, _, _ => exact List.mem_filter.mpr ⟨wAt_in cw_171, rfl⟩
  | 172, _, _ => exact List.mem_filter.mpr ⟨wAt_in cw_172, rfl⟩
  | 173, _, _ => exact List.mem_filter.mpr ⟨wAt_in cw_173, rfl⟩
  | 174, _, _ => exact List.mem_filter.mpr ⟨wAt_in cw_174, rfl⟩
  | 175, _, _ => exact List.mem_filter.mpr ⟨wAt_in cw_175, rfl⟩
  | 176, _, _ => exact List.mem_filter.mpr ⟨wAt_in cw_176, rfl⟩
  | 177, _, _ => exact List.mem_filter.mpr ⟨wAt_in cw_177, rfl⟩
  | 178, _, _ => exact List.mem_filter.mpr ⟨wAt_in cw_178, rfl⟩
  | 179, _, _ => exact List.mem_filter.mpr ⟨wAt_in cw_179, rfl⟩
  | 180, _, _ => exact List.mem_filter.mpr ⟨wAt_in cw_180, rfl⟩
  | 181, _, _ => exact List.mem_filter.mpr ⟨wAt_in cw_181, rfl⟩
  | 182, _, _ => exact List.mem_filter.mpr ⟨wAt_in cw_182, rfl⟩
  | 183, _, _ => exact List.mem_filter.mpr ⟨wAt_in cw_183, rfl⟩
  | 184, _, _ => exact List.mem_filter.mpr ⟨wAt_in cw_184, rfl⟩
  | 185, _, _ => exact List.mem_filter.mpr ⟨wAt_in cw_185, rfl⟩
  | 186, _, _ => exact List.mem_filter.mpr ⟨wAt_in cw_186, rfl⟩
  | 187, _, _ => exact List.mem_filter.mpr ⟨wAt_in cw_187, rfl⟩
  | 188, _, _ => exact List.mem_filter.mpr ⟨wAt_in cw_188, rfl⟩
  | 189, _, _ => exact List.mem_filter.mpr ⟨wAt_in cw_189, rfl⟩
  | 190, _, _ => exact List.mem_filter.mpr ⟨wAt_in cw_190, rfl⟩
  | 191, _, _ => exact List.mem_filter.mpr ⟨wAt_in cw_191, rfl⟩
  | 192, _, _ => exact List.mem_filter.mpr ⟨wAt_in cw_192, rfl⟩
  | 193, _, _ => exact List.mem_filter.mpr ⟨wAt_in cw_193, rfl⟩
  | 194, _, _ => exact List.mem_filter.mpr ⟨wAt_in cw_194, rfl⟩
  | 195, _, _ => exact List.mem_filter.mpr ⟨wAt_in cw_195, rfl⟩
  | 196, _, _ => exact List.mem_filter.mpr ⟨wAt_in cw_196, rfl⟩
  | 197, _, _ => exact List.mem_filter.mpr ⟨wAt_in cw_197, rfl⟩
  | 198, _, _ => exact List.mem_filter.mpr ⟨wAt_in cw_198, rfl⟩
  | 199, _, _ => exact List.mem_filter.mpr ⟨wAt_in cw_199, rfl⟩
  | 200, _, _ => exact List.mem_filter.mpr ⟨wAt_in cw_200, rfl⟩
  | 201, _, _ => exact List.mem_filter.mpr ⟨wAt_in cw_201, rfl⟩
  | 202, _, _ => exact List.mem_filter.mpr ⟨wAt_in cw_202, rfl⟩
  | 203, _, _ => exact List.mem_filter.mpr ⟨wAt_in cw_203, rfl⟩
  | 204, _, _ => exact List.mem_filter.mpr ⟨wAt_in cw_204, rfl⟩
  | 205, _, _ => exact List.mem_filter.mpr ⟨wAt_in cw_205, rfl⟩
  | 206, _, _ => exact List.mem_filter.mpr ⟨wAt_in cw_206, rfl⟩
  | 207, _, _ => exact List.mem_filter.mpr ⟨wAt_in cw_207, rfl⟩
  | 208, _, _ => exact List.mem_filter.mpr ⟨wAt_in cw_208, rfl⟩
  | 209, _, _ => exact List.mem_filter.mpr ⟨wAt_in cw_209, rfl⟩
  | 210, _, _ => exact List.mem_filter.mpr ⟨wAt_in cw_210, rfl⟩
  | 211, _, _ => exact List.mem_filter.mpr ⟨wAt_in cw_211, rfl⟩
  | 212, _, _ => exact List.mem_filter.mpr ⟨wAt_in cw_212, rfl⟩
  | 213, _, _ => exact List.mem_filter.mpr ⟨wAt_in cw_213, rfl⟩
  | 214, _, _ => exact List.mem_filter.mpr ⟨wAt_in cw_214, rfl⟩
  | 215, _, _ => exact List.mem_filter.mpr ⟨wAt_in cw_215, rfl⟩
  | 216, _, _ => exact List.mem_filter.mpr ⟨wAt_in cw_216, rfl⟩
  | 217, _, _ => exact List.mem_filter.mpr ⟨wAt_in cw_217, rfl⟩
  | 218, _, _ => exact List.mem_filter.mpr ⟨wAt_in cw_218, rfl⟩
  | 219, _, _ => exact List.mem_filter.mpr ⟨wAt_in cw_219, rfl⟩
  | 220, _, _ => exact List.mem_filter.mpr ⟨wAt_in cw_220, rfl⟩
  | 221, _, _ => exact List.mem_filter.mpr ⟨wAt_in cw_221, rfl⟩
  | 222, _, _ => exact List.mem_filter.mpr ⟨wAt_in cw_222, rfl⟩
  | n + 223, _, h => exact absurd h (by omega)
theorem ok_meths : (List.range 223).all (fun c => c == 0 || mOK c) = true := by decide +kernel
theorem ok_progs : ∀ y, y < 223 → (progs.getD y []).all (okE y) = true := by
  intro y hy
  match y, hy with
  | 0, _ => exact okm_0
  | 1, _ => exact okm_1
  | 2, _ => exact okm_2
  | 3, _ => exact okm_3
  | 4, _ => exact okm_4
  | 5, _ => exact okm_5
  | 6, _ => exact okm_6
  | 7, _ => exact okm_7
  | 8, _ => exact okm_8
  | 9, _ => exact okm_9
  | 10, _ => exact okm_10
  | 11, _ => exact okm_11
  | 12, _ => exact okm_12
  | 13, _ => exact okm_13
  | 14, _ => exact okm_14
  | 15, _ => exact okm_15
  | 16, _ => exact okm_16
  | 17, _ => exact okm_17
  | 18, _ => exact okm_18
  | 19, _ => exact okm_19
  | 20, _ => exact okm_20
  | 21, _ => exact okm_21
  | 22, _ => exact okm_22
  | 23, _ => exact okm_23
  | 24, _ => exact okm_24
  | 25, _ => exact okm_25
  | 26, _ => exact okm_26
  | 27, _ => exact okm_27
  | 28, _ => exact okm_28
  | 29, _ => exact okm_29
  | 30, _ => exact okm_30
  | 31, _ => exact okm_31
  | 32, _ => exact okm_32
  | 33, _ => exact okm_33
  | 34, _ => exact okm_34
  | 35, _ => exact okm_35
  | 36, _ => exact okm_36
  | 37, _ => exact okm_37
  | 38, _ => exact okm_38
  | 39, _ => exact okm_39
  | 40, _ => exact okm_40
  | 41, _ => exact okm_41
  | 42, _ => exact okm_42
  | 43, _ => exact okm_43
  | 44, _ => exact okm_44
  | 45, _ => exact okm_45
  | 46, _ => exact okm_46
  | 47, _ => exact okm_47
  | 48, _ => exact okm_48
  | 49, _ => exact okm_49
  | 50, _ => exact okm_50
  | 51, _ => exact okm_51
  | 52, _ => exact okm_52
  | 53, _ => exact okm_53
  | 54, _ => exact okm_54
  | 55, _ => exact okm_55
  | 56, _ => exact okm_56
  | 57, _ => exact okm_57
  | 58, _ => exact okm_58
  | 59, _ => exact okm_59
  | 60, _ => exact okm_60
  | 61, _ => exact okm_61
  | 62, _ => exact okm_62
  | 63, _ => exact okm_63
  | 64, _ => exact okm_64
  | 65, _ => exact okm_65
  | 66, _ => exact okm_66
  | 67, _ => exact okm_67
  | 68, _ => exact okm_68
  | 69, _ => exact okm_69
  | 70, _ => exact okm_70
  | 71, _ => exact okm_71
  | 72, _ => exact okm_72
  | 73, _ => exact okm_73
  | 74, _ => exact okm_74
  | 75, _ => exact okm_75
  | 76, _ => exact okm_76
  | 77, _ => exact okm_77
  | 78, _ => exact okm_78
  | 79, _ => exact okm_79
  | 80, _ => exact okm_80
  | 81, _ => exact okm_81
  | 82, _ => exact okm_82
  | 83, _ => exact okm_83
  | 84, _ => exact okm_84
  | 85, _ => exact okm_85
  | 86, _ => exact okm_86
  | 87, _ => exact okm_87
  | 88, _ => exact okm_88
  | 89, _ => exact okm_89
  | 90, _ => exact okm_90
  | 91, _ => exact okm_91
  | 92, _ => exact okm_92
  | 93, _ => exact okm_93
  | 94, _ => exact okm_94
  | 95, _ => exact okm_95
  | 96, _ => exact okm_96
  | 97, _ => exact okm_97
  | 98, _ => exact okm_98
  | 99, _ => exact okm_99
  | 100, _ => exact okm_100
  | 101, _ => exact okm_101
  | 102, _ => exact okm_102
  | 103, _ => exact okm_103
  | 104, _ => exact okm_104
  | 105, _ => exact okm_105
  | 106, _ => exact okm_106
  | 107, _ => exact okm_107
  | 108, _ => exact okm_108
  | 109, _ => exact okm_109
  | 110, _ => exact okm_110
  | 111, _ => exact okm_111
  | 112, _ => exact okm_112
  | 113, _ => exact okm_113
  | 114, _ => exact okm_114
  | 115, _ => exact okm_115
  | 116, _ => exact okm_116
  | 117, _ => exact okm_117
  | 118, _ => exact okm_118
  | 119, _ => exact okm_119
  | 120, _ => exact okm_120
  | 121, _ => exact okm_121
  | 122, _ => exact okm_122
  | 123, _ => exact okm_123
  | 124, _ => exact okm_124
  | 125, _ => exact okm_125
  | 126, _ => exact okm_126
  | 127, _ => exact okm_127
  | 128, _ => exact okm_128
  | 129, _ => exact okm_129
  | 130, _ => exact okm_130
  | 131, _ => exact okm_131
  | 132, _ => exact okm_132
  | 133, _ => exact okm_133
  | 134, _ => exact okm_134
  | 135, _ => exact okm_135
  | 136, _ => exact okm_136
  | 137, _ => exact okm_137
  | 138, _ => exact okm_138
  | 139, _ => exact okm_139
  | 140, _ => exact okm_140
  | 141, _ => exact okm_141
  | 142, _ => exact okm_142
  | 143, _ => exact okm_143
  | 144, _ => exact okm_144
  | 145, _ => exact okm_145
  | 146, _ => exact okm_146
  | 147, _ => exact okm_147
  | 148, _ => exact okm_148
  | 149, _ => exact okm_149
  | 150, _ => exact okm_150
  | 151, _ => exact okm_151
  | 152, _ => exact okm_152
  | 153, _ => exact okm_153
  | 154, _ => exact okm_154
  | 155, _ => exact okm_155
  | 156, _ => exact okm_156
  | 157, _ => exact okm_157
  | 158, _ => exact okm_158
  | 159, _ => exact okm_159
  | 160, _ => exact okm_160
  | 161, _ => exact okm_161
  | 162, _ => exact okm_162
  | 163, _ => exact okm_163
  | 164, _ => exact okm_164
  | 165, _ => exact okm_165
  | 166, _ => exact okm_166
  | 167, _ => exact okm_167
  | 168, _ => exact okm_168
  | 169, _ => exact okm_169
  | 170, _ => exact okm_170
  | 171, _ => exact okm_171
  | 172, _ => exact okm_172
  | 173, _ => exact okm_173
  | 174, _ => exact okm_174
  | 175, _ => exact okm_175
  | 176, _ => exact okm_176
  | 177, _ => exact okm_177
  | 178, _ => exact okm_178
  | 179, _ => exact okm_179
  | 180, _ => exact okm_180
  | 181, _ => exact okm_181
  | 182, _ => exact okm_182
  | 183, _ => exact okm_183
  | 184, _ => exact okm_184
  | 185, _ => exact okm_185
  | 186, _ => exact okm_186
  | 187, _ => exact okm_187
  | 188, _ => exact okm_188
  | 189, _ => exact okm_189
  | 190, _ => exact okm_190
  | 191, _ => exact okm_191
  | 192, _ => exact okm_192
  | 193, _ => exact okm_193
  | 194, _ => exact okm_194
  | 195, _ => exact okm_195
  | 196, _ => exact okm_196
  | 197, _ => exact okm_197
  | 198, _ => exact okm_198
  | 199, _ => exact okm_199
  | 200, _ => exact okm_200
  | 201, _ => exact okm_201
  | 202, _ => exact okm_202
  | 203, _ => exact okm_203
  | 204, _ => exact okm_204
  | 205, _ => exact okm_205
  | 206, _ => exact okm_206
  | 207, _ => exact okm_207
  | 208, _ => exact okm_208
  | 209, _ => exact okm_209
  | 210, _ => exact okm_210
  | 211, _ => exact okm_211
  | 212, _ => exact okm_212
  | 213, _ => exact okm_213
  | 214, _ => exact okm_214
  | 215, _ => exact okm_215
  | 216, _ => exact okm_216
  | 217, _ => exact okm_217
  | 218, _ => exact okm_218
  | 219, _ => exact okm_219
  | 220, _ => exact okm_220
  | 221, _ => exact okm_221
  | 222, _ => exact okm_222
  | n + 223, h => exact absurd h (by omega)
