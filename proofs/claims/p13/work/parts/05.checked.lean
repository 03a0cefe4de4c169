theorem okm_0_0 : ((c_0.drop 0).take 40).all (okE 0) = true := okW_all (P := 0) (W := 210) (by decide +kernel) (by decide +kernel)
theorem okm_0_1 : ((c_0.drop 40).take 40).all (okE 0) = true := okW_all (P := 210) (W := 46) (by decide +kernel) (by decide +kernel)
theorem okm_0_2 : ((c_0.drop 80).take 40).all (okE 0) = true := okW_all (P := 256) (W := 46) (by decide +kernel) (by decide +kernel)
theorem okm_0_3 : ((c_0.drop 120).take 40).all (okE 0) = true := okW_all (P := 302) (W := 52) (by decide +kernel) (by decide +kernel)
theorem okm_0_4 : ((c_0.drop 160).take 40).all (okE 0) = true := okW_all (P := 354) (W := 50) (by decide +kernel) (by decide +kernel)
theorem okm_0_5 : ((c_0.drop 200).take 40).all (okE 0) = true := okW_all (P := 404) (W := 56) (by decide +kernel) (by decide +kernel)
theorem okm_0_6 : ((c_0.drop 240).take 40).all (okE 0) = true := okW_all (P := 460) (W := 54) (by decide +kernel) (by decide +kernel)
theorem okm_0_7 : ((c_0.drop 280).take 40).all (okE 0) = true := okW_all (P := 514) (W := 52) (by decide +kernel) (by decide +kernel)
theorem okm_0_8 : ((c_0.drop 320).take 40).all (okE 0) = true := okW_all (P := 566) (W := 52) (by decide +kernel) (by decide +kernel)
theorem okm_0_9 : ((c_0.drop 360).take 40).all (okE 0) = true := okW_all (P := 618) (W := 58) (by decide +kernel) (by decide +kernel)
theorem okm_0_10 : ((c_0.drop 400).take 40).all (okE 0) = true := okW_all (P := 676) (W := 52) (by decide +kernel) (by decide +kernel)
theorem okm_0_11 : ((c_0.drop 440).take 40).all (okE 0) = true := okW_all (P := 728) (W := 52) (by decide +kernel) (by decide +kernel)
theorem okm_0_12 : ((c_0.drop 480).take 40).all (okE 0) = true := okW_all (P := 780) (W := 46) (by decide +kernel) (by decide +kernel)
theorem okm_0_13 : ((c_0.drop 520).take 40).all (okE 0) = true := okW_all (P := 826) (W := 52) (by decide +kernel) (by decide +kernel)
theorem okm_0_14 : ((c_0.drop 560).take 40).all (okE 0) = true := okW_all (P := 878) (W := 54) (by decide +kernel) (by decide +kernel)
theorem okm_0_15 : ((c_0.drop 600).take 40).all (okE 0) = true := okW_all (P := 932) (W := 56) (by decide +kernel) (by decide +kernel)
theorem okm_0_16 : ((c_0.drop 640).take 40).all (okE 0) = true := okW_all (P := 988) (W := 50) (by decide +kernel) (by decide +kernel)
theorem okm_0_17 : ((c_0.drop 680).take 40).all (okE 0) = true := okW_all (P := 1038) (W := 52) (by decide +kernel) (by decide +kernel)
theorem okm_0_18 : ((c_0.drop 720).take 40).all (okE 0) = true := okW_all (P := 1090) (W := 46) (by decide +kernel) (by decide +kernel)
theorem okm_0_19 : ((c_0.drop 760).take 40).all (okE 0) = true := okW_all (P := 1136) (W := 46) (by decide +kernel) (by decide +kernel)
theorem okm_0_20 : ((c_0.drop 800).take 40).all (okE 0) = true := okW_all (P := 1182) (W := 52) (by decide +kernel) (by decide +kernel)
theorem okm_0_21 : ((c_0.drop 840).take 40).all (okE 0) = true := okW_all (P := 1234) (W := 42) (by decide +kernel) (by decide +kernel)
theorem okm_0_22 : ((c_0.drop 880).take 20).all (okE 0) = true := okW_all (P := 1276) (W := 28) (by decide +kernel) (by decide +kernel)
theorem okm_0 : c_0.all (okE 0) = true := all_start (all_chunk (k := 0) (c := 40) (m := 40) rfl okm_0_0 (all_chunk (k := 40) (c := 40) (m := 80) rfl okm_0_1 (all_chunk (k := 80) (c := 40) (m := 120) rfl okm_0_2 (all_chunk (k := 120) (c := 40) (m := 160) rfl okm_0_3 (all_chunk (k := 160) (c := 40) (m := 200) rfl okm_0_4 (all_chunk (k := 200) (c := 40) (m := 240) rfl okm_0_5 (all_chunk (k := 240) (c := 40) (m := 280) rfl okm_0_6 (all_chunk (k := 280) (c := 40) (m := 320) rfl okm_0_7 (all_chunk (k := 320) (c := 40) (m := 360) rfl okm_0_8 (all_chunk (k := 360) (c := 40) (m := 400) rfl okm_0_9 (all_chunk (k := 400) (c := 40) (m := 440) rfl okm_0_10 (all_chunk (k := 440) (c := 40) (m := 480) rfl okm_0_11 (all_chunk (k := 480) (c := 40) (m := 520) rfl okm_0_12 (all_chunk (k := 520) (c := 40) (m := 560) rfl okm_0_13 (all_chunk (k := 560) (c := 40) (m := 600) rfl okm_0_14 (all_chunk (k := 600) (c := 40) (m := 640) rfl okm_0_15 (all_chunk (k := 640) (c := 40) (m := 680) rfl okm_0_16 (all_chunk (k := 680) (c := 40) (m := 720) rfl okm_0_17 (all_chunk (k := 720) (c := 40) (m := 760) rfl okm_0_18 (all_chunk (k := 760) (c := 40) (m := 800) rfl okm_0_19 (all_chunk (k := 800) (c := 40) (m := 840) rfl okm_0_20 (all_chunk (k := 840) (c := 40) (m := 880) rfl okm_0_21 (all_chunk (k := 880) (c := 20) (m := 900) rfl okm_0_22 (all_end (by decide +kernel)))))))))))))))))))))))))
theorem okm_1 : c_1.all (okE 1) = true := by decide +kernel
theorem okm_2_0 : ((c_2.drop 0).take 40).all (okE 2) = true := okW_all (P := 0) (W := 167) (by decide +kernel) (by decide +kernel)
theorem okm_2_1 : ((c_2.drop 40).take 40).all (okE 2) = true := okW_all (P := 167) (W := 61) (by decide +kernel) (by decide +kernel)
theorem okm_2_2 : ((c_2.drop 80).take 40).all (okE 2) = true := okW_all (P := 228) (W := 63) (by decide +kernel) (by decide +kernel)
theorem okm_2_3 : ((c_2.drop 120).take 27).all (okE 2) = true := okW_all (P := 291) (W := 41) (by decide +kernel) (by decide +kernel)
theorem okm_2 : c_2.all (okE 2) = true := all_start (all_chunk (k := 0) (c := 40) (m := 40) rfl okm_2_0 (all_chunk (k := 40) (c := 40) (m := 80) rfl okm_2_1 (all_chunk (k := 80) (c := 40) (m := 120) rfl okm_2_2 (all_chunk (k := 120) (c := 27) (m := 147) rfl okm_2_3 (all_end (by decide +kernel))))))
theorem okm_3 : c_3.all (okE 3) = true := by decide +kernel
theorem okm_4 : c_4.all (okE 4) = true := by decide +kernel
theorem okm_5 : c_5.all (okE 5) = true := by decide +kernel
theorem okm_6 : c_6.all (okE 6) = true := by decide +kernel
theorem okm_7 : c_7.all (okE 7) = true := by decide +kernel
theorem okm_8 : c_8.all (okE 8) = true := by decide +kernel
theorem okm_9 : c_9.all (okE 9) = true := by decide +kernel
theorem okm_10_0 : ((c_10.drop 0).take 40).all (okE 10) = true := okW_all (P := 0) (W := 70) (by decide +kernel) (by decide +kernel)
theorem okm_10_1 : ((c_10.drop 40).take 39).all (okE 10) = true := okW_all (P := 70) (W := 65) (by decide +kernel) (by decide +kernel)
theorem okm_10 : c_10.all (okE 10) = true := all_start (all_chunk (k := 0) (c := 40) (m := 40) rfl okm_10_0 (all_chunk (k := 40) (c := 39) (m := 79) rfl okm_10_1 (all_end (by decide +kernel))))
theorem okm_11_0 : ((c_11.drop 0).take 40).all (okE 11) = true := okW_all (P := 0) (W := 77) (by decide +kernel) (by decide +kernel)
theorem okm_11_1 : ((c_11.drop 40).take 27).all (okE 11) = true := okW_all (P := 77) (W := 51) (by decide +kernel) (by decide +kernel)
theorem okm_11 : c_11.all (okE 11) = true := all_start (all_chunk (k := 0) (c := 40) (m := 40) rfl okm_11_0 (all_chunk (k := 40) (c := 27) (m := 67) rfl okm_11_1 (all_end (by decide +kernel))))
theorem okm_12 : c_12.all (okE 12) = true := by decide +kernel
theorem okm_13 : c_13.all (okE 13) = true := by decide +kernel
theorem okm_14 : c_14.all (okE 14) = true := by decide +kernel
theorem okm_15 : c_15.all (okE 15) = true := by decide +kernel
theorem okm_16 : c_16.all (okE 16) = true := by decide +kernel
theorem okm_17 : c_17.all (okE 17) = true := by decide +kernel
theorem okm_18 : c_18.all (okE 18) = true := by decide +kernel
theorem okm_19 : c_19.all (okE 19) = true := by decide +kernel
theorem okm_20 : c_20.all (okE 20) = true := by decide +kernel
theorem okm_21 : c_21.all (okE 21) = true := by decide +kernel
theorem okm_22 : c_22.all (okE 22) = true := by decide +kernel
theorem okm_23 : c_23.all (okE 23) = true := by decide +kernel
theorem okm_24 : c_24.all (okE 24) = true := by decide +kernel
theorem okm_25 : c_25.all (okE 25) = true := by decide +kernel
theorem okm_26 : c_26.all (okE 26) = true := by decide +kernel
theorem okm_27 : c_27.all (okE 27) = true := by decide +kernel
theorem okm_28 : c_28.all (okE 28) = true := by decide +kernel
theorem okm_29 : c_29.all (okE 29) = true := by decide +kernel
theorem okm_30 : c_30.all (okE 30) = true := by decide +kernel
theorem okm_31 : c_31.all (okE 31) = true := by decide +kernel
theorem okm_32 : c_32.all (okE 32) = true := by decide +kernel
theorem okm_33_0 : ((c_33.drop 0).take 40).all (okE 33) = true := okW_all (P := 0) (W := 74) (by decide +kernel) (by decide +kernel)
theorem okm_33_1 : ((c_33.drop 40).take 40).all (okE 33) = true := okW_all (P := 74) (W := 79) (by decide +kernel) (by decide +kernel)
theorem okm_33_2 : ((c_33.drop 80).take 1).all (okE 33) = true := okW_all (P := 153) (W := 1) (by decide +kernel) (by decide +kernel)
theorem okm_33 : c_33.all (okE 33) = true := all_start (all_chunk (k := 0) (c := 40) (m := 40) rfl okm_33_0 (all_chunk (k := 40) (c := 40) (m := 80) rfl okm_33_1 (all_chunk (k := 80) (c := 1) (m := 81) rfl okm_33_2 (all_end (by decide +kernel)))))
theorem okm_34 : c_34.all (okE 34) = true := by decide +kernel
theorem okm_35 : c_35.all (okE 35) = true := by decide +kernel
theorem okm_36 : c_36.all (okE 36) = true := by decide +kernel
theorem okm_37 : c_37.all (okE 37) = true := by decide +kernel
theorem okm_38 : c_38.all (okE 38) = true := by decide +kernel
theorem okm_39 : c_39.all (okE 39) = true := by decide +kernel
theorem okm_40 : c_40.all (okE 40) = true := by decide +kernel
theorem okm_41 : c_41.all (okE 41) = true := by decide +kernel
theorem okm_42 : c_42.all (okE 42) = true := by decide +kernel
theorem okm_43 : c_43.all (okE 43) = true := by decide +kernel
theorem okm_44 : c_44.all (okE 44) = true := by decide +kernel
theorem okm_45 : c_45.all (okE 45) = true := by decide +kernel
theorem okm_46 : c_46.all (okE 46) = true := by decide +kernel
theorem okm_47 : c_47.all (okE 47) = true := by decide +kernel
theorem okm_48_0 : ((c_48.drop 0).take 40).all (okE 48) = true := okW_all (P := 0) (W := 71) (by decide +kernel) (by decide +kernel)
theorem okm_48_1 : ((c_48.drop 40).take 32).all (okE 48) = true := okW_all (P := 71) (W := 59) (by decide +kernel) (by decide +kernel)
theorem okm_48 : c_48.all (okE 48) = true := all_start (all_chunk (k := 0) (c := 40) (m := 40) rfl okm_48_0 (all_chunk (k := 40) (c := 32) (m := 72) rfl okm_48_1 (all_end (by decide +kernel))))
theorem okm_49 : c_49.all (okE 49) = true := by decide +kernel
theorem okm_50 : c_50.all (okE 50) = true := by decide +kernel
theorem okm_51 : c_51.all (okE 51) = true := by decide +kernel
theorem okm_52 : c_52.all (okE 52) = true := by decide +kernel
theorem okm_53 : c_53.all (okE 53) = true := by decide +kernel
theorem okm_54 : c_54.all (okE 54) = true := by decide +kernel
theorem okm_55 : c_55.all (okE 55) = true := by decide +kernel
theorem okm_56 : c_56.all (okE 56) = true := by decide +kernel
theorem okm_57 : c_57.all (okE 57) = true := by decide +kernel
theorem okm_58 : c_58.all (okE 58) = true := by decide +kernel
theorem okm_59_0 : ((c_59.drop 0).take 40).all (okE 59) = true := okW_all (P := 0) (W := 72) (by decide +kernel) (by decide +kernel)
theorem okm_59_1 : ((c_59.drop 40).take 38).all (okE 59) = true := okW_all (P := 72) (W := 68) (by decide +kernel) (by decide +kernel)
theorem okm_59 : c_59.all (okE 59) = true := all_start (all_chunk (k := 0) (c := 40) (m := 40) rfl okm_59_0 (all_chunk (k := 40) (c := 38) (m := 78) rfl okm_59_1 (all_end (by decide +kernel))))
theorem okm_60 : c_60.all (okE 60) = true := by decide +kernel
theorem okm_61 : c_61.all (okE 61) = true := by decide +kernel
theorem okm_62 : c_62.all (okE 62) = true := by decide +kernel
theorem okm_63 : c_63.all (okE 63) = true := by decide +kernel
theorem okm_64 : c_64.all (okE 64) = true := by decide +kernel
theorem okm_65 : c_65.all (okE 65) = true := by decide +kernel
theorem okm_66 : c_66.all (okE 66) = true := by decide +kernel
theorem okm_67 : c_67.all (okE 67) = true := by decide +kernel
theorem okm_68 : c_68.all (okE 68) = true := by decide +kernel
theorem okm_69 : c_69.all (okE 69) = true := by decide +kernel
theorem okm_70 : c_70.all (okE 70) = true := by decide +kernel
theorem okm_71 : c_71.all (okE 71) = true := by decide +kernel
theorem okm_72 : c_72.all (okE 72) = true := by decide +kernel
theorem okm_73 : c_73.all (okE 73) = true := by decide +kernel
theorem okm_74 : c_74.all (okE 74) = true := by decide +kernel
theorem okm_75 : c_75.all (okE 75) = true := by decide +kernel
theorem okm_76 : c_76.all (okE 76) = true := by decide +kernel
theorem okm_77 : c_77.all (okE 77) = true := by decide +kernel
theorem okm_78 : c_78.all (okE 78) = true := by decide +kernel
theorem okm_79 : c_79.all (okE 79) = true := by decide +kernel
theorem okm_80_0 : ((c_80.drop 0).take 40).all (okE 80) = true := okW_all (P := 0) (W := 75) (by decide +kernel) (by decide +kernel)
theorem okm_80_1 : ((c_80.drop 40).take 32).all (okE 80) = true := okW_all (P := 75) (W := 56) (by decide +kernel) (by decide +kernel)
theorem okm_80 : c_80.all (okE 80) = true := all_start (all_chunk (k := 0) (c := 40) (m := 40) rfl okm_80_0 (all_chunk (k := 40) (c := 32) (m := 72) rfl okm_80_1 (all_end (by decide +kernel))))
theorem okm_81 : c_81.all (okE 81) = true := by decide +kernel
theorem okm_82 : c_82.all (okE 82) = true := by decide +kernel
theorem okm_83 : c_83.all (okE 83) = true := by decide +kernel
theorem okm_84 : c_84.all (okE 84) = true := by decide +kernel
theorem okm_85 : c_85.all (okE 85) = true := by decide +kernel
theorem okm_86 : c_86.all (okE 86) = true := by decide +kernel
theorem okm_87 : c_87.all (okE 87) = true := by decide +kernel
theorem okm_88_0 : ((c_88.drop 0).take 40).all (okE 88) = true := okW_all (P := 0) (W := 70) (by decide +kernel) (by decide +kernel)
theorem okm_88_1 : ((c_88.drop 40).take 35).all (okE 88) = true := okW_all (P := 70) (W := 63) (by decide +kernel) (by decide +kernel)
theorem okm_88 : c_88.all (okE 88) = true := all_start (all_chunk (k := 0) (c := 40) (m := 40) rfl okm_88_0 (all_chunk (k := 40) (c := 35) (m := 75) rfl okm_88_1 (all_end (by decide +kernel))))
theorem okm_89 : c_89.all (okE 89) = true := by decide +kernel
theorem okm_90 : c_90.all (okE 90) = true := by decide +kernel
theorem okm_91 : c_91.all (okE 91) = true := by decide +kernel
theorem okm_92 : c_92.all (okE 92) = true := by decide +kernel
theorem okm_93 : c_93.all (okE 93) = true := by decide +kernel
theorem okm_94 : c_94.all (okE 94) = true := by decide +kernel
theorem okm_95 : c_95.all (okE 95) = true := by decide +kernel
theorem okm_96 : c_96.all (okE 96) = true := by decide +kernel
theorem okm_97 : c_97.all (okE 97) = true := by decide +kernel
theorem okm_98_0 : ((c_98.drop 0).take 40).all (okE 98) = true := okW_all (P := 0) (W := 76) (by decide +kernel) (by decide +kernel)
theorem okm_98_1 : ((c_98.drop 40).take 33).all (okE 98) = true := okW_all (P := 76) (W := 62) (by decide +kernel) (by decide +kernel)
theorem okm_98 : c_98.all (okE 98) = true := all_start (all_chunk (k := 0) (c := 40) (m := 40) rfl okm_98_0 (all_chunk (k := 40) (c := 33) (m := 73) rfl okm_98_1 (all_end (by decide +kernel))))
theorem okm_99 : c_99.all (okE 99) = true := by decide +kernel
theorem okm_100 : c_100.all (okE 100) = true := by decide +kernel
theorem okm_101 : c_101.all (okE 101) = true := by decide +kernel
theorem okm_102 : c_102.all (okE 102) = true := by decide +kernel
theorem okm_103 : c_103.all (okE 103) = true := by decide +kernel
theorem okm_104 : c_104.all (okE 104) = true := by decide +kernel
theorem okm_105 : c_105.all (okE 105) = true := by decide +kernel
theorem okm_106 : c_106.all (okE 106) = true := by decide +kernel
theorem okm_107 : c_107.all (okE 107) = true := by decide +kernel
theorem okm_108_0 : ((c_108.drop 0).take 40).all (okE 108) = true := okW_all (P := 0) (W := 74) (by decide +kernel) (by decide +kernel)
theorem okm_108_1 : ((c_108.drop 40).take 40).all (okE 108) = true := okW_all (P := 74) (W := 78) (by decide +kernel) (by decide +kernel)
theorem okm_108_2 : ((c_108.drop 80).take 40).all (okE 108) = true := okW_all (P := 152) (W := 58) (by decide +kernel) (by decide +kernel)
theorem okm_108_3 : ((c_108.drop 120).take 40).all (okE 108) = true := okW_all (P := 210) (W := 63) (by decide +kernel) (by decide +kernel)
theorem okm_108_4 : ((c_108.drop 160).take 40).all (okE 108) = true := okW_all (P := 273) (W := 70) (by decide +kernel) (by decide +kernel)
theorem okm_108_5 : ((c_108.drop 200).take 40).all (okE 108) = true := okW_all (P := 343) (W := 72) (by decide +kernel) (by decide +kernel)
theorem okm_108_6 : ((c_108.drop 240).take 40).all (okE 108) = true := okW_all (P := 415) (W := 68) (by decide +kernel) (by decide +kernel)
theorem okm_108_7 : ((c_108.drop 280).take 28).all (okE 108) = true := okW_all (P := 483) (W := 43) (by decide +kernel) (by decide +kernel)
theorem okm_108 : c_108.all (okE 108) = true := all_start (all_chunk (k := 0) (c := 40) (m := 40) rfl okm_108_0 (all_chunk (k := 40) (c := 40) (m := 80) rfl okm_108_1 (all_chunk (k := 80) (c := 40) (m := 120) rfl okm_108_2 (all_chunk (k := 120) (c := 40) (m := 160) rfl okm_108_3 (all_chunk (k := 160) (c := 40) (m := 200) rfl okm_108_4 (all_chunk (k := 200) (c := 40) (m := 240) rfl okm_108_5 (all_chunk (k := 240) (c := 40) (m := 280) rfl okm_108_6 (all_chunk (k := 280) (c := 28) (m := 308) rfl okm_108_7 (all_end (by decide +kernel))))))))))
theorem okm_109 : c_109.all (okE 109) = true := by decide +kernel
theorem okm_110 : c_110.all (okE 110) = true := by decide +kernel
theorem okm_111 : c_111.all (okE 111) = true := by decide +kernel
theorem okm_112 : c_112.all (okE 112) = true := by decide +kernel
theorem okm_113 : c_113.all (okE 113) = true := by decide +kernel
theorem okm_114_0 : ((c_114.drop 0).take 40).all (okE 114) = true := okW_all (P := 0) (W := 74) (by decide +kernel) (by decide +kernel)
theorem okm_114_1 : ((c_114.drop 40).take 40).all (okE 114) = true := okW_all (P := 74) (W := 70) (by decide +kernel) (by decide +kernel)
theorem okm_114_2 : ((c_114.drop 80).take 29).all (okE 114) = true := okW_all (P := 144) (W := 46) (by decide +kernel) (by decide +kernel)
theorem okm_114 : c_114.all (okE 114) = true := all_start (all_chunk (k := 0) (c := 40) (m := 40) rfl okm_114_0 (all_chunk (k := 40) (c := 40) (m := 80) rfl okm_114_1 (all_chunk (k := 80) (c := 29) (m := 109) rfl okm_114_2 (all_end (by decide +kernel)))))
theorem okm_115 : c_115.all (okE 115) = true := by decide +kernel
theorem okm_116 : c_116.all (okE 116) = true := by decide +kernel
theorem okm_117 : c_117.all (okE 117) = true := by decide +kernel
theorem okm_118 : c_118.all (okE 118) = true := by decide +kernel
theorem okm_119 : c_119.all (okE 119) = true := by decide +kernel
theorem okm_120 : c_120.all (okE 120) = true := by decide +kernel
theorem okm_121 : c_121.all (okE 121) = true := by decide +kernel
theorem okm_122 : c_122.all (okE 122) = true := by decide +kernel
theorem okm_123 : c_123.all (okE 123) = true := by decide +kernel
theorem okm_124 : c_124.all (okE 124) = true := by decide +kernel
theorem okm_125 : c_125.all (okE 125) = true := by decide +kernel
theorem okm_126 : c_126.all (okE 126) = true := by decide +kernel
theorem okm_127 : c_127.all (okE 127) = true := by decide +kernel
theorem okm_128 : c_128.all (okE 128) = true := by decide +kernel
theorem okm_129_0 : ((c_129.drop 0).take 40).all (okE 129) = true := okW_all (P := 0) (W := 68) (by decide +kernel) (by decide +kernel)
theorem okm_129_1 : ((c_129.drop 40).take 40).all (okE 129) = true := okW_all (P := 68) (W := 70) (by decide +kernel) (by decide +kernel)
theorem okm_129_2 : ((c_129.drop 80).take 40).all (okE 129) = true := okW_all (P := 138) (W := 68) (by decide +kernel) (by decide +kernel)
theorem okm_129_3 : ((c_129.drop 120).take 14).all (okE 129) = true := okW_all (P := 206) (W := 26) (by decide +kernel) (by decide +kernel)
theorem okm_129 : c_129.all (okE 129) = true := all_start (all_chunk (k := 0) (c := 40) (m := 40) rfl okm_129_0 (all_chunk (k := 40) (c := 40) (m := 80) rfl okm_129_1 (all_chunk (k := 80) (c := 40) (m := 120) rfl okm_129_2 (all_chunk (k := 120) (c := 14) (m := 134) rfl okm_129_3 (all_end (by decide +kernel))))))
theorem okm_130 : c_130.all (okE 130) = true := by decide +kernel
theorem okm_131 : c_131.all (okE 131) = true := by decide +kernel
theorem okm_132 : c_132.all (okE 132) = true := by decide +kernel
theorem okm_133 : c_133.all (okE 133) = true := by decide +kernel
theorem okm_134 : c_134.all (okE 134) = true := by decide +kernel
theorem okm_135 : c_135.all (okE 135) = true := by decide +kernel
theorem okm_136 : c_136.all (okE 136) = true := by decide +kernel
theorem okm_137_0 : ((c_137.drop 0).take 40).all (okE 137) = true := okW_all (P := 0) (W := 72) (by decide +kernel) (by decide +kernel)
theorem okm_137_1 : ((c_137.drop 40).take 40).all (okE 137) = true := okW_all (P := 72) (W := 75) (by decide +kernel) (by decide +kernel)
theorem okm_137_2 : ((c_137.drop 80).take 40).all (okE 137) = true := okW_all (P := 147) (W := 77) (by decide +kernel) (by decide +kernel)
theorem okm_137_3 : ((c_137.drop 120).take 19).all (okE 137) = true := okW_all (P := 224) (W := 36) (by decide +kernel) (by decide +kernel)
theorem okm_137 : c_137.all (okE 137) = true := all_start (all_chunk (k := 0) (c := 40) (m := 40) rfl okm_137_0 (all_chunk (k := 40) (c := 40) (m := 80) rfl okm_137_1 (all_chunk (k := 80) (c := 40) (m := 120) rfl okm_137_2 (all_chunk (k := 120) (c := 19) (m := 139) rfl okm_137_3 (all_end (by decide +kernel))))))
theorem okm_138 : c_138.all (okE 138) = true := by decide +kernel
theorem okm_139 : c_139.all (okE 139) = true := by decide +kernel
theorem okm_140 : c_140.all (okE 140) = true := by decide +kernel
theorem okm_141 : c_141.all (okE 141) = true := by decide +kernel
theorem okm_142 : c_142.all (okE 142) = true := by decide +kernel
theorem okm_143 : c_143.all (okE 143) = true := by decide +kernel
theorem okm_144 : c_144.all (okE 144) = true := by decide +kernel
theorem okm_145 : c_145.all (okE 145) = true := by decide +kernel
theorem okm_146 : c_146.all (okE 146) = true := by decide +kernel
theorem okm_147 : c_147.all (okE 147) = true := by decide +kernel
theorem okm_148 : c_148.all (okE 148) = true := by decide +kernel
theorem okm_149_0 : ((c_149.drop 0).take 40).all (okE 149) = true := okW_all (P := 0) (W := 108) (by decide +kernel) (by decide +kernel)
theorem okm_149_1 : ((c_149.drop 40).take 40).all (okE 149) = true := okW_all (P := 108) (W := 76) (by decide +kernel) (by decide +kernel)
theorem okm_149_2 : ((c_149.drop 80).take 2).all (okE 149) = true := okW_all (P := 184) (W := 2) (by decide +kernel) (by decide +kernel)
theorem okm_149 : c_149.all (okE 149) = true := all_start (all_chunk (k := 0) (c := 40) (m := 40) rfl okm_149_0 (all_chunk (k := 40) (c := 40) (m := 80) rfl okm_149_1 (all_chunk (k := 80) (c := 2) (m := 82) rfl okm_149_2 (all_end (by decide +kernel)))))
theorem okm_150 : c_150.all (okE 150) = true := by decide +kernel
theorem okm_151 : c_151.all (okE 151) = true := by decide +kernel
theorem okm_152 : c_152.all (okE 152) = true := by decide +kernel
theorem okm_153 : c_153.all (okE 153) = true := by decide +kernel
theorem okm_154_0 : ((c_154.drop 0).take 40).all (okE 154) = true := okW_all (P := 0) (W := 76) (by decide +kernel) (by decide +kernel)
theorem okm_154_1 : ((c_154.drop 40).take 23).all (okE 154) = true := okW_all (P := 76) (W := 41) (by decide +kernel) (by decide +kernel)
theorem okm_154 : c_154.all (okE 154) = true := all_start (all_chunk (k := 0) (c := 40) (m := 40) rfl okm_154_0 (all_chunk (k := 40) (c := 23) (m := 63) rfl okm_154_1 (all_end (by decide +kernel))))
theorem okm_155 : c_155.all (okE 155) = true := by decide +kernel
theorem okm_156 : c_156.all (okE 156) = true := by decide +kernel
theorem okm_157 : c_157.all (okE 157) = true := by decide +kernel
theorem okm_158 : c_158.all (okE 158) = true := by decide +kernel
theorem okm_159 : c_159.all (okE 159) = true := by decide +kernel
theorem okm_160 : c_160.all (okE 160) = true := by decide +kernel
theorem okm_161 : c_161.all (okE 161) = true := by decide +kernel
theorem okm_162 : c_162.all (okE 162) = true := by decide +kernel
theorem okm_163 : c_163.all (okE 163) = true := by decide +kernel
theorem okm_164 : c_164.all (okE 164) = true := by decide +kernel
theorem okm_165_0 : ((c_165.drop 0).take 40).all (okE 165) = true := okW_all (P := 0) (W := 71) (by decide +kernel) (by decide +kernel)
theorem okm_165_1 : ((c_165.drop 40).take 22).all (okE 165) = true := okW_all (P := 71) (W := 40) (by decide +kernel) (by decide +kernel)
theorem okm_165 : c_165.all (okE 165) = true := all_start (all_chunk (k := 0) (c := 40) (m := 40) rfl okm_165_0 (all_chunk (k := 40) (c := 22) (m := 62) rfl okm_165_1 (all_end (by decide +kernel))))
theorem okm_166_0 : ((c_166.drop 0).take 40).all (okE 166) = true := okW_all (P := 0) (W := 67) (by decide +kernel) (by decide +kernel)
theorem okm_166_1 : ((c_166.drop 40).take 23).all (okE 166) = true := okW_all (P := 67) (W := 48) (by decide +kernel) (by decide +kernel)
theorem okm_166 : c_166.all (okE 166) = true := all_start (all_chunk (k := 0) (c := 40) (m := 40) rfl okm_166_0 (all_chunk (k := 40) (c := 23) (m := 63) rfl okm_166_1 (all_end (by decide +kernel))))
theorem okm_167 : c_167.all (okE 167) = true := by decide +kernel
theorem okm_168 : c_168.all (okE 168) = true := by decide +kernel
theorem okm_169 : c_169.all (okE 169) = true := by decide +kernel
theorem okm_170 : c_170.all (okE 170) = true := by decide +kernel
theorem okm_171 : c_171.all (okE 171) = true := by decide +kernel
theorem okm_172 : c_172.all (okE 172) = true := by decide +kernel
theorem okm_173_0 : ((c_173.drop 0).take 40).all (okE 173) = true := okW_all (P := 0) (W := 66) (by decide +kernel) (by decide +kernel)
theorem okm_173_1 : ((c_173.drop 40).take 40).all (okE 173) = true := okW_all (P := 66) (W := 73) (by decide +kernel) (by decide +kernel)
theorem okm_173_2 : ((c_173.drop 80).take 32).all (okE 173) = true := okW_all (P := 139) (W := 63) (by decide +kernel) (by decide +kernel)
theorem okm_173 : c_173.all (okE 173) = true := all_start (all_chunk (k := 0) (c := 40) (m := 40) rfl okm_173_0 (all_chunk (k := 40) (c := 40) (m := 80) rfl okm_173_1 (all_chunk (k := 80) (c := 32) (m := 112) rfl okm_173_2 (all_end (by decide +kernel)))))
theorem okm_174 : c_174.all (okE 174) = true := by decide +kernel
theorem okm_175 : c_175.all (okE 175) = true := by decide +kernel
theorem okm_176 : c_176.all (okE 176) = true := by decide +kernel
theorem okm_177 : c_177.all (okE 177) = true := by decide +kernel
theorem okm_178 : c_178.all (okE 178) = true := by decide +kernel
theorem okm_179_0 : ((c_179.drop 0).take 40).all (okE 179) = true := okW_all (P := 0) (W := 74) (by decide +kernel) (by decide +kernel)
theorem okm_179_1 : ((c_179.drop 40).take 26).all (okE 179) = true := okW_all (P := 74) (W := 47) (by decide +kernel) (by decide +kernel)
theorem okm_179 : c_179.all (okE 179) = true := all_start (all_chunk (k := 0) (c := 40) (m := 40) rfl okm_179_0 (all_chunk (k := 40) (c := 26) (m := 66) rfl okm_179_1 (all_end (by decide +kernel))))
theorem okm_180 : c_180.all (okE 180) = true := by decide +kernel
theorem okm_181 : c_181.all (okE 181) = true := by decide +kernel
theorem okm_182 : c_182.all (okE 182) = true := by decide +kernel
theorem okm_183_0 : ((c_183.drop 0).take 40).all (okE 183) = true := okW_all (P := 0) (W := 65) (by decide +kernel) (by decide +kernel)
theorem okm_183_1 : ((c_183.drop 40).take 31).all (okE 183) = true := okW_all (P := 65) (W := 50) (by decide +kernel) (by decide +kernel)
theorem okm_183 : c_183.all (okE 183) = true := all_start (all_chunk (k := 0) (c := 40) (m := 40) rfl okm_183_0 (all_chunk (k := 40) (c := 31) (m := 71) rfl okm_183_1 (all_end (by decide +kernel))))
theorem okm_184_0 : ((c_184.drop 0).take 40).all (okE 184) = true := okW_all (P := 0) (W := 73) (by decide +kernel) (by decide +kernel)
theorem okm_184_1 : ((c_184.drop 40).take 40).all (okE 184) = true := okW_all (P := 73) (W := 63) (by decide +kernel) (by decide +kernel)
theorem okm_184_2 : ((c_184.drop 80).take 27).all (okE 184) = true := okW_all (P := 136) (W := 48) (by decide +kernel) (by decide +kernel)
theorem okm_184 : c_184.all (okE 184) = true := all_start (all_chunk (k := 0) (c := 40) (m := 40) rfl okm_184_0 (all_chunk (k := 40) (c := 40) (m := 80) rfl okm_184_1 (all_chunk (k := 80) (c := 27) (m := 107) rfl okm_184_2 (all_end (by decide +kernel)))))
theorem okm_185_0 : ((c_185.drop 0).take 40).all (okE 185) = true := okW_all (P := 0) (W := 76) (by decide +kernel) (by decide +kernel)
theorem okm_185_1 : ((c_185.drop 40).take 40).all (okE 185) = true := okW_all (P := 76) (W := 61) (by decide +kernel) (by decide +kernel)
theorem okm_185_2 : ((c_185.drop 80).take 29).all (okE 185) = true := okW_all (P := 137) (W := 52) (by decide +kernel) (by decide +kernel)
theorem okm_185 : c_185.all (okE 185) = true := all_start (all_chunk (k := 0) (c := 40) (m := 40) rfl okm_185_0 (all_chunk (k := 40) (c := 40) (m := 80) rfl okm_185_1 (all_chunk (k := 80) (c := 29) (m := 109) rfl okm_185_2 (all_end (by decide +kernel)))))
theorem okm_186 : c_186.all (okE 186) = true := by decide +kernel
theorem okm_187 : c_187.all (okE 187) = true := by decide +kernel
theorem okm_188 : c_188.all (okE 188) = true := by decide +kernel
theorem okm_189 : c_189.all (okE 189) = true := by decide +kernel
theorem okm_190 : c_190.all (okE 190) = true := by decide +kernel
theorem okm_191 : c_191.all (okE 191) = true := by decide +kernel
theorem okm_192 : c_192.all (okE 192) = true := by decide +kernel
theorem okm_193 : c_193.all (okE 193) = true := by decide +kernel
theorem okm_194 : c_194.all (okE 194) = true := by decide +kernel
theorem okm_195 : c_195.all (okE 195) = true := by decide +kernel
theorem okm_196 : c_196.all (okE 196) = true := by decide +kernel
theorem okm_197 : c_197.all (okE 197) = true := by decide +kernel
theorem okm_198 : c_198.all (okE 198) = true := by decide +kernel
theorem okm_199 : c_199.all (okE 199) = true := by decide +kernel
theorem okm_200 : c_200.all (okE 200) = true := by decide +kernel
theorem okm_201 : c_201.all (okE 201) = true := by decide +kernel
theorem okm_202 : c_202.all (okE 202) = true := by decide +kernel
theorem okm_203_0 : ((c_203.drop 0).take 40).all (okE 203) = true := okW_all (P := 0) (W := 72) (by decide +kernel) (by decide +kernel)
theorem okm_203_1 : ((c_203.drop 40).take 40).all (okE 203) = true := okW_all (P := 72) (W := 69) (by decide +kernel) (by decide +kernel)
theorem okm_203_2 : ((c_203.drop 80).take 21).all (okE 203) = true := okW_all (P := 141) (W := 38) (by decide +kernel) (by decide +kernel)
theorem okm_203 : c_203.all (okE 203) = true := all_start (all_chunk (k := 0) (c := 40) (m := 40) rfl okm_203_0 (all_chunk (k := 40) (c := 40) (m := 80) rfl okm_203_1 (all_chunk (k := 80) (c := 21) (m := 101) rfl okm_203_2 (all_end (by decide +kernel)))))
theorem okm_204 : c_204.all (okE 204) = true := by decide +kernel
theorem okm_205 : c_205.all (okE 205) = true := by decide +kernel
theorem okm_206 : c_206.all (okE 206) = true := by decide +kernel
theorem okm_207 : c_207.all (okE 207) = true := by decide +kernel
theorem okm_208 : c_208.all (okE 208) = true := by decide +kernel
theorem okm_209 : c_209.all (okE 209) = true := by decide +kernel
theorem okm_210 : c_210.all (okE 210) = true := by decide +kernel
theorem okm_211 : c_211.all (okE 211) = true := by decide +kernel
theorem okm_212 : c_212.all (okE 212) = true := by decide +kernel
theorem okm_213 : c_213.all (okE 213) = true := by decide +kernel
theorem okm_214 : c_214.all (okE 214) = true := by decide +kernel
theorem okm_215 : c_215.all (okE 215) = true := by decide +kernel
theorem okm_216 : c_216.all (okE 216) = true := by decide +kernel
theorem okm_217 : c_217.all (okE 217) = true := by decide +kernel
theorem okm_218 : c_218.all (okE 218) = true := by decide +kernel
theorem okm_219 : c_219.all (okE 219) = true := by decide +kernel
theorem okm_220 : c_220.all (okE 220) = true := by decide +kernel
theorem okm_221 : c_221.all (okE 221) = true := by decide +kernel
theorem okm_222 : c_222.all (okE 222) = true := by decide +kernel
