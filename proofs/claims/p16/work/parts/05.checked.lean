theorem okl_0 : 1303 ≤ (mBytes 0).data.toList.length := by decide +kernel
theorem okm_0_0 : ((c_0.drop 0).take 20).all (okE 0) = true := okW_all (P := 0) (W := 32) (Nat.le_trans (by decide) okl_0) (by decide +kernel)
theorem okm_0_1 : ((c_0.drop 20).take 20).all (okE 0) = true := okW_all (P := 32) (W := 178) (Nat.le_trans (by decide) okl_0) (by decide +kernel)
theorem okm_0_2 : ((c_0.drop 40).take 20).all (okE 0) = true := okW_all (P := 210) (W := 22) (Nat.le_trans (by decide) okl_0) (by decide +kernel)
theorem okm_0_3 : ((c_0.drop 60).take 20).all (okE 0) = true := okW_all (P := 232) (W := 24) (Nat.le_trans (by decide) okl_0) (by decide +kernel)
theorem okm_0_4 : ((c_0.drop 80).take 20).all (okE 0) = true := okW_all (P := 256) (W := 22) (Nat.le_trans (by decide) okl_0) (by decide +kernel)
theorem okm_0_5 : ((c_0.drop 100).take 20).all (okE 0) = true := okW_all (P := 278) (W := 24) (Nat.le_trans (by decide) okl_0) (by decide +kernel)
theorem okm_0_6 : ((c_0.drop 120).take 20).all (okE 0) = true := okW_all (P := 302) (W := 22) (Nat.le_trans (by decide) okl_0) (by decide +kernel)
theorem okm_0_7 : ((c_0.drop 140).take 20).all (okE 0) = true := okW_all (P := 324) (W := 30) (Nat.le_trans (by decide) okl_0) (by decide +kernel)
theorem okm_0_8 : ((c_0.drop 160).take 20).all (okE 0) = true := okW_all (P := 354) (W := 28) (Nat.le_trans (by decide) okl_0) (by decide +kernel)
theorem okm_0_9 : ((c_0.drop 180).take 20).all (okE 0) = true := okW_all (P := 382) (W := 22) (Nat.le_trans (by decide) okl_0) (by decide +kernel)
theorem okm_0_10 : ((c_0.drop 200).take 20).all (okE 0) = true := okW_all (P := 404) (W := 24) (Nat.le_trans (by decide) okl_0) (by decide +kernel)
theorem okm_0_11 : ((c_0.drop 220).take 20).all (okE 0) = true := okW_all (P := 428) (W := 32) (Nat.le_trans (by decide) okl_0) (by decide +kernel)
theorem okm_0_12 : ((c_0.drop 240).take 20).all (okE 0) = true := okW_all (P := 460) (W := 28) (Nat.le_trans (by decide) okl_0) (by decide +kernel)
theorem okm_0_13 : ((c_0.drop 260).take 20).all (okE 0) = true := okW_all (P := 488) (W := 26) (Nat.le_trans (by decide) okl_0) (by decide +kernel)
theorem okm_0_14 : ((c_0.drop 280).take 20).all (okE 0) = true := okW_all (P := 514) (W := 26) (Nat.le_trans (by decide) okl_0) (by decide +kernel)
theorem okm_0_15 : ((c_0.drop 300).take 20).all (okE 0) = true := okW_all (P := 540) (W := 26) (Nat.le_trans (by decide) okl_0) (by decide +kernel)
theorem okm_0_16 : ((c_0.drop 320).take 20).all (okE 0) = true := okW_all (P := 566) (W := 26) (Nat.le_trans (by decide) okl_0) (by decide +kernel)
theorem okm_0_17 : ((c_0.drop 340).take 20).all (okE 0) = true := okW_all (P := 592) (W := 26) (Nat.le_trans (by decide) okl_0) (by decide +kernel)
theorem okm_0_18 : ((c_0.drop 360).take 20).all (okE 0) = true := okW_all (P := 618) (W := 26) (Nat.le_trans (by decide) okl_0) (by decide +kernel)
theorem okm_0_19 : ((c_0.drop 380).take 20).all (okE 0) = true := okW_all (P := 644) (W := 32) (Nat.le_trans (by decide) okl_0) (by decide +kernel)
theorem okm_0_20 : ((c_0.drop 400).take 20).all (okE 0) = true := okW_all (P := 676) (W := 26) (Nat.le_trans (by decide) okl_0) (by decide +kernel)
theorem okm_0_21 : ((c_0.drop 420).take 20).all (okE 0) = true := okW_all (P := 702) (W := 26) (Nat.le_trans (by decide) okl_0) (by decide +kernel)
theorem okm_0_22 : ((c_0.drop 440).take 20).all (okE 0) = true := okW_all (P := 728) (W := 26) (Nat.le_trans (by decide) okl_0) (by decide +kernel)
theorem okm_0_23 : ((c_0.drop 460).take 20).all (okE 0) = true := okW_all (P := 754) (W := 26) (Nat.le_trans (by decide) okl_0) (by decide +kernel)
theorem okm_0_24 : ((c_0.drop 480).take 20).all (okE 0) = true := okW_all (P := 780) (W := 24) (Nat.le_trans (by decide) okl_0) (by decide +kernel)
theorem okm_0_25 : ((c_0.drop 500).take 20).all (okE 0) = true := okW_all (P := 804) (W := 22) (Nat.le_trans (by decide) okl_0) (by decide +kernel)
theorem okm_0_26 : ((c_0.drop 520).take 20).all (okE 0) = true := okW_all (P := 826) (W := 26) (Nat.le_trans (by decide) okl_0) (by decide +kernel)
theorem okm_0_27 : ((c_0.drop 540).take 20).all (okE 0) = true := okW_all (P := 852) (W := 26) (Nat.le_trans (by decide) okl_0) (by decide +kernel)
theorem okm_0_28 : ((c_0.drop 560).take 20).all (okE 0) = true := okW_all (P := 878) (W := 30) (Nat.le_trans (by decide) okl_0) (by decide +kernel)
theorem okm_0_29 : ((c_0.drop 580).take 20).all (okE 0) = true := okW_all (P := 908) (W := 24) (Nat.le_trans (by decide) okl_0) (by decide +kernel)
theorem okm_0_30 : ((c_0.drop 600).take 20).all (okE 0) = true := okW_all (P := 932) (W := 34) (Nat.le_trans (by decide) okl_0) (by decide +kernel)
theorem okm_0_31 : ((c_0.drop 620).take 20).all (okE 0) = true := okW_all (P := 966) (W := 22) (Nat.le_trans (by decide) okl_0) (by decide +kernel)
theorem okm_0_32 : ((c_0.drop 640).take 20).all (okE 0) = true := okW_all (P := 988) (W := 26) (Nat.le_trans (by decide) okl_0) (by decide +kernel)
theorem okm_0_33 : ((c_0.drop 660).take 20).all (okE 0) = true := okW_all (P := 1014) (W := 24) (Nat.le_trans (by decide) okl_0) (by decide +kernel)
theorem okm_0_34 : ((c_0.drop 680).take 20).all (okE 0) = true := okW_all (P := 1038) (W := 26) (Nat.le_trans (by decide) okl_0) (by decide +kernel)
theorem okm_0_35 : ((c_0.drop 700).take 20).all (okE 0) = true := okW_all (P := 1064) (W := 26) (Nat.le_trans (by decide) okl_0) (by decide +kernel)
theorem okm_0_36 : ((c_0.drop 720).take 20).all (okE 0) = true := okW_all (P := 1090) (W := 22) (Nat.le_trans (by decide) okl_0) (by decide +kernel)
theorem okm_0_37 : ((c_0.drop 740).take 20).all (okE 0) = true := okW_all (P := 1112) (W := 24) (Nat.le_trans (by decide) okl_0) (by decide +kernel)
theorem okm_0_38 : ((c_0.drop 760).take 20).all (okE 0) = true := okW_all (P := 1136) (W := 25) (Nat.le_trans (by decide) okl_0) (by decide +kernel)
theorem okm_0_39 : ((c_0.drop 780).take 20).all (okE 0) = true := okW_all (P := 1161) (W := 21) (Nat.le_trans (by decide) okl_0) (by decide +kernel)
theorem okm_0_40 : ((c_0.drop 800).take 20).all (okE 0) = true := okW_all (P := 1182) (W := 26) (Nat.le_trans (by decide) okl_0) (by decide +kernel)
theorem okm_0_41 : ((c_0.drop 820).take 20).all (okE 0) = true := okW_all (P := 1208) (W := 26) (Nat.le_trans (by decide) okl_0) (by decide +kernel)
theorem okm_0_42 : ((c_0.drop 840).take 20).all (okE 0) = true := okW_all (P := 1234) (W := 20) (Nat.le_trans (by decide) okl_0) (by decide +kernel)
theorem okm_0_43 : ((c_0.drop 860).take 20).all (okE 0) = true := okW_all (P := 1254) (W := 22) (Nat.le_trans (by decide) okl_0) (by decide +kernel)
theorem okm_0_44 : ((c_0.drop 880).take 20).all (okE 0) = true := okW_all (P := 1276) (W := 28) (Nat.le_trans (by decide) okl_0) (by decide +kernel)
theorem okm_0 : c_0.all (okE 0) = true := all_start (all_chunk (k := 0) (c := 20) (m := 20) rfl okm_0_0 (all_chunk (k := 20) (c := 20) (m := 40) rfl okm_0_1 (all_chunk (k := 40) (c := 20) (m := 60) rfl okm_0_2 (all_chunk (k := 60) (c := 20) (m := 80) rfl okm_0_3 (all_chunk (k := 80) (c := 20) (m := 100) rfl okm_0_4 (all_chunk (k := 100) (c := 20) (m := 120) rfl okm_0_5 (all_chunk (k := 120) (c := 20) (m := 140) rfl okm_0_6 (all_chunk (k := 140) (c := 20) (m := 160) rfl okm_0_7 (all_chunk (k := 160) (c := 20) (m := 180) rfl okm_0_8 (all_chunk (k := 180) (c := 20) (m := 200) rfl okm_0_9 (all_chunk (k := 200) (c := 20) (m := 220) rfl okm_0_10 (all_chunk (k := 220) (c := 20) (m := 240) rfl okm_0_11 (all_chunk (k := 240) (c := 20) (m := 260) rfl okm_0_12 (all_chunk (k := 260) (c := 20) (m := 280) rfl okm_0_13 (all_chunk (k := 280) (c := 20) (m := 300) rfl okm_0_14 (all_chunk (k := 300) (c := 20) (m := 320) rfl okm_0_15 (all_chunk (k := 320) (c := 20) (m := 340) rfl okm_0_16 (all_chunk (k := 340) (c := 20) (m := 360) rfl okm_0_17 (all_chunk (k := 360) (c := 20) (m := 380) rfl okm_0_18 (all_chunk (k := 380) (c := 20) (m := 400) rfl okm_0_19 (all_chunk (k := 400) (c := 20) (m := 420) rfl okm_0_20 (all_chunk (k := 420) (c := 20) (m := 440) rfl okm_0_21 (all_chunk (k := 440) (c := 20) (m := 460) rfl okm_0_22 (all_chunk (k := 460) (c := 20) (m := 480) rfl okm_0_23 (all_chunk (k := 480) (c := 20) (m := 500) rfl okm_0_24 (all_chunk (k := 500) (c := 20) (m := 520) rfl okm_0_25 (all_chunk (k := 520) (c := 20) (m := 540) rfl okm_0_26 (all_chunk (k := 540) (c := 20) (m := 560) rfl okm_0_27 (all_chunk (k := 560) (c := 20) (m := 580) rfl okm_0_28 (all_chunk (k := 580) (c := 20) (m := 600) rfl okm_0_29 (all_chunk (k := 600) (c := 20) (m := 620) rfl okm_0_30 (all_chunk (k := 620) (c := 20) (m := 640) rfl okm_0_31 (all_chunk (k := 640) (c := 20) (m := 660) rfl okm_0_32 (all_chunk (k := 660) (c := 20) (m := 680) rfl okm_0_33 (all_chunk (k := 680) (c := 20) (m := 700) rfl okm_0_34 (all_chunk (k := 700) (c := 20) (m := 720) rfl okm_0_35 (all_chunk (k := 720) (c := 20) (m := 740) rfl okm_0_36 (all_chunk (k := 740) (c := 20) (m := 760) rfl okm_0_37 (all_chunk (k := 760) (c := 20) (m := 780) rfl okm_0_38 (all_chunk (k := 780) (c := 20) (m := 800) rfl okm_0_39 (all_chunk (k := 800) (c := 20) (m := 820) rfl okm_0_40 (all_chunk (k := 820) (c := 20) (m := 840) rfl okm_0_41 (all_chunk (k := 840) (c := 20) (m := 860) rfl okm_0_42 (all_chunk (k := 860) (c := 20) (m := 880) rfl okm_0_43 (all_chunk (k := 880) (c := 20) (m := 900) rfl okm_0_44 (all_end (by decide +kernel)))))))))))))))))))))))))))))))))))))))))))))))
theorem okm_1 : c_1.all (okE 1) = true := by decide +kernel
theorem okl_2 : 331 ≤ (mBytes 2).data.toList.length := by decide +kernel
theorem okm_2_0 : ((c_2.drop 0).take 20).all (okE 2) = true := okW_all (P := 0) (W := 38) (Nat.le_trans (by decide) okl_2) (by decide +kernel)
theorem okm_2_1 : ((c_2.drop 20).take 20).all (okE 2) = true := okW_all (P := 38) (W := 129) (Nat.le_trans (by decide) okl_2) (by decide +kernel)
theorem okm_2_2 : ((c_2.drop 40).take 20).all (okE 2) = true := okW_all (P := 167) (W := 32) (Nat.le_trans (by decide) okl_2) (by decide +kernel)
theorem okm_2_3 : ((c_2.drop 60).take 20).all (okE 2) = true := okW_all (P := 199) (W := 29) (Nat.le_trans (by decide) okl_2) (by decide +kernel)
theorem okm_2_4 : ((c_2.drop 80).take 20).all (okE 2) = true := okW_all (P := 228) (W := 33) (Nat.le_trans (by decide) okl_2) (by decide +kernel)
theorem okm_2_5 : ((c_2.drop 100).take 20).all (okE 2) = true := okW_all (P := 261) (W := 30) (Nat.le_trans (by decide) okl_2) (by decide +kernel)
theorem okm_2_6 : ((c_2.drop 120).take 20).all (okE 2) = true := okW_all (P := 291) (W := 30) (Nat.le_trans (by decide) okl_2) (by decide +kernel)
theorem okm_2_7 : ((c_2.drop 140).take 7).all (okE 2) = true := okW_all (P := 321) (W := 11) (Nat.le_trans (by decide) okl_2) (by decide +kernel)
theorem okm_2 : c_2.all (okE 2) = true := all_start (all_chunk (k := 0) (c := 20) (m := 20) rfl okm_2_0 (all_chunk (k := 20) (c := 20) (m := 40) rfl okm_2_1 (all_chunk (k := 40) (c := 20) (m := 60) rfl okm_2_2 (all_chunk (k := 60) (c := 20) (m := 80) rfl okm_2_3 (all_chunk (k := 80) (c := 20) (m := 100) rfl okm_2_4 (all_chunk (k := 100) (c := 20) (m := 120) rfl okm_2_5 (all_chunk (k := 120) (c := 20) (m := 140) rfl okm_2_6 (all_chunk (k := 140) (c := 7) (m := 147) rfl okm_2_7 (all_end (by decide +kernel))))))))))
theorem okl_3 : 59 ≤ (mBytes 3).data.toList.length := by decide +kernel
theorem okm_3_0 : ((c_3.drop 0).take 20).all (okE 3) = true := okW_all (P := 0) (W := 34) (Nat.le_trans (by decide) okl_3) (by decide +kernel)
theorem okm_3_1 : ((c_3.drop 20).take 17).all (okE 3) = true := okW_all (P := 34) (W := 26) (Nat.le_trans (by decide) okl_3) (by decide +kernel)
theorem okm_3 : c_3.all (okE 3) = true := all_start (all_chunk (k := 0) (c := 20) (m := 20) rfl okm_3_0 (all_chunk (k := 20) (c := 17) (m := 37) rfl okm_3_1 (all_end (by decide +kernel))))
theorem okm_4 : c_4.all (okE 4) = true := by decide +kernel
theorem okl_5 : 82 ≤ (mBytes 5).data.toList.length := by decide +kernel
theorem okm_5_0 : ((c_5.drop 0).take 20).all (okE 5) = true := okW_all (P := 0) (W := 42) (Nat.le_trans (by decide) okl_5) (by decide +kernel)
theorem okm_5_1 : ((c_5.drop 20).take 20).all (okE 5) = true := okW_all (P := 42) (W := 40) (Nat.le_trans (by decide) okl_5) (by decide +kernel)
theorem okm_5_2 : ((c_5.drop 40).take 1).all (okE 5) = true := okW_all (P := 82) (W := 1) (Nat.le_trans (by decide) okl_5) (by decide +kernel)
theorem okm_5 : c_5.all (okE 5) = true := all_start (all_chunk (k := 0) (c := 20) (m := 20) rfl okm_5_0 (all_chunk (k := 20) (c := 20) (m := 40) rfl okm_5_1 (all_chunk (k := 40) (c := 1) (m := 41) rfl okm_5_2 (all_end (by decide +kernel)))))
theorem okm_6 : c_6.all (okE 6) = true := by decide +kernel
theorem okm_7 : c_7.all (okE 7) = true := by decide +kernel
theorem okm_8 : c_8.all (okE 8) = true := by decide +kernel
theorem okm_9 : c_9.all (okE 9) = true := by decide +kernel
theorem okl_10 : 134 ≤ (mBytes 10).data.toList.length := by decide +kernel
theorem okm_10_0 : ((c_10.drop 0).take 20).all (okE 10) = true := okW_all (P := 0) (W := 36) (Nat.le_trans (by decide) okl_10) (by decide +kernel)
theorem okm_10_1 : ((c_10.drop 20).take 20).all (okE 10) = true := okW_all (P := 36) (W := 34) (Nat.le_trans (by decide) okl_10) (by decide +kernel)
theorem okm_10_2 : ((c_10.drop 40).take 20).all (okE 10) = true := okW_all (P := 70) (W := 35) (Nat.le_trans (by decide) okl_10) (by decide +kernel)
theorem okm_10_3 : ((c_10.drop 60).take 19).all (okE 10) = true := okW_all (P := 105) (W := 30) (Nat.le_trans (by decide) okl_10) (by decide +kernel)
theorem okm_10 : c_10.all (okE 10) = true := all_start (all_chunk (k := 0) (c := 20) (m := 20) rfl okm_10_0 (all_chunk (k := 20) (c := 20) (m := 40) rfl okm_10_1 (all_chunk (k := 40) (c := 20) (m := 60) rfl okm_10_2 (all_chunk (k := 60) (c := 19) (m := 79) rfl okm_10_3 (all_end (by decide +kernel))))))
theorem okl_11 : 127 ≤ (mBytes 11).data.toList.length := by decide +kernel
theorem okm_11_0 : ((c_11.drop 0).take 20).all (okE 11) = true := okW_all (P := 0) (W := 41) (Nat.le_trans (by decide) okl_11) (by decide +kernel)
theorem okm_11_1 : ((c_11.drop 20).take 20).all (okE 11) = true := okW_all (P := 41) (W := 36) (Nat.le_trans (by decide) okl_11) (by decide +kernel)
theorem okm_11_2 : ((c_11.drop 40).take 20).all (okE 11) = true := okW_all (P := 77) (W := 38) (Nat.le_trans (by decide) okl_11) (by decide +kernel)
theorem okm_11_3 : ((c_11.drop 60).take 7).all (okE 11) = true := okW_all (P := 115) (W := 13) (Nat.le_trans (by decide) okl_11) (by decide +kernel)
theorem okm_11 : c_11.all (okE 11) = true := all_start (all_chunk (k := 0) (c := 20) (m := 20) rfl okm_11_0 (all_chunk (k := 20) (c := 20) (m := 40) rfl okm_11_1 (all_chunk (k := 40) (c := 20) (m := 60) rfl okm_11_2 (all_chunk (k := 60) (c := 7) (m := 67) rfl okm_11_3 (all_end (by decide +kernel))))))
theorem okl_12 : 49 ≤ (mBytes 12).data.toList.length := by decide +kernel
theorem okm_12_0 : ((c_12.drop 0).take 20).all (okE 12) = true := okW_all (P := 0) (W := 35) (Nat.le_trans (by decide) okl_12) (by decide +kernel)
theorem okm_12_1 : ((c_12.drop 20).take 11).all (okE 12) = true := okW_all (P := 35) (W := 15) (Nat.le_trans (by decide) okl_12) (by decide +kernel)
theorem okm_12 : c_12.all (okE 12) = true := all_start (all_chunk (k := 0) (c := 20) (m := 20) rfl okm_12_0 (all_chunk (k := 20) (c := 11) (m := 31) rfl okm_12_1 (all_end (by decide +kernel))))
theorem okl_13 : 97 ≤ (mBytes 13).data.toList.length := by decide +kernel
theorem okm_13_0 : ((c_13.drop 0).take 20).all (okE 13) = true := okW_all (P := 0) (W := 39) (Nat.le_trans (by decide) okl_13) (by decide +kernel)
theorem okm_13_1 : ((c_13.drop 20).take 20).all (okE 13) = true := okW_all (P := 39) (W := 44) (Nat.le_trans (by decide) okl_13) (by decide +kernel)
theorem okm_13_2 : ((c_13.drop 40).take 9).all (okE 13) = true := okW_all (P := 83) (W := 15) (Nat.le_trans (by decide) okl_13) (by decide +kernel)
theorem okm_13 : c_13.all (okE 13) = true := all_start (all_chunk (k := 0) (c := 20) (m := 20) rfl okm_13_0 (all_chunk (k := 20) (c := 20) (m := 40) rfl okm_13_1 (all_chunk (k := 40) (c := 9) (m := 49) rfl okm_13_2 (all_end (by decide +kernel)))))
theorem okl_14 : 101 ≤ (mBytes 14).data.toList.length := by decide +kernel
theorem okm_14_0 : ((c_14.drop 0).take 20).all (okE 14) = true := okW_all (P := 0) (W := 35) (Nat.le_trans (by decide) okl_14) (by decide +kernel)
theorem okm_14_1 : ((c_14.drop 20).take 20).all (okE 14) = true := okW_all (P := 35) (W := 36) (Nat.le_trans (by decide) okl_14) (by decide +kernel)
theorem okm_14_2 : ((c_14.drop 40).take 17).all (okE 14) = true := okW_all (P := 71) (W := 31) (Nat.le_trans (by decide) okl_14) (by decide +kernel)
theorem okm_14 : c_14.all (okE 14) = true := all_start (all_chunk (k := 0) (c := 20) (m := 20) rfl okm_14_0 (all_chunk (k := 20) (c := 20) (m := 40) rfl okm_14_1 (all_chunk (k := 40) (c := 17) (m := 57) rfl okm_14_2 (all_end (by decide +kernel)))))
theorem okl_15 : 105 ≤ (mBytes 15).data.toList.length := by decide +kernel
theorem okm_15_0 : ((c_15.drop 0).take 20).all (okE 15) = true := okW_all (P := 0) (W := 69) (Nat.le_trans (by decide) okl_15) (by decide +kernel)
theorem okm_15_1 : ((c_15.drop 20).take 20).all (okE 15) = true := okW_all (P := 69) (W := 34) (Nat.le_trans (by decide) okl_15) (by decide +kernel)
theorem okm_15_2 : ((c_15.drop 40).take 3).all (okE 15) = true := okW_all (P := 103) (W := 3) (Nat.le_trans (by decide) okl_15) (by decide +kernel)
theorem okm_15 : c_15.all (okE 15) = true := all_start (all_chunk (k := 0) (c := 20) (m := 20) rfl okm_15_0 (all_chunk (k := 20) (c := 20) (m := 40) rfl okm_15_1 (all_chunk (k := 40) (c := 3) (m := 43) rfl okm_15_2 (all_end (by decide +kernel)))))
theorem okl_16 : 88 ≤ (mBytes 16).data.toList.length := by decide +kernel
theorem okm_16_0 : ((c_16.drop 0).take 20).all (okE 16) = true := okW_all (P := 0) (W := 29) (Nat.le_trans (by decide) okl_16) (by decide +kernel)
theorem okm_16_1 : ((c_16.drop 20).take 20).all (okE 16) = true := okW_all (P := 29) (W := 40) (Nat.le_trans (by decide) okl_16) (by decide +kernel)
theorem okm_16_2 : ((c_16.drop 40).take 9).all (okE 16) = true := okW_all (P := 69) (W := 20) (Nat.le_trans (by decide) okl_16) (by decide +kernel)
theorem okm_16 : c_16.all (okE 16) = true := all_start (all_chunk (k := 0) (c := 20) (m := 20) rfl okm_16_0 (all_chunk (k := 20) (c := 20) (m := 40) rfl okm_16_1 (all_chunk (k := 40) (c := 9) (m := 49) rfl okm_16_2 (all_end (by decide +kernel)))))
theorem okl_17 : 76 ≤ (mBytes 17).data.toList.length := by decide +kernel
theorem okm_17_0 : ((c_17.drop 0).take 20).all (okE 17) = true := okW_all (P := 0) (W := 35) (Nat.le_trans (by decide) okl_17) (by decide +kernel)
theorem okm_17_1 : ((c_17.drop 20).take 20).all (okE 17) = true := okW_all (P := 35) (W := 41) (Nat.le_trans (by decide) okl_17) (by decide +kernel)
theorem okm_17_2 : ((c_17.drop 40).take 1).all (okE 17) = true := okW_all (P := 76) (W := 1) (Nat.le_trans (by decide) okl_17) (by decide +kernel)
theorem okm_17 : c_17.all (okE 17) = true := all_start (all_chunk (k := 0) (c := 20) (m := 20) rfl okm_17_0 (all_chunk (k := 20) (c := 20) (m := 40) rfl okm_17_1 (all_chunk (k := 40) (c := 1) (m := 41) rfl okm_17_2 (all_end (by decide +kernel)))))
theorem okm_18 : c_18.all (okE 18) = true := by decide +kernel
theorem okm_19 : c_19.all (okE 19) = true := by decide +kernel
theorem okl_20 : 58 ≤ (mBytes 20).data.toList.length := by decide +kernel
theorem okm_20_0 : ((c_20.drop 0).take 20).all (okE 20) = true := okW_all (P := 0) (W := 35) (Nat.le_trans (by decide) okl_20) (by decide +kernel)
theorem okm_20_1 : ((c_20.drop 20).take 12).all (okE 20) = true := okW_all (P := 35) (W := 24) (Nat.le_trans (by decide) okl_20) (by decide +kernel)
theorem okm_20 : c_20.all (okE 20) = true := all_start (all_chunk (k := 0) (c := 20) (m := 20) rfl okm_20_0 (all_chunk (k := 20) (c := 12) (m := 32) rfl okm_20_1 (all_end (by decide +kernel))))
theorem okl_21 : 61 ≤ (mBytes 21).data.toList.length := by decide +kernel
theorem okm_21_0 : ((c_21.drop 0).take 20).all (okE 21) = true := okW_all (P := 0) (W := 35) (Nat.le_trans (by decide) okl_21) (by decide +kernel)
theorem okm_21_1 : ((c_21.drop 20).take 19).all (okE 21) = true := okW_all (P := 35) (W := 27) (Nat.le_trans (by decide) okl_21) (by decide +kernel)
theorem okm_21 : c_21.all (okE 21) = true := all_start (all_chunk (k := 0) (c := 20) (m := 20) rfl okm_21_0 (all_chunk (k := 20) (c := 19) (m := 39) rfl okm_21_1 (all_end (by decide +kernel))))
theorem okl_22 : 59 ≤ (mBytes 22).data.toList.length := by decide +kernel
theorem okm_22_0 : ((c_22.drop 0).take 20).all (okE 22) = true := okW_all (P := 0) (W := 35) (Nat.le_trans (by decide) okl_22) (by decide +kernel)
theorem okm_22_1 : ((c_22.drop 20).take 17).all (okE 22) = true := okW_all (P := 35) (W := 25) (Nat.le_trans (by decide) okl_22) (by decide +kernel)
theorem okm_22 : c_22.all (okE 22) = true := all_start (all_chunk (k := 0) (c := 20) (m := 20) rfl okm_22_0 (all_chunk (k := 20) (c := 17) (m := 37) rfl okm_22_1 (all_end (by decide +kernel))))
theorem okl_23 : 63 ≤ (mBytes 23).data.toList.length := by decide +kernel
theorem okm_23_0 : ((c_23.drop 0).take 20).all (okE 23) = true := okW_all (P := 0) (W := 37) (Nat.le_trans (by decide) okl_23) (by decide +kernel)
theorem okm_23_1 : ((c_23.drop 20).take 16).all (okE 23) = true := okW_all (P := 37) (W := 27) (Nat.le_trans (by decide) okl_23) (by decide +kernel)
theorem okm_23 : c_23.all (okE 23) = true := all_start (all_chunk (k := 0) (c := 20) (m := 20) rfl okm_23_0 (all_chunk (k := 20) (c := 16) (m := 36) rfl okm_23_1 (all_end (by decide +kernel))))
theorem okl_24 : 77 ≤ (mBytes 24).data.toList.length := by decide +kernel
theorem okm_24_0 : ((c_24.drop 0).take 20).all (okE 24) = true := okW_all (P := 0) (W := 30) (Nat.le_trans (by decide) okl_24) (by decide +kernel)
theorem okm_24_1 : ((c_24.drop 20).take 20).all (okE 24) = true := okW_all (P := 30) (W := 34) (Nat.le_trans (by decide) okl_24) (by decide +kernel)
theorem okm_24_2 : ((c_24.drop 40).take 7).all (okE 24) = true := okW_all (P := 64) (W := 14) (Nat.le_trans (by decide) okl_24) (by decide +kernel)
theorem okm_24 : c_24.all (okE 24) = true := all_start (all_chunk (k := 0) (c := 20) (m := 20) rfl okm_24_0 (all_chunk (k := 20) (c := 20) (m := 40) rfl okm_24_1 (all_chunk (k := 40) (c := 7) (m := 47) rfl okm_24_2 (all_end (by decide +kernel)))))
theorem okl_25 : 65 ≤ (mBytes 25).data.toList.length := by decide +kernel
theorem okm_25_0 : ((c_25.drop 0).take 20).all (okE 25) = true := okW_all (P := 0) (W := 39) (Nat.le_trans (by decide) okl_25) (by decide +kernel)
theorem okm_25_1 : ((c_25.drop 20).take 14).all (okE 25) = true := okW_all (P := 39) (W := 27) (Nat.le_trans (by decide) okl_25) (by decide +kernel)
theorem okm_25 : c_25.all (okE 25) = true := all_start (all_chunk (k := 0) (c := 20) (m := 20) rfl okm_25_0 (all_chunk (k := 20) (c := 14) (m := 34) rfl okm_25_1 (all_end (by decide +kernel))))
theorem okm_26 : c_26.all (okE 26) = true := by decide +kernel
theorem okm_27 : c_27.all (okE 27) = true := by decide +kernel
theorem okm_28 : c_28.all (okE 28) = true := by decide +kernel
theorem okm_29 : c_29.all (okE 29) = true := by decide +kernel
theorem okm_30 : c_30.all (okE 30) = true := by decide +kernel
theorem okl_31 : 75 ≤ (mBytes 31).data.toList.length := by decide +kernel
theorem okm_31_0 : ((c_31.drop 0).take 20).all (okE 31) = true := okW_all (P := 0) (W := 37) (Nat.le_trans (by decide) okl_31) (by decide +kernel)
theorem okm_31_1 : ((c_31.drop 20).take 20).all (okE 31) = true := okW_all (P := 37) (W := 33) (Nat.le_trans (by decide) okl_31) (by decide +kernel)
theorem okm_31_2 : ((c_31.drop 40).take 3).all (okE 31) = true := okW_all (P := 70) (W := 6) (Nat.le_trans (by decide) okl_31) (by decide +kernel)
theorem okm_31 : c_31.all (okE 31) = true := all_start (all_chunk (k := 0) (c := 20) (m := 20) rfl okm_31_0 (all_chunk (k := 20) (c := 20) (m := 40) rfl okm_31_1 (all_chunk (k := 40) (c := 3) (m := 43) rfl okm_31_2 (all_end (by decide +kernel)))))
theorem okl_32 : 43 ≤ (mBytes 32).data.toList.length := by decide +kernel
theorem okm_32_0 : ((c_32.drop 0).take 20).all (okE 32) = true := okW_all (P := 0) (W := 35) (Nat.le_trans (by decide) okl_32) (by decide +kernel)
theorem okm_32_1 : ((c_32.drop 20).take 5).all (okE 32) = true := okW_all (P := 35) (W := 9) (Nat.le_trans (by decide) okl_32) (by decide +kernel)
theorem okm_32 : c_32.all (okE 32) = true := all_start (all_chunk (k := 0) (c := 20) (m := 20) rfl okm_32_0 (all_chunk (k := 20) (c := 5) (m := 25) rfl okm_32_1 (all_end (by decide +kernel))))
theorem okl_33 : 153 ≤ (mBytes 33).data.toList.length := by decide +kernel
theorem okm_33_0 : ((c_33.drop 0).take 20).all (okE 33) = true := okW_all (P := 0) (W := 38) (Nat.le_trans (by decide) okl_33) (by decide +kernel)
theorem okm_33_1 : ((c_33.drop 20).take 20).all (okE 33) = true := okW_all (P := 38) (W := 36) (Nat.le_trans (by decide) okl_33) (by decide +kernel)
theorem okm_33_2 : ((c_33.drop 40).take 20).all (okE 33) = true := okW_all (P := 74) (W := 40) (Nat.le_trans (by decide) okl_33) (by decide +kernel)
theorem okm_33_3 : ((c_33.drop 60).take 20).all (okE 33) = true := okW_all (P := 114) (W := 39) (Nat.le_trans (by decide) okl_33) (by decide +kernel)
theorem okm_33_4 : ((c_33.drop 80).take 1).all (okE 33) = true := okW_all (P := 153) (W := 1) (Nat.le_trans (by decide) okl_33) (by decide +kernel)
theorem okm_33 : c_33.all (okE 33) = true := all_start (all_chunk (k := 0) (c := 20) (m := 20) rfl okm_33_0 (all_chunk (k := 20) (c := 20) (m := 40) rfl okm_33_1 (all_chunk (k := 40) (c := 20) (m := 60) rfl okm_33_2 (all_chunk (k := 60) (c := 20) (m := 80) rfl okm_33_3 (all_chunk (k := 80) (c := 1) (m := 81) rfl okm_33_4 (all_end (by decide +kernel)))))))
theorem okm_34 : c_34.all (okE 34) = true := by decide +kernel
theorem okm_35 : c_35.all (okE 35) = true := by decide +kernel
theorem okm_36 : c_36.all (okE 36) = true := by decide +kernel
theorem okm_37 : c_37.all (okE 37) = true := by decide +kernel
theorem okm_38 : c_38.all (okE 38) = true := by decide +kernel
theorem okl_39 : 63 ≤ (mBytes 39).data.toList.length := by decide +kernel
theorem okm_39_0 : ((c_39.drop 0).take 20).all (okE 39) = true := okW_all (P := 0) (W := 56) (Nat.le_trans (by decide) okl_39) (by decide +kernel)
theorem okm_39_1 : ((c_39.drop 20).take 6).all (okE 39) = true := okW_all (P := 56) (W := 8) (Nat.le_trans (by decide) okl_39) (by decide +kernel)
theorem okm_39 : c_39.all (okE 39) = true := all_start (all_chunk (k := 0) (c := 20) (m := 20) rfl okm_39_0 (all_chunk (k := 20) (c := 6) (m := 26) rfl okm_39_1 (all_end (by decide +kernel))))
theorem okm_40 : c_40.all (okE 40) = true := by decide +kernel
theorem okm_41 : c_41.all (okE 41) = true := by decide +kernel
theorem okl_42 : 96 ≤ (mBytes 42).data.toList.length := by decide +kernel
theorem okm_42_0 : ((c_42.drop 0).take 20).all (okE 42) = true := okW_all (P := 0) (W := 35) (Nat.le_trans (by decide) okl_42) (by decide +kernel)
theorem okm_42_1 : ((c_42.drop 20).take 20).all (okE 42) = true := okW_all (P := 35) (W := 43) (Nat.le_trans (by decide) okl_42) (by decide +kernel)
theorem okm_42_2 : ((c_42.drop 40).take 9).all (okE 42) = true := okW_all (P := 78) (W := 19) (Nat.le_trans (by decide) okl_42) (by decide +kernel)
theorem okm_42 : c_42.all (okE 42) = true := all_start (all_chunk (k := 0) (c := 20) (m := 20) rfl okm_42_0 (all_chunk (k := 20) (c := 20) (m := 40) rfl okm_42_1 (all_chunk (k := 40) (c := 9) (m := 49) rfl okm_42_2 (all_end (by decide +kernel)))))
theorem okl_43 : 58 ≤ (mBytes 43).data.toList.length := by decide +kernel
theorem okm_43_0 : ((c_43.drop 0).take 20).all (okE 43) = true := okW_all (P := 0) (W := 38) (Nat.le_trans (by decide) okl_43) (by decide +kernel)
theorem okm_43_1 : ((c_43.drop 20).take 13).all (okE 43) = true := okW_all (P := 38) (W := 21) (Nat.le_trans (by decide) okl_43) (by decide +kernel)
theorem okm_43 : c_43.all (okE 43) = true := all_start (all_chunk (k := 0) (c := 20) (m := 20) rfl okm_43_0 (all_chunk (k := 20) (c := 13) (m := 33) rfl okm_43_1 (all_end (by decide +kernel))))
theorem okl_44 : 71 ≤ (mBytes 44).data.toList.length := by decide +kernel
theorem okm_44_0 : ((c_44.drop 0).take 20).all (okE 44) = true := okW_all (P := 0) (W := 42) (Nat.le_trans (by decide) okl_44) (by decide +kernel)
theorem okm_44_1 : ((c_44.drop 20).take 16).all (okE 44) = true := okW_all (P := 42) (W := 30) (Nat.le_trans (by decide) okl_44) (by decide +kernel)
theorem okm_44 : c_44.all (okE 44) = true := all_start (all_chunk (k := 0) (c := 20) (m := 20) rfl okm_44_0 (all_chunk (k := 20) (c := 16) (m := 36) rfl okm_44_1 (all_end (by decide +kernel))))
theorem okl_45 : 87 ≤ (mBytes 45).data.toList.length := by decide +kernel
theorem okm_45_0 : ((c_45.drop 0).take 20).all (okE 45) = true := okW_all (P := 0) (W := 35) (Nat.le_trans (by decide) okl_45) (by decide +kernel)
theorem okm_45_1 : ((c_45.drop 20).take 20).all (okE 45) = true := okW_all (P := 35) (W := 33) (Nat.le_trans (by decide) okl_45) (by decide +kernel)
theorem okm_45_2 : ((c_45.drop 40).take 10).all (okE 45) = true := okW_all (P := 68) (W := 20) (Nat.le_trans (by decide) okl_45) (by decide +kernel)
theorem okm_45 : c_45.all (okE 45) = true := all_start (all_chunk (k := 0) (c := 20) (m := 20) rfl okm_45_0 (all_chunk (k := 20) (c := 20) (m := 40) rfl okm_45_1 (all_chunk (k := 40) (c := 10) (m := 50) rfl okm_45_2 (all_end (by decide +kernel)))))
theorem okl_46 : 49 ≤ (mBytes 46).data.toList.length := by decide +kernel
theorem okm_46_0 : ((c_46.drop 0).take 20).all (okE 46) = true := okW_all (P := 0) (W := 34) (Nat.le_trans (by decide) okl_46) (by decide +kernel)
theorem okm_46_1 : ((c_46.drop 20).take 7).all (okE 46) = true := okW_all (P := 34) (W := 16) (Nat.le_trans (by decide) okl_46) (by decide +kernel)
theorem okm_46 : c_46.all (okE 46) = true := all_start (all_chunk (k := 0) (c := 20) (m := 20) rfl okm_46_0 (all_chunk (k := 20) (c := 7) (m := 27) rfl okm_46_1 (all_end (by decide +kernel))))
theorem okl_47 : 49 ≤ (mBytes 47).data.toList.length := by decide +kernel
theorem okm_47_0 : ((c_47.drop 0).take 20).all (okE 47) = true := okW_all (P := 0) (W := 34) (Nat.le_trans (by decide) okl_47) (by decide +kernel)
theorem okm_47_1 : ((c_47.drop 20).take 7).all (okE 47) = true := okW_all (P := 34) (W := 16) (Nat.le_trans (by decide) okl_47) (by decide +kernel)
theorem okm_47 : c_47.all (okE 47) = true := all_start (all_chunk (k := 0) (c := 20) (m := 20) rfl okm_47_0 (all_chunk (k := 20) (c := 7) (m := 27) rfl okm_47_1 (all_end (by decide +kernel))))
theorem okl_48 : 129 ≤ (mBytes 48).data.toList.length := by decide +kernel
theorem okm_48_0 : ((c_48.drop 0).take 20).all (okE 48) = true := okW_all (P := 0) (W := 33) (Nat.le_trans (by decide) okl_48) (by decide +kernel)
theorem okm_48_1 : ((c_48.drop 20).take 20).all (okE 48) = true := okW_all (P := 33) (W := 38) (Nat.le_trans (by decide) okl_48) (by decide +kernel)
theorem okm_48_2 : ((c_48.drop 40).take 20).all (okE 48) = true := okW_all (P := 71) (W := 38) (Nat.le_trans (by decide) okl_48) (by decide +kernel)
theorem okm_48_3 : ((c_48.drop 60).take 12).all (okE 48) = true := okW_all (P := 109) (W := 21) (Nat.le_trans (by decide) okl_48) (by decide +kernel)
theorem okm_48 : c_48.all (okE 48) = true := all_start (all_chunk (k := 0) (c := 20) (m := 20) rfl okm_48_0 (all_chunk (k := 20) (c := 20) (m := 40) rfl okm_48_1 (all_chunk (k := 40) (c := 20) (m := 60) rfl okm_48_2 (all_chunk (k := 60) (c := 12) (m := 72) rfl okm_48_3 (all_end (by decide +kernel))))))
theorem okm_49 : c_49.all (okE 49) = true := by decide +kernel
theorem okm_50 : c_50.all (okE 50) = true := by decide +kernel
theorem okm_51 : c_51.all (okE 51) = true := by decide +kernel
theorem okm_52 : c_52.all (okE 52) = true := by decide +kernel
theorem okm_53 : c_53.all (okE 53) = true := by decide +kernel
theorem okm_54 : c_54.all (okE 54) = true := by decide +kernel
theorem okm_55 : c_55.all (okE 55) = true := by decide +kernel
theorem okl_56 : 52 ≤ (mBytes 56).data.toList.length := by decide +kernel
theorem okm_56_0 : ((c_56.drop 0).take 20).all (okE 56) = true := okW_all (P := 0) (W := 37) (Nat.le_trans (by decide) okl_56) (by decide +kernel)
theorem okm_56_1 : ((c_56.drop 20).take 10).all (okE 56) = true := okW_all (P := 37) (W := 16) (Nat.le_trans (by decide) okl_56) (by decide +kernel)
theorem okm_56 : c_56.all (okE 56) = true := all_start (all_chunk (k := 0) (c := 20) (m := 20) rfl okm_56_0 (all_chunk (k := 20) (c := 10) (m := 30) rfl okm_56_1 (all_end (by decide +kernel))))
theorem okm_57 : c_57.all (okE 57) = true := by decide +kernel
theorem okl_58 : 78 ≤ (mBytes 58).data.toList.length := by decide +kernel
theorem okm_58_0 : ((c_58.drop 0).take 20).all (okE 58) = true := okW_all (P := 0) (W := 36) (Nat.le_trans (by decide) okl_58) (by decide +kernel)
theorem okm_58_1 : ((c_58.drop 20).take 20).all (okE 58) = true := okW_all (P := 36) (W := 35) (Nat.le_trans (by decide) okl_58) (by decide +kernel)
theorem okm_58_2 : ((c_58.drop 40).take 4).all (okE 58) = true := okW_all (P := 71) (W := 8) (Nat.le_trans (by decide) okl_58) (by decide +kernel)
theorem okm_58 : c_58.all (okE 58) = true := all_start (all_chunk (k := 0) (c := 20) (m := 20) rfl okm_58_0 (all_chunk (k := 20) (c := 20) (m := 40) rfl okm_58_1 (all_chunk (k := 40) (c := 4) (m := 44) rfl okm_58_2 (all_end (by decide +kernel)))))
theorem okl_59 : 139 ≤ (mBytes 59).data.toList.length := by decide +kernel
theorem okm_59_0 : ((c_59.drop 0).take 20).all (okE 59) = true := okW_all (P := 0) (W := 36) (Nat.le_trans (by decide) okl_59) (by decide +kernel)
theorem okm_59_1 : ((c_59.drop 20).take 20).all (okE 59) = true := okW_all (P := 36) (W := 36) (Nat.le_trans (by decide) okl_59) (by decide +kernel)
theorem okm_59_2 : ((c_59.drop 40).take 20).all (okE 59) = true := okW_all (P := 72) (W := 38) (Nat.le_trans (by decide) okl_59) (by decide +kernel)
theorem okm_59_3 : ((c_59.drop 60).take 18).all (okE 59) = true := okW_all (P := 110) (W := 30) (Nat.le_trans (by decide) okl_59) (by decide +kernel)
theorem okm_59 : c_59.all (okE 59) = true := all_start (all_chunk (k := 0) (c := 20) (m := 20) rfl okm_59_0 (all_chunk (k := 20) (c := 20) (m := 40) rfl okm_59_1 (all_chunk (k := 40) (c := 20) (m := 60) rfl okm_59_2 (all_chunk (k := 60) (c := 18) (m := 78) rfl okm_59_3 (all_end (by decide +kernel))))))
theorem okm_60 : c_60.all (okE 60) = true := by decide +kernel
theorem okl_61 : 95 ≤ (mBytes 61).data.toList.length := by decide +kernel
theorem okm_61_0 : ((c_61.drop 0).take 20).all (okE 61) = true := okW_all (P := 0) (W := 26) (Nat.le_trans (by decide) okl_61) (by decide +kernel)
theorem okm_61_1 : ((c_61.drop 20).take 20).all (okE 61) = true := okW_all (P := 26) (W := 56) (Nat.le_trans (by decide) okl_61) (by decide +kernel)
theorem okm_61_2 : ((c_61.drop 40).take 9).all (okE 61) = true := okW_all (P := 82) (W := 14) (Nat.le_trans (by decide) okl_61) (by decide +kernel)
theorem okm_61 : c_61.all (okE 61) = true := all_start (all_chunk (k := 0) (c := 20) (m := 20) rfl okm_61_0 (all_chunk (k := 20) (c := 20) (m := 40) rfl okm_61_1 (all_chunk (k := 40) (c := 9) (m := 49) rfl okm_61_2 (all_end (by decide +kernel)))))
theorem okl_62 : 117 ≤ (mBytes 62).data.toList.length := by decide +kernel
theorem okm_62_0 : ((c_62.drop 0).take 20).all (okE 62) = true := okW_all (P := 0) (W := 43) (Nat.le_trans (by decide) okl_62) (by decide +kernel)
theorem okm_62_1 : ((c_62.drop 20).take 20).all (okE 62) = true := okW_all (P := 43) (W := 44) (Nat.le_trans (by decide) okl_62) (by decide +kernel)
theorem okm_62_2 : ((c_62.drop 40).take 16).all (okE 62) = true := okW_all (P := 87) (W := 31) (Nat.le_trans (by decide) okl_62) (by decide +kernel)
theorem okm_62 : c_62.all (okE 62) = true := all_start (all_chunk (k := 0) (c := 20) (m := 20) rfl okm_62_0 (all_chunk (k := 20) (c := 20) (m := 40) rfl okm_62_1 (all_chunk (k := 40) (c := 16) (m := 56) rfl okm_62_2 (all_end (by decide +kernel)))))
theorem okl_63 : 59 ≤ (mBytes 63).data.toList.length := by decide +kernel
theorem okm_63_0 : ((c_63.drop 0).take 20).all (okE 63) = true := okW_all (P := 0) (W := 44) (Nat.le_trans (by decide) okl_63) (by decide +kernel)
theorem okm_63_1 : ((c_63.drop 20).take 10).all (okE 63) = true := okW_all (P := 44) (W := 16) (Nat.le_trans (by decide) okl_63) (by decide +kernel)
theorem okm_63 : c_63.all (okE 63) = true := all_start (all_chunk (k := 0) (c := 20) (m := 20) rfl okm_63_0 (all_chunk (k := 20) (c := 10) (m := 30) rfl okm_63_1 (all_end (by decide +kernel))))
theorem okl_64 : 143 ≤ (mBytes 64).data.toList.length := by decide +kernel
theorem okm_64_0 : ((c_64.drop 0).take 20).all (okE 64) = true := okW_all (P := 0) (W := 87) (Nat.le_trans (by decide) okl_64) (by decide +kernel)
theorem okm_64_1 : ((c_64.drop 20).take 20).all (okE 64) = true := okW_all (P := 87) (W := 32) (Nat.le_trans (by decide) okl_64) (by decide +kernel)
theorem okm_64_2 : ((c_64.drop 40).take 15).all (okE 64) = true := okW_all (P := 119) (W := 25) (Nat.le_trans (by decide) okl_64) (by decide +kernel)
theorem okm_64 : c_64.all (okE 64) = true := all_start (all_chunk (k := 0) (c := 20) (m := 20) rfl okm_64_0 (all_chunk (k := 20) (c := 20) (m := 40) rfl okm_64_1 (all_chunk (k := 40) (c := 15) (m := 55) rfl okm_64_2 (all_end (by decide +kernel)))))
theorem okl_65 : 102 ≤ (mBytes 65).data.toList.length := by decide +kernel
theorem okm_65_0 : ((c_65.drop 0).take 20).all (okE 65) = true := okW_all (P := 0) (W := 40) (Nat.le_trans (by decide) okl_65) (by decide +kernel)
theorem okm_65_1 : ((c_65.drop 20).take 20).all (okE 65) = true := okW_all (P := 40) (W := 38) (Nat.le_trans (by decide) okl_65) (by decide +kernel)
theorem okm_65_2 : ((c_65.drop 40).take 14).all (okE 65) = true := okW_all (P := 78) (W := 25) (Nat.le_trans (by decide) okl_65) (by decide +kernel)
theorem okm_65 : c_65.all (okE 65) = true := all_start (all_chunk (k := 0) (c := 20) (m := 20) rfl okm_65_0 (all_chunk (k := 20) (c := 20) (m := 40) rfl okm_65_1 (all_chunk (k := 40) (c := 14) (m := 54) rfl okm_65_2 (all_end (by decide +kernel)))))
theorem okl_66 : 70 ≤ (mBytes 66).data.toList.length := by decide +kernel
theorem okm_66_0 : ((c_66.drop 0).take 20).all (okE 66) = true := okW_all (P := 0) (W := 38) (Nat.le_trans (by decide) okl_66) (by decide +kernel)
theorem okm_66_1 : ((c_66.drop 20).take 20).all (okE 66) = true := okW_all (P := 38) (W := 32) (Nat.le_trans (by decide) okl_66) (by decide +kernel)
theorem okm_66_2 : ((c_66.drop 40).take 1).all (okE 66) = true := okW_all (P := 70) (W := 1) (Nat.le_trans (by decide) okl_66) (by decide +kernel)
theorem okm_66 : c_66.all (okE 66) = true := all_start (all_chunk (k := 0) (c := 20) (m := 20) rfl okm_66_0 (all_chunk (k := 20) (c := 20) (m := 40) rfl okm_66_1 (all_chunk (k := 40) (c := 1) (m := 41) rfl okm_66_2 (all_end (by decide +kernel)))))
theorem okl_67 : 80 ≤ (mBytes 67).data.toList.length := by decide +kernel
theorem okm_67_0 : ((c_67.drop 0).take 20).all (okE 67) = true := okW_all (P := 0) (W := 39) (Nat.le_trans (by decide) okl_67) (by decide +kernel)
theorem okm_67_1 : ((c_67.drop 20).take 20).all (okE 67) = true := okW_all (P := 39) (W := 33) (Nat.le_trans (by decide) okl_67) (by decide +kernel)
theorem okm_67_2 : ((c_67.drop 40).take 8).all (okE 67) = true := okW_all (P := 72) (W := 9) (Nat.le_trans (by decide) okl_67) (by decide +kernel)
theorem okm_67 : c_67.all (okE 67) = true := all_start (all_chunk (k := 0) (c := 20) (m := 20) rfl okm_67_0 (all_chunk (k := 20) (c := 20) (m := 40) rfl okm_67_1 (all_chunk (k := 40) (c := 8) (m := 48) rfl okm_67_2 (all_end (by decide +kernel)))))
theorem okm_68 : c_68.all (okE 68) = true := by decide +kernel
theorem okl_69 : 74 ≤ (mBytes 69).data.toList.length := by decide +kernel
theorem okm_69_0 : ((c_69.drop 0).take 20).all (okE 69) = true := okW_all (P := 0) (W := 38) (Nat.le_trans (by decide) okl_69) (by decide +kernel)
theorem okm_69_1 : ((c_69.drop 20).take 20).all (okE 69) = true := okW_all (P := 38) (W := 37) (Nat.le_trans (by decide) okl_69) (by decide +kernel)
theorem okm_69 : c_69.all (okE 69) = true := all_start (all_chunk (k := 0) (c := 20) (m := 20) rfl okm_69_0 (all_chunk (k := 20) (c := 20) (m := 40) rfl okm_69_1 (all_end (by decide +kernel))))
theorem okm_70 : c_70.all (okE 70) = true := by decide +kernel
theorem okl_71 : 55 ≤ (mBytes 71).data.toList.length := by decide +kernel
theorem okm_71_0 : ((c_71.drop 0).take 20).all (okE 71) = true := okW_all (P := 0) (W := 41) (Nat.le_trans (by decide) okl_71) (by decide +kernel)
theorem okm_71_1 : ((c_71.drop 20).take 9).all (okE 71) = true := okW_all (P := 41) (W := 15) (Nat.le_trans (by decide) okl_71) (by decide +kernel)
theorem okm_71 : c_71.all (okE 71) = true := all_start (all_chunk (k := 0) (c := 20) (m := 20) rfl okm_71_0 (all_chunk (k := 20) (c := 9) (m := 29) rfl okm_71_1 (all_end (by decide +kernel))))
theorem okl_72 : 76 ≤ (mBytes 72).data.toList.length := by decide +kernel
theorem okm_72_0 : ((c_72.drop 0).take 20).all (okE 72) = true := okW_all (P := 0) (W := 33) (Nat.le_trans (by decide) okl_72) (by decide +kernel)
theorem okm_72_1 : ((c_72.drop 20).take 20).all (okE 72) = true := okW_all (P := 33) (W := 43) (Nat.le_trans (by decide) okl_72) (by decide +kernel)
theorem okm_72_2 : ((c_72.drop 40).take 1).all (okE 72) = true := okW_all (P := 76) (W := 1) (Nat.le_trans (by decide) okl_72) (by decide +kernel)
theorem okm_72 : c_72.all (okE 72) = true := all_start (all_chunk (k := 0) (c := 20) (m := 20) rfl okm_72_0 (all_chunk (k := 20) (c := 20) (m := 40) rfl okm_72_1 (all_chunk (k := 40) (c := 1) (m := 41) rfl okm_72_2 (all_end (by decide +kernel)))))
theorem okl_73 : 71 ≤ (mBytes 73).data.toList.length := by decide +kernel
theorem okm_73_0 : ((c_73.drop 0).take 20).all (okE 73) = true := okW_all (P := 0) (W := 35) (Nat.le_trans (by decide) okl_73) (by decide +kernel)
theorem okm_73_1 : ((c_73.drop 20).take 18).all (okE 73) = true := okW_all (P := 35) (W := 37) (Nat.le_trans (by decide) okl_73) (by decide +kernel)
theorem okm_73 : c_73.all (okE 73) = true := all_start (all_chunk (k := 0) (c := 20) (m := 20) rfl okm_73_0 (all_chunk (k := 20) (c := 18) (m := 38) rfl okm_73_1 (all_end (by decide +kernel))))
theorem okl_74 : 111 ≤ (mBytes 74).data.toList.length := by decide +kernel
theorem okm_74_0 : ((c_74.drop 0).take 20).all (okE 74) = true := okW_all (P := 0) (W := 35) (Nat.le_trans (by decide) okl_74) (by decide +kernel)
theorem okm_74_1 : ((c_74.drop 20).take 20).all (okE 74) = true := okW_all (P := 35) (W := 44) (Nat.le_trans (by decide) okl_74) (by decide +kernel)
theorem okm_74_2 : ((c_74.drop 40).take 17).all (okE 74) = true := okW_all (P := 79) (W := 33) (Nat.le_trans (by decide) okl_74) (by decide +kernel)
theorem okm_74 : c_74.all (okE 74) = true := all_start (all_chunk (k := 0) (c := 20) (m := 20) rfl okm_74_0 (all_chunk (k := 20) (c := 20) (m := 40) rfl okm_74_1 (all_chunk (k := 40) (c := 17) (m := 57) rfl okm_74_2 (all_end (by decide +kernel)))))
theorem okl_75 : 93 ≤ (mBytes 75).data.toList.length := by decide +kernel
theorem okm_75_0 : ((c_75.drop 0).take 20).all (okE 75) = true := okW_all (P := 0) (W := 37) (Nat.le_trans (by decide) okl_75) (by decide +kernel)
theorem okm_75_1 : ((c_75.drop 20).take 20).all (okE 75) = true := okW_all (P := 37) (W := 39) (Nat.le_trans (by decide) okl_75) (by decide +kernel)
theorem okm_75_2 : ((c_75.drop 40).take 9).all (okE 75) = true := okW_all (P := 76) (W := 18) (Nat.le_trans (by decide) okl_75) (by decide +kernel)
theorem okm_75 : c_75.all (okE 75) = true := all_start (all_chunk (k := 0) (c := 20) (m := 20) rfl okm_75_0 (all_chunk (k := 20) (c := 20) (m := 40) rfl okm_75_1 (all_chunk (k := 40) (c := 9) (m := 49) rfl okm_75_2 (all_end (by decide +kernel)))))
theorem okl_76 : 77 ≤ (mBytes 76).data.toList.length := by decide +kernel
theorem okm_76_0 : ((c_76.drop 0).take 20).all (okE 76) = true := okW_all (P := 0) (W := 34) (Nat.le_trans (by decide) okl_76) (by decide +kernel)
theorem okm_76_1 : ((c_76.drop 20).take 20).all (okE 76) = true := okW_all (P := 34) (W := 36) (Nat.le_trans (by decide) okl_76) (by decide +kernel)
theorem okm_76_2 : ((c_76.drop 40).take 4).all (okE 76) = true := okW_all (P := 70) (W := 8) (Nat.le_trans (by decide) okl_76) (by decide +kernel)
theorem okm_76 : c_76.all (okE 76) = true := all_start (all_chunk (k := 0) (c := 20) (m := 20) rfl okm_76_0 (all_chunk (k := 20) (c := 20) (m := 40) rfl okm_76_1 (all_chunk (k := 40) (c := 4) (m := 44) rfl okm_76_2 (all_end (by decide +kernel)))))
theorem okl_77 : 76 ≤ (mBytes 77).data.toList.length := by decide +kernel
theorem okm_77_0 : ((c_77.drop 0).take 20).all (okE 77) = true := okW_all (P := 0) (W := 36) (Nat.le_trans (by decide) okl_77) (by decide +kernel)
theorem okm_77_1 : ((c_77.drop 20).take 20).all (okE 77) = true := okW_all (P := 36) (W := 41) (Nat.le_trans (by decide) okl_77) (by decide +kernel)
theorem okm_77 : c_77.all (okE 77) = true := all_start (all_chunk (k := 0) (c := 20) (m := 20) rfl okm_77_0 (all_chunk (k := 20) (c := 20) (m := 40) rfl okm_77_1 (all_end (by decide +kernel))))
theorem okm_78 : c_78.all (okE 78) = true := by decide +kernel
theorem okl_79 : 61 ≤ (mBytes 79).data.toList.length := by decide +kernel
theorem okm_79_0 : ((c_79.drop 0).take 20).all (okE 79) = true := okW_all (P := 0) (W := 39) (Nat.le_trans (by decide) okl_79) (by decide +kernel)
theorem okm_79_1 : ((c_79.drop 20).take 13).all (okE 79) = true := okW_all (P := 39) (W := 23) (Nat.le_trans (by decide) okl_79) (by decide +kernel)
theorem okm_79 : c_79.all (okE 79) = true := all_start (all_chunk (k := 0) (c := 20) (m := 20) rfl okm_79_0 (all_chunk (k := 20) (c := 13) (m := 33) rfl okm_79_1 (all_end (by decide +kernel))))
theorem okl_80 : 130 ≤ (mBytes 80).data.toList.length := by decide +kernel
theorem okm_80_0 : ((c_80.drop 0).take 20).all (okE 80) = true := okW_all (P := 0) (W := 33) (Nat.le_trans (by decide) okl_80) (by decide +kernel)
theorem okm_80_1 : ((c_80.drop 20).take 20).all (okE 80) = true := okW_all (P := 33) (W := 42) (Nat.le_trans (by decide) okl_80) (by decide +kernel)
theorem okm_80_2 : ((c_80.drop 40).take 20).all (okE 80) = true := okW_all (P := 75) (W := 38) (Nat.le_trans (by decide) okl_80) (by decide +kernel)
theorem okm_80_3 : ((c_80.drop 60).take 12).all (okE 80) = true := okW_all (P := 113) (W := 18) (Nat.le_trans (by decide) okl_80) (by decide +kernel)
theorem okm_80 : c_80.all (okE 80) = true := all_start (all_chunk (k := 0) (c := 20) (m := 20) rfl okm_80_0 (all_chunk (k := 20) (c := 20) (m := 40) rfl okm_80_1 (all_chunk (k := 40) (c := 20) (m := 60) rfl okm_80_2 (all_chunk (k := 60) (c := 12) (m := 72) rfl okm_80_3 (all_end (by decide +kernel))))))
theorem okl_81 : 89 ≤ (mBytes 81).data.toList.length := by decide +kernel
theorem okm_81_0 : ((c_81.drop 0).take 20).all (okE 81) = true := okW_all (P := 0) (W := 37) (Nat.le_trans (by decide) okl_81) (by decide +kernel)
theorem okm_81_1 : ((c_81.drop 20).take 20).all (okE 81) = true := okW_all (P := 37) (W := 41) (Nat.le_trans (by decide) okl_81) (by decide +kernel)
theorem okm_81_2 : ((c_81.drop 40).take 6).all (okE 81) = true := okW_all (P := 78) (W := 12) (Nat.le_trans (by decide) okl_81) (by decide +kernel)
theorem okm_81 : c_81.all (okE 81) = true := all_start (all_chunk (k := 0) (c := 20) (m := 20) rfl okm_81_0 (all_chunk (k := 20) (c := 20) (m := 40) rfl okm_81_1 (all_chunk (k := 40) (c := 6) (m := 46) rfl okm_81_2 (all_end (by decide +kernel)))))
theorem okm_82 : c_82.all (okE 82) = true := by decide +kernel
theorem okl_83 : 66 ≤ (mBytes 83).data.toList.length := by decide +kernel
theorem okm_83_0 : ((c_83.drop 0).take 20).all (okE 83) = true := okW_all (P := 0) (W := 34) (Nat.le_trans (by decide) okl_83) (by decide +kernel)
theorem okm_83_1 : ((c_83.drop 20).take 19).all (okE 83) = true := okW_all (P := 34) (W := 33) (Nat.le_trans (by decide) okl_83) (by decide +kernel)
theorem okm_83 : c_83.all (okE 83) = true := all_start (all_chunk (k := 0) (c := 20) (m := 20) rfl okm_83_0 (all_chunk (k := 20) (c := 19) (m := 39) rfl okm_83_1 (all_end (by decide +kernel))))
theorem okl_84 : 105 ≤ (mBytes 84).data.toList.length := by decide +kernel
theorem okm_84_0 : ((c_84.drop 0).take 20).all (okE 84) = true := okW_all (P := 0) (W := 40) (Nat.le_trans (by decide) okl_84) (by decide +kernel)
theorem okm_84_1 : ((c_84.drop 20).take 20).all (okE 84) = true := okW_all (P := 40) (W := 41) (Nat.le_trans (by decide) okl_84) (by decide +kernel)
theorem okm_84_2 : ((c_84.drop 40).take 11).all (okE 84) = true := okW_all (P := 81) (W := 25) (Nat.le_trans (by decide) okl_84) (by decide +kernel)
theorem okm_84 : c_84.all (okE 84) = true := all_start (all_chunk (k := 0) (c := 20) (m := 20) rfl okm_84_0 (all_chunk (k := 20) (c := 20) (m := 40) rfl okm_84_1 (all_chunk (k := 40) (c := 11) (m := 51) rfl okm_84_2 (all_end (by decide +kernel)))))
theorem okl_85 : 75 ≤ (mBytes 85).data.toList.length := by decide +kernel
theorem okm_85_0 : ((c_85.drop 0).take 20).all (okE 85) = true := okW_all (P := 0) (W := 35) (Nat.le_trans (by decide) okl_85) (by decide +kernel)
theorem okm_85_1 : ((c_85.drop 20).take 20).all (okE 85) = true := okW_all (P := 35) (W := 40) (Nat.le_trans (by decide) okl_85) (by decide +kernel)
theorem okm_85_2 : ((c_85.drop 40).take 1).all (okE 85) = true := okW_all (P := 75) (W := 1) (Nat.le_trans (by decide) okl_85) (by decide +kernel)
theorem okm_85 : c_85.all (okE 85) = true := all_start (all_chunk (k := 0) (c := 20) (m := 20) rfl okm_85_0 (all_chunk (k := 20) (c := 20) (m := 40) rfl okm_85_1 (all_chunk (k := 40) (c := 1) (m := 41) rfl okm_85_2 (all_end (by decide +kernel)))))
theorem okl_86 : 80 ≤ (mBytes 86).data.toList.length := by decide +kernel
theorem okm_86_0 : ((c_86.drop 0).take 20).all (okE 86) = true := okW_all (P := 0) (W := 38) (Nat.le_trans (by decide) okl_86) (by decide +kernel)
theorem okm_86_1 : ((c_86.drop 20).take 20).all (okE 86) = true := okW_all (P := 38) (W := 39) (Nat.le_trans (by decide) okl_86) (by decide +kernel)
theorem okm_86_2 : ((c_86.drop 40).take 2).all (okE 86) = true := okW_all (P := 77) (W := 4) (Nat.le_trans (by decide) okl_86) (by decide +kernel)
theorem okm_86 : c_86.all (okE 86) = true := all_start (all_chunk (k := 0) (c := 20) (m := 20) rfl okm_86_0 (all_chunk (k := 20) (c := 20) (m := 40) rfl okm_86_1 (all_chunk (k := 40) (c := 2) (m := 42) rfl okm_86_2 (all_end (by decide +kernel)))))
theorem okl_87 : 54 ≤ (mBytes 87).data.toList.length := by decide +kernel
theorem okm_87_0 : ((c_87.drop 0).take 20).all (okE 87) = true := okW_all (P := 0) (W := 39) (Nat.le_trans (by decide) okl_87) (by decide +kernel)
theorem okm_87_1 : ((c_87.drop 20).take 9).all (okE 87) = true := okW_all (P := 39) (W := 16) (Nat.le_trans (by decide) okl_87) (by decide +kernel)
theorem okm_87 : c_87.all (okE 87) = true := all_start (all_chunk (k := 0) (c := 20) (m := 20) rfl okm_87_0 (all_chunk (k := 20) (c := 9) (m := 29) rfl okm_87_1 (all_end (by decide +kernel))))
theorem okl_88 : 132 ≤ (mBytes 88).data.toList.length := by decide +kernel
theorem okm_88_0 : ((c_88.drop 0).take 20).all (okE 88) = true := okW_all (P := 0) (W := 36) (Nat.le_trans (by decide) okl_88) (by decide +kernel)
theorem okm_88_1 : ((c_88.drop 20).take 20).all (okE 88) = true := okW_all (P := 36) (W := 34) (Nat.le_trans (by decide) okl_88) (by decide +kernel)
theorem okm_88_2 : ((c_88.drop 40).take 20).all (okE 88) = true := okW_all (P := 70) (W := 33) (Nat.le_trans (by decide) okl_88) (by decide +kernel)
theorem okm_88_3 : ((c_88.drop 60).take 15).all (okE 88) = true := okW_all (P := 103) (W := 30) (Nat.le_trans (by decide) okl_88) (by decide +kernel)
theorem okm_88 : c_88.all (okE 88) = true := all_start (all_chunk (k := 0) (c := 20) (m := 20) rfl okm_88_0 (all_chunk (k := 20) (c := 20) (m := 40) rfl okm_88_1 (all_chunk (k := 40) (c := 20) (m := 60) rfl okm_88_2 (all_chunk (k := 60) (c := 15) (m := 75) rfl okm_88_3 (all_end (by decide +kernel))))))
theorem okm_89 : c_89.all (okE 89) = true := by decide +kernel
theorem okm_90 : c_90.all (okE 90) = true := by decide +kernel
theorem okl_91 : 87 ≤ (mBytes 91).data.toList.length := by decide +kernel
theorem okm_91_0 : ((c_91.drop 0).take 20).all (okE 91) = true := okW_all (P := 0) (W := 38) (Nat.le_trans (by decide) okl_91) (by decide +kernel)
theorem okm_91_1 : ((c_91.drop 20).take 20).all (okE 91) = true := okW_all (P := 38) (W := 38) (Nat.le_trans (by decide) okl_91) (by decide +kernel)
theorem okm_91_2 : ((c_91.drop 40).take 6).all (okE 91) = true := okW_all (P := 76) (W := 12) (Nat.le_trans (by decide) okl_91) (by decide +kernel)
theorem okm_91 : c_91.all (okE 91) = true := all_start (all_chunk (k := 0) (c := 20) (m := 20) rfl okm_91_0 (all_chunk (k := 20) (c := 20) (m := 40) rfl okm_91_1 (all_chunk (k := 40) (c := 6) (m := 46) rfl okm_91_2 (all_end (by decide +kernel)))))
theorem okm_92 : c_92.all (okE 92) = true := by decide +kernel
theorem okl_93 : 86 ≤ (mBytes 93).data.toList.length := by decide +kernel
theorem okm_93_0 : ((c_93.drop 0).take 20).all (okE 93) = true := okW_all (P := 0) (W := 37) (Nat.le_trans (by decide) okl_93) (by decide +kernel)
theorem okm_93_1 : ((c_93.drop 20).take 20).all (okE 93) = true := okW_all (P := 37) (W := 39) (Nat.le_trans (by decide) okl_93) (by decide +kernel)
theorem okm_93_2 : ((c_93.drop 40).take 5).all (okE 93) = true := okW_all (P := 76) (W := 11) (Nat.le_trans (by decide) okl_93) (by decide +kernel)
theorem okm_93 : c_93.all (okE 93) = true := all_start (all_chunk (k := 0) (c := 20) (m := 20) rfl okm_93_0 (all_chunk (k := 20) (c := 20) (m := 40) rfl okm_93_1 (all_chunk (k := 40) (c := 5) (m := 45) rfl okm_93_2 (all_end (by decide +kernel)))))
theorem okm_94 : c_94.all (okE 94) = true := by decide +kernel
theorem okl_95 : 66 ≤ (mBytes 95).data.toList.length := by decide +kernel
theorem okm_95_0 : ((c_95.drop 0).take 20).all (okE 95) = true := okW_all (P := 0) (W := 34) (Nat.le_trans (by decide) okl_95) (by decide +kernel)
theorem okm_95_1 : ((c_95.drop 20).take 20).all (okE 95) = true := okW_all (P := 34) (W := 33) (Nat.le_trans (by decide) okl_95) (by decide +kernel)
theorem okm_95 : c_95.all (okE 95) = true := all_start (all_chunk (k := 0) (c := 20) (m := 20) rfl okm_95_0 (all_chunk (k := 20) (c := 20) (m := 40) rfl okm_95_1 (all_end (by decide +kernel))))
theorem okl_96 : 70 ≤ (mBytes 96).data.toList.length := by decide +kernel
theorem okm_96_0 : ((c_96.drop 0).take 20).all (okE 96) = true := okW_all (P := 0) (W := 35) (Nat.le_trans (by decide) okl_96) (by decide +kernel)
theorem okm_96_1 : ((c_96.drop 20).take 20).all (okE 96) = true := okW_all (P := 35) (W := 35) (Nat.le_trans (by decide) okl_96) (by decide +kernel)
theorem okm_96_2 : ((c_96.drop 40).take 1).all (okE 96) = true := okW_all (P := 70) (W := 1) (Nat.le_trans (by decide) okl_96) (by decide +kernel)
theorem okm_96 : c_96.all (okE 96) = true := all_start (all_chunk (k := 0) (c := 20) (m := 20) rfl okm_96_0 (all_chunk (k := 20) (c := 20) (m := 40) rfl okm_96_1 (all_chunk (k := 40) (c := 1) (m := 41) rfl okm_96_2 (all_end (by decide +kernel)))))
theorem okm_97 : c_97.all (okE 97) = true := by decide +kernel
theorem okl_98 : 137 ≤ (mBytes 98).data.toList.length := by decide +kernel
theorem okm_98_0 : ((c_98.drop 0).take 20).all (okE 98) = true := okW_all (P := 0) (W := 38) (Nat.le_trans (by decide) okl_98) (by decide +kernel)
theorem okm_98_1 : ((c_98.drop 20).take 20).all (okE 98) = true := okW_all (P := 38) (W := 38) (Nat.le_trans (by decide) okl_98) (by decide +kernel)
theorem okm_98_2 : ((c_98.drop 40).take 20).all (okE 98) = true := okW_all (P := 76) (W := 40) (Nat.le_trans (by decide) okl_98) (by decide +kernel)
theorem okm_98_3 : ((c_98.drop 60).take 13).all (okE 98) = true := okW_all (P := 116) (W := 22) (Nat.le_trans (by decide) okl_98) (by decide +kernel)
theorem okm_98 : c_98.all (okE 98) = true := all_start (all_chunk (k := 0) (c := 20) (m := 20) rfl okm_98_0 (all_chunk (k := 20) (c := 20) (m := 40) rfl okm_98_1 (all_chunk (k := 40) (c := 20) (m := 60) rfl okm_98_2 (all_chunk (k := 60) (c := 13) (m := 73) rfl okm_98_3 (all_end (by decide +kernel))))))
theorem okl_99 : 100 ≤ (mBytes 99).data.toList.length := by decide +kernel
theorem okm_99_0 : ((c_99.drop 0).take 20).all (okE 99) = true := okW_all (P := 0) (W := 41) (Nat.le_trans (by decide) okl_99) (by decide +kernel)
theorem okm_99_1 : ((c_99.drop 20).take 20).all (okE 99) = true := okW_all (P := 41) (W := 39) (Nat.le_trans (by decide) okl_99) (by decide +kernel)
theorem okm_99_2 : ((c_99.drop 40).take 11).all (okE 99) = true := okW_all (P := 80) (W := 21) (Nat.le_trans (by decide) okl_99) (by decide +kernel)
theorem okm_99 : c_99.all (okE 99) = true := all_start (all_chunk (k := 0) (c := 20) (m := 20) rfl okm_99_0 (all_chunk (k := 20) (c := 20) (m := 40) rfl okm_99_1 (all_chunk (k := 40) (c := 11) (m := 51) rfl okm_99_2 (all_end (by decide +kernel)))))
theorem okm_100 : c_100.all (okE 100) = true := by decide +kernel
theorem okm_101 : c_101.all (okE 101) = true := by decide +kernel
theorem okm_102 : c_102.all (okE 102) = true := by decide +kernel
theorem okm_103 : c_103.all (okE 103) = true := by decide +kernel
theorem okm_104 : c_104.all (okE 104) = true := by decide +kernel
theorem okm_105 : c_105.all (okE 105) = true := by decide +kernel
theorem okm_106 : c_106.all (okE 106) = true := by decide +kernel
theorem okl_107 : 62 ≤ (mBytes 107).data.toList.length := by decide +kernel
theorem okm_107_0 : ((c_107.drop 0).take 20).all (okE 107) = true := okW_all (P := 0) (W := 36) (Nat.le_trans (by decide) okl_107) (by decide +kernel)
theorem okm_107_1 : ((c_107.drop 20).take 17).all (okE 107) = true := okW_all (P := 36) (W := 27) (Nat.le_trans (by decide) okl_107) (by decide +kernel)
theorem okm_107 : c_107.all (okE 107) = true := all_start (all_chunk (k := 0) (c := 20) (m := 20) rfl okm_107_0 (all_chunk (k := 20) (c := 17) (m := 37) rfl okm_107_1 (all_end (by decide +kernel))))
theorem okl_108 : 525 ≤ (mBytes 108).data.toList.length := by decide +kernel
theorem okm_108_0 : ((c_108.drop 0).take 20).all (okE 108) = true := okW_all (P := 0) (W := 36) (Nat.le_trans (by decide) okl_108) (by decide +kernel)
theorem okm_108_1 : ((c_108.drop 20).take 20).all (okE 108) = true := okW_all (P := 36) (W := 38) (Nat.le_trans (by decide) okl_108) (by decide +kernel)
theorem okm_108_2 : ((c_108.drop 40).take 20).all (okE 108) = true := okW_all (P := 74) (W := 37) (Nat.le_trans (by decide) okl_108) (by decide +kernel)
theorem okm_108_3 : ((c_108.drop 60).take 20).all (okE 108) = true := okW_all (P := 111) (W := 41) (Nat.le_trans (by decide) okl_108) (by decide +kernel)
theorem okm_108_4 : ((c_108.drop 80).take 20).all (okE 108) = true := okW_all (P := 152) (W := 32) (Nat.le_trans (by decide) okl_108) (by decide +kernel)
theorem okm_108_5 : ((c_108.drop 100).take 20).all (okE 108) = true := okW_all (P := 184) (W := 26) (Nat.le_trans (by decide) okl_108) (by decide +kernel)
theorem okm_108_6 : ((c_108.drop 120).take 20).all (okE 108) = true := okW_all (P := 210) (W := 30) (Nat.le_trans (by decide) okl_108) (by decide +kernel)
theorem okm_108_7 : ((c_108.drop 140).take 20).all (okE 108) = true := okW_all (P := 240) (W := 33) (Nat.le_trans (by decide) okl_108) (by decide +kernel)
theorem okm_108_8 : ((c_108.drop 160).take 20).all (okE 108) = true := okW_all (P := 273) (W := 36) (Nat.le_trans (by decide) okl_108) (by decide +kernel)
theorem okm_108_9 : ((c_108.drop 180).take 20).all (okE 108) = true := okW_all (P := 309) (W := 34) (Nat.le_trans (by decide) okl_108) (by decide +kernel)
theorem okm_108_10 : ((c_108.drop 200).take 20).all (okE 108) = true := okW_all (P := 343) (W := 36) (Nat.le_trans (by decide) okl_108) (by decide +kernel)
theorem okm_108_11 : ((c_108.drop 220).take 20).all (okE 108) = true := okW_all (P := 379) (W := 36) (Nat.le_trans (by decide) okl_108) (by decide +kernel)
theorem okm_108_12 : ((c_108.drop 240).take 20).all (okE 108) = true := okW_all (P := 415) (W := 40) (Nat.le_trans (by decide) okl_108) (by decide +kernel)
theorem okm_108_13 : ((c_108.drop 260).take 20).all (okE 108) = true := okW_all (P := 455) (W := 28) (Nat.le_trans (by decide) okl_108) (by decide +kernel)
theorem okm_108_14 : ((c_108.drop 280).take 20).all (okE 108) = true := okW_all (P := 483) (W := 26) (Nat.le_trans (by decide) okl_108) (by decide +kernel)
theorem okm_108_15 : ((c_108.drop 300).take 8).all (okE 108) = true := okW_all (P := 509) (W := 17) (Nat.le_trans (by decide) okl_108) (by decide +kernel)
theorem okm_108 : c_108.all (okE 108) = true := all_start (all_chunk (k := 0) (c := 20) (m := 20) rfl okm_108_0 (all_chunk (k := 20) (c := 20) (m := 40) rfl okm_108_1 (all_chunk (k := 40) (c := 20) (m := 60) rfl okm_108_2 (all_chunk (k := 60) (c := 20) (m := 80) rfl okm_108_3 (all_chunk (k := 80) (c := 20) (m := 100) rfl okm_108_4 (all_chunk (k := 100) (c := 20) (m := 120) rfl okm_108_5 (all_chunk (k := 120) (c := 20) (m := 140) rfl okm_108_6 (all_chunk (k := 140) (c := 20) (m := 160) rfl okm_108_7 (all_chunk (k := 160) (c := 20) (m := 180) rfl okm_108_8 (all_chunk (k := 180) (c := 20) (m := 200) rfl okm_108_9 (all_chunk (k := 200) (c := 20) (m := 220) rfl okm_108_10 (all_chunk (k := 220) (c := 20) (m := 240) rfl okm_108_11 (all_chunk (k := 240) (c := 20) (m := 260) rfl okm_108_12 (all_chunk (k := 260) (c := 20) (m := 280) rfl okm_108_13 (all_chunk (k := 280) (c := 20) (m := 300) rfl okm_108_14 (all_chunk (k := 300) (c := 8) (m := 308) rfl okm_108_15 (all_end (by decide +kernel))))))))))))))))))
theorem okm_109 : c_109.all (okE 109) = true := by decide +kernel
theorem okm_110 : c_110.all (okE 110) = true := by decide +kernel
theorem okm_111 : c_111.all (okE 111) = true := by decide +kernel
theorem okm_112 : c_112.all (okE 112) = true := by decide +kernel
theorem okm_113 : c_113.all (okE 113) = true := by decide +kernel
theorem okl_114 : 189 ≤ (mBytes 114).data.toList.length := by decide +kernel
theorem okm_114_0 : ((c_114.drop 0).take 20).all (okE 114) = true := okW_all (P := 0) (W := 35) (Nat.le_trans (by decide) okl_114) (by decide +kernel)
theorem okm_114_1 : ((c_114.drop 20).take 20).all (okE 114) = true := okW_all (P := 35) (W := 39) (Nat.le_trans (by decide) okl_114) (by decide +kernel)
theorem okm_114_2 : ((c_114.drop 40).take 20).all (okE 114) = true := okW_all (P := 74) (W := 34) (Nat.le_trans (by decide) okl_114) (by decide +kernel)
theorem okm_114_3 : ((c_114.drop 60).take 20).all (okE 114) = true := okW_all (P := 108) (W := 36) (Nat.le_trans (by decide) okl_114) (by decide +kernel)
theorem okm_114_4 : ((c_114.drop 80).take 20).all (okE 114) = true := okW_all (P := 144) (W := 31) (Nat.le_trans (by decide) okl_114) (by decide +kernel)
theorem okm_114_5 : ((c_114.drop 100).take 9).all (okE 114) = true := okW_all (P := 175) (W := 15) (Nat.le_trans (by decide) okl_114) (by decide +kernel)
theorem okm_114 : c_114.all (okE 114) = true := all_start (all_chunk (k := 0) (c := 20) (m := 20) rfl okm_114_0 (all_chunk (k := 20) (c := 20) (m := 40) rfl okm_114_1 (all_chunk (k := 40) (c := 20) (m := 60) rfl okm_114_2 (all_chunk (k := 60) (c := 20) (m := 80) rfl okm_114_3 (all_chunk (k := 80) (c := 20) (m := 100) rfl okm_114_4 (all_chunk (k := 100) (c := 9) (m := 109) rfl okm_114_5 (all_end (by decide +kernel))))))))
theorem okl_115 : 87 ≤ (mBytes 115).data.toList.length := by decide +kernel
theorem okm_115_0 : ((c_115.drop 0).take 20).all (okE 115) = true := okW_all (P := 0) (W := 34) (Nat.le_trans (by decide) okl_115) (by decide +kernel)
theorem okm_115_1 : ((c_115.drop 20).take 20).all (okE 115) = true := okW_all (P := 34) (W := 38) (Nat.le_trans (by decide) okl_115) (by decide +kernel)
theorem okm_115_2 : ((c_115.drop 40).take 11).all (okE 115) = true := okW_all (P := 72) (W := 16) (Nat.le_trans (by decide) okl_115) (by decide +kernel)
theorem okm_115 : c_115.all (okE 115) = true := all_start (all_chunk (k := 0) (c := 20) (m := 20) rfl okm_115_0 (all_chunk (k := 20) (c := 20) (m := 40) rfl okm_115_1 (all_chunk (k := 40) (c := 11) (m := 51) rfl okm_115_2 (all_end (by decide +kernel)))))
theorem okl_116 : 49 ≤ (mBytes 116).data.toList.length := by decide +kernel
theorem okm_116_0 : ((c_116.drop 0).take 20).all (okE 116) = true := okW_all (P := 0) (W := 30) (Nat.le_trans (by decide) okl_116) (by decide +kernel)
theorem okm_116_1 : ((c_116.drop 20).take 14).all (okE 116) = true := okW_all (P := 30) (W := 20) (Nat.le_trans (by decide) okl_116) (by decide +kernel)
theorem okm_116 : c_116.all (okE 116) = true := all_start (all_chunk (k := 0) (c := 20) (m := 20) rfl okm_116_0 (all_chunk (k := 20) (c := 14) (m := 34) rfl okm_116_1 (all_end (by decide +kernel))))
theorem okl_117 : 73 ≤ (mBytes 117).data.toList.length := by decide +kernel
theorem okm_117_0 : ((c_117.drop 0).take 20).all (okE 117) = true := okW_all (P := 0) (W := 34) (Nat.le_trans (by decide) okl_117) (by decide +kernel)
theorem okm_117_1 : ((c_117.drop 20).take 20).all (okE 117) = true := okW_all (P := 34) (W := 31) (Nat.le_trans (by decide) okl_117) (by decide +kernel)
theorem okm_117_2 : ((c_117.drop 40).take 8).all (okE 117) = true := okW_all (P := 65) (W := 9) (Nat.le_trans (by decide) okl_117) (by decide +kernel)
theorem okm_117 : c_117.all (okE 117) = true := all_start (all_chunk (k := 0) (c := 20) (m := 20) rfl okm_117_0 (all_chunk (k := 20) (c := 20) (m := 40) rfl okm_117_1 (all_chunk (k := 40) (c := 8) (m := 48) rfl okm_117_2 (all_end (by decide +kernel)))))
theorem okl_118 : 50 ≤ (mBytes 118).data.toList.length := by decide +kernel
theorem okm_118_0 : ((c_118.drop 0).take 20).all (okE 118) = true := okW_all (P := 0) (W := 36) (Nat.le_trans (by decide) okl_118) (by decide +kernel)
theorem okm_118_1 : ((c_118.drop 20).take 9).all (okE 118) = true := okW_all (P := 36) (W := 15) (Nat.le_trans (by decide) okl_118) (by decide +kernel)
theorem okm_118 : c_118.all (okE 118) = true := all_start (all_chunk (k := 0) (c := 20) (m := 20) rfl okm_118_0 (all_chunk (k := 20) (c := 9) (m := 29) rfl okm_118_1 (all_end (by decide +kernel))))
theorem okm_119 : c_119.all (okE 119) = true := by decide +kernel
theorem okm_120 : c_120.all (okE 120) = true := by decide +kernel
theorem okm_121 : c_121.all (okE 121) = true := by decide +kernel
theorem okm_122 : c_122.all (okE 122) = true := by decide +kernel
theorem okl_123 : 64 ≤ (mBytes 123).data.toList.length := by decide +kernel
theorem okm_123_0 : ((c_123.drop 0).take 20).all (okE 123) = true := okW_all (P := 0) (W := 35) (Nat.le_trans (by decide) okl_123) (by decide +kernel)
theorem okm_123_1 : ((c_123.drop 20).take 17).all (okE 123) = true := okW_all (P := 35) (W := 30) (Nat.le_trans (by decide) okl_123) (by decide +kernel)
theorem okm_123 : c_123.all (okE 123) = true := all_start (all_chunk (k := 0) (c := 20) (m := 20) rfl okm_123_0 (all_chunk (k := 20) (c := 17) (m := 37) rfl okm_123_1 (all_end (by decide +kernel))))
theorem okm_124 : c_124.all (okE 124) = true := by decide +kernel
theorem okl_125 : 52 ≤ (mBytes 125).data.toList.length := by decide +kernel
theorem okm_125_0 : ((c_125.drop 0).take 20).all (okE 125) = true := okW_all (P := 0) (W := 36) (Nat.le_trans (by decide) okl_125) (by decide +kernel)
theorem okm_125_1 : ((c_125.drop 20).take 9).all (okE 125) = true := okW_all (P := 36) (W := 17) (Nat.le_trans (by decide) okl_125) (by decide +kernel)
theorem okm_125 : c_125.all (okE 125) = true := all_start (all_chunk (k := 0) (c := 20) (m := 20) rfl okm_125_0 (all_chunk (k := 20) (c := 9) (m := 29) rfl okm_125_1 (all_end (by decide +kernel))))
theorem okl_126 : 72 ≤ (mBytes 126).data.toList.length := by decide +kernel
theorem okm_126_0 : ((c_126.drop 0).take 20).all (okE 126) = true := okW_all (P := 0) (W := 36) (Nat.le_trans (by decide) okl_126) (by decide +kernel)
theorem okm_126_1 : ((c_126.drop 20).take 20).all (okE 126) = true := okW_all (P := 36) (W := 37) (Nat.le_trans (by decide) okl_126) (by decide +kernel)
theorem okm_126 : c_126.all (okE 126) = true := all_start (all_chunk (k := 0) (c := 20) (m := 20) rfl okm_126_0 (all_chunk (k := 20) (c := 20) (m := 40) rfl okm_126_1 (all_end (by decide +kernel))))
theorem okm_127 : c_127.all (okE 127) = true := by decide +kernel
theorem okl_128 : 90 ≤ (mBytes 128).data.toList.length := by decide +kernel
theorem okm_128_0 : ((c_128.drop 0).take 20).all (okE 128) = true := okW_all (P := 0) (W := 32) (Nat.le_trans (by decide) okl_128) (by decide +kernel)
theorem okm_128_1 : ((c_128.drop 20).take 20).all (okE 128) = true := okW_all (P := 32) (W := 36) (Nat.le_trans (by decide) okl_128) (by decide +kernel)
theorem okm_128_2 : ((c_128.drop 40).take 15).all (okE 128) = true := okW_all (P := 68) (W := 23) (Nat.le_trans (by decide) okl_128) (by decide +kernel)
theorem okm_128 : c_128.all (okE 128) = true := all_start (all_chunk (k := 0) (c := 20) (m := 20) rfl okm_128_0 (all_chunk (k := 20) (c := 20) (m := 40) rfl okm_128_1 (all_chunk (k := 40) (c := 15) (m := 55) rfl okm_128_2 (all_end (by decide +kernel)))))
theorem okl_129 : 229 ≤ (mBytes 129).data.toList.length := by decide +kernel
theorem okm_129_0 : ((c_129.drop 0).take 20).all (okE 129) = true := okW_all (P := 0) (W := 32) (Nat.le_trans (by decide) okl_129) (by decide +kernel)
theorem okm_129_1 : ((c_129.drop 20).take 20).all (okE 129) = true := okW_all (P := 32) (W := 36) (Nat.le_trans (by decide) okl_129) (by decide +kernel)
theorem okm_129_2 : ((c_129.drop 40).take 20).all (okE 129) = true := okW_all (P := 68) (W := 36) (Nat.le_trans (by decide) okl_129) (by decide +kernel)
theorem okm_129_3 : ((c_129.drop 60).take 20).all (okE 129) = true := okW_all (P := 104) (W := 34) (Nat.le_trans (by decide) okl_129) (by decide +kernel)
theorem okm_129_4 : ((c_129.drop 80).take 20).all (okE 129) = true := okW_all (P := 138) (W := 35) (Nat.le_trans (by decide) okl_129) (by decide +kernel)
theorem okm_129_5 : ((c_129.drop 100).take 20).all (okE 129) = true := okW_all (P := 173) (W := 33) (Nat.le_trans (by decide) okl_129) (by decide +kernel)
theorem okm_129_6 : ((c_129.drop 120).take 14).all (okE 129) = true := okW_all (P := 206) (W := 26) (Nat.le_trans (by decide) okl_129) (by decide +kernel)
theorem okm_129 : c_129.all (okE 129) = true := all_start (all_chunk (k := 0) (c := 20) (m := 20) rfl okm_129_0 (all_chunk (k := 20) (c := 20) (m := 40) rfl okm_129_1 (all_chunk (k := 40) (c := 20) (m := 60) rfl okm_129_2 (all_chunk (k := 60) (c := 20) (m := 80) rfl okm_129_3 (all_chunk (k := 80) (c := 20) (m := 100) rfl okm_129_4 (all_chunk (k := 100) (c := 20) (m := 120) rfl okm_129_5 (all_chunk (k := 120) (c := 14) (m := 134) rfl okm_129_6 (all_end (by decide +kernel)))))))))
theorem okl_130 : 74 ≤ (mBytes 130).data.toList.length := by decide +kernel
theorem okm_130_0 : ((c_130.drop 0).take 20).all (okE 130) = true := okW_all (P := 0) (W := 55) (Nat.le_trans (by decide) okl_130) (by decide +kernel)
theorem okm_130_1 : ((c_130.drop 20).take 13).all (okE 130) = true := okW_all (P := 55) (W := 20) (Nat.le_trans (by decide) okl_130) (by decide +kernel)
theorem okm_130 : c_130.all (okE 130) = true := all_start (all_chunk (k := 0) (c := 20) (m := 20) rfl okm_130_0 (all_chunk (k := 20) (c := 13) (m := 33) rfl okm_130_1 (all_end (by decide +kernel))))
theorem okl_131 : 49 ≤ (mBytes 131).data.toList.length := by decide +kernel
theorem okm_131_0 : ((c_131.drop 0).take 20).all (okE 131) = true := okW_all (P := 0) (W := 37) (Nat.le_trans (by decide) okl_131) (by decide +kernel)
theorem okm_131_1 : ((c_131.drop 20).take 7).all (okE 131) = true := okW_all (P := 37) (W := 13) (Nat.le_trans (by decide) okl_131) (by decide +kernel)
theorem okm_131 : c_131.all (okE 131) = true := all_start (all_chunk (k := 0) (c := 20) (m := 20) rfl okm_131_0 (all_chunk (k := 20) (c := 7) (m := 27) rfl okm_131_1 (all_end (by decide +kernel))))
theorem okl_132 : 69 ≤ (mBytes 132).data.toList.length := by decide +kernel
theorem okm_132_0 : ((c_132.drop 0).take 20).all (okE 132) = true := okW_all (P := 0) (W := 30) (Nat.le_trans (by decide) okl_132) (by decide +kernel)
theorem okm_132_1 : ((c_132.drop 20).take 20).all (okE 132) = true := okW_all (P := 30) (W := 38) (Nat.le_trans (by decide) okl_132) (by decide +kernel)
theorem okm_132_2 : ((c_132.drop 40).take 2).all (okE 132) = true := okW_all (P := 68) (W := 2) (Nat.le_trans (by decide) okl_132) (by decide +kernel)
theorem okm_132 : c_132.all (okE 132) = true := all_start (all_chunk (k := 0) (c := 20) (m := 20) rfl okm_132_0 (all_chunk (k := 20) (c := 20) (m := 40) rfl okm_132_1 (all_chunk (k := 40) (c := 2) (m := 42) rfl okm_132_2 (all_end (by decide +kernel)))))
theorem okl_133 : 60 ≤ (mBytes 133).data.toList.length := by decide +kernel
theorem okm_133_0 : ((c_133.drop 0).take 20).all (okE 133) = true := okW_all (P := 0) (W := 37) (Nat.le_trans (by decide) okl_133) (by decide +kernel)
theorem okm_133_1 : ((c_133.drop 20).take 14).all (okE 133) = true := okW_all (P := 37) (W := 24) (Nat.le_trans (by decide) okl_133) (by decide +kernel)
theorem okm_133 : c_133.all (okE 133) = true := all_start (all_chunk (k := 0) (c := 20) (m := 20) rfl okm_133_0 (all_chunk (k := 20) (c := 14) (m := 34) rfl okm_133_1 (all_end (by decide +kernel))))
theorem okm_134 : c_134.all (okE 134) = true := by decide +kernel
theorem okm_135 : c_135.all (okE 135) = true := by decide +kernel
theorem okl_136 : 68 ≤ (mBytes 136).data.toList.length := by decide +kernel
theorem okm_136_0 : ((c_136.drop 0).take 20).all (okE 136) = true := okW_all (P := 0) (W := 60) (Nat.le_trans (by decide) okl_136) (by decide +kernel)
theorem okm_136_1 : ((c_136.drop 20).take 6).all (okE 136) = true := okW_all (P := 60) (W := 9) (Nat.le_trans (by decide) okl_136) (by decide +kernel)
theorem okm_136 : c_136.all (okE 136) = true := all_start (all_chunk (k := 0) (c := 20) (m := 20) rfl okm_136_0 (all_chunk (k := 20) (c := 6) (m := 26) rfl okm_136_1 (all_end (by decide +kernel))))
theorem okl_137 : 259 ≤ (mBytes 137).data.toList.length := by decide +kernel
theorem okm_137_0 : ((c_137.drop 0).take 20).all (okE 137) = true := okW_all (P := 0) (W := 35) (Nat.le_trans (by decide) okl_137) (by decide +kernel)
theorem okm_137_1 : ((c_137.drop 20).take 20).all (okE 137) = true := okW_all (P := 35) (W := 37) (Nat.le_trans (by decide) okl_137) (by decide +kernel)
theorem okm_137_2 : ((c_137.drop 40).take 20).all (okE 137) = true := okW_all (P := 72) (W := 37) (Nat.le_trans (by decide) okl_137) (by decide +kernel)
theorem okm_137_3 : ((c_137.drop 60).take 20).all (okE 137) = true := okW_all (P := 109) (W := 38) (Nat.le_trans (by decide) okl_137) (by decide +kernel)
theorem okm_137_4 : ((c_137.drop 80).take 20).all (okE 137) = true := okW_all (P := 147) (W := 36) (Nat.le_trans (by decide) okl_137) (by decide +kernel)
theorem okm_137_5 : ((c_137.drop 100).take 20).all (okE 137) = true := okW_all (P := 183) (W := 41) (Nat.le_trans (by decide) okl_137) (by decide +kernel)
theorem okm_137_6 : ((c_137.drop 120).take 19).all (okE 137) = true := okW_all (P := 224) (W := 36) (Nat.le_trans (by decide) okl_137) (by decide +kernel)
theorem okm_137 : c_137.all (okE 137) = true := all_start (all_chunk (k := 0) (c := 20) (m := 20) rfl okm_137_0 (all_chunk (k := 20) (c := 20) (m := 40) rfl okm_137_1 (all_chunk (k := 40) (c := 20) (m := 60) rfl okm_137_2 (all_chunk (k := 60) (c := 20) (m := 80) rfl okm_137_3 (all_chunk (k := 80) (c := 20) (m := 100) rfl okm_137_4 (all_chunk (k := 100) (c := 20) (m := 120) rfl okm_137_5 (all_chunk (k := 120) (c := 19) (m := 139) rfl okm_137_6 (all_end (by decide +kernel)))))))))
theorem okl_138 : 83 ≤ (mBytes 138).data.toList.length := by decide +kernel
theorem okm_138_0 : ((c_138.drop 0).take 20).all (okE 138) = true := okW_all (P := 0) (W := 38) (Nat.le_trans (by decide) okl_138) (by decide +kernel)
theorem okm_138_1 : ((c_138.drop 20).take 20).all (okE 138) = true := okW_all (P := 38) (W := 40) (Nat.le_trans (by decide) okl_138) (by decide +kernel)
theorem okm_138_2 : ((c_138.drop 40).take 3).all (okE 138) = true := okW_all (P := 78) (W := 6) (Nat.le_trans (by decide) okl_138) (by decide +kernel)
theorem okm_138 : c_138.all (okE 138) = true := all_start (all_chunk (k := 0) (c := 20) (m := 20) rfl okm_138_0 (all_chunk (k := 20) (c := 20) (m := 40) rfl okm_138_1 (all_chunk (k := 40) (c := 3) (m := 43) rfl okm_138_2 (all_end (by decide +kernel)))))
theorem okm_139 : c_139.all (okE 139) = true := by decide +kernel
theorem okm_140 : c_140.all (okE 140) = true := by decide +kernel
theorem okm_141 : c_141.all (okE 141) = true := by decide +kernel
theorem okm_142 : c_142.all (okE 142) = true := by decide +kernel
theorem okm_143 : c_143.all (okE 143) = true := by decide +kernel
theorem okl_144 : 48 ≤ (mBytes 144).data.toList.length := by decide +kernel
theorem okm_144_0 : ((c_144.drop 0).take 20).all (okE 144) = true := okW_all (P := 0) (W := 34) (Nat.le_trans (by decide) okl_144) (by decide +kernel)
theorem okm_144_1 : ((c_144.drop 20).take 9).all (okE 144) = true := okW_all (P := 34) (W := 15) (Nat.le_trans (by decide) okl_144) (by decide +kernel)
theorem okm_144 : c_144.all (okE 144) = true := all_start (all_chunk (k := 0) (c := 20) (m := 20) rfl okm_144_0 (all_chunk (k := 20) (c := 9) (m := 29) rfl okm_144_1 (all_end (by decide +kernel))))
theorem okl_145 : 71 ≤ (mBytes 145).data.toList.length := by decide +kernel
theorem okm_145_0 : ((c_145.drop 0).take 20).all (okE 145) = true := okW_all (P := 0) (W := 34) (Nat.le_trans (by decide) okl_145) (by decide +kernel)
theorem okm_145_1 : ((c_145.drop 20).take 20).all (okE 145) = true := okW_all (P := 34) (W := 36) (Nat.le_trans (by decide) okl_145) (by decide +kernel)
theorem okm_145_2 : ((c_145.drop 40).take 2).all (okE 145) = true := okW_all (P := 70) (W := 2) (Nat.le_trans (by decide) okl_145) (by decide +kernel)
theorem okm_145 : c_145.all (okE 145) = true := all_start (all_chunk (k := 0) (c := 20) (m := 20) rfl okm_145_0 (all_chunk (k := 20) (c := 20) (m := 40) rfl okm_145_1 (all_chunk (k := 40) (c := 2) (m := 42) rfl okm_145_2 (all_end (by decide +kernel)))))
theorem okl_146 : 77 ≤ (mBytes 146).data.toList.length := by decide +kernel
theorem okm_146_0 : ((c_146.drop 0).take 20).all (okE 146) = true := okW_all (P := 0) (W := 36) (Nat.le_trans (by decide) okl_146) (by decide +kernel)
theorem okm_146_1 : ((c_146.drop 20).take 20).all (okE 146) = true := okW_all (P := 36) (W := 37) (Nat.le_trans (by decide) okl_146) (by decide +kernel)
theorem okm_146_2 : ((c_146.drop 40).take 3).all (okE 146) = true := okW_all (P := 73) (W := 5) (Nat.le_trans (by decide) okl_146) (by decide +kernel)
theorem okm_146 : c_146.all (okE 146) = true := all_start (all_chunk (k := 0) (c := 20) (m := 20) rfl okm_146_0 (all_chunk (k := 20) (c := 20) (m := 40) rfl okm_146_1 (all_chunk (k := 40) (c := 3) (m := 43) rfl okm_146_2 (all_end (by decide +kernel)))))
theorem okl_147 : 107 ≤ (mBytes 147).data.toList.length := by decide +kernel
theorem okm_147_0 : ((c_147.drop 0).take 20).all (okE 147) = true := okW_all (P := 0) (W := 70) (Nat.le_trans (by decide) okl_147) (by decide +kernel)
theorem okm_147_1 : ((c_147.drop 20).take 20).all (okE 147) = true := okW_all (P := 70) (W := 29) (Nat.le_trans (by decide) okl_147) (by decide +kernel)
theorem okm_147_2 : ((c_147.drop 40).take 7).all (okE 147) = true := okW_all (P := 99) (W := 9) (Nat.le_trans (by decide) okl_147) (by decide +kernel)
theorem okm_147 : c_147.all (okE 147) = true := all_start (all_chunk (k := 0) (c := 20) (m := 20) rfl okm_147_0 (all_chunk (k := 20) (c := 20) (m := 40) rfl okm_147_1 (all_chunk (k := 40) (c := 7) (m := 47) rfl okm_147_2 (all_end (by decide +kernel)))))
theorem okl_148 : 47 ≤ (mBytes 148).data.toList.length := by decide +kernel
theorem okm_148_0 : ((c_148.drop 0).take 20).all (okE 148) = true := okW_all (P := 0) (W := 30) (Nat.le_trans (by decide) okl_148) (by decide +kernel)
theorem okm_148_1 : ((c_148.drop 20).take 12).all (okE 148) = true := okW_all (P := 30) (W := 18) (Nat.le_trans (by decide) okl_148) (by decide +kernel)
theorem okm_148 : c_148.all (okE 148) = true := all_start (all_chunk (k := 0) (c := 20) (m := 20) rfl okm_148_0 (all_chunk (k := 20) (c := 12) (m := 32) rfl okm_148_1 (all_end (by decide +kernel))))
theorem okl_149 : 185 ≤ (mBytes 149).data.toList.length := by decide +kernel
theorem okm_149_0 : ((c_149.drop 0).take 20).all (okE 149) = true := okW_all (P := 0) (W := 82) (Nat.le_trans (by decide) okl_149) (by decide +kernel)
theorem okm_149_1 : ((c_149.drop 20).take 20).all (okE 149) = true := okW_all (P := 82) (W := 26) (Nat.le_trans (by decide) okl_149) (by decide +kernel)
theorem okm_149_2 : ((c_149.drop 40).take 20).all (okE 149) = true := okW_all (P := 108) (W := 38) (Nat.le_trans (by decide) okl_149) (by decide +kernel)
theorem okm_149_3 : ((c_149.drop 60).take 20).all (okE 149) = true := okW_all (P := 146) (W := 38) (Nat.le_trans (by decide) okl_149) (by decide +kernel)
theorem okm_149_4 : ((c_149.drop 80).take 2).all (okE 149) = true := okW_all (P := 184) (W := 2) (Nat.le_trans (by decide) okl_149) (by decide +kernel)
theorem okm_149 : c_149.all (okE 149) = true := all_start (all_chunk (k := 0) (c := 20) (m := 20) rfl okm_149_0 (all_chunk (k := 20) (c := 20) (m := 40) rfl okm_149_1 (all_chunk (k := 40) (c := 20) (m := 60) rfl okm_149_2 (all_chunk (k := 60) (c := 20) (m := 80) rfl okm_149_3 (all_chunk (k := 80) (c := 2) (m := 82) rfl okm_149_4 (all_end (by decide +kernel)))))))
theorem okm_150 : c_150.all (okE 150) = true := by decide +kernel
theorem okm_151 : c_151.all (okE 151) = true := by decide +kernel
theorem okl_152 : 61 ≤ (mBytes 152).data.toList.length := by decide +kernel
theorem okm_152_0 : ((c_152.drop 0).take 20).all (okE 152) = true := okW_all (P := 0) (W := 36) (Nat.le_trans (by decide) okl_152) (by decide +kernel)
theorem okm_152_1 : ((c_152.drop 20).take 16).all (okE 152) = true := okW_all (P := 36) (W := 26) (Nat.le_trans (by decide) okl_152) (by decide +kernel)
theorem okm_152 : c_152.all (okE 152) = true := all_start (all_chunk (k := 0) (c := 20) (m := 20) rfl okm_152_0 (all_chunk (k := 20) (c := 16) (m := 36) rfl okm_152_1 (all_end (by decide +kernel))))
theorem okl_153 : 47 ≤ (mBytes 153).data.toList.length := by decide +kernel
theorem okm_153_0 : ((c_153.drop 0).take 20).all (okE 153) = true := okW_all (P := 0) (W := 34) (Nat.le_trans (by decide) okl_153) (by decide +kernel)
theorem okm_153_1 : ((c_153.drop 20).take 10).all (okE 153) = true := okW_all (P := 34) (W := 14) (Nat.le_trans (by decide) okl_153) (by decide +kernel)
theorem okm_153 : c_153.all (okE 153) = true := all_start (all_chunk (k := 0) (c := 20) (m := 20) rfl okm_153_0 (all_chunk (k := 20) (c := 10) (m := 30) rfl okm_153_1 (all_end (by decide +kernel))))
theorem okl_154 : 116 ≤ (mBytes 154).data.toList.length := by decide +kernel
theorem okm_154_0 : ((c_154.drop 0).take 20).all (okE 154) = true := okW_all (P := 0) (W := 36) (Nat.le_trans (by decide) okl_154) (by decide +kernel)
theorem okm_154_1 : ((c_154.drop 20).take 20).all (okE 154) = true := okW_all (P := 36) (W := 40) (Nat.le_trans (by decide) okl_154) (by decide +kernel)
theorem okm_154_2 : ((c_154.drop 40).take 20).all (okE 154) = true := okW_all (P := 76) (W := 36) (Nat.le_trans (by decide) okl_154) (by decide +kernel)
theorem okm_154_3 : ((c_154.drop 60).take 3).all (okE 154) = true := okW_all (P := 112) (W := 5) (Nat.le_trans (by decide) okl_154) (by decide +kernel)
theorem okm_154 : c_154.all (okE 154) = true := all_start (all_chunk (k := 0) (c := 20) (m := 20) rfl okm_154_0 (all_chunk (k := 20) (c := 20) (m := 40) rfl okm_154_1 (all_chunk (k := 40) (c := 20) (m := 60) rfl okm_154_2 (all_chunk (k := 60) (c := 3) (m := 63) rfl okm_154_3 (all_end (by decide +kernel))))))
theorem okl_155 : 40 ≤ (mBytes 155).data.toList.length := by decide +kernel
theorem okm_155_0 : ((c_155.drop 0).take 20).all (okE 155) = true := okW_all (P := 0) (W := 32) (Nat.le_trans (by decide) okl_155) (by decide +kernel)
theorem okm_155_1 : ((c_155.drop 20).take 5).all (okE 155) = true := okW_all (P := 32) (W := 9) (Nat.le_trans (by decide) okl_155) (by decide +kernel)
theorem okm_155 : c_155.all (okE 155) = true := all_start (all_chunk (k := 0) (c := 20) (m := 20) rfl okm_155_0 (all_chunk (k := 20) (c := 5) (m := 25) rfl okm_155_1 (all_end (by decide +kernel))))
theorem okl_156 : 65 ≤ (mBytes 156).data.toList.length := by decide +kernel
theorem okm_156_0 : ((c_156.drop 0).take 20).all (okE 156) = true := okW_all (P := 0) (W := 38) (Nat.le_trans (by decide) okl_156) (by decide +kernel)
theorem okm_156_1 : ((c_156.drop 20).take 16).all (okE 156) = true := okW_all (P := 38) (W := 28) (Nat.le_trans (by decide) okl_156) (by decide +kernel)
theorem okm_156 : c_156.all (okE 156) = true := all_start (all_chunk (k := 0) (c := 20) (m := 20) rfl okm_156_0 (all_chunk (k := 20) (c := 16) (m := 36) rfl okm_156_1 (all_end (by decide +kernel))))
theorem okl_157 : 99 ≤ (mBytes 157).data.toList.length := by decide +kernel
theorem okm_157_0 : ((c_157.drop 0).take 20).all (okE 157) = true := okW_all (P := 0) (W := 32) (Nat.le_trans (by decide) okl_157) (by decide +kernel)
theorem okm_157_1 : ((c_157.drop 20).take 20).all (okE 157) = true := okW_all (P := 32) (W := 41) (Nat.le_trans (by decide) okl_157) (by decide +kernel)
theorem okm_157_2 : ((c_157.drop 40).take 17).all (okE 157) = true := okW_all (P := 73) (W := 27) (Nat.le_trans (by decide) okl_157) (by decide +kernel)
theorem okm_157 : c_157.all (okE 157) = true := all_start (all_chunk (k := 0) (c := 20) (m := 20) rfl okm_157_0 (all_chunk (k := 20) (c := 20) (m := 40) rfl okm_157_1 (all_chunk (k := 40) (c := 17) (m := 57) rfl okm_157_2 (all_end (by decide +kernel)))))
theorem okm_158 : c_158.all (okE 158) = true := by decide +kernel
theorem okm_159 : c_159.all (okE 159) = true := by decide +kernel
theorem okm_160 : c_160.all (okE 160) = true := by decide +kernel
theorem okm_161 : c_161.all (okE 161) = true := by decide +kernel
theorem okl_162 : 85 ≤ (mBytes 162).data.toList.length := by decide +kernel
theorem okm_162_0 : ((c_162.drop 0).take 20).all (okE 162) = true := okW_all (P := 0) (W := 32) (Nat.le_trans (by decide) okl_162) (by decide +kernel)
theorem okm_162_1 : ((c_162.drop 20).take 20).all (okE 162) = true := okW_all (P := 32) (W := 38) (Nat.le_trans (by decide) okl_162) (by decide +kernel)
theorem okm_162_2 : ((c_162.drop 40).take 10).all (okE 162) = true := okW_all (P := 70) (W := 16) (Nat.le_trans (by decide) okl_162) (by decide +kernel)
theorem okm_162 : c_162.all (okE 162) = true := all_start (all_chunk (k := 0) (c := 20) (m := 20) rfl okm_162_0 (all_chunk (k := 20) (c := 20) (m := 40) rfl okm_162_1 (all_chunk (k := 40) (c := 10) (m := 50) rfl okm_162_2 (all_end (by decide +kernel)))))
theorem okm_163 : c_163.all (okE 163) = true := by decide +kernel
theorem okl_164 : 92 ≤ (mBytes 164).data.toList.length := by decide +kernel
theorem okm_164_0 : ((c_164.drop 0).take 20).all (okE 164) = true := okW_all (P := 0) (W := 33) (Nat.le_trans (by decide) okl_164) (by decide +kernel)
theorem okm_164_1 : ((c_164.drop 20).take 20).all (okE 164) = true := okW_all (P := 33) (W := 34) (Nat.le_trans (by decide) okl_164) (by decide +kernel)
theorem okm_164_2 : ((c_164.drop 40).take 14).all (okE 164) = true := okW_all (P := 67) (W := 26) (Nat.le_trans (by decide) okl_164) (by decide +kernel)
theorem okm_164 : c_164.all (okE 164) = true := all_start (all_chunk (k := 0) (c := 20) (m := 20) rfl okm_164_0 (all_chunk (k := 20) (c := 20) (m := 40) rfl okm_164_1 (all_chunk (k := 40) (c := 14) (m := 54) rfl okm_164_2 (all_end (by decide +kernel)))))
theorem okl_165 : 110 ≤ (mBytes 165).data.toList.length := by decide +kernel
theorem okm_165_0 : ((c_165.drop 0).take 20).all (okE 165) = true := okW_all (P := 0) (W := 33) (Nat.le_trans (by decide) okl_165) (by decide +kernel)
theorem okm_165_1 : ((c_165.drop 20).take 20).all (okE 165) = true := okW_all (P := 33) (W := 38) (Nat.le_trans (by decide) okl_165) (by decide +kernel)
theorem okm_165_2 : ((c_165.drop 40).take 20).all (okE 165) = true := okW_all (P := 71) (W := 38) (Nat.le_trans (by decide) okl_165) (by decide +kernel)
theorem okm_165_3 : ((c_165.drop 60).take 2).all (okE 165) = true := okW_all (P := 109) (W := 2) (Nat.le_trans (by decide) okl_165) (by decide +kernel)
theorem okm_165 : c_165.all (okE 165) = true := all_start (all_chunk (k := 0) (c := 20) (m := 20) rfl okm_165_0 (all_chunk (k := 20) (c := 20) (m := 40) rfl okm_165_1 (all_chunk (k := 40) (c := 20) (m := 60) rfl okm_165_2 (all_chunk (k := 60) (c := 2) (m := 62) rfl okm_165_3 (all_end (by decide +kernel))))))
theorem okl_166 : 114 ≤ (mBytes 166).data.toList.length := by decide +kernel
theorem okm_166_0 : ((c_166.drop 0).take 20).all (okE 166) = true := okW_all (P := 0) (W := 35) (Nat.le_trans (by decide) okl_166) (by decide +kernel)
theorem okm_166_1 : ((c_166.drop 20).take 20).all (okE 166) = true := okW_all (P := 35) (W := 32) (Nat.le_trans (by decide) okl_166) (by decide +kernel)
theorem okm_166_2 : ((c_166.drop 40).take 20).all (okE 166) = true := okW_all (P := 67) (W := 42) (Nat.le_trans (by decide) okl_166) (by decide +kernel)
theorem okm_166_3 : ((c_166.drop 60).take 3).all (okE 166) = true := okW_all (P := 109) (W := 6) (Nat.le_trans (by decide) okl_166) (by decide +kernel)
theorem okm_166 : c_166.all (okE 166) = true := all_start (all_chunk (k := 0) (c := 20) (m := 20) rfl okm_166_0 (all_chunk (k := 20) (c := 20) (m := 40) rfl okm_166_1 (all_chunk (k := 40) (c := 20) (m := 60) rfl okm_166_2 (all_chunk (k := 60) (c := 3) (m := 63) rfl okm_166_3 (all_end (by decide +kernel))))))
theorem okl_167 : 75 ≤ (mBytes 167).data.toList.length := by decide +kernel
theorem okm_167_0 : ((c_167.drop 0).take 20).all (okE 167) = true := okW_all (P := 0) (W := 31) (Nat.le_trans (by decide) okl_167) (by decide +kernel)
theorem okm_167_1 : ((c_167.drop 20).take 20).all (okE 167) = true := okW_all (P := 31) (W := 35) (Nat.le_trans (by decide) okl_167) (by decide +kernel)
theorem okm_167_2 : ((c_167.drop 40).take 6).all (okE 167) = true := okW_all (P := 66) (W := 10) (Nat.le_trans (by decide) okl_167) (by decide +kernel)
theorem okm_167 : c_167.all (okE 167) = true := all_start (all_chunk (k := 0) (c := 20) (m := 20) rfl okm_167_0 (all_chunk (k := 20) (c := 20) (m := 40) rfl okm_167_1 (all_chunk (k := 40) (c := 6) (m := 46) rfl okm_167_2 (all_end (by decide +kernel)))))
theorem okl_168 : 87 ≤ (mBytes 168).data.toList.length := by decide +kernel
theorem okm_168_0 : ((c_168.drop 0).take 20).all (okE 168) = true := okW_all (P := 0) (W := 32) (Nat.le_trans (by decide) okl_168) (by decide +kernel)
theorem okm_168_1 : ((c_168.drop 20).take 20).all (okE 168) = true := okW_all (P := 32) (W := 40) (Nat.le_trans (by decide) okl_168) (by decide +kernel)
theorem okm_168_2 : ((c_168.drop 40).take 10).all (okE 168) = true := okW_all (P := 72) (W := 16) (Nat.le_trans (by decide) okl_168) (by decide +kernel)
theorem okm_168 : c_168.all (okE 168) = true := all_start (all_chunk (k := 0) (c := 20) (m := 20) rfl okm_168_0 (all_chunk (k := 20) (c := 20) (m := 40) rfl okm_168_1 (all_chunk (k := 40) (c := 10) (m := 50) rfl okm_168_2 (all_end (by decide +kernel)))))
theorem okm_169 : c_169.all (okE 169) = true := by decide +kernel
theorem okl_170 : 67 ≤ (mBytes 170).data.toList.length := by decide +kernel
theorem okm_170_0 : ((c_170.drop 0).take 20).all (okE 170) = true := okW_all (P := 0) (W := 33) (Nat.le_trans (by decide) okl_170) (by decide +kernel)
theorem okm_170_1 : ((c_170.drop 20).take 20).all (okE 170) = true := okW_all (P := 33) (W := 30) (Nat.le_trans (by decide) okl_170) (by decide +kernel)
theorem okm_170_2 : ((c_170.drop 40).take 3).all (okE 170) = true := okW_all (P := 63) (W := 5) (Nat.le_trans (by decide) okl_170) (by decide +kernel)
theorem okm_170 : c_170.all (okE 170) = true := all_start (all_chunk (k := 0) (c := 20) (m := 20) rfl okm_170_0 (all_chunk (k := 20) (c := 20) (m := 40) rfl okm_170_1 (all_chunk (k := 40) (c := 3) (m := 43) rfl okm_170_2 (all_end (by decide +kernel)))))
theorem okl_171 : 44 ≤ (mBytes 171).data.toList.length := by decide +kernel
theorem okm_171_0 : ((c_171.drop 0).take 20).all (okE 171) = true := okW_all (P := 0) (W := 34) (Nat.le_trans (by decide) okl_171) (by decide +kernel)
theorem okm_171_1 : ((c_171.drop 20).take 5).all (okE 171) = true := okW_all (P := 34) (W := 11) (Nat.le_trans (by decide) okl_171) (by decide +kernel)
theorem okm_171 : c_171.all (okE 171) = true := all_start (all_chunk (k := 0) (c := 20) (m := 20) rfl okm_171_0 (all_chunk (k := 20) (c := 5) (m := 25) rfl okm_171_1 (all_end (by decide +kernel))))
theorem okl_172 : 45 ≤ (mBytes 172).data.toList.length := by decide +kernel
theorem okm_172_0 : ((c_172.drop 0).take 20).all (okE 172) = true := okW_all (P := 0) (W := 29) (Nat.le_trans (by decide) okl_172) (by decide +kernel)
theorem okm_172_1 : ((c_172.drop 20).take 11).all (okE 172) = true := okW_all (P := 29) (W := 17) (Nat.le_trans (by decide) okl_172) (by decide +kernel)
theorem okm_172 : c_172.all (okE 172) = true := all_start (all_chunk (k := 0) (c := 20) (m := 20) rfl okm_172_0 (all_chunk (k := 20) (c := 11) (m := 31) rfl okm_172_1 (all_end (by decide +kernel))))
theorem okl_173 : 201 ≤ (mBytes 173).data.toList.length := by decide +kernel
theorem okm_173_0 : ((c_173.drop 0).take 20).all (okE 173) = true := okW_all (P := 0) (W := 31) (Nat.le_trans (by decide) okl_173) (by decide +kernel)
theorem okm_173_1 : ((c_173.drop 20).take 20).all (okE 173) = true := okW_all (P := 31) (W := 35) (Nat.le_trans (by decide) okl_173) (by decide +kernel)
theorem okm_173_2 : ((c_173.drop 40).take 20).all (okE 173) = true := okW_all (P := 66) (W := 36) (Nat.le_trans (by decide) okl_173) (by decide +kernel)
theorem okm_173_3 : ((c_173.drop 60).take 20).all (okE 173) = true := okW_all (P := 102) (W := 37) (Nat.le_trans (by decide) okl_173) (by decide +kernel)
theorem okm_173_4 : ((c_173.drop 80).take 20).all (okE 173) = true := okW_all (P := 139) (W := 42) (Nat.le_trans (by decide) okl_173) (by decide +kernel)
theorem okm_173_5 : ((c_173.drop 100).take 12).all (okE 173) = true := okW_all (P := 181) (W := 21) (Nat.le_trans (by decide) okl_173) (by decide +kernel)
theorem okm_173 : c_173.all (okE 173) = true := all_start (all_chunk (k := 0) (c := 20) (m := 20) rfl okm_173_0 (all_chunk (k := 20) (c := 20) (m := 40) rfl okm_173_1 (all_chunk (k := 40) (c := 20) (m := 60) rfl okm_173_2 (all_chunk (k := 60) (c := 20) (m := 80) rfl okm_173_3 (all_chunk (k := 80) (c := 20) (m := 100) rfl okm_173_4 (all_chunk (k := 100) (c := 12) (m := 112) rfl okm_173_5 (all_end (by decide +kernel))))))))
theorem okl_174 : 102 ≤ (mBytes 174).data.toList.length := by decide +kernel
theorem okm_174_0 : ((c_174.drop 0).take 20).all (okE 174) = true := okW_all (P := 0) (W := 35) (Nat.le_trans (by decide) okl_174) (by decide +kernel)
theorem okm_174_1 : ((c_174.drop 20).take 20).all (okE 174) = true := okW_all (P := 35) (W := 33) (Nat.le_trans (by decide) okl_174) (by decide +kernel)
theorem okm_174_2 : ((c_174.drop 40).take 19).all (okE 174) = true := okW_all (P := 68) (W := 35) (Nat.le_trans (by decide) okl_174) (by decide +kernel)
theorem okm_174 : c_174.all (okE 174) = true := all_start (all_chunk (k := 0) (c := 20) (m := 20) rfl okm_174_0 (all_chunk (k := 20) (c := 20) (m := 40) rfl okm_174_1 (all_chunk (k := 40) (c := 19) (m := 59) rfl okm_174_2 (all_end (by decide +kernel)))))
theorem okm_175 : c_175.all (okE 175) = true := by decide +kernel
theorem okl_176 : 84 ≤ (mBytes 176).data.toList.length := by decide +kernel
theorem okm_176_0 : ((c_176.drop 0).take 20).all (okE 176) = true := okW_all (P := 0) (W := 31) (Nat.le_trans (by decide) okl_176) (by decide +kernel)
theorem okm_176_1 : ((c_176.drop 20).take 20).all (okE 176) = true := okW_all (P := 31) (W := 37) (Nat.le_trans (by decide) okl_176) (by decide +kernel)
theorem okm_176_2 : ((c_176.drop 40).take 11).all (okE 176) = true := okW_all (P := 68) (W := 17) (Nat.le_trans (by decide) okl_176) (by decide +kernel)
theorem okm_176 : c_176.all (okE 176) = true := all_start (all_chunk (k := 0) (c := 20) (m := 20) rfl okm_176_0 (all_chunk (k := 20) (c := 20) (m := 40) rfl okm_176_1 (all_chunk (k := 40) (c := 11) (m := 51) rfl okm_176_2 (all_end (by decide +kernel)))))
theorem okm_177 : c_177.all (okE 177) = true := by decide +kernel
theorem okm_178 : c_178.all (okE 178) = true := by decide +kernel
theorem okl_179 : 120 ≤ (mBytes 179).data.toList.length := by decide +kernel
theorem okm_179_0 : ((c_179.drop 0).take 20).all (okE 179) = true := okW_all (P := 0) (W := 36) (Nat.le_trans (by decide) okl_179) (by decide +kernel)
theorem okm_179_1 : ((c_179.drop 20).take 20).all (okE 179) = true := okW_all (P := 36) (W := 38) (Nat.le_trans (by decide) okl_179) (by decide +kernel)
theorem okm_179_2 : ((c_179.drop 40).take 20).all (okE 179) = true := okW_all (P := 74) (W := 37) (Nat.le_trans (by decide) okl_179) (by decide +kernel)
theorem okm_179_3 : ((c_179.drop 60).take 6).all (okE 179) = true := okW_all (P := 111) (W := 10) (Nat.le_trans (by decide) okl_179) (by decide +kernel)
theorem okm_179 : c_179.all (okE 179) = true := all_start (all_chunk (k := 0) (c := 20) (m := 20) rfl okm_179_0 (all_chunk (k := 20) (c := 20) (m := 40) rfl okm_179_1 (all_chunk (k := 40) (c := 20) (m := 60) rfl okm_179_2 (all_chunk (k := 60) (c := 6) (m := 66) rfl okm_179_3 (all_end (by decide +kernel))))))
theorem okl_180 : 81 ≤ (mBytes 180).data.toList.length := by decide +kernel
theorem okm_180_0 : ((c_180.drop 0).take 20).all (okE 180) = true := okW_all (P := 0) (W := 34) (Nat.le_trans (by decide) okl_180) (by decide +kernel)
theorem okm_180_1 : ((c_180.drop 20).take 20).all (okE 180) = true := okW_all (P := 34) (W := 36) (Nat.le_trans (by decide) okl_180) (by decide +kernel)
theorem okm_180_2 : ((c_180.drop 40).take 8).all (okE 180) = true := okW_all (P := 70) (W := 12) (Nat.le_trans (by decide) okl_180) (by decide +kernel)
theorem okm_180 : c_180.all (okE 180) = true := all_start (all_chunk (k := 0) (c := 20) (m := 20) rfl okm_180_0 (all_chunk (k := 20) (c := 20) (m := 40) rfl okm_180_1 (all_chunk (k := 40) (c := 8) (m := 48) rfl okm_180_2 (all_end (by decide +kernel)))))
theorem okl_181 : 64 ≤ (mBytes 181).data.toList.length := by decide +kernel
theorem okm_181_0 : ((c_181.drop 0).take 20).all (okE 181) = true := okW_all (P := 0) (W := 34) (Nat.le_trans (by decide) okl_181) (by decide +kernel)
theorem okm_181_1 : ((c_181.drop 20).take 18).all (okE 181) = true := okW_all (P := 34) (W := 31) (Nat.le_trans (by decide) okl_181) (by decide +kernel)
theorem okm_181 : c_181.all (okE 181) = true := all_start (all_chunk (k := 0) (c := 20) (m := 20) rfl okm_181_0 (all_chunk (k := 20) (c := 18) (m := 38) rfl okm_181_1 (all_end (by decide +kernel))))
theorem okl_182 : 52 ≤ (mBytes 182).data.toList.length := by decide +kernel
theorem okm_182_0 : ((c_182.drop 0).take 20).all (okE 182) = true := okW_all (P := 0) (W := 36) (Nat.le_trans (by decide) okl_182) (by decide +kernel)
theorem okm_182_1 : ((c_182.drop 20).take 9).all (okE 182) = true := okW_all (P := 36) (W := 17) (Nat.le_trans (by decide) okl_182) (by decide +kernel)
theorem okm_182 : c_182.all (okE 182) = true := all_start (all_chunk (k := 0) (c := 20) (m := 20) rfl okm_182_0 (all_chunk (k := 20) (c := 9) (m := 29) rfl okm_182_1 (all_end (by decide +kernel))))
theorem okl_183 : 114 ≤ (mBytes 183).data.toList.length := by decide +kernel
theorem okm_183_0 : ((c_183.drop 0).take 20).all (okE 183) = true := okW_all (P := 0) (W := 33) (Nat.le_trans (by decide) okl_183) (by decide +kernel)
theorem okm_183_1 : ((c_183.drop 20).take 20).all (okE 183) = true := okW_all (P := 33) (W := 32) (Nat.le_trans (by decide) okl_183) (by decide +kernel)
theorem okm_183_2 : ((c_183.drop 40).take 20).all (okE 183) = true := okW_all (P := 65) (W := 30) (Nat.le_trans (by decide) okl_183) (by decide +kernel)
theorem okm_183_3 : ((c_183.drop 60).take 11).all (okE 183) = true := okW_all (P := 95) (W := 20) (Nat.le_trans (by decide) okl_183) (by decide +kernel)
theorem okm_183 : c_183.all (okE 183) = true := all_start (all_chunk (k := 0) (c := 20) (m := 20) rfl okm_183_0 (all_chunk (k := 20) (c := 20) (m := 40) rfl okm_183_1 (all_chunk (k := 40) (c := 20) (m := 60) rfl okm_183_2 (all_chunk (k := 60) (c := 11) (m := 71) rfl okm_183_3 (all_end (by decide +kernel))))))
theorem okl_184 : 183 ≤ (mBytes 184).data.toList.length := by decide +kernel
theorem okm_184_0 : ((c_184.drop 0).take 20).all (okE 184) = true := okW_all (P := 0) (W := 38) (Nat.le_trans (by decide) okl_184) (by decide +kernel)
theorem okm_184_1 : ((c_184.drop 20).take 20).all (okE 184) = true := okW_all (P := 38) (W := 35) (Nat.le_trans (by decide) okl_184) (by decide +kernel)
theorem okm_184_2 : ((c_184.drop 40).take 20).all (okE 184) = true := okW_all (P := 73) (W := 30) (Nat.le_trans (by decide) okl_184) (by decide +kernel)
theorem okm_184_3 : ((c_184.drop 60).take 20).all (okE 184) = true := okW_all (P := 103) (W := 33) (Nat.le_trans (by decide) okl_184) (by decide +kernel)
theorem okm_184_4 : ((c_184.drop 80).take 20).all (okE 184) = true := okW_all (P := 136) (W := 35) (Nat.le_trans (by decide) okl_184) (by decide +kernel)
theorem okm_184_5 : ((c_184.drop 100).take 7).all (okE 184) = true := okW_all (P := 171) (W := 13) (Nat.le_trans (by decide) okl_184) (by decide +kernel)
theorem okm_184 : c_184.all (okE 184) = true := all_start (all_chunk (k := 0) (c := 20) (m := 20) rfl okm_184_0 (all_chunk (k := 20) (c := 20) (m := 40) rfl okm_184_1 (all_chunk (k := 40) (c := 20) (m := 60) rfl okm_184_2 (all_chunk (k := 60) (c := 20) (m := 80) rfl okm_184_3 (all_chunk (k := 80) (c := 20) (m := 100) rfl okm_184_4 (all_chunk (k := 100) (c := 7) (m := 107) rfl okm_184_5 (all_end (by decide +kernel))))))))
theorem okl_185 : 188 ≤ (mBytes 185).data.toList.length := by decide +kernel
theorem okm_185_0 : ((c_185.drop 0).take 20).all (okE 185) = true := okW_all (P := 0) (W := 39) (Nat.le_trans (by decide) okl_185) (by decide +kernel)
theorem okm_185_1 : ((c_185.drop 20).take 20).all (okE 185) = true := okW_all (P := 39) (W := 37) (Nat.le_trans (by decide) okl_185) (by decide +kernel)
theorem okm_185_2 : ((c_185.drop 40).take 20).all (okE 185) = true := okW_all (P := 76) (W := 30) (Nat.le_trans (by decide) okl_185) (by decide +kernel)
theorem okm_185_3 : ((c_185.drop 60).take 20).all (okE 185) = true := okW_all (P := 106) (W := 31) (Nat.le_trans (by decide) okl_185) (by decide +kernel)
theorem okm_185_4 : ((c_185.drop 80).take 20).all (okE 185) = true := okW_all (P := 137) (W := 35) (Nat.le_trans (by decide) okl_185) (by decide +kernel)
theorem okm_185_5 : ((c_185.drop 100).take 9).all (okE 185) = true := okW_all (P := 172) (W := 17) (Nat.le_trans (by decide) okl_185) (by decide +kernel)
theorem okm_185 : c_185.all (okE 185) = true := all_start (all_chunk (k := 0) (c := 20) (m := 20) rfl okm_185_0 (all_chunk (k := 20) (c := 20) (m := 40) rfl okm_185_1 (all_chunk (k := 40) (c := 20) (m := 60) rfl okm_185_2 (all_chunk (k := 60) (c := 20) (m := 80) rfl okm_185_3 (all_chunk (k := 80) (c := 20) (m := 100) rfl okm_185_4 (all_chunk (k := 100) (c := 9) (m := 109) rfl okm_185_5 (all_end (by decide +kernel))))))))
theorem okm_186 : c_186.all (okE 186) = true := by decide +kernel
theorem okm_187 : c_187.all (okE 187) = true := by decide +kernel
theorem okl_188 : 95 ≤ (mBytes 188).data.toList.length := by decide +kernel
theorem okm_188_0 : ((c_188.drop 0).take 20).all (okE 188) = true := okW_all (P := 0) (W := 63) (Nat.le_trans (by decide) okl_188) (by decide +kernel)
theorem okm_188_1 : ((c_188.drop 20).take 20).all (okE 188) = true := okW_all (P := 63) (W := 29) (Nat.le_trans (by decide) okl_188) (by decide +kernel)
theorem okm_188_2 : ((c_188.drop 40).take 2).all (okE 188) = true := okW_all (P := 92) (W := 4) (Nat.le_trans (by decide) okl_188) (by decide +kernel)
theorem okm_188 : c_188.all (okE 188) = true := all_start (all_chunk (k := 0) (c := 20) (m := 20) rfl okm_188_0 (all_chunk (k := 20) (c := 20) (m := 40) rfl okm_188_1 (all_chunk (k := 40) (c := 2) (m := 42) rfl okm_188_2 (all_end (by decide +kernel)))))
theorem okm_189 : c_189.all (okE 189) = true := by decide +kernel
theorem okm_190 : c_190.all (okE 190) = true := by decide +kernel
theorem okl_191 : 90 ≤ (mBytes 191).data.toList.length := by decide +kernel
theorem okm_191_0 : ((c_191.drop 0).take 20).all (okE 191) = true := okW_all (P := 0) (W := 62) (Nat.le_trans (by decide) okl_191) (by decide +kernel)
theorem okm_191_1 : ((c_191.drop 20).take 20).all (okE 191) = true := okW_all (P := 62) (W := 29) (Nat.le_trans (by decide) okl_191) (by decide +kernel)
theorem okm_191 : c_191.all (okE 191) = true := all_start (all_chunk (k := 0) (c := 20) (m := 20) rfl okm_191_0 (all_chunk (k := 20) (c := 20) (m := 40) rfl okm_191_1 (all_end (by decide +kernel))))
theorem okm_192 : c_192.all (okE 192) = true := by decide +kernel
theorem okl_193 : 79 ≤ (mBytes 193).data.toList.length := by decide +kernel
theorem okm_193_0 : ((c_193.drop 0).take 20).all (okE 193) = true := okW_all (P := 0) (W := 58) (Nat.le_trans (by decide) okl_193) (by decide +kernel)
theorem okm_193_1 : ((c_193.drop 20).take 15).all (okE 193) = true := okW_all (P := 58) (W := 22) (Nat.le_trans (by decide) okl_193) (by decide +kernel)
theorem okm_193 : c_193.all (okE 193) = true := all_start (all_chunk (k := 0) (c := 20) (m := 20) rfl okm_193_0 (all_chunk (k := 20) (c := 15) (m := 35) rfl okm_193_1 (all_end (by decide +kernel))))
theorem okl_194 : 58 ≤ (mBytes 194).data.toList.length := by decide +kernel
theorem okm_194_0 : ((c_194.drop 0).take 20).all (okE 194) = true := okW_all (P := 0) (W := 32) (Nat.le_trans (by decide) okl_194) (by decide +kernel)
theorem okm_194_1 : ((c_194.drop 20).take 15).all (okE 194) = true := okW_all (P := 32) (W := 27) (Nat.le_trans (by decide) okl_194) (by decide +kernel)
theorem okm_194 : c_194.all (okE 194) = true := all_start (all_chunk (k := 0) (c := 20) (m := 20) rfl okm_194_0 (all_chunk (k := 20) (c := 15) (m := 35) rfl okm_194_1 (all_end (by decide +kernel))))
theorem okm_195 : c_195.all (okE 195) = true := by decide +kernel
theorem okl_196 : 78 ≤ (mBytes 196).data.toList.length := by decide +kernel
theorem okm_196_0 : ((c_196.drop 0).take 20).all (okE 196) = true := okW_all (P := 0) (W := 33) (Nat.le_trans (by decide) okl_196) (by decide +kernel)
theorem okm_196_1 : ((c_196.drop 20).take 20).all (okE 196) = true := okW_all (P := 33) (W := 34) (Nat.le_trans (by decide) okl_196) (by decide +kernel)
theorem okm_196_2 : ((c_196.drop 40).take 6).all (okE 196) = true := okW_all (P := 67) (W := 12) (Nat.le_trans (by decide) okl_196) (by decide +kernel)
theorem okm_196 : c_196.all (okE 196) = true := all_start (all_chunk (k := 0) (c := 20) (m := 20) rfl okm_196_0 (all_chunk (k := 20) (c := 20) (m := 40) rfl okm_196_1 (all_chunk (k := 40) (c := 6) (m := 46) rfl okm_196_2 (all_end (by decide +kernel)))))
theorem okm_197 : c_197.all (okE 197) = true := by decide +kernel
theorem okm_198 : c_198.all (okE 198) = true := by decide +kernel
theorem okl_199 : 96 ≤ (mBytes 199).data.toList.length := by decide +kernel
theorem okm_199_0 : ((c_199.drop 0).take 20).all (okE 199) = true := okW_all (P := 0) (W := 34) (Nat.le_trans (by decide) okl_199) (by decide +kernel)
theorem okm_199_1 : ((c_199.drop 20).take 20).all (okE 199) = true := okW_all (P := 34) (W := 33) (Nat.le_trans (by decide) okl_199) (by decide +kernel)
theorem okm_199_2 : ((c_199.drop 40).take 17).all (okE 199) = true := okW_all (P := 67) (W := 30) (Nat.le_trans (by decide) okl_199) (by decide +kernel)
theorem okm_199 : c_199.all (okE 199) = true := all_start (all_chunk (k := 0) (c := 20) (m := 20) rfl okm_199_0 (all_chunk (k := 20) (c := 20) (m := 40) rfl okm_199_1 (all_chunk (k := 40) (c := 17) (m := 57) rfl okm_199_2 (all_end (by decide +kernel)))))
theorem okl_200 : 54 ≤ (mBytes 200).data.toList.length := by decide +kernel
theorem okm_200_0 : ((c_200.drop 0).take 20).all (okE 200) = true := okW_all (P := 0) (W := 30) (Nat.le_trans (by decide) okl_200) (by decide +kernel)
theorem okm_200_1 : ((c_200.drop 20).take 15).all (okE 200) = true := okW_all (P := 30) (W := 25) (Nat.le_trans (by decide) okl_200) (by decide +kernel)
theorem okm_200 : c_200.all (okE 200) = true := all_start (all_chunk (k := 0) (c := 20) (m := 20) rfl okm_200_0 (all_chunk (k := 20) (c := 15) (m := 35) rfl okm_200_1 (all_end (by decide +kernel))))
theorem okl_201 : 65 ≤ (mBytes 201).data.toList.length := by decide +kernel
theorem okm_201_0 : ((c_201.drop 0).take 20).all (okE 201) = true := okW_all (P := 0) (W := 31) (Nat.le_trans (by decide) okl_201) (by decide +kernel)
theorem okm_201_1 : ((c_201.drop 20).take 20).all (okE 201) = true := okW_all (P := 31) (W := 32) (Nat.le_trans (by decide) okl_201) (by decide +kernel)
theorem okm_201_2 : ((c_201.drop 40).take 3).all (okE 201) = true := okW_all (P := 63) (W := 3) (Nat.le_trans (by decide) okl_201) (by decide +kernel)
theorem okm_201 : c_201.all (okE 201) = true := all_start (all_chunk (k := 0) (c := 20) (m := 20) rfl okm_201_0 (all_chunk (k := 20) (c := 20) (m := 40) rfl okm_201_1 (all_chunk (k := 40) (c := 3) (m := 43) rfl okm_201_2 (all_end (by decide +kernel)))))
theorem okl_202 : 51 ≤ (mBytes 202).data.toList.length := by decide +kernel
theorem okm_202_0 : ((c_202.drop 0).take 20).all (okE 202) = true := okW_all (P := 0) (W := 34) (Nat.le_trans (by decide) okl_202) (by decide +kernel)
theorem okm_202_1 : ((c_202.drop 20).take 11).all (okE 202) = true := okW_all (P := 34) (W := 18) (Nat.le_trans (by decide) okl_202) (by decide +kernel)
theorem okm_202 : c_202.all (okE 202) = true := all_start (all_chunk (k := 0) (c := 20) (m := 20) rfl okm_202_0 (all_chunk (k := 20) (c := 11) (m := 31) rfl okm_202_1 (all_end (by decide +kernel))))
theorem okl_203 : 178 ≤ (mBytes 203).data.toList.length := by decide +kernel
theorem okm_203_0 : ((c_203.drop 0).take 20).all (okE 203) = true := okW_all (P := 0) (W := 36) (Nat.le_trans (by decide) okl_203) (by decide +kernel)
theorem okm_203_1 : ((c_203.drop 20).take 20).all (okE 203) = true := okW_all (P := 36) (W := 36) (Nat.le_trans (by decide) okl_203) (by decide +kernel)
theorem okm_203_2 : ((c_203.drop 40).take 20).all (okE 203) = true := okW_all (P := 72) (W := 34) (Nat.le_trans (by decide) okl_203) (by decide +kernel)
theorem okm_203_3 : ((c_203.drop 60).take 20).all (okE 203) = true := okW_all (P := 106) (W := 35) (Nat.le_trans (by decide) okl_203) (by decide +kernel)
theorem okm_203_4 : ((c_203.drop 80).take 20).all (okE 203) = true := okW_all (P := 141) (W := 37) (Nat.le_trans (by decide) okl_203) (by decide +kernel)
theorem okm_203_5 : ((c_203.drop 100).take 1).all (okE 203) = true := okW_all (P := 178) (W := 1) (Nat.le_trans (by decide) okl_203) (by decide +kernel)
theorem okm_203 : c_203.all (okE 203) = true := all_start (all_chunk (k := 0) (c := 20) (m := 20) rfl okm_203_0 (all_chunk (k := 20) (c := 20) (m := 40) rfl okm_203_1 (all_chunk (k := 40) (c := 20) (m := 60) rfl okm_203_2 (all_chunk (k := 60) (c := 20) (m := 80) rfl okm_203_3 (all_chunk (k := 80) (c := 20) (m := 100) rfl okm_203_4 (all_chunk (k := 100) (c := 1) (m := 101) rfl okm_203_5 (all_end (by decide +kernel))))))))
theorem okl_204 : 52 ≤ (mBytes 204).data.toList.length := by decide +kernel
theorem okm_204_0 : ((c_204.drop 0).take 20).all (okE 204) = true := okW_all (P := 0) (W := 26) (Nat.le_trans (by decide) okl_204) (by decide +kernel)
theorem okm_204_1 : ((c_204.drop 20).take 20).all (okE 204) = true := okW_all (P := 26) (W := 25) (Nat.le_trans (by decide) okl_204) (by decide +kernel)
theorem okm_204_2 : ((c_204.drop 40).take 2).all (okE 204) = true := okW_all (P := 51) (W := 2) (Nat.le_trans (by decide) okl_204) (by decide +kernel)
theorem okm_204 : c_204.all (okE 204) = true := all_start (all_chunk (k := 0) (c := 20) (m := 20) rfl okm_204_0 (all_chunk (k := 20) (c := 20) (m := 40) rfl okm_204_1 (all_chunk (k := 40) (c := 2) (m := 42) rfl okm_204_2 (all_end (by decide +kernel)))))
theorem okm_205 : c_205.all (okE 205) = true := by decide +kernel
theorem okm_206 : c_206.all (okE 206) = true := by decide +kernel
theorem okm_207 : c_207.all (okE 207) = true := by decide +kernel
theorem okm_208 : c_208.all (okE 208) = true := by decide +kernel
theorem okm_209 : c_209.all (okE 209) = true := by decide +kernel
theorem okm_210 : c_210.all (okE 210) = true := by decide +kernel
theorem okm_211 : c_211.all (okE 211) = true := by decide +kernel
theorem okm_212 : c_212.all (okE 212) = true := by decide +kernel
theorem okm_213 : c_213.all (okE 213) = true := by decide +kernel
theorem okm_214 : c_214.all (okE 214) = true := by decide +kernel
theorem okm_215 : c_215.all (okE 215) = true := by decide +kernel
theorem okm_216 : c_216.all (okE 216) = true := by decide +kernel
theorem okm_217 : c_217.all (okE 217) = true := by decide +kernel
theorem okl_218 : 36 ≤ (mBytes 218).data.toList.length := by decide +kernel
theorem okm_218_0 : ((c_218.drop 0).take 20).all (okE 218) = true := okW_all (P := 0) (W := 30) (Nat.le_trans (by decide) okl_218) (by decide +kernel)
theorem okm_218_1 : ((c_218.drop 20).take 5).all (okE 218) = true := okW_all (P := 30) (W := 7) (Nat.le_trans (by decide) okl_218) (by decide +kernel)
theorem okm_218 : c_218.all (okE 218) = true := all_start (all_chunk (k := 0) (c := 20) (m := 20) rfl okm_218_0 (all_chunk (k := 20) (c := 5) (m := 25) rfl okm_218_1 (all_end (by decide +kernel))))
theorem okm_219 : c_219.all (okE 219) = true := by decide +kernel
theorem okm_220 : c_220.all (okE 220) = true := by decide +kernel
theorem okm_221 : c_221.all (okE 221) = true := by decide +kernel
theorem okm_222 : c_222.all (okE 222) = true := by decide +kernel
