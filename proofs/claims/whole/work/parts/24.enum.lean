/-! ===== all permutations of at most seven points, counted out ===== -/
theorem ck1_0 : ckR 1 1 0 = true := by decide +kernel
theorem ck2_0 : ckR 2 2 0 = true := by decide +kernel
theorem ck3_0 : ckR 3 6 0 = true := by decide +kernel
theorem ck4_0 : ckR 4 24 0 = true := by decide +kernel
theorem ck5_0 : ckR 5 120 0 = true := by decide +kernel
theorem ck6_0 : ckR 6 120 0 = true := by decide +kernel
theorem ck6_1 : ckR 6 120 120 = true := by decide +kernel
theorem ck6_2 : ckR 6 120 240 = true := by decide +kernel
theorem ck6_3 : ckR 6 120 360 = true := by decide +kernel
theorem ck6_4 : ckR 6 120 480 = true := by decide +kernel
theorem ck6_5 : ckR 6 120 600 = true := by decide +kernel
theorem ck7_0 : ckR 7 120 0 = true := by decide +kernel
theorem ck7_1 : ckR 7 120 120 = true := by decide +kernel
theorem ck7_2 : ckR 7 120 240 = true := by decide +kernel
theorem ck7_3 : ckR 7 120 360 = true := by decide +kernel
theorem ck7_4 : ckR 7 120 480 = true := by decide +kernel
theorem ck7_5 : ckR 7 120 600 = true := by decide +kernel
theorem ck7_6 : ckR 7 120 720 = true := by decide +kernel
theorem ck7_7 : ckR 7 120 840 = true := by decide +kernel
theorem ck7_8 : ckR 7 120 960 = true := by decide +kernel
theorem ck7_9 : ckR 7 120 1080 = true := by decide +kernel
theorem ck7_10 : ckR 7 120 1200 = true := by decide +kernel
theorem ck7_11 : ckR 7 120 1320 = true := by decide +kernel
theorem ck7_12 : ckR 7 120 1440 = true := by decide +kernel
theorem ck7_13 : ckR 7 120 1560 = true := by decide +kernel
theorem ck7_14 : ckR 7 120 1680 = true := by decide +kernel
theorem ck7_15 : ckR 7 120 1800 = true := by decide +kernel
theorem ck7_16 : ckR 7 120 1920 = true := by decide +kernel
theorem ck7_17 : ckR 7 120 2040 = true := by decide +kernel
theorem ck7_18 : ckR 7 120 2160 = true := by decide +kernel
theorem ck7_19 : ckR 7 120 2280 = true := by decide +kernel
theorem ck7_20 : ckR 7 120 2400 = true := by decide +kernel
theorem ck7_21 : ckR 7 120 2520 = true := by decide +kernel
theorem ck7_22 : ckR 7 120 2640 = true := by decide +kernel
theorem ck7_23 : ckR 7 120 2760 = true := by decide +kernel
theorem ck7_24 : ckR 7 120 2880 = true := by decide +kernel
theorem ck7_25 : ckR 7 120 3000 = true := by decide +kernel
theorem ck7_26 : ckR 7 120 3120 = true := by decide +kernel
theorem ck7_27 : ckR 7 120 3240 = true := by decide +kernel
theorem ck7_28 : ckR 7 120 3360 = true := by decide +kernel
theorem ck7_29 : ckR 7 120 3480 = true := by decide +kernel
theorem ck7_30 : ckR 7 120 3600 = true := by decide +kernel
theorem ck7_31 : ckR 7 120 3720 = true := by decide +kernel
theorem ck7_32 : ckR 7 120 3840 = true := by decide +kernel
theorem ck7_33 : ckR 7 120 3960 = true := by decide +kernel
theorem ck7_34 : ckR 7 120 4080 = true := by decide +kernel
theorem ck7_35 : ckR 7 120 4200 = true := by decide +kernel
theorem ck7_36 : ckR 7 120 4320 = true := by decide +kernel
theorem ck7_37 : ckR 7 120 4440 = true := by decide +kernel
theorem ck7_38 : ckR 7 120 4560 = true := by decide +kernel
theorem ck7_39 : ckR 7 120 4680 = true := by decide +kernel
theorem ck7_40 : ckR 7 120 4800 = true := by decide +kernel
theorem ck7_41 : ckR 7 120 4920 = true := by decide +kernel
theorem tr1 : tr 1 (tC 1) 1 0 0 0 = true := by decide +kernel
theorem tr2 : tr 2 (tC 2) 2 0 0 0 = true := by decide +kernel
theorem tr3 : tr 3 (tC 3) 3 0 0 0 = true := by decide +kernel
theorem tr4 : tr 4 (tC 4) 4 0 0 0 = true := by decide +kernel
theorem tr5 : tr 5 (tC 5) 5 0 0 0 = true := by decide +kernel
theorem tr6 : tr 6 (tC 6) 6 0 0 0 = true := by decide +kernel
theorem tr7_0_1 : tr 7 (tC 7) 5 2 8 3 = true := by decide +kernel
theorem tr7_0_2 : tr 7 (tC 7) 5 2 16 5 = true := by decide +kernel
theorem tr7_0_3 : tr 7 (tC 7) 5 2 24 9 = true := by decide +kernel
theorem tr7_0_4 : tr 7 (tC 7) 5 2 32 17 = true := by decide +kernel
theorem tr7_0_5 : tr 7 (tC 7) 5 2 40 33 = true := by decide +kernel
theorem tr7_0_6 : tr 7 (tC 7) 5 2 48 65 = true := by decide +kernel
theorem tr7_1_0 : tr 7 (tC 7) 5 2 1 3 = true := by decide +kernel
theorem tr7_1_2 : tr 7 (tC 7) 5 2 17 6 = true := by decide +kernel
theorem tr7_1_3 : tr 7 (tC 7) 5 2 25 10 = true := by decide +kernel
theorem tr7_1_4 : tr 7 (tC 7) 5 2 33 18 = true := by decide +kernel
theorem tr7_1_5 : tr 7 (tC 7) 5 2 41 34 = true := by decide +kernel
theorem tr7_1_6 : tr 7 (tC 7) 5 2 49 66 = true := by decide +kernel
theorem tr7_2_0 : tr 7 (tC 7) 5 2 2 5 = true := by decide +kernel
theorem tr7_2_1 : tr 7 (tC 7) 5 2 10 6 = true := by decide +kernel
theorem tr7_2_3 : tr 7 (tC 7) 5 2 26 12 = true := by decide +kernel
theorem tr7_2_4 : tr 7 (tC 7) 5 2 34 20 = true := by decide +kernel
theorem tr7_2_5 : tr 7 (tC 7) 5 2 42 36 = true := by decide +kernel
theorem tr7_2_6 : tr 7 (tC 7) 5 2 50 68 = true := by decide +kernel
theorem tr7_3_0 : tr 7 (tC 7) 5 2 3 9 = true := by decide +kernel
theorem tr7_3_1 : tr 7 (tC 7) 5 2 11 10 = true := by decide +kernel
theorem tr7_3_2 : tr 7 (tC 7) 5 2 19 12 = true := by decide +kernel
theorem tr7_3_4 : tr 7 (tC 7) 5 2 35 24 = true := by decide +kernel
theorem tr7_3_5 : tr 7 (tC 7) 5 2 43 40 = true := by decide +kernel
theorem tr7_3_6 : tr 7 (tC 7) 5 2 51 72 = true := by decide +kernel
theorem tr7_4_0 : tr 7 (tC 7) 5 2 4 17 = true := by decide +kernel
theorem tr7_4_1 : tr 7 (tC 7) 5 2 12 18 = true := by decide +kernel
theorem tr7_4_2 : tr 7 (tC 7) 5 2 20 20 = true := by decide +kernel
theorem tr7_4_3 : tr 7 (tC 7) 5 2 28 24 = true := by decide +kernel
theorem tr7_4_5 : tr 7 (tC 7) 5 2 44 48 = true := by decide +kernel
theorem tr7_4_6 : tr 7 (tC 7) 5 2 52 80 = true := by decide +kernel
theorem tr7_5_0 : tr 7 (tC 7) 5 2 5 33 = true := by decide +kernel
theorem tr7_5_1 : tr 7 (tC 7) 5 2 13 34 = true := by decide +kernel
theorem tr7_5_2 : tr 7 (tC 7) 5 2 21 36 = true := by decide +kernel
theorem tr7_5_3 : tr 7 (tC 7) 5 2 29 40 = true := by decide +kernel
theorem tr7_5_4 : tr 7 (tC 7) 5 2 37 48 = true := by decide +kernel
theorem tr7_5_6 : tr 7 (tC 7) 5 2 53 96 = true := by decide +kernel
theorem tr7_6_0 : tr 7 (tC 7) 5 2 6 65 = true := by decide +kernel
theorem tr7_6_1 : tr 7 (tC 7) 5 2 14 66 = true := by decide +kernel
theorem tr7_6_2 : tr 7 (tC 7) 5 2 22 68 = true := by decide +kernel
theorem tr7_6_3 : tr 7 (tC 7) 5 2 30 72 = true := by decide +kernel
theorem tr7_6_4 : tr 7 (tC 7) 5 2 38 80 = true := by decide +kernel
theorem tr7_6_5 : tr 7 (tC 7) 5 2 46 96 = true := by decide +kernel
