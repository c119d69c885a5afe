theorem dX1_init_0 : decode cX1_init 0 = .ok (.aload_n 0, 1) := by decide +kernel
theorem dX1_init_1 : decode cX1_init 1 = .ok (.invokespecial 1, 3) := by decide +kernel
theorem dX1_init_4 : decode cX1_init 4 = .ok (.aload_n 0, 1) := by decide +kernel
theorem dX1_init_5 : decode cX1_init 5 = .ok (.bipush 8, 2) := by decide +kernel
theorem dX1_init_7 : decode cX1_init 7 = .ok (.newarray .int, 2) := by decide +kernel
theorem dX1_init_9 : decode cX1_init 9 = .ok (.dup, 1) := by decide +kernel
theorem dX1_init_10 : decode cX1_init 10 = .ok (.iconst 0, 1) := by decide +kernel
theorem dX1_init_11 : decode cX1_init 11 = .ok (.iconst 1, 1) := by decide +kernel
theorem dX1_init_12 : decode cX1_init 12 = .ok (.iastore, 1) := by decide +kernel
theorem dX1_init_13 : decode cX1_init 13 = .ok (.dup, 1) := by decide +kernel
theorem dX1_init_14 : decode cX1_init 14 = .ok (.iconst 1, 1) := by decide +kernel
theorem dX1_init_15 : decode cX1_init 15 = .ok (.iconst 1, 1) := by decide +kernel
theorem dX1_init_16 : decode cX1_init 16 = .ok (.iastore, 1) := by decide +kernel
theorem dX1_init_17 : decode cX1_init 17 = .ok (.dup, 1) := by decide +kernel
theorem dX1_init_18 : decode cX1_init 18 = .ok (.iconst 2, 1) := by decide +kernel
theorem dX1_init_19 : decode cX1_init 19 = .ok (.iconst 2, 1) := by decide +kernel
theorem dX1_init_20 : decode cX1_init 20 = .ok (.iastore, 1) := by decide +kernel
theorem dX1_init_21 : decode cX1_init 21 = .ok (.dup, 1) := by decide +kernel
theorem dX1_init_22 : decode cX1_init 22 = .ok (.iconst 3, 1) := by decide +kernel
theorem dX1_init_23 : decode cX1_init 23 = .ok (.bipush 6, 2) := by decide +kernel
theorem dX1_init_25 : decode cX1_init 25 = .ok (.iastore, 1) := by decide +kernel
theorem dX1_init_26 : decode cX1_init 26 = .ok (.dup, 1) := by decide +kernel
theorem dX1_init_27 : decode cX1_init 27 = .ok (.iconst 4, 1) := by decide +kernel
theorem dX1_init_28 : decode cX1_init 28 = .ok (.bipush 24, 2) := by decide +kernel
theorem dX1_init_30 : decode cX1_init 30 = .ok (.iastore, 1) := by decide +kernel
theorem dX1_init_31 : decode cX1_init 31 = .ok (.dup, 1) := by decide +kernel
theorem dX1_init_32 : decode cX1_init 32 = .ok (.iconst 5, 1) := by decide +kernel
theorem dX1_init_33 : decode cX1_init 33 = .ok (.bipush 120, 2) := by decide +kernel
theorem dX1_init_35 : decode cX1_init 35 = .ok (.iastore, 1) := by decide +kernel
theorem dX1_init_36 : decode cX1_init 36 = .ok (.dup, 1) := by decide +kernel
theorem dX1_init_37 : decode cX1_init 37 = .ok (.bipush 6, 2) := by decide +kernel
theorem dX1_init_39 : decode cX1_init 39 = .ok (.sipush 720, 3) := by decide +kernel
theorem dX1_init_42 : decode cX1_init 42 = .ok (.iastore, 1) := by decide +kernel
theorem dX1_init_43 : decode cX1_init 43 = .ok (.dup, 1) := by decide +kernel
theorem dX1_init_44 : decode cX1_init 44 = .ok (.bipush 7, 2) := by decide +kernel
theorem dX1_init_46 : decode cX1_init 46 = .ok (.sipush 5040, 3) := by decide +kernel
theorem dX1_init_49 : decode cX1_init 49 = .ok (.iastore, 1) := by decide +kernel
theorem dX1_init_50 : decode cX1_init 50 = .ok (.putfield 7, 3) := by decide +kernel
theorem dX1_init_53 : decode cX1_init 53 = .ok (.aload_n 0, 1) := by decide +kernel
theorem dX1_init_54 : decode cX1_init 54 = .ok (.bipush 12, 2) := by decide +kernel
theorem dX1_init_56 : decode cX1_init 56 = .ok (.newarray .int, 2) := by decide +kernel
theorem dX1_init_58 : decode cX1_init 58 = .ok (.putfield 13, 3) := by decide +kernel
theorem dX1_init_61 : decode cX1_init 61 = .ok (.aload_n 0, 1) := by decide +kernel
theorem dX1_init_62 : decode cX1_init 62 = .ok (.sipush 5040, 3) := by decide +kernel
theorem dX1_init_65 : decode cX1_init 65 = .ok (.newarray .boolean, 2) := by decide +kernel
theorem dX1_init_67 : decode cX1_init 67 = .ok (.putfield 16, 3) := by decide +kernel
theorem dX1_init_70 : decode cX1_init 70 = .ok (.aload_n 0, 1) := by decide +kernel
theorem dX1_init_71 : decode cX1_init 71 = .ok (.sipush 5040, 3) := by decide +kernel
theorem dX1_init_74 : decode cX1_init 74 = .ok (.newarray .int, 2) := by decide +kernel
theorem dX1_init_76 : decode cX1_init 76 = .ok (.putfield 20, 3) := by decide +kernel
theorem dX1_init_79 : decode cX1_init 79 = .ok (.aload_n 0, 1) := by decide +kernel
theorem dX1_init_80 : decode cX1_init 80 = .ok (.iconst 5, 1) := by decide +kernel
theorem dX1_init_81 : decode cX1_init 81 = .ok (.putfield 23, 3) := by decide +kernel
theorem dX1_init_84 : decode cX1_init 84 = .ok (.return_, 1) := by decide +kernel
theorem dX1_image_0 : decode cX1_image 0 = .ok (.iload_n 0, 1) := by decide +kernel
theorem dX1_image_1 : decode cX1_image 1 = .ok (.iconst 3, 1) := by decide +kernel
theorem dX1_image_2 : decode cX1_image 2 = .ok (.iload_n 1, 1) := by decide +kernel
theorem dX1_image_3 : decode cX1_image 3 = .ok (.imul, 1) := by decide +kernel
theorem dX1_image_4 : decode cX1_image 4 = .ok (.ishr, 1) := by decide +kernel
theorem dX1_image_5 : decode cX1_image 5 = .ok (.bipush 7, 2) := by decide +kernel
theorem dX1_image_7 : decode cX1_image 7 = .ok (.iand, 1) := by decide +kernel
theorem dX1_image_8 : decode cX1_image 8 = .ok (.ireturn, 1) := by decide +kernel
set_option maxRecDepth 20000 in
theorem ggX1_isPermutation_X1_image : GoodIn wsX1_isPermutation wsX1_image := goodIn_r _ [5] (by decide +kernel) (by decide +kernel)
set_option maxRecDepth 20000 in
theorem gX1_isPermutation_X1_image : GoodIn wsX1_isPermutation (va_wsS RX1 27 yX1_image wsX1_image) := goodIn_app (goodIn_of _ (by decide +kernel)) ggX1_isPermutation_X1_image
theorem dX1_isPermutation_0 : decode cX1_isPermutation 0 = .ok (.iload_n 1, 1) := by decide +kernel
theorem dX1_isPermutation_1 : decode cX1_isPermutation 1 = .ok (.ifCond .lt 14, 3) := by decide +kernel
theorem dX1_isPermutation_4 : decode cX1_isPermutation 4 = .ok (.iload_n 1, 1) := by decide +kernel
theorem dX1_isPermutation_5 : decode cX1_isPermutation 5 = .ok (.iconst 3, 1) := by decide +kernel
theorem dX1_isPermutation_6 : decode cX1_isPermutation 6 = .ok (.aload_n 0, 1) := by decide +kernel
theorem dX1_isPermutation_7 : decode cX1_isPermutation 7 = .ok (.getfield 23, 3) := by decide +kernel
theorem dX1_isPermutation_10 : decode cX1_isPermutation 10 = .ok (.imul, 1) := by decide +kernel
theorem dX1_isPermutation_11 : decode cX1_isPermutation 11 = .ok (.ishr, 1) := by decide +kernel
theorem dX1_isPermutation_12 : decode cX1_isPermutation 12 = .ok (.ifCond .eq 5, 3) := by decide +kernel
theorem dX1_isPermutation_15 : decode cX1_isPermutation 15 = .ok (.iconst 0, 1) := by decide +kernel
theorem dX1_isPermutation_16 : decode cX1_isPermutation 16 = .ok (.ireturn, 1) := by decide +kernel
theorem dX1_isPermutation_17 : decode cX1_isPermutation 17 = .ok (.iconst 0, 1) := by decide +kernel
theorem dX1_isPermutation_18 : decode cX1_isPermutation 18 = .ok (.istore_n 2, 1) := by decide +kernel
theorem dX1_isPermutation_19 : decode cX1_isPermutation 19 = .ok (.iconst 0, 1) := by decide +kernel
theorem dX1_isPermutation_20 : decode cX1_isPermutation 20 = .ok (.istore_n 3, 1) := by decide +kernel
theorem dX1_isPermutation_21 : decode cX1_isPermutation 21 = .ok (.iload_n 3, 1) := by decide +kernel
theorem dX1_isPermutation_22 : decode cX1_isPermutation 22 = .ok (.aload_n 0, 1) := by decide +kernel
theorem dX1_isPermutation_23 : decode cX1_isPermutation 23 = .ok (.getfield 23, 3) := by decide +kernel
theorem dX1_isPermutation_26 : decode cX1_isPermutation 26 = .ok (.if_icmp .ge 19, 3) := by decide +kernel
theorem dX1_isPermutation_29 : decode cX1_isPermutation 29 = .ok (.iload_n 2, 1) := by decide +kernel
theorem dX1_isPermutation_30 : decode cX1_isPermutation 30 = .ok (.iconst 1, 1) := by decide +kernel
theorem dX1_isPermutation_31 : decode cX1_isPermutation 31 = .ok (.iload_n 1, 1) := by decide +kernel
theorem dX1_isPermutation_32 : decode cX1_isPermutation 32 = .ok (.iload_n 3, 1) := by decide +kernel
theorem dX1_isPermutation_33 : decode cX1_isPermutation 33 = .ok (.invokestatic 27, 3) := by decide +kernel
theorem dX1_isPermutation_36 : decode cX1_isPermutation 36 = .ok (.ishl, 1) := by decide +kernel
theorem dX1_isPermutation_37 : decode cX1_isPermutation 37 = .ok (.ior, 1) := by decide +kernel
theorem dX1_isPermutation_38 : decode cX1_isPermutation 38 = .ok (.istore_n 2, 1) := by decide +kernel
theorem dX1_isPermutation_39 : decode cX1_isPermutation 39 = .ok (.iinc 3 1, 3) := by decide +kernel
theorem dX1_isPermutation_42 : decode cX1_isPermutation 42 = .ok (.goto (-21), 3) := by decide +kernel
theorem dX1_isPermutation_45 : decode cX1_isPermutation 45 = .ok (.iload_n 2, 1) := by decide +kernel
theorem dX1_isPermutation_46 : decode cX1_isPermutation 46 = .ok (.iconst 1, 1) := by decide +kernel
theorem dX1_isPermutation_47 : decode cX1_isPermutation 47 = .ok (.aload_n 0, 1) := by decide +kernel
theorem dX1_isPermutation_48 : decode cX1_isPermutation 48 = .ok (.getfield 23, 3) := by decide +kernel
theorem dX1_isPermutation_51 : decode cX1_isPermutation 51 = .ok (.ishl, 1) := by decide +kernel
theorem dX1_isPermutation_52 : decode cX1_isPermutation 52 = .ok (.iconst 1, 1) := by decide +kernel
theorem dX1_isPermutation_53 : decode cX1_isPermutation 53 = .ok (.isub, 1) := by decide +kernel
theorem dX1_isPermutation_54 : decode cX1_isPermutation 54 = .ok (.if_icmp .ne 7, 3) := by decide +kernel
theorem dX1_isPermutation_57 : decode cX1_isPermutation 57 = .ok (.iconst 1, 1) := by decide +kernel
theorem dX1_isPermutation_58 : decode cX1_isPermutation 58 = .ok (.goto 4, 3) := by decide +kernel
theorem dX1_isPermutation_61 : decode cX1_isPermutation 61 = .ok (.iconst 0, 1) := by decide +kernel
theorem dX1_isPermutation_62 : decode cX1_isPermutation 62 = .ok (.ireturn, 1) := by decide +kernel
set_option maxRecDepth 20000 in
theorem ggX1_times_X1_image : GoodIn wsX1_times wsX1_image := goodIn_r _ [5] (by decide +kernel) (by decide +kernel)
set_option maxRecDepth 20000 in
theorem gX1_times_X1_image : GoodIn wsX1_times (va_wsS RX1 27 yX1_image wsX1_image) := goodIn_app (goodIn_of _ (by decide +kernel)) ggX1_times_X1_image
theorem dX1_times_0 : decode cX1_times 0 = .ok (.iconst 0, 1) := by decide +kernel
theorem dX1_times_1 : decode cX1_times 1 = .ok (.istore_n 3, 1) := by decide +kernel
theorem dX1_times_2 : decode cX1_times 2 = .ok (.iconst 0, 1) := by decide +kernel
theorem dX1_times_3 : decode cX1_times 3 = .ok (.istore 4, 2) := by decide +kernel
theorem dX1_times_5 : decode cX1_times 5 = .ok (.iload 4, 2) := by decide +kernel
theorem dX1_times_7 : decode cX1_times 7 = .ok (.aload_n 0, 1) := by decide +kernel
theorem dX1_times_8 : decode cX1_times 8 = .ok (.getfield 23, 3) := by decide +kernel
theorem dX1_times_11 : decode cX1_times 11 = .ok (.if_icmp .ge 27, 3) := by decide +kernel
theorem dX1_times_14 : decode cX1_times 14 = .ok (.iload_n 3, 1) := by decide +kernel
theorem dX1_times_15 : decode cX1_times 15 = .ok (.iload_n 2, 1) := by decide +kernel
theorem dX1_times_16 : decode cX1_times 16 = .ok (.iload_n 1, 1) := by decide +kernel
theorem dX1_times_17 : decode cX1_times 17 = .ok (.iload 4, 2) := by decide +kernel
theorem dX1_times_19 : decode cX1_times 19 = .ok (.invokestatic 27, 3) := by decide +kernel
theorem dX1_times_22 : decode cX1_times 22 = .ok (.invokestatic 27, 3) := by decide +kernel
theorem dX1_times_25 : decode cX1_times 25 = .ok (.iconst 3, 1) := by decide +kernel
theorem dX1_times_26 : decode cX1_times 26 = .ok (.iload 4, 2) := by decide +kernel
theorem dX1_times_28 : decode cX1_times 28 = .ok (.imul, 1) := by decide +kernel
theorem dX1_times_29 : decode cX1_times 29 = .ok (.ishl, 1) := by decide +kernel
theorem dX1_times_30 : decode cX1_times 30 = .ok (.ior, 1) := by decide +kernel
theorem dX1_times_31 : decode cX1_times 31 = .ok (.istore_n 3, 1) := by decide +kernel
theorem dX1_times_32 : decode cX1_times 32 = .ok (.iinc 4 1, 3) := by decide +kernel
theorem dX1_times_35 : decode cX1_times 35 = .ok (.goto (-30), 3) := by decide +kernel
theorem dX1_times_38 : decode cX1_times 38 = .ok (.iload_n 3, 1) := by decide +kernel
theorem dX1_times_39 : decode cX1_times 39 = .ok (.ireturn, 1) := by decide +kernel
set_option maxRecDepth 20000 in
theorem ggX1_back_X1_image : GoodIn wsX1_back wsX1_image := goodIn_r _ [5] (by decide +kernel) (by decide +kernel)
set_option maxRecDepth 20000 in
theorem gX1_back_X1_image : GoodIn wsX1_back (va_wsS RX1 27 yX1_image wsX1_image) := goodIn_app (goodIn_of _ (by decide +kernel)) ggX1_back_X1_image
theorem dX1_back_0 : decode cX1_back 0 = .ok (.iconst 0, 1) := by decide +kernel
theorem dX1_back_1 : decode cX1_back 1 = .ok (.istore_n 2, 1) := by decide +kernel
theorem dX1_back_2 : decode cX1_back 2 = .ok (.iconst 0, 1) := by decide +kernel
theorem dX1_back_3 : decode cX1_back 3 = .ok (.istore_n 3, 1) := by decide +kernel
theorem dX1_back_4 : decode cX1_back 4 = .ok (.iload_n 3, 1) := by decide +kernel
theorem dX1_back_5 : decode cX1_back 5 = .ok (.aload_n 0, 1) := by decide +kernel
theorem dX1_back_6 : decode cX1_back 6 = .ok (.getfield 23, 3) := by decide +kernel
theorem dX1_back_9 : decode cX1_back 9 = .ok (.if_icmp .ge 21, 3) := by decide +kernel
theorem dX1_back_12 : decode cX1_back 12 = .ok (.iload_n 2, 1) := by decide +kernel
theorem dX1_back_13 : decode cX1_back 13 = .ok (.iload_n 3, 1) := by decide +kernel
theorem dX1_back_14 : decode cX1_back 14 = .ok (.iconst 3, 1) := by decide +kernel
theorem dX1_back_15 : decode cX1_back 15 = .ok (.iload_n 1, 1) := by decide +kernel
theorem dX1_back_16 : decode cX1_back 16 = .ok (.iload_n 3, 1) := by decide +kernel
theorem dX1_back_17 : decode cX1_back 17 = .ok (.invokestatic 27, 3) := by decide +kernel
theorem dX1_back_20 : decode cX1_back 20 = .ok (.imul, 1) := by decide +kernel
theorem dX1_back_21 : decode cX1_back 21 = .ok (.ishl, 1) := by decide +kernel
theorem dX1_back_22 : decode cX1_back 22 = .ok (.ior, 1) := by decide +kernel
theorem dX1_back_23 : decode cX1_back 23 = .ok (.istore_n 2, 1) := by decide +kernel
theorem dX1_back_24 : decode cX1_back 24 = .ok (.iinc 3 1, 3) := by decide +kernel
theorem dX1_back_27 : decode cX1_back 27 = .ok (.goto (-23), 3) := by decide +kernel
theorem dX1_back_30 : decode cX1_back 30 = .ok (.iload_n 2, 1) := by decide +kernel
theorem dX1_back_31 : decode cX1_back 31 = .ok (.ireturn, 1) := by decide +kernel
set_option maxRecDepth 20000 in
theorem ggX1_free_X1_image : GoodIn wsX1_free wsX1_image := goodIn_r _ [4] (by decide +kernel) (by decide +kernel)
set_option maxRecDepth 20000 in
theorem gX1_free_X1_image : GoodIn wsX1_free (va_wsS RX1 27 yX1_image wsX1_image) := goodIn_app (goodIn_of _ (by decide +kernel)) ggX1_free_X1_image
theorem dX1_free_0 : decode cX1_free 0 = .ok (.iconst 0, 1) := by decide +kernel
theorem dX1_free_1 : decode cX1_free 1 = .ok (.istore 4, 2) := by decide +kernel
theorem dX1_free_3 : decode cX1_free 3 = .ok (.iconst 0, 1) := by decide +kernel
theorem dX1_free_4 : decode cX1_free 4 = .ok (.istore 5, 2) := by decide +kernel
theorem dX1_free_6 : decode cX1_free 6 = .ok (.iload 5, 2) := by decide +kernel
theorem dX1_free_8 : decode cX1_free 8 = .ok (.iload_n 3, 1) := by decide +kernel
theorem dX1_free_9 : decode cX1_free 9 = .ok (.if_icmp .ge 49, 3) := by decide +kernel
theorem dX1_free_12 : decode cX1_free 12 = .ok (.iconst 0, 1) := by decide +kernel
theorem dX1_free_13 : decode cX1_free 13 = .ok (.istore 6, 2) := by decide +kernel
theorem dX1_free_15 : decode cX1_free 15 = .ok (.iconst 0, 1) := by decide +kernel
theorem dX1_free_16 : decode cX1_free 16 = .ok (.istore 7, 2) := by decide +kernel
theorem dX1_free_18 : decode cX1_free 18 = .ok (.iload 7, 2) := by decide +kernel
theorem dX1_free_20 : decode cX1_free 20 = .ok (.iload_n 2, 1) := by decide +kernel
theorem dX1_free_21 : decode cX1_free 21 = .ok (.if_icmp .ge 23, 3) := by decide +kernel
theorem dX1_free_24 : decode cX1_free 24 = .ok (.iload_n 1, 1) := by decide +kernel
theorem dX1_free_25 : decode cX1_free 25 = .ok (.iload 7, 2) := by decide +kernel
theorem dX1_free_27 : decode cX1_free 27 = .ok (.invokestatic 27, 3) := by decide +kernel
theorem dX1_free_30 : decode cX1_free 30 = .ok (.iload 5, 2) := by decide +kernel
theorem dX1_free_32 : decode cX1_free 32 = .ok (.if_icmp .ne 6, 3) := by decide +kernel
theorem dX1_free_35 : decode cX1_free 35 = .ok (.iconst 1, 1) := by decide +kernel
theorem dX1_free_36 : decode cX1_free 36 = .ok (.istore 6, 2) := by decide +kernel
theorem dX1_free_38 : decode cX1_free 38 = .ok (.iinc 7 1, 3) := by decide +kernel
theorem dX1_free_41 : decode cX1_free 41 = .ok (.goto (-23), 3) := by decide +kernel
theorem dX1_free_44 : decode cX1_free 44 = .ok (.iload 6, 2) := by decide +kernel
theorem dX1_free_46 : decode cX1_free 46 = .ok (.ifCond .ne 6, 3) := by decide +kernel
theorem dX1_free_49 : decode cX1_free 49 = .ok (.iinc 4 1, 3) := by decide +kernel
theorem dX1_free_52 : decode cX1_free 52 = .ok (.iinc 5 1, 3) := by decide +kernel
theorem dX1_free_55 : decode cX1_free 55 = .ok (.goto (-49), 3) := by decide +kernel
theorem dX1_free_58 : decode cX1_free 58 = .ok (.iload 4, 2) := by decide +kernel
theorem dX1_free_60 : decode cX1_free 60 = .ok (.ireturn, 1) := by decide +kernel
set_option maxRecDepth 20000 in
theorem ggX1_numberOf_X1_image : GoodIn wsX1_numberOf wsX1_image := goodIn_r _ [6] (by decide +kernel) (by decide +kernel)
set_option maxRecDepth 20000 in
theorem gX1_numberOf_X1_image : GoodIn wsX1_numberOf (va_wsS RX1 27 yX1_image wsX1_image) := goodIn_app (goodIn_of _ (by decide +kernel)) ggX1_numberOf_X1_image
set_option maxRecDepth 20000 in
theorem ggX1_numberOf_X1_free : GoodIn wsX1_numberOf wsX1_free := goodIn_r _ [10, 3, 4, 5, 6] (by decide +kernel) (by decide +kernel)
set_option maxRecDepth 20000 in
theorem gX1_numberOf_X1_free : GoodIn wsX1_numberOf (wsV RX1 31 RX1 yX1_free wsX1_free) := goodIn_app (goodIn_of _ (by decide +kernel)) ggX1_numberOf_X1_free
theorem dX1_numberOf_0 : decode cX1_numberOf 0 = .ok (.iconst 0, 1) := by decide +kernel
theorem dX1_numberOf_1 : decode cX1_numberOf 1 = .ok (.istore_n 2, 1) := by decide +kernel
theorem dX1_numberOf_2 : decode cX1_numberOf 2 = .ok (.iconst 0, 1) := by decide +kernel
theorem dX1_numberOf_3 : decode cX1_numberOf 3 = .ok (.istore_n 3, 1) := by decide +kernel
theorem dX1_numberOf_4 : decode cX1_numberOf 4 = .ok (.iload_n 3, 1) := by decide +kernel
theorem dX1_numberOf_5 : decode cX1_numberOf 5 = .ok (.aload_n 0, 1) := by decide +kernel
theorem dX1_numberOf_6 : decode cX1_numberOf 6 = .ok (.getfield 23, 3) := by decide +kernel
theorem dX1_numberOf_9 : decode cX1_numberOf 9 = .ok (.if_icmp .ge 37, 3) := by decide +kernel
theorem dX1_numberOf_12 : decode cX1_numberOf 12 = .ok (.iload_n 2, 1) := by decide +kernel
theorem dX1_numberOf_13 : decode cX1_numberOf 13 = .ok (.aload_n 0, 1) := by decide +kernel
theorem dX1_numberOf_14 : decode cX1_numberOf 14 = .ok (.iload_n 1, 1) := by decide +kernel
theorem dX1_numberOf_15 : decode cX1_numberOf 15 = .ok (.iload_n 3, 1) := by decide +kernel
theorem dX1_numberOf_16 : decode cX1_numberOf 16 = .ok (.iload_n 1, 1) := by decide +kernel
theorem dX1_numberOf_17 : decode cX1_numberOf 17 = .ok (.iload_n 3, 1) := by decide +kernel
theorem dX1_numberOf_18 : decode cX1_numberOf 18 = .ok (.invokestatic 27, 3) := by decide +kernel
theorem dX1_numberOf_21 : decode cX1_numberOf 21 = .ok (.invokevirtual 31, 3) := by decide +kernel
theorem dX1_numberOf_24 : decode cX1_numberOf 24 = .ok (.aload_n 0, 1) := by decide +kernel
theorem dX1_numberOf_25 : decode cX1_numberOf 25 = .ok (.getfield 7, 3) := by decide +kernel
theorem dX1_numberOf_28 : decode cX1_numberOf 28 = .ok (.aload_n 0, 1) := by decide +kernel
theorem dX1_numberOf_29 : decode cX1_numberOf 29 = .ok (.getfield 23, 3) := by decide +kernel
theorem dX1_numberOf_32 : decode cX1_numberOf 32 = .ok (.iconst 1, 1) := by decide +kernel
theorem dX1_numberOf_33 : decode cX1_numberOf 33 = .ok (.isub, 1) := by decide +kernel
theorem dX1_numberOf_34 : decode cX1_numberOf 34 = .ok (.iload_n 3, 1) := by decide +kernel
theorem dX1_numberOf_35 : decode cX1_numberOf 35 = .ok (.isub, 1) := by decide +kernel
theorem dX1_numberOf_36 : decode cX1_numberOf 36 = .ok (.iaload, 1) := by decide +kernel
theorem dX1_numberOf_37 : decode cX1_numberOf 37 = .ok (.imul, 1) := by decide +kernel
theorem dX1_numberOf_38 : decode cX1_numberOf 38 = .ok (.iadd, 1) := by decide +kernel
theorem dX1_numberOf_39 : decode cX1_numberOf 39 = .ok (.istore_n 2, 1) := by decide +kernel
theorem dX1_numberOf_40 : decode cX1_numberOf 40 = .ok (.iinc 3 1, 3) := by decide +kernel
theorem dX1_numberOf_43 : decode cX1_numberOf 43 = .ok (.goto (-39), 3) := by decide +kernel
theorem dX1_numberOf_46 : decode cX1_numberOf 46 = .ok (.iload_n 2, 1) := by decide +kernel
theorem dX1_numberOf_47 : decode cX1_numberOf 47 = .ok (.ireturn, 1) := by decide +kernel
set_option maxRecDepth 20000 in
theorem ggX1_permutation_X1_free : GoodIn wsX1_permutation wsX1_free := goodIn_r _ [7, 8, 9, 6, 10] (by decide +kernel) (by decide +kernel)
set_option maxRecDepth 20000 in
theorem gX1_permutation_X1_free : GoodIn wsX1_permutation (wsV RX1 31 RX1 yX1_free wsX1_free) := goodIn_app (goodIn_of _ (by decide +kernel)) ggX1_permutation_X1_free
set_option maxRecDepth 20000 in
theorem ggX1_permutation_X1_isUsed : GoodIn wsX1_permutation wsX1_isUsed := goodIn_r _ [13, 8, 9, 6, 10] (by decide +kernel) (by decide +kernel)
set_option maxRecDepth 20000 in
theorem gX1_permutation_X1_isUsed : GoodIn wsX1_permutation (va_wsS RX1 35 yX1_isUsed wsX1_isUsed) := goodIn_app (goodIn_of _ (by decide +kernel)) ggX1_permutation_X1_isUsed
theorem dX1_permutation_0 : decode cX1_permutation 0 = .ok (.iconst 0, 1) := by decide +kernel
theorem dX1_permutation_1 : decode cX1_permutation 1 = .ok (.istore_n 2, 1) := by decide +kernel
theorem dX1_permutation_2 : decode cX1_permutation 2 = .ok (.iload_n 1, 1) := by decide +kernel
theorem dX1_permutation_3 : decode cX1_permutation 3 = .ok (.istore_n 3, 1) := by decide +kernel
theorem dX1_permutation_4 : decode cX1_permutation 4 = .ok (.iconst 0, 1) := by decide +kernel
theorem dX1_permutation_5 : decode cX1_permutation 5 = .ok (.istore 4, 2) := by decide +kernel
theorem dX1_permutation_7 : decode cX1_permutation 7 = .ok (.iload 4, 2) := by decide +kernel
theorem dX1_permutation_9 : decode cX1_permutation 9 = .ok (.aload_n 0, 1) := by decide +kernel
theorem dX1_permutation_10 : decode cX1_permutation 10 = .ok (.getfield 23, 3) := by decide +kernel
theorem dX1_permutation_13 : decode cX1_permutation 13 = .ok (.if_icmp .ge 95, 3) := by decide +kernel
theorem dX1_permutation_16 : decode cX1_permutation 16 = .ok (.iload_n 3, 1) := by decide +kernel
theorem dX1_permutation_17 : decode cX1_permutation 17 = .ok (.aload_n 0, 1) := by decide +kernel
theorem dX1_permutation_18 : decode cX1_permutation 18 = .ok (.getfield 7, 3) := by decide +kernel
theorem dX1_permutation_21 : decode cX1_permutation 21 = .ok (.aload_n 0, 1) := by decide +kernel
theorem dX1_permutation_22 : decode cX1_permutation 22 = .ok (.getfield 23, 3) := by decide +kernel
theorem dX1_permutation_25 : decode cX1_permutation 25 = .ok (.iconst 1, 1) := by decide +kernel
theorem dX1_permutation_26 : decode cX1_permutation 26 = .ok (.isub, 1) := by decide +kernel
theorem dX1_permutation_27 : decode cX1_permutation 27 = .ok (.iload 4, 2) := by decide +kernel
theorem dX1_permutation_29 : decode cX1_permutation 29 = .ok (.isub, 1) := by decide +kernel
theorem dX1_permutation_30 : decode cX1_permutation 30 = .ok (.iaload, 1) := by decide +kernel
theorem dX1_permutation_31 : decode cX1_permutation 31 = .ok (.idiv, 1) := by decide +kernel
theorem dX1_permutation_32 : decode cX1_permutation 32 = .ok (.istore 5, 2) := by decide +kernel
theorem dX1_permutation_34 : decode cX1_permutation 34 = .ok (.iload_n 3, 1) := by decide +kernel
theorem dX1_permutation_35 : decode cX1_permutation 35 = .ok (.aload_n 0, 1) := by decide +kernel
theorem dX1_permutation_36 : decode cX1_permutation 36 = .ok (.getfield 7, 3) := by decide +kernel
theorem dX1_permutation_39 : decode cX1_permutation 39 = .ok (.aload_n 0, 1) := by decide +kernel
theorem dX1_permutation_40 : decode cX1_permutation 40 = .ok (.getfield 23, 3) := by decide +kernel
theorem dX1_permutation_43 : decode cX1_permutation 43 = .ok (.iconst 1, 1) := by decide +kernel
theorem dX1_permutation_44 : decode cX1_permutation 44 = .ok (.isub, 1) := by decide +kernel
theorem dX1_permutation_45 : decode cX1_permutation 45 = .ok (.iload 4, 2) := by decide +kernel
theorem dX1_permutation_47 : decode cX1_permutation 47 = .ok (.isub, 1) := by decide +kernel
theorem dX1_permutation_48 : decode cX1_permutation 48 = .ok (.iaload, 1) := by decide +kernel
theorem dX1_permutation_49 : decode cX1_permutation 49 = .ok (.irem, 1) := by decide +kernel
theorem dX1_permutation_50 : decode cX1_permutation 50 = .ok (.istore_n 3, 1) := by decide +kernel
theorem dX1_permutation_51 : decode cX1_permutation 51 = .ok (.iconst 0, 1) := by decide +kernel
theorem dX1_permutation_52 : decode cX1_permutation 52 = .ok (.istore 6, 2) := by decide +kernel
theorem dX1_permutation_54 : decode cX1_permutation 54 = .ok (.iload 6, 2) := by decide +kernel
theorem dX1_permutation_56 : decode cX1_permutation 56 = .ok (.bipush 7, 2) := by decide +kernel
theorem dX1_permutation_58 : decode cX1_permutation 58 = .ok (.if_icmp .ge 34, 3) := by decide +kernel
theorem dX1_permutation_61 : decode cX1_permutation 61 = .ok (.aload_n 0, 1) := by decide +kernel
theorem dX1_permutation_62 : decode cX1_permutation 62 = .ok (.iload_n 2, 1) := by decide +kernel
theorem dX1_permutation_63 : decode cX1_permutation 63 = .ok (.iload 4, 2) := by decide +kernel
theorem dX1_permutation_65 : decode cX1_permutation 65 = .ok (.iload 6, 2) := by decide +kernel
theorem dX1_permutation_67 : decode cX1_permutation 67 = .ok (.invokevirtual 31, 3) := by decide +kernel
theorem dX1_permutation_70 : decode cX1_permutation 70 = .ok (.iload 5, 2) := by decide +kernel
theorem dX1_permutation_72 : decode cX1_permutation 72 = .ok (.if_icmp .ne 14, 3) := by decide +kernel
theorem dX1_permutation_75 : decode cX1_permutation 75 = .ok (.iload_n 2, 1) := by decide +kernel
theorem dX1_permutation_76 : decode cX1_permutation 76 = .ok (.iload 4, 2) := by decide +kernel
theorem dX1_permutation_78 : decode cX1_permutation 78 = .ok (.iload 6, 2) := by decide +kernel
theorem dX1_permutation_80 : decode cX1_permutation 80 = .ok (.invokestatic 35, 3) := by decide +kernel
theorem dX1_permutation_83 : decode cX1_permutation 83 = .ok (.ifCond .eq 9, 3) := by decide +kernel
theorem dX1_permutation_86 : decode cX1_permutation 86 = .ok (.iinc 6 1, 3) := by decide +kernel
theorem dX1_permutation_89 : decode cX1_permutation 89 = .ok (.goto (-35), 3) := by decide +kernel
theorem dX1_permutation_92 : decode cX1_permutation 92 = .ok (.iload_n 2, 1) := by decide +kernel
theorem dX1_permutation_93 : decode cX1_permutation 93 = .ok (.iload 6, 2) := by decide +kernel
theorem dX1_permutation_95 : decode cX1_permutation 95 = .ok (.iconst 3, 1) := by decide +kernel
theorem dX1_permutation_96 : decode cX1_permutation 96 = .ok (.iload 4, 2) := by decide +kernel
theorem dX1_permutation_98 : decode cX1_permutation 98 = .ok (.imul, 1) := by decide +kernel
theorem dX1_permutation_99 : decode cX1_permutation 99 = .ok (.ishl, 1) := by decide +kernel
theorem dX1_permutation_100 : decode cX1_permutation 100 = .ok (.ior, 1) := by decide +kernel
theorem dX1_permutation_101 : decode cX1_permutation 101 = .ok (.istore_n 2, 1) := by decide +kernel
theorem dX1_permutation_102 : decode cX1_permutation 102 = .ok (.iinc 4 1, 3) := by decide +kernel
theorem dX1_permutation_105 : decode cX1_permutation 105 = .ok (.goto (-98), 3) := by decide +kernel
theorem dX1_permutation_108 : decode cX1_permutation 108 = .ok (.iload_n 2, 1) := by decide +kernel
theorem dX1_permutation_109 : decode cX1_permutation 109 = .ok (.ireturn, 1) := by decide +kernel
set_option maxRecDepth 20000 in
theorem ggX1_isUsed_X1_image : GoodIn wsX1_isUsed wsX1_image := goodIn_r _ [4] (by decide +kernel) (by decide +kernel)
set_option maxRecDepth 20000 in
theorem gX1_isUsed_X1_image : GoodIn wsX1_isUsed (va_wsS RX1 27 yX1_image wsX1_image) := goodIn_app (goodIn_of _ (by decide +kernel)) ggX1_isUsed_X1_image
theorem dX1_isUsed_0 : decode cX1_isUsed 0 = .ok (.iconst 0, 1) := by decide +kernel
theorem dX1_isUsed_1 : decode cX1_isUsed 1 = .ok (.istore_n 3, 1) := by decide +kernel
theorem dX1_isUsed_2 : decode cX1_isUsed 2 = .ok (.iload_n 3, 1) := by decide +kernel
theorem dX1_isUsed_3 : decode cX1_isUsed 3 = .ok (.iload_n 1, 1) := by decide +kernel
theorem dX1_isUsed_4 : decode cX1_isUsed 4 = .ok (.if_icmp .ge 20, 3) := by decide +kernel
theorem dX1_isUsed_7 : decode cX1_isUsed 7 = .ok (.iload_n 0, 1) := by decide +kernel
theorem dX1_isUsed_8 : decode cX1_isUsed 8 = .ok (.iload_n 3, 1) := by decide +kernel
theorem dX1_isUsed_9 : decode cX1_isUsed 9 = .ok (.invokestatic 27, 3) := by decide +kernel
theorem dX1_isUsed_12 : decode cX1_isUsed 12 = .ok (.iload_n 2, 1) := by decide +kernel
theorem dX1_isUsed_13 : decode cX1_isUsed 13 = .ok (.if_icmp .ne 5, 3) := by decide +kernel
theorem dX1_isUsed_16 : decode cX1_isUsed 16 = .ok (.iconst 1, 1) := by decide +kernel
theorem dX1_isUsed_17 : decode cX1_isUsed 17 = .ok (.ireturn, 1) := by decide +kernel
theorem dX1_isUsed_18 : decode cX1_isUsed 18 = .ok (.iinc 3 1, 3) := by decide +kernel
theorem dX1_isUsed_21 : decode cX1_isUsed 21 = .ok (.goto (-19), 3) := by decide +kernel
theorem dX1_isUsed_24 : decode cX1_isUsed 24 = .ok (.iconst 0, 1) := by decide +kernel
theorem dX1_isUsed_25 : decode cX1_isUsed 25 = .ok (.ireturn, 1) := by decide +kernel
theorem dX1_all_0 : decode cX1_all 0 = .ok (.aload_n 0, 1) := by decide +kernel
theorem dX1_all_1 : decode cX1_all 1 = .ok (.getfield 7, 3) := by decide +kernel
theorem dX1_all_4 : decode cX1_all 4 = .ok (.aload_n 0, 1) := by decide +kernel
theorem dX1_all_5 : decode cX1_all 5 = .ok (.getfield 23, 3) := by decide +kernel
theorem dX1_all_8 : decode cX1_all 8 = .ok (.iaload, 1) := by decide +kernel
theorem dX1_all_9 : decode cX1_all 9 = .ok (.ireturn, 1) := by decide +kernel
set_option maxRecDepth 20000 in
theorem ggX1_fill_X1_permutation : GoodIn wsX1_fill wsX1_permutation := goodIn_r _ [9, 10, 11, 12, 13, 14, 8, 15, 16, 17, 18, 19, 20, 21, 30, 31, 32, 33, 34, 35, 36] (by decide +kernel) (by decide +kernel)
set_option maxRecDepth 20000 in
theorem gX1_fill_X1_permutation : GoodIn wsX1_fill (wsV RX1 39 RX1 yX1_permutation wsX1_permutation) := goodIn_app (goodIn_of _ (by decide +kernel)) ggX1_fill_X1_permutation
set_option maxRecDepth 20000 in
theorem ggX1_fill_X1_times : GoodIn wsX1_fill wsX1_times := goodIn_r _ [25, 10, 16, 17, 8, 18, 30, 31, 32, 33, 34, 35, 36] (by decide +kernel) (by decide +kernel)
set_option maxRecDepth 20000 in
theorem gX1_fill_X1_times : GoodIn wsX1_fill (wsV RX1 46 RX1 yX1_times wsX1_times) := goodIn_app (goodIn_of _ (by decide +kernel)) ggX1_fill_X1_times
set_option maxRecDepth 20000 in
theorem ggX1_fill_X1_numberOf : GoodIn wsX1_fill wsX1_numberOf := goodIn_r _ [29, 10, 11, 16, 17, 8, 18, 12, 13, 14, 15, 30, 31, 32, 33, 34, 35, 36] (by decide +kernel) (by decide +kernel)
set_option maxRecDepth 20000 in
theorem gX1_fill_X1_numberOf : GoodIn wsX1_fill (wsV RX1 49 RX1 yX1_numberOf wsX1_numberOf) := goodIn_app (goodIn_of _ (by decide +kernel)) ggX1_fill_X1_numberOf
theorem dX1_fill_0 : decode cX1_fill 0 = .ok (.iconst 0, 1) := by decide +kernel
theorem dX1_fill_1 : decode cX1_fill 1 = .ok (.istore_n 1, 1) := by decide +kernel
theorem dX1_fill_2 : decode cX1_fill 2 = .ok (.iload_n 1, 1) := by decide +kernel
theorem dX1_fill_3 : decode cX1_fill 3 = .ok (.sipush 5040, 3) := by decide +kernel
theorem dX1_fill_6 : decode cX1_fill 6 = .ok (.if_icmp .ge 16, 3) := by decide +kernel
theorem dX1_fill_9 : decode cX1_fill 9 = .ok (.aload_n 0, 1) := by decide +kernel
theorem dX1_fill_10 : decode cX1_fill 10 = .ok (.getfield 16, 3) := by decide +kernel
theorem dX1_fill_13 : decode cX1_fill 13 = .ok (.iload_n 1, 1) := by decide +kernel
theorem dX1_fill_14 : decode cX1_fill 14 = .ok (.iconst 0, 1) := by decide +kernel
theorem dX1_fill_15 : decode cX1_fill 15 = .ok (.bastore, 1) := by decide +kernel
theorem dX1_fill_16 : decode cX1_fill 16 = .ok (.iinc 1 1, 3) := by decide +kernel
theorem dX1_fill_19 : decode cX1_fill 19 = .ok (.goto (-17), 3) := by decide +kernel
theorem dX1_fill_22 : decode cX1_fill 22 = .ok (.aload_n 0, 1) := by decide +kernel
theorem dX1_fill_23 : decode cX1_fill 23 = .ok (.getfield 16, 3) := by decide +kernel
theorem dX1_fill_26 : decode cX1_fill 26 = .ok (.iconst 0, 1) := by decide +kernel
theorem dX1_fill_27 : decode cX1_fill 27 = .ok (.iconst 1, 1) := by decide +kernel
theorem dX1_fill_28 : decode cX1_fill 28 = .ok (.bastore, 1) := by decide +kernel
theorem dX1_fill_29 : decode cX1_fill 29 = .ok (.aload_n 0, 1) := by decide +kernel
theorem dX1_fill_30 : decode cX1_fill 30 = .ok (.getfield 20, 3) := by decide +kernel
theorem dX1_fill_33 : decode cX1_fill 33 = .ok (.iconst 0, 1) := by decide +kernel
theorem dX1_fill_34 : decode cX1_fill 34 = .ok (.iconst 0, 1) := by decide +kernel
theorem dX1_fill_35 : decode cX1_fill 35 = .ok (.iastore, 1) := by decide +kernel
theorem dX1_fill_36 : decode cX1_fill 36 = .ok (.iconst 1, 1) := by decide +kernel
theorem dX1_fill_37 : decode cX1_fill 37 = .ok (.istore_n 1, 1) := by decide +kernel
theorem dX1_fill_38 : decode cX1_fill 38 = .ok (.iconst 0, 1) := by decide +kernel
theorem dX1_fill_39 : decode cX1_fill 39 = .ok (.istore_n 2, 1) := by decide +kernel
theorem dX1_fill_40 : decode cX1_fill 40 = .ok (.iload_n 2, 1) := by decide +kernel
theorem dX1_fill_41 : decode cX1_fill 41 = .ok (.iload_n 1, 1) := by decide +kernel
theorem dX1_fill_42 : decode cX1_fill 42 = .ok (.if_icmp .ge 92, 3) := by decide +kernel
theorem dX1_fill_45 : decode cX1_fill 45 = .ok (.aload_n 0, 1) := by decide +kernel
theorem dX1_fill_46 : decode cX1_fill 46 = .ok (.aload_n 0, 1) := by decide +kernel
theorem dX1_fill_47 : decode cX1_fill 47 = .ok (.getfield 20, 3) := by decide +kernel
theorem dX1_fill_50 : decode cX1_fill 50 = .ok (.iload_n 2, 1) := by decide +kernel
theorem dX1_fill_51 : decode cX1_fill 51 = .ok (.iaload, 1) := by decide +kernel
theorem dX1_fill_52 : decode cX1_fill 52 = .ok (.invokevirtual 39, 3) := by decide +kernel
theorem dX1_fill_55 : decode cX1_fill 55 = .ok (.istore_n 3, 1) := by decide +kernel
theorem dX1_fill_56 : decode cX1_fill 56 = .ok (.iconst 0, 1) := by decide +kernel
theorem dX1_fill_57 : decode cX1_fill 57 = .ok (.istore 4, 2) := by decide +kernel
theorem dX1_fill_59 : decode cX1_fill 59 = .ok (.iload 4, 2) := by decide +kernel
theorem dX1_fill_61 : decode cX1_fill 61 = .ok (.aload_n 0, 1) := by decide +kernel
theorem dX1_fill_62 : decode cX1_fill 62 = .ok (.getfield 43, 3) := by decide +kernel
theorem dX1_fill_65 : decode cX1_fill 65 = .ok (.if_icmp .ge 63, 3) := by decide +kernel
theorem dX1_fill_68 : decode cX1_fill 68 = .ok (.aload_n 0, 1) := by decide +kernel
theorem dX1_fill_69 : decode cX1_fill 69 = .ok (.iload_n 3, 1) := by decide +kernel
theorem dX1_fill_70 : decode cX1_fill 70 = .ok (.aload_n 0, 1) := by decide +kernel
theorem dX1_fill_71 : decode cX1_fill 71 = .ok (.getfield 13, 3) := by decide +kernel
theorem dX1_fill_74 : decode cX1_fill 74 = .ok (.iload 4, 2) := by decide +kernel
theorem dX1_fill_76 : decode cX1_fill 76 = .ok (.iaload, 1) := by decide +kernel
theorem dX1_fill_77 : decode cX1_fill 77 = .ok (.invokevirtual 46, 3) := by decide +kernel
theorem dX1_fill_80 : decode cX1_fill 80 = .ok (.istore 5, 2) := by decide +kernel
theorem dX1_fill_82 : decode cX1_fill 82 = .ok (.aload_n 0, 1) := by decide +kernel
theorem dX1_fill_83 : decode cX1_fill 83 = .ok (.iload 5, 2) := by decide +kernel
theorem dX1_fill_85 : decode cX1_fill 85 = .ok (.invokevirtual 49, 3) := by decide +kernel
theorem dX1_fill_88 : decode cX1_fill 88 = .ok (.istore 6, 2) := by decide +kernel
theorem dX1_fill_90 : decode cX1_fill 90 = .ok (.aload_n 0, 1) := by decide +kernel
theorem dX1_fill_91 : decode cX1_fill 91 = .ok (.getfield 16, 3) := by decide +kernel
theorem dX1_fill_94 : decode cX1_fill 94 = .ok (.iload 6, 2) := by decide +kernel
theorem dX1_fill_96 : decode cX1_fill 96 = .ok (.baload, 1) := by decide +kernel
theorem dX1_fill_97 : decode cX1_fill 97 = .ok (.ifCond .eq 6, 3) := by decide +kernel
theorem dX1_fill_100 : decode cX1_fill 100 = .ok (.goto 22, 3) := by decide +kernel
theorem dX1_fill_103 : decode cX1_fill 103 = .ok (.aload_n 0, 1) := by decide +kernel
theorem dX1_fill_104 : decode cX1_fill 104 = .ok (.getfield 16, 3) := by decide +kernel
theorem dX1_fill_107 : decode cX1_fill 107 = .ok (.iload 6, 2) := by decide +kernel
theorem dX1_fill_109 : decode cX1_fill 109 = .ok (.iconst 1, 1) := by decide +kernel
theorem dX1_fill_110 : decode cX1_fill 110 = .ok (.bastore, 1) := by decide +kernel
theorem dX1_fill_111 : decode cX1_fill 111 = .ok (.aload_n 0, 1) := by decide +kernel
theorem dX1_fill_112 : decode cX1_fill 112 = .ok (.getfield 20, 3) := by decide +kernel
theorem dX1_fill_115 : decode cX1_fill 115 = .ok (.iload_n 1, 1) := by decide +kernel
theorem dX1_fill_116 : decode cX1_fill 116 = .ok (.iload 6, 2) := by decide +kernel
theorem dX1_fill_118 : decode cX1_fill 118 = .ok (.iastore, 1) := by decide +kernel
theorem dX1_fill_119 : decode cX1_fill 119 = .ok (.iinc 1 1, 3) := by decide +kernel
theorem dX1_fill_122 : decode cX1_fill 122 = .ok (.iinc 4 1, 3) := by decide +kernel
theorem dX1_fill_125 : decode cX1_fill 125 = .ok (.goto (-66), 3) := by decide +kernel
theorem dX1_fill_128 : decode cX1_fill 128 = .ok (.iinc 2 1, 3) := by decide +kernel
theorem dX1_fill_131 : decode cX1_fill 131 = .ok (.goto (-91), 3) := by decide +kernel
theorem dX1_fill_134 : decode cX1_fill 134 = .ok (.return_, 1) := by decide +kernel
theorem dX1_points_0 : decode cX1_points 0 = .ok (.iload_n 1, 1) := by decide +kernel
theorem dX1_points_1 : decode cX1_points 1 = .ok (.iconst 1, 1) := by decide +kernel
theorem dX1_points_2 : decode cX1_points 2 = .ok (.if_icmp .lt 9, 3) := by decide +kernel
theorem dX1_points_5 : decode cX1_points 5 = .ok (.iload_n 1, 1) := by decide +kernel
theorem dX1_points_6 : decode cX1_points 6 = .ok (.bipush 7, 2) := by decide +kernel
theorem dX1_points_8 : decode cX1_points 8 = .ok (.if_icmp .le 5, 3) := by decide +kernel
theorem dX1_points_11 : decode cX1_points 11 = .ok (.iconst 0, 1) := by decide +kernel
theorem dX1_points_12 : decode cX1_points 12 = .ok (.ireturn, 1) := by decide +kernel
theorem dX1_points_13 : decode cX1_points 13 = .ok (.aload_n 0, 1) := by decide +kernel
theorem dX1_points_14 : decode cX1_points 14 = .ok (.iload_n 1, 1) := by decide +kernel
theorem dX1_points_15 : decode cX1_points 15 = .ok (.putfield 23, 3) := by decide +kernel
theorem dX1_points_18 : decode cX1_points 18 = .ok (.aload_n 0, 1) := by decide +kernel
theorem dX1_points_19 : decode cX1_points 19 = .ok (.iconst 0, 1) := by decide +kernel
theorem dX1_points_20 : decode cX1_points 20 = .ok (.putfield 43, 3) := by decide +kernel
theorem dX1_points_23 : decode cX1_points 23 = .ok (.iconst 1, 1) := by decide +kernel
theorem dX1_points_24 : decode cX1_points 24 = .ok (.ireturn, 1) := by decide +kernel
theorem dX1_degree_0 : decode cX1_degree 0 = .ok (.aload_n 0, 1) := by decide +kernel
theorem dX1_degree_1 : decode cX1_degree 1 = .ok (.getfield 23, 3) := by decide +kernel
theorem dX1_degree_4 : decode cX1_degree 4 = .ok (.ireturn, 1) := by decide +kernel
set_option maxRecDepth 20000 in
theorem ggX1_add_X1_isPermutation : GoodIn wsX1_add wsX1_isPermutation := goodIn_r _ [7, 8, 9, 10, 6, 11, 12, 13, 14, 15, 16, 17, 18] (by decide +kernel) (by decide +kernel)
set_option maxRecDepth 20000 in
theorem gX1_add_X1_isPermutation : GoodIn wsX1_add (wsV RX1 52 RX1 yX1_isPermutation wsX1_isPermutation) := goodIn_app (goodIn_of _ (by decide +kernel)) ggX1_add_X1_isPermutation
theorem dX1_add_0 : decode cX1_add 0 = .ok (.aload_n 0, 1) := by decide +kernel
theorem dX1_add_1 : decode cX1_add 1 = .ok (.iload_n 1, 1) := by decide +kernel
theorem dX1_add_2 : decode cX1_add 2 = .ok (.invokevirtual 52, 3) := by decide +kernel
theorem dX1_add_5 : decode cX1_add 5 = .ok (.ifCond .ne 5, 3) := by decide +kernel
theorem dX1_add_8 : decode cX1_add 8 = .ok (.iconst (-1), 1) := by decide +kernel
theorem dX1_add_9 : decode cX1_add 9 = .ok (.ireturn, 1) := by decide +kernel
theorem dX1_add_10 : decode cX1_add 10 = .ok (.aload_n 0, 1) := by decide +kernel
theorem dX1_add_11 : decode cX1_add 11 = .ok (.getfield 43, 3) := by decide +kernel
theorem dX1_add_14 : decode cX1_add 14 = .ok (.bipush 12, 2) := by decide +kernel
theorem dX1_add_16 : decode cX1_add 16 = .ok (.if_icmp .ne 6, 3) := by decide +kernel
theorem dX1_add_19 : decode cX1_add 19 = .ok (.bipush (-2), 2) := by decide +kernel
theorem dX1_add_21 : decode cX1_add 21 = .ok (.ireturn, 1) := by decide +kernel
theorem dX1_add_22 : decode cX1_add 22 = .ok (.aload_n 0, 1) := by decide +kernel
theorem dX1_add_23 : decode cX1_add 23 = .ok (.getfield 13, 3) := by decide +kernel
theorem dX1_add_26 : decode cX1_add 26 = .ok (.aload_n 0, 1) := by decide +kernel
theorem dX1_add_27 : decode cX1_add 27 = .ok (.getfield 43, 3) := by decide +kernel
theorem dX1_add_30 : decode cX1_add 30 = .ok (.iload_n 1, 1) := by decide +kernel
theorem dX1_add_31 : decode cX1_add 31 = .ok (.iastore, 1) := by decide +kernel
theorem dX1_add_32 : decode cX1_add 32 = .ok (.aload_n 0, 1) := by decide +kernel
theorem dX1_add_33 : decode cX1_add 33 = .ok (.dup, 1) := by decide +kernel
theorem dX1_add_34 : decode cX1_add 34 = .ok (.getfield 43, 3) := by decide +kernel
theorem dX1_add_37 : decode cX1_add 37 = .ok (.iconst 1, 1) := by decide +kernel
theorem dX1_add_38 : decode cX1_add 38 = .ok (.iadd, 1) := by decide +kernel
theorem dX1_add_39 : decode cX1_add 39 = .ok (.putfield 43, 3) := by decide +kernel
theorem dX1_add_42 : decode cX1_add 42 = .ok (.aload_n 0, 1) := by decide +kernel
theorem dX1_add_43 : decode cX1_add 43 = .ok (.getfield 43, 3) := by decide +kernel
theorem dX1_add_46 : decode cX1_add 46 = .ok (.iconst 1, 1) := by decide +kernel
theorem dX1_add_47 : decode cX1_add 47 = .ok (.isub, 1) := by decide +kernel
theorem dX1_add_48 : decode cX1_add 48 = .ok (.ireturn, 1) := by decide +kernel
theorem dX1_drop_0 : decode cX1_drop 0 = .ok (.aload_n 0, 1) := by decide +kernel
theorem dX1_drop_1 : decode cX1_drop 1 = .ok (.getfield 43, 3) := by decide +kernel
theorem dX1_drop_4 : decode cX1_drop 4 = .ok (.ifCond .ne 5, 3) := by decide +kernel
theorem dX1_drop_7 : decode cX1_drop 7 = .ok (.iconst 0, 1) := by decide +kernel
theorem dX1_drop_8 : decode cX1_drop 8 = .ok (.ireturn, 1) := by decide +kernel
theorem dX1_drop_9 : decode cX1_drop 9 = .ok (.aload_n 0, 1) := by decide +kernel
theorem dX1_drop_10 : decode cX1_drop 10 = .ok (.dup, 1) := by decide +kernel
theorem dX1_drop_11 : decode cX1_drop 11 = .ok (.getfield 43, 3) := by decide +kernel
theorem dX1_drop_14 : decode cX1_drop 14 = .ok (.iconst 1, 1) := by decide +kernel
theorem dX1_drop_15 : decode cX1_drop 15 = .ok (.isub, 1) := by decide +kernel
theorem dX1_drop_16 : decode cX1_drop 16 = .ok (.putfield 43, 3) := by decide +kernel
theorem dX1_drop_19 : decode cX1_drop 19 = .ok (.iconst 1, 1) := by decide +kernel
theorem dX1_drop_20 : decode cX1_drop 20 = .ok (.ireturn, 1) := by decide +kernel
theorem dX1_generators_0 : decode cX1_generators 0 = .ok (.aload_n 0, 1) := by decide +kernel
theorem dX1_generators_1 : decode cX1_generators 1 = .ok (.getfield 43, 3) := by decide +kernel
theorem dX1_generators_4 : decode cX1_generators 4 = .ok (.ireturn, 1) := by decide +kernel
theorem dX1_generator_0 : decode cX1_generator 0 = .ok (.iload_n 1, 1) := by decide +kernel
theorem dX1_generator_1 : decode cX1_generator 1 = .ok (.ifCond .lt 20, 3) := by decide +kernel
theorem dX1_generator_4 : decode cX1_generator 4 = .ok (.iload_n 1, 1) := by decide +kernel
theorem dX1_generator_5 : decode cX1_generator 5 = .ok (.aload_n 0, 1) := by decide +kernel
theorem dX1_generator_6 : decode cX1_generator 6 = .ok (.getfield 43, 3) := by decide +kernel
theorem dX1_generator_9 : decode cX1_generator 9 = .ok (.if_icmp .ge 12, 3) := by decide +kernel
theorem dX1_generator_12 : decode cX1_generator 12 = .ok (.aload_n 0, 1) := by decide +kernel
theorem dX1_generator_13 : decode cX1_generator 13 = .ok (.getfield 13, 3) := by decide +kernel
theorem dX1_generator_16 : decode cX1_generator 16 = .ok (.iload_n 1, 1) := by decide +kernel
theorem dX1_generator_17 : decode cX1_generator 17 = .ok (.iaload, 1) := by decide +kernel
theorem dX1_generator_18 : decode cX1_generator 18 = .ok (.goto 4, 3) := by decide +kernel
theorem dX1_generator_21 : decode cX1_generator 21 = .ok (.iconst (-1), 1) := by decide +kernel
theorem dX1_generator_22 : decode cX1_generator 22 = .ok (.ireturn, 1) := by decide +kernel
set_option maxRecDepth 20000 in
theorem ggX1_product_X1_isPermutation : GoodIn wsX1_product wsX1_isPermutation := goodIn_r _ [5, 6, 7, 8, 4, 9, 14, 15, 16, 17, 18, 19, 20] (by decide +kernel) (by decide +kernel)
set_option maxRecDepth 20000 in
theorem gX1_product_X1_isPermutation : GoodIn wsX1_product (wsV RX1 52 RX1 yX1_isPermutation wsX1_isPermutation) := goodIn_app (goodIn_of _ (by decide +kernel)) ggX1_product_X1_isPermutation
set_option maxRecDepth 20000 in
theorem ggX1_product_X1_times : GoodIn wsX1_product wsX1_times := goodIn_r _ [13, 6, 7, 8, 4, 9, 14, 15, 16, 17, 18, 19, 20] (by decide +kernel) (by decide +kernel)
set_option maxRecDepth 20000 in
theorem gX1_product_X1_times : GoodIn wsX1_product (wsV RX1 46 RX1 yX1_times wsX1_times) := goodIn_app (goodIn_of _ (by decide +kernel)) ggX1_product_X1_times
theorem dX1_product_0 : decode cX1_product 0 = .ok (.aload_n 0, 1) := by decide +kernel
theorem dX1_product_1 : decode cX1_product 1 = .ok (.iload_n 1, 1) := by decide +kernel
theorem dX1_product_2 : decode cX1_product 2 = .ok (.invokevirtual 52, 3) := by decide +kernel
theorem dX1_product_5 : decode cX1_product 5 = .ok (.ifCond .eq 20, 3) := by decide +kernel
theorem dX1_product_8 : decode cX1_product 8 = .ok (.aload_n 0, 1) := by decide +kernel
theorem dX1_product_9 : decode cX1_product 9 = .ok (.iload_n 2, 1) := by decide +kernel
theorem dX1_product_10 : decode cX1_product 10 = .ok (.invokevirtual 52, 3) := by decide +kernel
theorem dX1_product_13 : decode cX1_product 13 = .ok (.ifCond .eq 12, 3) := by decide +kernel
theorem dX1_product_16 : decode cX1_product 16 = .ok (.aload_n 0, 1) := by decide +kernel
theorem dX1_product_17 : decode cX1_product 17 = .ok (.iload_n 1, 1) := by decide +kernel
theorem dX1_product_18 : decode cX1_product 18 = .ok (.iload_n 2, 1) := by decide +kernel
theorem dX1_product_19 : decode cX1_product 19 = .ok (.invokevirtual 46, 3) := by decide +kernel
theorem dX1_product_22 : decode cX1_product 22 = .ok (.goto 4, 3) := by decide +kernel
theorem dX1_product_25 : decode cX1_product 25 = .ok (.iconst (-1), 1) := by decide +kernel
theorem dX1_product_26 : decode cX1_product 26 = .ok (.ireturn, 1) := by decide +kernel
set_option maxRecDepth 20000 in
theorem ggX1_inverse_X1_isPermutation : GoodIn wsX1_inverse wsX1_isPermutation := goodIn_r _ [5, 6, 7, 8, 4, 9, 14, 15, 16, 17, 18, 19, 20] (by decide +kernel) (by decide +kernel)
set_option maxRecDepth 20000 in
theorem gX1_inverse_X1_isPermutation : GoodIn wsX1_inverse (wsV RX1 52 RX1 yX1_isPermutation wsX1_isPermutation) := goodIn_app (goodIn_of _ (by decide +kernel)) ggX1_inverse_X1_isPermutation
set_option maxRecDepth 20000 in
theorem ggX1_inverse_X1_back : GoodIn wsX1_inverse wsX1_back := goodIn_r _ [13, 6, 7, 8, 4, 9, 14, 15, 16, 17, 18, 19, 20] (by decide +kernel) (by decide +kernel)
set_option maxRecDepth 20000 in
theorem gX1_inverse_X1_back : GoodIn wsX1_inverse (wsV RX1 56 RX1 yX1_back wsX1_back) := goodIn_app (goodIn_of _ (by decide +kernel)) ggX1_inverse_X1_back
theorem dX1_inverse_0 : decode cX1_inverse 0 = .ok (.aload_n 0, 1) := by decide +kernel
theorem dX1_inverse_1 : decode cX1_inverse 1 = .ok (.iload_n 1, 1) := by decide +kernel
theorem dX1_inverse_2 : decode cX1_inverse 2 = .ok (.invokevirtual 52, 3) := by decide +kernel
theorem dX1_inverse_5 : decode cX1_inverse 5 = .ok (.ifCond .eq 11, 3) := by decide +kernel
theorem dX1_inverse_8 : decode cX1_inverse 8 = .ok (.aload_n 0, 1) := by decide +kernel
theorem dX1_inverse_9 : decode cX1_inverse 9 = .ok (.iload_n 1, 1) := by decide +kernel
theorem dX1_inverse_10 : decode cX1_inverse 10 = .ok (.invokevirtual 56, 3) := by decide +kernel
theorem dX1_inverse_13 : decode cX1_inverse 13 = .ok (.goto 4, 3) := by decide +kernel
theorem dX1_inverse_16 : decode cX1_inverse 16 = .ok (.iconst (-1), 1) := by decide +kernel
theorem dX1_inverse_17 : decode cX1_inverse 17 = .ok (.ireturn, 1) := by decide +kernel
theorem dX1_below_0 : decode cX1_below 0 = .ok (.iconst 0, 1) := by decide +kernel
theorem dX1_below_1 : decode cX1_below 1 = .ok (.istore_n 2, 1) := by decide +kernel
theorem dX1_below_2 : decode cX1_below 2 = .ok (.iconst 0, 1) := by decide +kernel
theorem dX1_below_3 : decode cX1_below 3 = .ok (.istore_n 3, 1) := by decide +kernel
theorem dX1_below_4 : decode cX1_below 4 = .ok (.iload_n 3, 1) := by decide +kernel
theorem dX1_below_5 : decode cX1_below 5 = .ok (.iload_n 1, 1) := by decide +kernel
theorem dX1_below_6 : decode cX1_below 6 = .ok (.if_icmp .ge 21, 3) := by decide +kernel
theorem dX1_below_9 : decode cX1_below 9 = .ok (.aload_n 0, 1) := by decide +kernel
theorem dX1_below_10 : decode cX1_below 10 = .ok (.getfield 16, 3) := by decide +kernel
theorem dX1_below_13 : decode cX1_below 13 = .ok (.iload_n 3, 1) := by decide +kernel
theorem dX1_below_14 : decode cX1_below 14 = .ok (.baload, 1) := by decide +kernel
theorem dX1_below_15 : decode cX1_below 15 = .ok (.ifCond .eq 6, 3) := by decide +kernel
theorem dX1_below_18 : decode cX1_below 18 = .ok (.iinc 2 1, 3) := by decide +kernel
theorem dX1_below_21 : decode cX1_below 21 = .ok (.iinc 3 1, 3) := by decide +kernel
theorem dX1_below_24 : decode cX1_below 24 = .ok (.goto (-20), 3) := by decide +kernel
theorem dX1_below_27 : decode cX1_below 27 = .ok (.iload_n 2, 1) := by decide +kernel
theorem dX1_below_28 : decode cX1_below 28 = .ok (.ireturn, 1) := by decide +kernel
set_option maxRecDepth 20000 in
theorem ggX1_order_X1_fill : GoodIn wsX1_order wsX1_fill := goodIn_r _ [5, 6, 7, 8, 9, 10, 11, 12, 4, 13, 14, 15, 16, 17, 18, 19, 20, 21, 22, 23, 24, 25, 26, 27, 28, 29, 30, 31, 32, 33, 42, 43, 44, 45, 46, 47, 48] (by decide +kernel) (by decide +kernel)
set_option maxRecDepth 20000 in
theorem gX1_order_X1_fill : GoodIn wsX1_order (wsV RX1 59 RX1 yX1_fill wsX1_fill) := goodIn_app (goodIn_of _ (by decide +kernel)) ggX1_order_X1_fill
set_option maxRecDepth 20000 in
theorem ggX1_order_X1_all : GoodIn wsX1_order wsX1_all := goodIn_r _ [37, 15, 14, 42, 43, 44, 45, 46, 47, 48] (by decide +kernel) (by decide +kernel)
set_option maxRecDepth 20000 in
theorem gX1_order_X1_all : GoodIn wsX1_order (wsV RX1 62 RX1 yX1_all wsX1_all) := goodIn_app (goodIn_of _ (by decide +kernel)) ggX1_order_X1_all
set_option maxRecDepth 20000 in
theorem ggX1_order_X1_below : GoodIn wsX1_order wsX1_below := goodIn_r _ [41, 6, 42, 43, 44, 45, 46, 47, 48] (by decide +kernel) (by decide +kernel)
set_option maxRecDepth 20000 in
theorem gX1_order_X1_below : GoodIn wsX1_order (wsV RX1 66 RX1 yX1_below wsX1_below) := goodIn_app (goodIn_of _ (by decide +kernel)) ggX1_order_X1_below
theorem dX1_order_0 : decode cX1_order 0 = .ok (.aload_n 0, 1) := by decide +kernel
theorem dX1_order_1 : decode cX1_order 1 = .ok (.invokevirtual 59, 3) := by decide +kernel
theorem dX1_order_4 : decode cX1_order 4 = .ok (.aload_n 0, 1) := by decide +kernel
theorem dX1_order_5 : decode cX1_order 5 = .ok (.aload_n 0, 1) := by decide +kernel
theorem dX1_order_6 : decode cX1_order 6 = .ok (.invokevirtual 62, 3) := by decide +kernel
theorem dX1_order_9 : decode cX1_order 9 = .ok (.invokevirtual 66, 3) := by decide +kernel
theorem dX1_order_12 : decode cX1_order 12 = .ok (.ireturn, 1) := by decide +kernel
set_option maxRecDepth 20000 in
theorem ggX1_contains_X1_isPermutation : GoodIn wsX1_contains wsX1_isPermutation := goodIn_r _ [6, 7, 8, 9, 5, 10, 38, 39, 40, 41, 42, 43, 44] (by decide +kernel) (by decide +kernel)
set_option maxRecDepth 20000 in
theorem gX1_contains_X1_isPermutation : GoodIn wsX1_contains (wsV RX1 52 RX1 yX1_isPermutation wsX1_isPermutation) := goodIn_app (goodIn_of _ (by decide +kernel)) ggX1_contains_X1_isPermutation
set_option maxRecDepth 20000 in
theorem ggX1_contains_X1_fill : GoodIn wsX1_contains wsX1_fill := goodIn_r _ [14, 1, 15, 16, 17, 18, 19, 20, 5, 21, 7, 22, 23, 24, 25, 26, 8, 9, 10, 27, 28, 29, 30, 31, 32, 33, 34, 35, 36, 37, 38, 39, 40, 41, 42, 43, 44] (by decide +kernel) (by decide +kernel)
set_option maxRecDepth 20000 in
theorem gX1_contains_X1_fill : GoodIn wsX1_contains (wsV RX1 59 RX1 yX1_fill wsX1_fill) := goodIn_app (goodIn_of _ (by decide +kernel)) ggX1_contains_X1_fill
set_option maxRecDepth 20000 in
theorem ggX1_contains_X1_numberOf : GoodIn wsX1_contains wsX1_numberOf := goodIn_r _ [37, 7, 22, 8, 9, 5, 10, 23, 24, 25, 26, 38, 39, 40, 41, 42, 43, 44] (by decide +kernel) (by decide +kernel)
set_option maxRecDepth 20000 in
theorem gX1_contains_X1_numberOf : GoodIn wsX1_contains (wsV RX1 49 RX1 yX1_numberOf wsX1_numberOf) := goodIn_app (goodIn_of _ (by decide +kernel)) ggX1_contains_X1_numberOf
theorem dX1_contains_0 : decode cX1_contains 0 = .ok (.aload_n 0, 1) := by decide +kernel
theorem dX1_contains_1 : decode cX1_contains 1 = .ok (.iload_n 1, 1) := by decide +kernel
theorem dX1_contains_2 : decode cX1_contains 2 = .ok (.invokevirtual 52, 3) := by decide +kernel
theorem dX1_contains_5 : decode cX1_contains 5 = .ok (.ifCond .ne 5, 3) := by decide +kernel
theorem dX1_contains_8 : decode cX1_contains 8 = .ok (.iconst 0, 1) := by decide +kernel
theorem dX1_contains_9 : decode cX1_contains 9 = .ok (.ireturn, 1) := by decide +kernel
theorem dX1_contains_10 : decode cX1_contains 10 = .ok (.aload_n 0, 1) := by decide +kernel
theorem dX1_contains_11 : decode cX1_contains 11 = .ok (.invokevirtual 59, 3) := by decide +kernel
theorem dX1_contains_14 : decode cX1_contains 14 = .ok (.aload_n 0, 1) := by decide +kernel
theorem dX1_contains_15 : decode cX1_contains 15 = .ok (.getfield 16, 3) := by decide +kernel
theorem dX1_contains_18 : decode cX1_contains 18 = .ok (.aload_n 0, 1) := by decide +kernel
theorem dX1_contains_19 : decode cX1_contains 19 = .ok (.iload_n 1, 1) := by decide +kernel
theorem dX1_contains_20 : decode cX1_contains 20 = .ok (.invokevirtual 49, 3) := by decide +kernel
theorem dX1_contains_23 : decode cX1_contains 23 = .ok (.baload, 1) := by decide +kernel
theorem dX1_contains_24 : decode cX1_contains 24 = .ok (.ireturn, 1) := by decide +kernel
set_option maxRecDepth 20000 in
theorem ggX1_element_X1_fill : GoodIn wsX1_element wsX1_fill := goodIn_r _ [7, 2, 8, 9, 10, 11, 12, 13, 6, 14, 15, 16, 17, 18, 19, 20, 21, 22, 23, 24, 25, 26, 27, 28, 29, 30, 31, 32, 33, 34, 43, 44, 45, 46, 47, 48, 49] (by decide +kernel) (by decide +kernel)
set_option maxRecDepth 20000 in
theorem gX1_element_X1_fill : GoodIn wsX1_element (wsV RX1 59 RX1 yX1_fill wsX1_fill) := goodIn_app (goodIn_of _ (by decide +kernel)) ggX1_element_X1_fill
set_option maxRecDepth 20000 in
theorem ggX1_element_X1_all : GoodIn wsX1_element wsX1_all := goodIn_r _ [38, 16, 15, 43, 44, 45, 46, 47, 48, 49] (by decide +kernel) (by decide +kernel)
set_option maxRecDepth 20000 in
theorem gX1_element_X1_all : GoodIn wsX1_element (wsV RX1 62 RX1 yX1_all wsX1_all) := goodIn_app (goodIn_of _ (by decide +kernel)) ggX1_element_X1_all
set_option maxRecDepth 20000 in
theorem ggX1_element_X1_below : GoodIn wsX1_element wsX1_below := goodIn_r _ [42, 2, 43, 44, 45, 46, 47, 48, 49] (by decide +kernel) (by decide +kernel)
set_option maxRecDepth 20000 in
theorem gX1_element_X1_below : GoodIn wsX1_element (wsV RX1 66 RX1 yX1_below wsX1_below) := goodIn_app (goodIn_of _ (by decide +kernel)) ggX1_element_X1_below
set_option maxRecDepth 20000 in
theorem ggX1_element_X1_permutation : GoodIn wsX1_element wsX1_permutation := goodIn_r _ [14, 15, 16, 17, 18, 19, 6, 20, 21, 22, 23, 24, 25, 26, 43, 44, 45, 46, 47, 48, 49] (by decide +kernel) (by decide +kernel)
set_option maxRecDepth 20000 in
theorem gX1_element_X1_permutation : GoodIn wsX1_element (wsV RX1 39 RX1 yX1_permutation wsX1_permutation) := goodIn_app (goodIn_of _ (by decide +kernel)) ggX1_element_X1_permutation
theorem dX1_element_0 : decode cX1_element 0 = .ok (.aload_n 0, 1) := by decide +kernel
theorem dX1_element_1 : decode cX1_element 1 = .ok (.invokevirtual 59, 3) := by decide +kernel
theorem dX1_element_4 : decode cX1_element 4 = .ok (.aload_n 0, 1) := by decide +kernel
theorem dX1_element_5 : decode cX1_element 5 = .ok (.iload_n 1, 1) := by decide +kernel
theorem dX1_element_6 : decode cX1_element 6 = .ok (.ifCond .lt 15, 3) := by decide +kernel
theorem dX1_element_9 : decode cX1_element 9 = .ok (.iload_n 1, 1) := by decide +kernel
theorem dX1_element_10 : decode cX1_element 10 = .ok (.aload_n 0, 1) := by decide +kernel
theorem dX1_element_11 : decode cX1_element 11 = .ok (.aload_n 0, 1) := by decide +kernel
theorem dX1_element_12 : decode cX1_element 12 = .ok (.invokevirtual 62, 3) := by decide +kernel
theorem dX1_element_15 : decode cX1_element 15 = .ok (.invokevirtual 66, 3) := by decide +kernel
theorem dX1_element_18 : decode cX1_element 18 = .ok (.if_icmp .lt 7, 3) := by decide +kernel
theorem dX1_element_21 : decode cX1_element 21 = .ok (.iconst 1, 1) := by decide +kernel
theorem dX1_element_22 : decode cX1_element 22 = .ok (.goto 4, 3) := by decide +kernel
theorem dX1_element_25 : decode cX1_element 25 = .ok (.iconst 0, 1) := by decide +kernel
theorem dX1_element_26 : decode cX1_element 26 = .ok (.putfield 69, 3) := by decide +kernel
theorem dX1_element_29 : decode cX1_element 29 = .ok (.aload_n 0, 1) := by decide +kernel
theorem dX1_element_30 : decode cX1_element 30 = .ok (.getfield 69, 3) := by decide +kernel
theorem dX1_element_33 : decode cX1_element 33 = .ok (.ifCond .le 5, 3) := by decide +kernel
theorem dX1_element_36 : decode cX1_element 36 = .ok (.iconst 0, 1) := by decide +kernel
theorem dX1_element_37 : decode cX1_element 37 = .ok (.ireturn, 1) := by decide +kernel
theorem dX1_element_38 : decode cX1_element 38 = .ok (.iconst 0, 1) := by decide +kernel
theorem dX1_element_39 : decode cX1_element 39 = .ok (.istore_n 2, 1) := by decide +kernel
theorem dX1_element_40 : decode cX1_element 40 = .ok (.iload_n 1, 1) := by decide +kernel
theorem dX1_element_41 : decode cX1_element 41 = .ok (.istore_n 3, 1) := by decide +kernel
theorem dX1_element_42 : decode cX1_element 42 = .ok (.iload_n 2, 1) := by decide +kernel
theorem dX1_element_43 : decode cX1_element 43 = .ok (.sipush 5040, 3) := by decide +kernel
theorem dX1_element_46 : decode cX1_element 46 = .ok (.if_icmp .ge 34, 3) := by decide +kernel
theorem dX1_element_49 : decode cX1_element 49 = .ok (.aload_n 0, 1) := by decide +kernel
theorem dX1_element_50 : decode cX1_element 50 = .ok (.getfield 16, 3) := by decide +kernel
theorem dX1_element_53 : decode cX1_element 53 = .ok (.iload_n 2, 1) := by decide +kernel
theorem dX1_element_54 : decode cX1_element 54 = .ok (.baload, 1) := by decide +kernel
theorem dX1_element_55 : decode cX1_element 55 = .ok (.ifCond .eq 7, 3) := by decide +kernel
theorem dX1_element_58 : decode cX1_element 58 = .ok (.iload_n 3, 1) := by decide +kernel
theorem dX1_element_59 : decode cX1_element 59 = .ok (.ifCond .le 21, 3) := by decide +kernel
theorem dX1_element_62 : decode cX1_element 62 = .ok (.aload_n 0, 1) := by decide +kernel
theorem dX1_element_63 : decode cX1_element 63 = .ok (.getfield 16, 3) := by decide +kernel
theorem dX1_element_66 : decode cX1_element 66 = .ok (.iload_n 2, 1) := by decide +kernel
theorem dX1_element_67 : decode cX1_element 67 = .ok (.baload, 1) := by decide +kernel
theorem dX1_element_68 : decode cX1_element 68 = .ok (.ifCond .eq 6, 3) := by decide +kernel
theorem dX1_element_71 : decode cX1_element 71 = .ok (.iinc 3 (-1), 3) := by decide +kernel
theorem dX1_element_74 : decode cX1_element 74 = .ok (.iinc 2 1, 3) := by decide +kernel
theorem dX1_element_77 : decode cX1_element 77 = .ok (.goto (-35), 3) := by decide +kernel
theorem dX1_element_80 : decode cX1_element 80 = .ok (.aload_n 0, 1) := by decide +kernel
theorem dX1_element_81 : decode cX1_element 81 = .ok (.iload_n 2, 1) := by decide +kernel
theorem dX1_element_82 : decode cX1_element 82 = .ok (.invokevirtual 39, 3) := by decide +kernel
theorem dX1_element_85 : decode cX1_element 85 = .ok (.ireturn, 1) := by decide +kernel
set_option maxRecDepth 20000 in
theorem ggX1_rank_X1_isPermutation : GoodIn wsX1_rank wsX1_isPermutation := goodIn_r _ [7, 8, 9, 10, 6, 11, 43, 44, 45, 46, 47, 48, 49] (by decide +kernel) (by decide +kernel)
set_option maxRecDepth 20000 in
theorem gX1_rank_X1_isPermutation : GoodIn wsX1_rank (wsV RX1 52 RX1 yX1_isPermutation wsX1_isPermutation) := goodIn_app (goodIn_of _ (by decide +kernel)) ggX1_rank_X1_isPermutation
set_option maxRecDepth 20000 in
theorem ggX1_rank_X1_fill : GoodIn wsX1_rank wsX1_fill := goodIn_r _ [15, 2, 16, 17, 18, 19, 20, 21, 6, 22, 8, 23, 24, 25, 26, 27, 9, 10, 11, 28, 29, 30, 31, 32, 33, 34, 35, 36, 37, 38, 43, 44, 45, 46, 47, 48, 49] (by decide +kernel) (by decide +kernel)
set_option maxRecDepth 20000 in
theorem gX1_rank_X1_fill : GoodIn wsX1_rank (wsV RX1 59 RX1 yX1_fill wsX1_fill) := goodIn_app (goodIn_of _ (by decide +kernel)) ggX1_rank_X1_fill
set_option maxRecDepth 20000 in
theorem ggX1_rank_X1_numberOf : GoodIn wsX1_rank wsX1_numberOf := goodIn_r _ [38, 8, 23, 9, 10, 6, 11, 24, 25, 26, 27, 43, 44, 45, 46, 47, 48, 49] (by decide +kernel) (by decide +kernel)
set_option maxRecDepth 20000 in
theorem gX1_rank_X1_numberOf : GoodIn wsX1_rank (wsV RX1 49 RX1 yX1_numberOf wsX1_numberOf) := goodIn_app (goodIn_of _ (by decide +kernel)) ggX1_rank_X1_numberOf
set_option maxRecDepth 20000 in
theorem ggX1_rank_X1_below : GoodIn wsX1_rank wsX1_below := goodIn_r _ [42, 2, 43, 44, 45, 46, 47, 48, 49] (by decide +kernel) (by decide +kernel)
set_option maxRecDepth 20000 in
theorem gX1_rank_X1_below : GoodIn wsX1_rank (wsV RX1 66 RX1 yX1_below wsX1_below) := goodIn_app (goodIn_of _ (by decide +kernel)) ggX1_rank_X1_below
theorem dX1_rank_0 : decode cX1_rank 0 = .ok (.aload_n 0, 1) := by decide +kernel
theorem dX1_rank_1 : decode cX1_rank 1 = .ok (.aload_n 0, 1) := by decide +kernel
theorem dX1_rank_2 : decode cX1_rank 2 = .ok (.iload_n 1, 1) := by decide +kernel
theorem dX1_rank_3 : decode cX1_rank 3 = .ok (.invokevirtual 52, 3) := by decide +kernel
theorem dX1_rank_6 : decode cX1_rank 6 = .ok (.ifCond .eq 7, 3) := by decide +kernel
theorem dX1_rank_9 : decode cX1_rank 9 = .ok (.iconst 0, 1) := by decide +kernel
theorem dX1_rank_10 : decode cX1_rank 10 = .ok (.goto 4, 3) := by decide +kernel
theorem dX1_rank_13 : decode cX1_rank 13 = .ok (.iconst 1, 1) := by decide +kernel
theorem dX1_rank_14 : decode cX1_rank 14 = .ok (.putfield 69, 3) := by decide +kernel
theorem dX1_rank_17 : decode cX1_rank 17 = .ok (.aload_n 0, 1) := by decide +kernel
theorem dX1_rank_18 : decode cX1_rank 18 = .ok (.getfield 69, 3) := by decide +kernel
theorem dX1_rank_21 : decode cX1_rank 21 = .ok (.ifCond .le 5, 3) := by decide +kernel
theorem dX1_rank_24 : decode cX1_rank 24 = .ok (.iconst 0, 1) := by decide +kernel
theorem dX1_rank_25 : decode cX1_rank 25 = .ok (.ireturn, 1) := by decide +kernel
theorem dX1_rank_26 : decode cX1_rank 26 = .ok (.aload_n 0, 1) := by decide +kernel
theorem dX1_rank_27 : decode cX1_rank 27 = .ok (.invokevirtual 59, 3) := by decide +kernel
theorem dX1_rank_30 : decode cX1_rank 30 = .ok (.aload_n 0, 1) := by decide +kernel
theorem dX1_rank_31 : decode cX1_rank 31 = .ok (.iload_n 1, 1) := by decide +kernel
theorem dX1_rank_32 : decode cX1_rank 32 = .ok (.invokevirtual 49, 3) := by decide +kernel
theorem dX1_rank_35 : decode cX1_rank 35 = .ok (.istore_n 2, 1) := by decide +kernel
theorem dX1_rank_36 : decode cX1_rank 36 = .ok (.aload_n 0, 1) := by decide +kernel
theorem dX1_rank_37 : decode cX1_rank 37 = .ok (.aload_n 0, 1) := by decide +kernel
theorem dX1_rank_38 : decode cX1_rank 38 = .ok (.getfield 16, 3) := by decide +kernel
theorem dX1_rank_41 : decode cX1_rank 41 = .ok (.iload_n 2, 1) := by decide +kernel
theorem dX1_rank_42 : decode cX1_rank 42 = .ok (.baload, 1) := by decide +kernel
theorem dX1_rank_43 : decode cX1_rank 43 = .ok (.ifCond .eq 7, 3) := by decide +kernel
theorem dX1_rank_46 : decode cX1_rank 46 = .ok (.iconst 0, 1) := by decide +kernel
theorem dX1_rank_47 : decode cX1_rank 47 = .ok (.goto 4, 3) := by decide +kernel
theorem dX1_rank_50 : decode cX1_rank 50 = .ok (.iconst 2, 1) := by decide +kernel
theorem dX1_rank_51 : decode cX1_rank 51 = .ok (.putfield 69, 3) := by decide +kernel
theorem dX1_rank_54 : decode cX1_rank 54 = .ok (.aload_n 0, 1) := by decide +kernel
theorem dX1_rank_55 : decode cX1_rank 55 = .ok (.getfield 69, 3) := by decide +kernel
theorem dX1_rank_58 : decode cX1_rank 58 = .ok (.ifCond .le 7, 3) := by decide +kernel
theorem dX1_rank_61 : decode cX1_rank 61 = .ok (.iconst 0, 1) := by decide +kernel
theorem dX1_rank_62 : decode cX1_rank 62 = .ok (.goto 8, 3) := by decide +kernel
theorem dX1_rank_65 : decode cX1_rank 65 = .ok (.aload_n 0, 1) := by decide +kernel
theorem dX1_rank_66 : decode cX1_rank 66 = .ok (.iload_n 2, 1) := by decide +kernel
theorem dX1_rank_67 : decode cX1_rank 67 = .ok (.invokevirtual 66, 3) := by decide +kernel
theorem dX1_rank_70 : decode cX1_rank 70 = .ok (.ireturn, 1) := by decide +kernel
set_option maxRecDepth 20000 in
theorem ggX1_least_X1_isPermutation : GoodIn wsX1_least wsX1_isPermutation := goodIn_r _ [7, 8, 9, 10, 6, 11, 43, 44, 45, 46, 47, 48, 49] (by decide +kernel) (by decide +kernel)
set_option maxRecDepth 20000 in
theorem gX1_least_X1_isPermutation : GoodIn wsX1_least (wsV RX1 52 RX1 yX1_isPermutation wsX1_isPermutation) := goodIn_app (goodIn_of _ (by decide +kernel)) ggX1_least_X1_isPermutation
set_option maxRecDepth 20000 in
theorem ggX1_least_X1_fill : GoodIn wsX1_least wsX1_fill := goodIn_r _ [15, 2, 16, 17, 18, 19, 20, 21, 6, 22, 8, 23, 24, 25, 26, 27, 9, 10, 11, 28, 29, 30, 31, 32, 33, 34, 35, 36, 37, 38, 43, 44, 45, 46, 47, 48, 49] (by decide +kernel) (by decide +kernel)
set_option maxRecDepth 20000 in
theorem gX1_least_X1_fill : GoodIn wsX1_least (wsV RX1 59 RX1 yX1_fill wsX1_fill) := goodIn_app (goodIn_of _ (by decide +kernel)) ggX1_least_X1_fill
set_option maxRecDepth 20000 in
theorem ggX1_least_X1_all : GoodIn wsX1_least wsX1_all := goodIn_r _ [42, 23, 8, 43, 44, 45, 46, 47, 48, 49] (by decide +kernel) (by decide +kernel)
set_option maxRecDepth 20000 in
theorem gX1_least_X1_all : GoodIn wsX1_least (wsV RX1 62 RX1 yX1_all wsX1_all) := goodIn_app (goodIn_of _ (by decide +kernel)) ggX1_least_X1_all
set_option maxRecDepth 20000 in
theorem ggX1_least_X1_permutation : GoodIn wsX1_least wsX1_permutation := goodIn_r _ [22, 8, 23, 24, 25, 26, 6, 27, 9, 10, 11, 28, 29, 30, 43, 44, 45, 46, 47, 48, 49] (by decide +kernel) (by decide +kernel)
set_option maxRecDepth 20000 in
theorem gX1_least_X1_permutation : GoodIn wsX1_least (wsV RX1 39 RX1 yX1_permutation wsX1_permutation) := goodIn_app (goodIn_of _ (by decide +kernel)) ggX1_least_X1_permutation
set_option maxRecDepth 20000 in
theorem ggX1_least_X1_times : GoodIn wsX1_least wsX1_times := goodIn_r _ [34, 8, 9, 10, 6, 11, 43, 44, 45, 46, 47, 48, 49] (by decide +kernel) (by decide +kernel)
set_option maxRecDepth 20000 in
theorem gX1_least_X1_times : GoodIn wsX1_least (wsV RX1 46 RX1 yX1_times wsX1_times) := goodIn_app (goodIn_of _ (by decide +kernel)) ggX1_least_X1_times
set_option maxRecDepth 20000 in
theorem ggX1_least_X1_numberOf : GoodIn wsX1_least wsX1_numberOf := goodIn_r _ [38, 8, 23, 9, 10, 6, 11, 24, 25, 26, 27, 43, 44, 45, 46, 47, 48, 49] (by decide +kernel) (by decide +kernel)
set_option maxRecDepth 20000 in
theorem gX1_least_X1_numberOf : GoodIn wsX1_least (wsV RX1 49 RX1 yX1_numberOf wsX1_numberOf) := goodIn_app (goodIn_of _ (by decide +kernel)) ggX1_least_X1_numberOf
theorem dX1_least_0 : decode cX1_least 0 = .ok (.aload_n 0, 1) := by decide +kernel
theorem dX1_least_1 : decode cX1_least 1 = .ok (.aload_n 0, 1) := by decide +kernel
theorem dX1_least_2 : decode cX1_least 2 = .ok (.iload_n 1, 1) := by decide +kernel
theorem dX1_least_3 : decode cX1_least 3 = .ok (.invokevirtual 52, 3) := by decide +kernel
theorem dX1_least_6 : decode cX1_least 6 = .ok (.ifCond .eq 7, 3) := by decide +kernel
theorem dX1_least_9 : decode cX1_least 9 = .ok (.iconst 0, 1) := by decide +kernel
theorem dX1_least_10 : decode cX1_least 10 = .ok (.goto 4, 3) := by decide +kernel
theorem dX1_least_13 : decode cX1_least 13 = .ok (.iconst 1, 1) := by decide +kernel
theorem dX1_least_14 : decode cX1_least 14 = .ok (.putfield 69, 3) := by decide +kernel
theorem dX1_least_17 : decode cX1_least 17 = .ok (.aload_n 0, 1) := by decide +kernel
theorem dX1_least_18 : decode cX1_least 18 = .ok (.getfield 69, 3) := by decide +kernel
theorem dX1_least_21 : decode cX1_least 21 = .ok (.ifCond .le 5, 3) := by decide +kernel
theorem dX1_least_24 : decode cX1_least 24 = .ok (.iconst 0, 1) := by decide +kernel
theorem dX1_least_25 : decode cX1_least 25 = .ok (.ireturn, 1) := by decide +kernel
theorem dX1_least_26 : decode cX1_least 26 = .ok (.aload_n 0, 1) := by decide +kernel
theorem dX1_least_27 : decode cX1_least 27 = .ok (.invokevirtual 59, 3) := by decide +kernel
theorem dX1_least_30 : decode cX1_least 30 = .ok (.sipush 5040, 3) := by decide +kernel
theorem dX1_least_33 : decode cX1_least 33 = .ok (.istore_n 2, 1) := by decide +kernel
theorem dX1_least_34 : decode cX1_least 34 = .ok (.iconst 0, 1) := by decide +kernel
theorem dX1_least_35 : decode cX1_least 35 = .ok (.istore_n 3, 1) := by decide +kernel
theorem dX1_least_36 : decode cX1_least 36 = .ok (.iload_n 3, 1) := by decide +kernel
theorem dX1_least_37 : decode cX1_least 37 = .ok (.aload_n 0, 1) := by decide +kernel
theorem dX1_least_38 : decode cX1_least 38 = .ok (.invokevirtual 62, 3) := by decide +kernel
theorem dX1_least_41 : decode cX1_least 41 = .ok (.if_icmp .ge 50, 3) := by decide +kernel
theorem dX1_least_44 : decode cX1_least 44 = .ok (.aload_n 0, 1) := by decide +kernel
theorem dX1_least_45 : decode cX1_least 45 = .ok (.getfield 16, 3) := by decide +kernel
theorem dX1_least_48 : decode cX1_least 48 = .ok (.iload_n 3, 1) := by decide +kernel
theorem dX1_least_49 : decode cX1_least 49 = .ok (.baload, 1) := by decide +kernel
theorem dX1_least_50 : decode cX1_least 50 = .ok (.ifCond .ne 6, 3) := by decide +kernel
theorem dX1_least_53 : decode cX1_least 53 = .ok (.goto 32, 3) := by decide +kernel
theorem dX1_least_56 : decode cX1_least 56 = .ok (.aload_n 0, 1) := by decide +kernel
theorem dX1_least_57 : decode cX1_least 57 = .ok (.iload_n 3, 1) := by decide +kernel
theorem dX1_least_58 : decode cX1_least 58 = .ok (.invokevirtual 39, 3) := by decide +kernel
theorem dX1_least_61 : decode cX1_least 61 = .ok (.istore 4, 2) := by decide +kernel
theorem dX1_least_63 : decode cX1_least 63 = .ok (.aload_n 0, 1) := by decide +kernel
theorem dX1_least_64 : decode cX1_least 64 = .ok (.aload_n 0, 1) := by decide +kernel
theorem dX1_least_65 : decode cX1_least 65 = .ok (.iload 4, 2) := by decide +kernel
theorem dX1_least_67 : decode cX1_least 67 = .ok (.iload_n 1, 1) := by decide +kernel
theorem dX1_least_68 : decode cX1_least 68 = .ok (.invokevirtual 46, 3) := by decide +kernel
theorem dX1_least_71 : decode cX1_least 71 = .ok (.invokevirtual 49, 3) := by decide +kernel
theorem dX1_least_74 : decode cX1_least 74 = .ok (.istore 5, 2) := by decide +kernel
theorem dX1_least_76 : decode cX1_least 76 = .ok (.iload 5, 2) := by decide +kernel
theorem dX1_least_78 : decode cX1_least 78 = .ok (.iload_n 2, 1) := by decide +kernel
theorem dX1_least_79 : decode cX1_least 79 = .ok (.if_icmp .ge 6, 3) := by decide +kernel
theorem dX1_least_82 : decode cX1_least 82 = .ok (.iload 5, 2) := by decide +kernel
theorem dX1_least_84 : decode cX1_least 84 = .ok (.istore_n 2, 1) := by decide +kernel
theorem dX1_least_85 : decode cX1_least 85 = .ok (.iinc 3 1, 3) := by decide +kernel
theorem dX1_least_88 : decode cX1_least 88 = .ok (.goto (-52), 3) := by decide +kernel
theorem dX1_least_91 : decode cX1_least 91 = .ok (.aload_n 0, 1) := by decide +kernel
theorem dX1_least_92 : decode cX1_least 92 = .ok (.iload_n 2, 1) := by decide +kernel
theorem dX1_least_93 : decode cX1_least 93 = .ok (.invokevirtual 39, 3) := by decide +kernel
theorem dX1_least_96 : decode cX1_least 96 = .ok (.ireturn, 1) := by decide +kernel
set_option maxRecDepth 20000 in
theorem ggX1_orbit_X1_fill : GoodIn wsX1_orbit wsX1_fill := goodIn_r _ [7, 2, 8, 9, 10, 11, 12, 13, 6, 14, 1, 15, 16, 17, 18, 19, 20, 21, 22, 23, 24, 25, 26, 27, 28, 29, 30, 31, 32, 33, 38, 39, 40, 41, 42, 43, 44] (by decide +kernel) (by decide +kernel)
set_option maxRecDepth 20000 in
theorem gX1_orbit_X1_fill : GoodIn wsX1_orbit (wsV RX1 59 RX1 yX1_fill wsX1_fill) := goodIn_app (goodIn_of _ (by decide +kernel)) ggX1_orbit_X1_fill
set_option maxRecDepth 20000 in
theorem ggX1_orbit_X1_all : GoodIn wsX1_orbit wsX1_all := goodIn_r _ [37, 15, 1, 38, 39, 40, 41, 42, 43, 44] (by decide +kernel) (by decide +kernel)
set_option maxRecDepth 20000 in
theorem gX1_orbit_X1_all : GoodIn wsX1_orbit (wsV RX1 62 RX1 yX1_all wsX1_all) := goodIn_app (goodIn_of _ (by decide +kernel)) ggX1_orbit_X1_all
set_option maxRecDepth 20000 in
theorem ggX1_orbit_X1_permutation : GoodIn wsX1_orbit wsX1_permutation := goodIn_r _ [14, 1, 15, 16, 17, 18, 6, 19, 20, 21, 22, 23, 24, 25, 38, 39, 40, 41, 42, 43, 44] (by decide +kernel) (by decide +kernel)
set_option maxRecDepth 20000 in
theorem gX1_orbit_X1_permutation : GoodIn wsX1_orbit (wsV RX1 39 RX1 yX1_permutation wsX1_permutation) := goodIn_app (goodIn_of _ (by decide +kernel)) ggX1_orbit_X1_permutation
set_option maxRecDepth 20000 in
theorem ggX1_orbit_X1_image : GoodIn wsX1_orbit wsX1_image := goodIn_r _ [22] (by decide +kernel) (by decide +kernel)
set_option maxRecDepth 20000 in
theorem gX1_orbit_X1_image : GoodIn wsX1_orbit (va_wsS RX1 27 yX1_image wsX1_image) := goodIn_app (goodIn_of _ (by decide +kernel)) ggX1_orbit_X1_image
theorem dX1_orbit_0 : decode cX1_orbit 0 = .ok (.iload_n 1, 1) := by decide +kernel
theorem dX1_orbit_1 : decode cX1_orbit 1 = .ok (.ifCond .lt 11, 3) := by decide +kernel
theorem dX1_orbit_4 : decode cX1_orbit 4 = .ok (.iload_n 1, 1) := by decide +kernel
theorem dX1_orbit_5 : decode cX1_orbit 5 = .ok (.aload_n 0, 1) := by decide +kernel
theorem dX1_orbit_6 : decode cX1_orbit 6 = .ok (.getfield 23, 3) := by decide +kernel
theorem dX1_orbit_9 : decode cX1_orbit 9 = .ok (.if_icmp .lt 5, 3) := by decide +kernel
theorem dX1_orbit_12 : decode cX1_orbit 12 = .ok (.iconst 0, 1) := by decide +kernel
theorem dX1_orbit_13 : decode cX1_orbit 13 = .ok (.ireturn, 1) := by decide +kernel
theorem dX1_orbit_14 : decode cX1_orbit 14 = .ok (.aload_n 0, 1) := by decide +kernel
theorem dX1_orbit_15 : decode cX1_orbit 15 = .ok (.invokevirtual 59, 3) := by decide +kernel
theorem dX1_orbit_18 : decode cX1_orbit 18 = .ok (.iconst 0, 1) := by decide +kernel
theorem dX1_orbit_19 : decode cX1_orbit 19 = .ok (.istore_n 2, 1) := by decide +kernel
theorem dX1_orbit_20 : decode cX1_orbit 20 = .ok (.iconst 0, 1) := by decide +kernel
theorem dX1_orbit_21 : decode cX1_orbit 21 = .ok (.istore_n 3, 1) := by decide +kernel
theorem dX1_orbit_22 : decode cX1_orbit 22 = .ok (.iload_n 3, 1) := by decide +kernel
theorem dX1_orbit_23 : decode cX1_orbit 23 = .ok (.aload_n 0, 1) := by decide +kernel
theorem dX1_orbit_24 : decode cX1_orbit 24 = .ok (.invokevirtual 62, 3) := by decide +kernel
theorem dX1_orbit_27 : decode cX1_orbit 27 = .ok (.if_icmp .ge 39, 3) := by decide +kernel
theorem dX1_orbit_30 : decode cX1_orbit 30 = .ok (.aload_n 0, 1) := by decide +kernel
theorem dX1_orbit_31 : decode cX1_orbit 31 = .ok (.getfield 16, 3) := by decide +kernel
theorem dX1_orbit_34 : decode cX1_orbit 34 = .ok (.iload_n 3, 1) := by decide +kernel
theorem dX1_orbit_35 : decode cX1_orbit 35 = .ok (.baload, 1) := by decide +kernel
theorem dX1_orbit_36 : decode cX1_orbit 36 = .ok (.ifCond .ne 6, 3) := by decide +kernel
theorem dX1_orbit_39 : decode cX1_orbit 39 = .ok (.goto 21, 3) := by decide +kernel
theorem dX1_orbit_42 : decode cX1_orbit 42 = .ok (.aload_n 0, 1) := by decide +kernel
theorem dX1_orbit_43 : decode cX1_orbit 43 = .ok (.iload_n 3, 1) := by decide +kernel
theorem dX1_orbit_44 : decode cX1_orbit 44 = .ok (.invokevirtual 39, 3) := by decide +kernel
theorem dX1_orbit_47 : decode cX1_orbit 47 = .ok (.istore 4, 2) := by decide +kernel
theorem dX1_orbit_49 : decode cX1_orbit 49 = .ok (.iload_n 2, 1) := by decide +kernel
theorem dX1_orbit_50 : decode cX1_orbit 50 = .ok (.iconst 1, 1) := by decide +kernel
theorem dX1_orbit_51 : decode cX1_orbit 51 = .ok (.iload 4, 2) := by decide +kernel
theorem dX1_orbit_53 : decode cX1_orbit 53 = .ok (.iload_n 1, 1) := by decide +kernel
theorem dX1_orbit_54 : decode cX1_orbit 54 = .ok (.invokestatic 27, 3) := by decide +kernel
theorem dX1_orbit_57 : decode cX1_orbit 57 = .ok (.ishl, 1) := by decide +kernel
theorem dX1_orbit_58 : decode cX1_orbit 58 = .ok (.ior, 1) := by decide +kernel
theorem dX1_orbit_59 : decode cX1_orbit 59 = .ok (.istore_n 2, 1) := by decide +kernel
theorem dX1_orbit_60 : decode cX1_orbit 60 = .ok (.iinc 3 1, 3) := by decide +kernel
theorem dX1_orbit_63 : decode cX1_orbit 63 = .ok (.goto (-41), 3) := by decide +kernel
theorem dX1_orbit_66 : decode cX1_orbit 66 = .ok (.iload_n 2, 1) := by decide +kernel
theorem dX1_orbit_67 : decode cX1_orbit 67 = .ok (.ireturn, 1) := by decide +kernel
set_option maxRecDepth 20000 in
theorem ggX1_fixing_X1_fill : GoodIn wsX1_fixing wsX1_fill := goodIn_r _ [7, 2, 8, 9, 10, 11, 12, 13, 6, 14, 1, 15, 16, 17, 18, 19, 20, 21, 22, 23, 24, 25, 26, 27, 28, 29, 30, 31, 32, 33, 38, 39, 40, 41, 42, 43, 44] (by decide +kernel) (by decide +kernel)
set_option maxRecDepth 20000 in
theorem gX1_fixing_X1_fill : GoodIn wsX1_fixing (wsV RX1 59 RX1 yX1_fill wsX1_fill) := goodIn_app (goodIn_of _ (by decide +kernel)) ggX1_fixing_X1_fill
set_option maxRecDepth 20000 in
theorem ggX1_fixing_X1_all : GoodIn wsX1_fixing wsX1_all := goodIn_r _ [37, 15, 1, 38, 39, 40, 41, 42, 43, 44] (by decide +kernel) (by decide +kernel)
set_option maxRecDepth 20000 in
theorem gX1_fixing_X1_all : GoodIn wsX1_fixing (wsV RX1 62 RX1 yX1_all wsX1_all) := goodIn_app (goodIn_of _ (by decide +kernel)) ggX1_fixing_X1_all
set_option maxRecDepth 20000 in
theorem ggX1_fixing_X1_permutation : GoodIn wsX1_fixing wsX1_permutation := goodIn_r _ [14, 1, 15, 16, 17, 18, 6, 19, 20, 21, 22, 23, 24, 25, 38, 39, 40, 41, 42, 43, 44] (by decide +kernel) (by decide +kernel)
set_option maxRecDepth 20000 in
theorem gX1_fixing_X1_permutation : GoodIn wsX1_fixing (wsV RX1 39 RX1 yX1_permutation wsX1_permutation) := goodIn_app (goodIn_of _ (by decide +kernel)) ggX1_fixing_X1_permutation
set_option maxRecDepth 20000 in
theorem ggX1_fixing_X1_image : GoodIn wsX1_fixing wsX1_image := goodIn_r _ [22] (by decide +kernel) (by decide +kernel)
set_option maxRecDepth 20000 in
theorem gX1_fixing_X1_image : GoodIn wsX1_fixing (va_wsS RX1 27 yX1_image wsX1_image) := goodIn_app (goodIn_of _ (by decide +kernel)) ggX1_fixing_X1_image
theorem dX1_fixing_0 : decode cX1_fixing 0 = .ok (.iload_n 1, 1) := by decide +kernel
theorem dX1_fixing_1 : decode cX1_fixing 1 = .ok (.ifCond .lt 11, 3) := by decide +kernel
theorem dX1_fixing_4 : decode cX1_fixing 4 = .ok (.iload_n 1, 1) := by decide +kernel
theorem dX1_fixing_5 : decode cX1_fixing 5 = .ok (.aload_n 0, 1) := by decide +kernel
theorem dX1_fixing_6 : decode cX1_fixing 6 = .ok (.getfield 23, 3) := by decide +kernel
theorem dX1_fixing_9 : decode cX1_fixing 9 = .ok (.if_icmp .le 5, 3) := by decide +kernel
theorem dX1_fixing_12 : decode cX1_fixing 12 = .ok (.iconst 0, 1) := by decide +kernel
theorem dX1_fixing_13 : decode cX1_fixing 13 = .ok (.ireturn, 1) := by decide +kernel
theorem dX1_fixing_14 : decode cX1_fixing 14 = .ok (.aload_n 0, 1) := by decide +kernel
theorem dX1_fixing_15 : decode cX1_fixing 15 = .ok (.invokevirtual 59, 3) := by decide +kernel
theorem dX1_fixing_18 : decode cX1_fixing 18 = .ok (.iconst 0, 1) := by decide +kernel
theorem dX1_fixing_19 : decode cX1_fixing 19 = .ok (.istore_n 2, 1) := by decide +kernel
theorem dX1_fixing_20 : decode cX1_fixing 20 = .ok (.iconst 0, 1) := by decide +kernel
theorem dX1_fixing_21 : decode cX1_fixing 21 = .ok (.istore_n 3, 1) := by decide +kernel
theorem dX1_fixing_22 : decode cX1_fixing 22 = .ok (.iload_n 3, 1) := by decide +kernel
theorem dX1_fixing_23 : decode cX1_fixing 23 = .ok (.aload_n 0, 1) := by decide +kernel
theorem dX1_fixing_24 : decode cX1_fixing 24 = .ok (.invokevirtual 62, 3) := by decide +kernel
theorem dX1_fixing_27 : decode cX1_fixing 27 = .ok (.if_icmp .ge 69, 3) := by decide +kernel
theorem dX1_fixing_30 : decode cX1_fixing 30 = .ok (.aload_n 0, 1) := by decide +kernel
theorem dX1_fixing_31 : decode cX1_fixing 31 = .ok (.getfield 16, 3) := by decide +kernel
theorem dX1_fixing_34 : decode cX1_fixing 34 = .ok (.iload_n 3, 1) := by decide +kernel
theorem dX1_fixing_35 : decode cX1_fixing 35 = .ok (.baload, 1) := by decide +kernel
theorem dX1_fixing_36 : decode cX1_fixing 36 = .ok (.ifCond .ne 6, 3) := by decide +kernel
theorem dX1_fixing_39 : decode cX1_fixing 39 = .ok (.goto 51, 3) := by decide +kernel
theorem dX1_fixing_42 : decode cX1_fixing 42 = .ok (.aload_n 0, 1) := by decide +kernel
theorem dX1_fixing_43 : decode cX1_fixing 43 = .ok (.iload_n 3, 1) := by decide +kernel
theorem dX1_fixing_44 : decode cX1_fixing 44 = .ok (.invokevirtual 39, 3) := by decide +kernel
theorem dX1_fixing_47 : decode cX1_fixing 47 = .ok (.istore 4, 2) := by decide +kernel
theorem dX1_fixing_49 : decode cX1_fixing 49 = .ok (.iconst 1, 1) := by decide +kernel
theorem dX1_fixing_50 : decode cX1_fixing 50 = .ok (.istore 5, 2) := by decide +kernel
theorem dX1_fixing_52 : decode cX1_fixing 52 = .ok (.iconst 0, 1) := by decide +kernel
theorem dX1_fixing_53 : decode cX1_fixing 53 = .ok (.istore 6, 2) := by decide +kernel
theorem dX1_fixing_55 : decode cX1_fixing 55 = .ok (.iload 6, 2) := by decide +kernel
theorem dX1_fixing_57 : decode cX1_fixing 57 = .ok (.iload_n 1, 1) := by decide +kernel
theorem dX1_fixing_58 : decode cX1_fixing 58 = .ok (.if_icmp .ge 24, 3) := by decide +kernel
theorem dX1_fixing_61 : decode cX1_fixing 61 = .ok (.iload 4, 2) := by decide +kernel
theorem dX1_fixing_63 : decode cX1_fixing 63 = .ok (.iload 6, 2) := by decide +kernel
theorem dX1_fixing_65 : decode cX1_fixing 65 = .ok (.invokestatic 27, 3) := by decide +kernel
theorem dX1_fixing_68 : decode cX1_fixing 68 = .ok (.iload 6, 2) := by decide +kernel
theorem dX1_fixing_70 : decode cX1_fixing 70 = .ok (.if_icmp .eq 6, 3) := by decide +kernel
theorem dX1_fixing_73 : decode cX1_fixing 73 = .ok (.iconst 0, 1) := by decide +kernel
theorem dX1_fixing_74 : decode cX1_fixing 74 = .ok (.istore 5, 2) := by decide +kernel
theorem dX1_fixing_76 : decode cX1_fixing 76 = .ok (.iinc 6 1, 3) := by decide +kernel
theorem dX1_fixing_79 : decode cX1_fixing 79 = .ok (.goto (-24), 3) := by decide +kernel
theorem dX1_fixing_82 : decode cX1_fixing 82 = .ok (.iload 5, 2) := by decide +kernel
theorem dX1_fixing_84 : decode cX1_fixing 84 = .ok (.ifCond .eq 6, 3) := by decide +kernel
theorem dX1_fixing_87 : decode cX1_fixing 87 = .ok (.iinc 2 1, 3) := by decide +kernel
theorem dX1_fixing_90 : decode cX1_fixing 90 = .ok (.iinc 3 1, 3) := by decide +kernel
theorem dX1_fixing_93 : decode cX1_fixing 93 = .ok (.goto (-71), 3) := by decide +kernel
theorem dX1_fixing_96 : decode cX1_fixing 96 = .ok (.iload_n 2, 1) := by decide +kernel
theorem dX1_fixing_97 : decode cX1_fixing 97 = .ok (.ireturn, 1) := by decide +kernel
set_option maxRecDepth 20000 in
theorem ggX1_even_X1_fill : GoodIn wsX1_even wsX1_fill := goodIn_r _ [7, 1, 8, 9, 10, 11, 12, 13, 6, 14, 2, 15, 16, 17, 18, 19, 20, 21, 22, 23, 24, 25, 26, 27, 28, 29, 30, 31, 32, 33, 38, 39, 40, 41, 42, 43, 44] (by decide +kernel) (by decide +kernel)
set_option maxRecDepth 20000 in
theorem gX1_even_X1_fill : GoodIn wsX1_even (wsV RX1 59 RX1 yX1_fill wsX1_fill) := goodIn_app (goodIn_of _ (by decide +kernel)) ggX1_even_X1_fill
set_option maxRecDepth 20000 in
theorem ggX1_even_X1_all : GoodIn wsX1_even wsX1_all := goodIn_r _ [37, 15, 2, 38, 39, 40, 41, 42, 43, 44] (by decide +kernel) (by decide +kernel)
set_option maxRecDepth 20000 in
theorem gX1_even_X1_all : GoodIn wsX1_even (wsV RX1 62 RX1 yX1_all wsX1_all) := goodIn_app (goodIn_of _ (by decide +kernel)) ggX1_even_X1_all
set_option maxRecDepth 20000 in
theorem ggX1_even_X1_permutation : GoodIn wsX1_even wsX1_permutation := goodIn_r _ [14, 2, 15, 16, 17, 18, 6, 19, 20, 21, 22, 23, 24, 25, 38, 39, 40, 41, 42, 43, 44] (by decide +kernel) (by decide +kernel)
set_option maxRecDepth 20000 in
theorem gX1_even_X1_permutation : GoodIn wsX1_even (wsV RX1 39 RX1 yX1_permutation wsX1_permutation) := goodIn_app (goodIn_of _ (by decide +kernel)) ggX1_even_X1_permutation
set_option maxRecDepth 20000 in
theorem ggX1_even_X1_image : GoodIn wsX1_even wsX1_image := goodIn_r _ [22] (by decide +kernel) (by decide +kernel)
set_option maxRecDepth 20000 in
theorem gX1_even_X1_image : GoodIn wsX1_even (va_wsS RX1 27 yX1_image wsX1_image) := goodIn_app (goodIn_of _ (by decide +kernel)) ggX1_even_X1_image
theorem dX1_even_0 : decode cX1_even 0 = .ok (.aload_n 0, 1) := by decide +kernel
theorem dX1_even_1 : decode cX1_even 1 = .ok (.invokevirtual 59, 3) := by decide +kernel
theorem dX1_even_4 : decode cX1_even 4 = .ok (.iconst 0, 1) := by decide +kernel
theorem dX1_even_5 : decode cX1_even 5 = .ok (.istore_n 1, 1) := by decide +kernel
theorem dX1_even_6 : decode cX1_even 6 = .ok (.iconst 0, 1) := by decide +kernel
theorem dX1_even_7 : decode cX1_even 7 = .ok (.istore_n 2, 1) := by decide +kernel
theorem dX1_even_8 : decode cX1_even 8 = .ok (.iload_n 2, 1) := by decide +kernel
theorem dX1_even_9 : decode cX1_even 9 = .ok (.aload_n 0, 1) := by decide +kernel
theorem dX1_even_10 : decode cX1_even 10 = .ok (.invokevirtual 62, 3) := by decide +kernel
theorem dX1_even_13 : decode cX1_even 13 = .ok (.if_icmp .ge 97, 3) := by decide +kernel
theorem dX1_even_16 : decode cX1_even 16 = .ok (.aload_n 0, 1) := by decide +kernel
theorem dX1_even_17 : decode cX1_even 17 = .ok (.getfield 16, 3) := by decide +kernel
theorem dX1_even_20 : decode cX1_even 20 = .ok (.iload_n 2, 1) := by decide +kernel
theorem dX1_even_21 : decode cX1_even 21 = .ok (.baload, 1) := by decide +kernel
theorem dX1_even_22 : decode cX1_even 22 = .ok (.ifCond .ne 6, 3) := by decide +kernel
theorem dX1_even_25 : decode cX1_even 25 = .ok (.goto 79, 3) := by decide +kernel
theorem dX1_even_28 : decode cX1_even 28 = .ok (.aload_n 0, 1) := by decide +kernel
theorem dX1_even_29 : decode cX1_even 29 = .ok (.iload_n 2, 1) := by decide +kernel
theorem dX1_even_30 : decode cX1_even 30 = .ok (.invokevirtual 39, 3) := by decide +kernel
theorem dX1_even_33 : decode cX1_even 33 = .ok (.istore_n 3, 1) := by decide +kernel
theorem dX1_even_34 : decode cX1_even 34 = .ok (.iconst 0, 1) := by decide +kernel
theorem dX1_even_35 : decode cX1_even 35 = .ok (.istore 4, 2) := by decide +kernel
theorem dX1_even_37 : decode cX1_even 37 = .ok (.iconst 0, 1) := by decide +kernel
theorem dX1_even_38 : decode cX1_even 38 = .ok (.istore 5, 2) := by decide +kernel
theorem dX1_even_40 : decode cX1_even 40 = .ok (.iload 5, 2) := by decide +kernel
theorem dX1_even_42 : decode cX1_even 42 = .ok (.aload_n 0, 1) := by decide +kernel
theorem dX1_even_43 : decode cX1_even 43 = .ok (.getfield 23, 3) := by decide +kernel
theorem dX1_even_46 : decode cX1_even 46 = .ok (.if_icmp .ge 48, 3) := by decide +kernel
theorem dX1_even_49 : decode cX1_even 49 = .ok (.iload 5, 2) := by decide +kernel
theorem dX1_even_51 : decode cX1_even 51 = .ok (.iconst 1, 1) := by decide +kernel
theorem dX1_even_52 : decode cX1_even 52 = .ok (.iadd, 1) := by decide +kernel
theorem dX1_even_53 : decode cX1_even 53 = .ok (.istore 6, 2) := by decide +kernel
theorem dX1_even_55 : decode cX1_even 55 = .ok (.iload 6, 2) := by decide +kernel
theorem dX1_even_57 : decode cX1_even 57 = .ok (.aload_n 0, 1) := by decide +kernel
theorem dX1_even_58 : decode cX1_even 58 = .ok (.getfield 23, 3) := by decide +kernel
theorem dX1_even_61 : decode cX1_even 61 = .ok (.if_icmp .ge 27, 3) := by decide +kernel
theorem dX1_even_64 : decode cX1_even 64 = .ok (.iload_n 3, 1) := by decide +kernel
theorem dX1_even_65 : decode cX1_even 65 = .ok (.iload 5, 2) := by decide +kernel
theorem dX1_even_67 : decode cX1_even 67 = .ok (.invokestatic 27, 3) := by decide +kernel
theorem dX1_even_70 : decode cX1_even 70 = .ok (.iload_n 3, 1) := by decide +kernel
theorem dX1_even_71 : decode cX1_even 71 = .ok (.iload 6, 2) := by decide +kernel
theorem dX1_even_73 : decode cX1_even 73 = .ok (.invokestatic 27, 3) := by decide +kernel
theorem dX1_even_76 : decode cX1_even 76 = .ok (.if_icmp .le 6, 3) := by decide +kernel
theorem dX1_even_79 : decode cX1_even 79 = .ok (.iinc 4 1, 3) := by decide +kernel
theorem dX1_even_82 : decode cX1_even 82 = .ok (.iinc 6 1, 3) := by decide +kernel
theorem dX1_even_85 : decode cX1_even 85 = .ok (.goto (-30), 3) := by decide +kernel
theorem dX1_even_88 : decode cX1_even 88 = .ok (.iinc 5 1, 3) := by decide +kernel
theorem dX1_even_91 : decode cX1_even 91 = .ok (.goto (-51), 3) := by decide +kernel
theorem dX1_even_94 : decode cX1_even 94 = .ok (.iload 4, 2) := by decide +kernel
theorem dX1_even_96 : decode cX1_even 96 = .ok (.iconst 2, 1) := by decide +kernel
theorem dX1_even_97 : decode cX1_even 97 = .ok (.irem, 1) := by decide +kernel
theorem dX1_even_98 : decode cX1_even 98 = .ok (.ifCond .ne 6, 3) := by decide +kernel
theorem dX1_even_101 : decode cX1_even 101 = .ok (.iinc 1 1, 3) := by decide +kernel
theorem dX1_even_104 : decode cX1_even 104 = .ok (.iinc 2 1, 3) := by decide +kernel
theorem dX1_even_107 : decode cX1_even 107 = .ok (.goto (-99), 3) := by decide +kernel
theorem dX1_even_110 : decode cX1_even 110 = .ok (.iload_n 1, 1) := by decide +kernel
theorem dX1_even_111 : decode cX1_even 111 = .ok (.ireturn, 1) := by decide +kernel
theorem dX1_thrown_0 : decode cX1_thrown 0 = .ok (.aload_n 0, 1) := by decide +kernel
theorem dX1_thrown_1 : decode cX1_thrown 1 = .ok (.getfield 69, 3) := by decide +kernel
theorem dX1_thrown_4 : decode cX1_thrown 4 = .ok (.ireturn, 1) := by decide +kernel
