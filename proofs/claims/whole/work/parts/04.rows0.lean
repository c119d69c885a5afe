set_option maxRecDepth 20000 in
theorem ggX0_init_X0_begin : GoodIn wsX0_init wsX0_begin := goodIn_r _ [13, 14, 15, 16, 7, 17, 18, 12, 19, 20, 21, 22, 23, 24, 25, 26] (by decide +kernel) (by decide +kernel)
set_option maxRecDepth 20000 in
theorem gX0_init_X0_begin : GoodIn wsX0_init (wsV RX0 21 RX0 yX0_begin wsX0_begin) := goodIn_app (goodIn_of _ (by decide +kernel)) ggX0_init_X0_begin
theorem dX0_init_0 : decode cX0_init 0 = .ok (.aload_n 0, 1) := by decide +kernel
theorem dX0_init_1 : decode cX0_init 1 = .ok (.invokespecial 3, 3) := by decide +kernel
theorem dX0_init_4 : decode cX0_init 4 = .ok (.aload_n 0, 1) := by decide +kernel
theorem dX0_init_5 : decode cX0_init 5 = .ok (.bipush 12, 2) := by decide +kernel
theorem dX0_init_7 : decode cX0_init 7 = .ok (.newarray .int, 2) := by decide +kernel
theorem dX0_init_9 : decode cX0_init 9 = .ok (.putfield 9, 3) := by decide +kernel
theorem dX0_init_12 : decode cX0_init 12 = .ok (.aload_n 0, 1) := by decide +kernel
theorem dX0_init_13 : decode cX0_init 13 = .ok (.bipush 13, 2) := by decide +kernel
theorem dX0_init_15 : decode cX0_init 15 = .ok (.bipush 56, 2) := by decide +kernel
theorem dX0_init_17 : decode cX0_init 17 = .ok (.multianewarray 13 2, 4) := by decide +kernel
theorem dX0_init_21 : decode cX0_init 21 = .ok (.putfield 15, 3) := by decide +kernel
theorem dX0_init_24 : decode cX0_init 24 = .ok (.aload_n 0, 1) := by decide +kernel
theorem dX0_init_25 : decode cX0_init 25 = .ok (.bipush 21, 2) := by decide +kernel
theorem dX0_init_27 : decode cX0_init 27 = .ok (.newarray .int, 2) := by decide +kernel
theorem dX0_init_29 : decode cX0_init 29 = .ok (.putfield 18, 3) := by decide +kernel
theorem dX0_init_32 : decode cX0_init 32 = .ok (.aload_n 0, 1) := by decide +kernel
theorem dX0_init_33 : decode cX0_init 33 = .ok (.iconst 5, 1) := by decide +kernel
theorem dX0_init_34 : decode cX0_init 34 = .ok (.invokevirtual 21, 3) := by decide +kernel
theorem dX0_init_37 : decode cX0_init 37 = .ok (.return_, 1) := by decide +kernel
set_option maxRecDepth 20000 in
theorem ggX0_points_X0_begin : GoodIn wsX0_points wsX0_begin := goodIn_r _ [5, 6, 7, 8, 9, 10, 11, 4, 12, 13, 14, 15, 16, 17, 18, 19] (by decide +kernel) (by decide +kernel)
set_option maxRecDepth 20000 in
theorem gX0_points_X0_begin : GoodIn wsX0_points (wsV RX0 21 RX0 yX0_begin wsX0_begin) := goodIn_app (goodIn_of _ (by decide +kernel)) ggX0_points_X0_begin
theorem dX0_points_0 : decode cX0_points 0 = .ok (.iload_n 1, 1) := by decide +kernel
theorem dX0_points_1 : decode cX0_points 1 = .ok (.iconst 1, 1) := by decide +kernel
theorem dX0_points_2 : decode cX0_points 2 = .ok (.if_icmp .lt 9, 3) := by decide +kernel
theorem dX0_points_5 : decode cX0_points 5 = .ok (.iload_n 1, 1) := by decide +kernel
theorem dX0_points_6 : decode cX0_points 6 = .ok (.bipush 7, 2) := by decide +kernel
theorem dX0_points_8 : decode cX0_points 8 = .ok (.if_icmp .le 5, 3) := by decide +kernel
theorem dX0_points_11 : decode cX0_points 11 = .ok (.iconst 0, 1) := by decide +kernel
theorem dX0_points_12 : decode cX0_points 12 = .ok (.ireturn, 1) := by decide +kernel
theorem dX0_points_13 : decode cX0_points 13 = .ok (.aload_n 0, 1) := by decide +kernel
theorem dX0_points_14 : decode cX0_points 14 = .ok (.iload_n 1, 1) := by decide +kernel
theorem dX0_points_15 : decode cX0_points 15 = .ok (.invokevirtual 21, 3) := by decide +kernel
theorem dX0_points_18 : decode cX0_points 18 = .ok (.iconst 1, 1) := by decide +kernel
theorem dX0_points_19 : decode cX0_points 19 = .ok (.ireturn, 1) := by decide +kernel
theorem dX0_degree_0 : decode cX0_degree 0 = .ok (.aload_n 0, 1) := by decide +kernel
theorem dX0_degree_1 : decode cX0_degree 1 = .ok (.getfield 25, 3) := by decide +kernel
theorem dX0_degree_4 : decode cX0_degree 4 = .ok (.ireturn, 1) := by decide +kernel
set_option maxRecDepth 20000 in
theorem ggX0_add_X0_isPermutation : GoodIn wsX0_add wsX0_isPermutation := goodIn_r _ [12, 13, 14, 15, 11, 16, 62, 63, 64, 65, 66, 67, 68] (by decide +kernel) (by decide +kernel)
set_option maxRecDepth 20000 in
theorem gX0_add_X0_isPermutation : GoodIn wsX0_add (wsV RX0 29 RX0 yX0_isPermutation wsX0_isPermutation) := goodIn_app (goodIn_of _ (by decide +kernel)) ggX0_add_X0_isPermutation
set_option maxRecDepth 20000 in
theorem ggX0_add_X0_extendBy : GoodIn wsX0_add wsX0_extendBy := goodIn_r _ [20, 21, 22, 23, 24, 25, 11, 26, 13, 27, 28, 29, 30, 3, 1, 31, 32, 33, 34, 35, 36, 37, 38, 39, 40, 41, 42, 43, 44, 45, 14, 15, 16, 46, 47, 48, 49, 50, 51, 52, 53, 54, 55, 56, 57, 58, 59, 60, 61, 62, 63, 64, 65, 66, 67, 68] (by decide +kernel) (by decide +kernel)
set_option maxRecDepth 20000 in
theorem gX0_add_X0_extendBy : GoodIn wsX0_add (wsV RX0 42 RX0 yX0_extendBy wsX0_extendBy) := goodIn_app (goodIn_of _ (by decide +kernel)) ggX0_add_X0_extendBy
theorem dX0_add_0 : decode cX0_add 0 = .ok (.aload_n 0, 1) := by decide +kernel
theorem dX0_add_1 : decode cX0_add 1 = .ok (.iload_n 1, 1) := by decide +kernel
theorem dX0_add_2 : decode cX0_add 2 = .ok (.invokevirtual 29, 3) := by decide +kernel
theorem dX0_add_5 : decode cX0_add 5 = .ok (.ifCond .ne 5, 3) := by decide +kernel
theorem dX0_add_8 : decode cX0_add 8 = .ok (.iconst (-1), 1) := by decide +kernel
theorem dX0_add_9 : decode cX0_add 9 = .ok (.ireturn, 1) := by decide +kernel
theorem dX0_add_10 : decode cX0_add 10 = .ok (.aload_n 0, 1) := by decide +kernel
theorem dX0_add_11 : decode cX0_add 11 = .ok (.getfield 33, 3) := by decide +kernel
theorem dX0_add_14 : decode cX0_add 14 = .ok (.bipush 12, 2) := by decide +kernel
theorem dX0_add_16 : decode cX0_add 16 = .ok (.if_icmp .lt 6, 3) := by decide +kernel
theorem dX0_add_19 : decode cX0_add 19 = .ok (.bipush (-2), 2) := by decide +kernel
theorem dX0_add_21 : decode cX0_add 21 = .ok (.ireturn, 1) := by decide +kernel
theorem dX0_add_22 : decode cX0_add 22 = .ok (.aload_n 0, 1) := by decide +kernel
theorem dX0_add_23 : decode cX0_add 23 = .ok (.getfield 9, 3) := by decide +kernel
theorem dX0_add_26 : decode cX0_add 26 = .ok (.aload_n 0, 1) := by decide +kernel
theorem dX0_add_27 : decode cX0_add 27 = .ok (.getfield 33, 3) := by decide +kernel
theorem dX0_add_30 : decode cX0_add 30 = .ok (.iload_n 1, 1) := by decide +kernel
theorem dX0_add_31 : decode cX0_add 31 = .ok (.iastore, 1) := by decide +kernel
theorem dX0_add_32 : decode cX0_add 32 = .ok (.aload_n 0, 1) := by decide +kernel
theorem dX0_add_33 : decode cX0_add 33 = .ok (.getfield 15, 3) := by decide +kernel
theorem dX0_add_36 : decode cX0_add 36 = .ok (.aload_n 0, 1) := by decide +kernel
theorem dX0_add_37 : decode cX0_add 37 = .ok (.getfield 33, 3) := by decide +kernel
theorem dX0_add_40 : decode cX0_add 40 = .ok (.aaload, 1) := by decide +kernel
theorem dX0_add_41 : decode cX0_add 41 = .ok (.iconst 0, 1) := by decide +kernel
theorem dX0_add_42 : decode cX0_add 42 = .ok (.aload_n 0, 1) := by decide +kernel
theorem dX0_add_43 : decode cX0_add 43 = .ok (.getfield 15, 3) := by decide +kernel
theorem dX0_add_46 : decode cX0_add 46 = .ok (.aload_n 0, 1) := by decide +kernel
theorem dX0_add_47 : decode cX0_add 47 = .ok (.getfield 33, 3) := by decide +kernel
theorem dX0_add_50 : decode cX0_add 50 = .ok (.iconst 1, 1) := by decide +kernel
theorem dX0_add_51 : decode cX0_add 51 = .ok (.iadd, 1) := by decide +kernel
theorem dX0_add_52 : decode cX0_add 52 = .ok (.aaload, 1) := by decide +kernel
theorem dX0_add_53 : decode cX0_add 53 = .ok (.iconst 0, 1) := by decide +kernel
theorem dX0_add_54 : decode cX0_add 54 = .ok (.bipush 56, 2) := by decide +kernel
theorem dX0_add_56 : decode cX0_add 56 = .ok (.invokestatic 36, 3) := by decide +kernel
theorem dX0_add_59 : decode cX0_add 59 = .ok (.aload_n 0, 1) := by decide +kernel
theorem dX0_add_60 : decode cX0_add 60 = .ok (.dup, 1) := by decide +kernel
theorem dX0_add_61 : decode cX0_add 61 = .ok (.getfield 33, 3) := by decide +kernel
theorem dX0_add_64 : decode cX0_add 64 = .ok (.iconst 1, 1) := by decide +kernel
theorem dX0_add_65 : decode cX0_add 65 = .ok (.iadd, 1) := by decide +kernel
theorem dX0_add_66 : decode cX0_add 66 = .ok (.putfield 33, 3) := by decide +kernel
theorem dX0_add_69 : decode cX0_add 69 = .ok (.aload_n 0, 1) := by decide +kernel
theorem dX0_add_70 : decode cX0_add 70 = .ok (.iload_n 1, 1) := by decide +kernel
theorem dX0_add_71 : decode cX0_add 71 = .ok (.invokevirtual 42, 3) := by decide +kernel
theorem dX0_add_74 : decode cX0_add 74 = .ok (.aload_n 0, 1) := by decide +kernel
theorem dX0_add_75 : decode cX0_add 75 = .ok (.getfield 33, 3) := by decide +kernel
theorem dX0_add_78 : decode cX0_add 78 = .ok (.iconst 1, 1) := by decide +kernel
theorem dX0_add_79 : decode cX0_add 79 = .ok (.isub, 1) := by decide +kernel
theorem dX0_add_80 : decode cX0_add 80 = .ok (.ireturn, 1) := by decide +kernel
theorem dX0_drop_0 : decode cX0_drop 0 = .ok (.aload_n 0, 1) := by decide +kernel
theorem dX0_drop_1 : decode cX0_drop 1 = .ok (.getfield 33, 3) := by decide +kernel
theorem dX0_drop_4 : decode cX0_drop 4 = .ok (.ifCond .ne 5, 3) := by decide +kernel
theorem dX0_drop_7 : decode cX0_drop 7 = .ok (.iconst 0, 1) := by decide +kernel
theorem dX0_drop_8 : decode cX0_drop 8 = .ok (.ireturn, 1) := by decide +kernel
theorem dX0_drop_9 : decode cX0_drop 9 = .ok (.aload_n 0, 1) := by decide +kernel
theorem dX0_drop_10 : decode cX0_drop 10 = .ok (.dup, 1) := by decide +kernel
theorem dX0_drop_11 : decode cX0_drop 11 = .ok (.getfield 33, 3) := by decide +kernel
theorem dX0_drop_14 : decode cX0_drop 14 = .ok (.iconst 1, 1) := by decide +kernel
theorem dX0_drop_15 : decode cX0_drop 15 = .ok (.isub, 1) := by decide +kernel
theorem dX0_drop_16 : decode cX0_drop 16 = .ok (.putfield 33, 3) := by decide +kernel
theorem dX0_drop_19 : decode cX0_drop 19 = .ok (.iconst 1, 1) := by decide +kernel
theorem dX0_drop_20 : decode cX0_drop 20 = .ok (.ireturn, 1) := by decide +kernel
theorem dX0_generators_0 : decode cX0_generators 0 = .ok (.aload_n 0, 1) := by decide +kernel
theorem dX0_generators_1 : decode cX0_generators 1 = .ok (.getfield 33, 3) := by decide +kernel
theorem dX0_generators_4 : decode cX0_generators 4 = .ok (.ireturn, 1) := by decide +kernel
theorem dX0_generator_0 : decode cX0_generator 0 = .ok (.iload_n 1, 1) := by decide +kernel
theorem dX0_generator_1 : decode cX0_generator 1 = .ok (.ifCond .lt 11, 3) := by decide +kernel
theorem dX0_generator_4 : decode cX0_generator 4 = .ok (.iload_n 1, 1) := by decide +kernel
theorem dX0_generator_5 : decode cX0_generator 5 = .ok (.aload_n 0, 1) := by decide +kernel
theorem dX0_generator_6 : decode cX0_generator 6 = .ok (.getfield 33, 3) := by decide +kernel
theorem dX0_generator_9 : decode cX0_generator 9 = .ok (.if_icmp .lt 7, 3) := by decide +kernel
theorem dX0_generator_12 : decode cX0_generator 12 = .ok (.iconst (-1), 1) := by decide +kernel
theorem dX0_generator_13 : decode cX0_generator 13 = .ok (.goto 9, 3) := by decide +kernel
theorem dX0_generator_16 : decode cX0_generator 16 = .ok (.aload_n 0, 1) := by decide +kernel
theorem dX0_generator_17 : decode cX0_generator 17 = .ok (.getfield 9, 3) := by decide +kernel
theorem dX0_generator_20 : decode cX0_generator 20 = .ok (.iload_n 1, 1) := by decide +kernel
theorem dX0_generator_21 : decode cX0_generator 21 = .ok (.iaload, 1) := by decide +kernel
theorem dX0_generator_22 : decode cX0_generator 22 = .ok (.ireturn, 1) := by decide +kernel
set_option maxRecDepth 20000 in
theorem ggX0_product_X0_isPermutation : GoodIn wsX0_product wsX0_isPermutation := goodIn_r _ [5, 6, 7, 8, 4, 9, 14, 15, 16, 17, 18, 19, 20] (by decide +kernel) (by decide +kernel)
set_option maxRecDepth 20000 in
theorem gX0_product_X0_isPermutation : GoodIn wsX0_product (wsV RX0 29 RX0 yX0_isPermutation wsX0_isPermutation) := goodIn_app (goodIn_of _ (by decide +kernel)) ggX0_product_X0_isPermutation
set_option maxRecDepth 20000 in
theorem ggX0_product_X0_compose : GoodIn wsX0_product wsX0_compose := goodIn_r _ [13, 6, 7, 8, 4, 9, 14, 15, 16, 17, 18, 19, 20] (by decide +kernel) (by decide +kernel)
set_option maxRecDepth 20000 in
theorem gX0_product_X0_compose : GoodIn wsX0_product (wsV RX0 45 RX0 yX0_compose wsX0_compose) := goodIn_app (goodIn_of _ (by decide +kernel)) ggX0_product_X0_compose
theorem dX0_product_0 : decode cX0_product 0 = .ok (.aload_n 0, 1) := by decide +kernel
theorem dX0_product_1 : decode cX0_product 1 = .ok (.iload_n 1, 1) := by decide +kernel
theorem dX0_product_2 : decode cX0_product 2 = .ok (.invokevirtual 29, 3) := by decide +kernel
theorem dX0_product_5 : decode cX0_product 5 = .ok (.ifCond .eq 20, 3) := by decide +kernel
theorem dX0_product_8 : decode cX0_product 8 = .ok (.aload_n 0, 1) := by decide +kernel
theorem dX0_product_9 : decode cX0_product 9 = .ok (.iload_n 2, 1) := by decide +kernel
theorem dX0_product_10 : decode cX0_product 10 = .ok (.invokevirtual 29, 3) := by decide +kernel
theorem dX0_product_13 : decode cX0_product 13 = .ok (.ifCond .eq 12, 3) := by decide +kernel
theorem dX0_product_16 : decode cX0_product 16 = .ok (.aload_n 0, 1) := by decide +kernel
theorem dX0_product_17 : decode cX0_product 17 = .ok (.iload_n 1, 1) := by decide +kernel
theorem dX0_product_18 : decode cX0_product 18 = .ok (.iload_n 2, 1) := by decide +kernel
theorem dX0_product_19 : decode cX0_product 19 = .ok (.invokevirtual 45, 3) := by decide +kernel
theorem dX0_product_22 : decode cX0_product 22 = .ok (.goto 4, 3) := by decide +kernel
theorem dX0_product_25 : decode cX0_product 25 = .ok (.iconst (-1), 1) := by decide +kernel
theorem dX0_product_26 : decode cX0_product 26 = .ok (.ireturn, 1) := by decide +kernel
set_option maxRecDepth 20000 in
theorem ggX0_inverse_X0_isPermutation : GoodIn wsX0_inverse wsX0_isPermutation := goodIn_r _ [5, 6, 7, 8, 4, 9, 14, 15, 16, 17, 18, 19, 20] (by decide +kernel) (by decide +kernel)
set_option maxRecDepth 20000 in
theorem gX0_inverse_X0_isPermutation : GoodIn wsX0_inverse (wsV RX0 29 RX0 yX0_isPermutation wsX0_isPermutation) := goodIn_app (goodIn_of _ (by decide +kernel)) ggX0_inverse_X0_isPermutation
set_option maxRecDepth 20000 in
theorem ggX0_inverse_X0_invert : GoodIn wsX0_inverse wsX0_invert := goodIn_r _ [13, 6, 7, 8, 4, 9, 14, 15, 16, 17, 18, 19, 20] (by decide +kernel) (by decide +kernel)
set_option maxRecDepth 20000 in
theorem gX0_inverse_X0_invert : GoodIn wsX0_inverse (wsV RX0 49 RX0 yX0_invert wsX0_invert) := goodIn_app (goodIn_of _ (by decide +kernel)) ggX0_inverse_X0_invert
theorem dX0_inverse_0 : decode cX0_inverse 0 = .ok (.aload_n 0, 1) := by decide +kernel
theorem dX0_inverse_1 : decode cX0_inverse 1 = .ok (.iload_n 1, 1) := by decide +kernel
theorem dX0_inverse_2 : decode cX0_inverse 2 = .ok (.invokevirtual 29, 3) := by decide +kernel
theorem dX0_inverse_5 : decode cX0_inverse 5 = .ok (.ifCond .eq 11, 3) := by decide +kernel
theorem dX0_inverse_8 : decode cX0_inverse 8 = .ok (.aload_n 0, 1) := by decide +kernel
theorem dX0_inverse_9 : decode cX0_inverse 9 = .ok (.iload_n 1, 1) := by decide +kernel
theorem dX0_inverse_10 : decode cX0_inverse 10 = .ok (.invokevirtual 49, 3) := by decide +kernel
theorem dX0_inverse_13 : decode cX0_inverse 13 = .ok (.goto 4, 3) := by decide +kernel
theorem dX0_inverse_16 : decode cX0_inverse 16 = .ok (.iconst (-1), 1) := by decide +kernel
theorem dX0_inverse_17 : decode cX0_inverse 17 = .ok (.ireturn, 1) := by decide +kernel
set_option maxRecDepth 20000 in
theorem ggX0_order_X0_fixersOfFirst : GoodIn wsX0_order wsX0_fixersOfFirst := goodIn_r _ [5, 6, 7, 8, 9, 4, 10, 11, 12, 13, 14, 15, 16, 17, 18, 19, 20, 21, 22] (by decide +kernel) (by decide +kernel)
set_option maxRecDepth 20000 in
theorem gX0_order_X0_fixersOfFirst : GoodIn wsX0_order (wsV RX0 53 RX0 yX0_fixersOfFirst wsX0_fixersOfFirst) := goodIn_app (goodIn_of _ (by decide +kernel)) ggX0_order_X0_fixersOfFirst
theorem dX0_order_0 : decode cX0_order 0 = .ok (.aload_n 0, 1) := by decide +kernel
theorem dX0_order_1 : decode cX0_order 1 = .ok (.iconst 0, 1) := by decide +kernel
theorem dX0_order_2 : decode cX0_order 2 = .ok (.invokevirtual 53, 3) := by decide +kernel
theorem dX0_order_5 : decode cX0_order 5 = .ok (.ireturn, 1) := by decide +kernel
set_option maxRecDepth 20000 in
theorem ggX0_contains_X0_isPermutation : GoodIn wsX0_contains wsX0_isPermutation := goodIn_r _ [5, 6, 7, 8, 4, 9, 36, 37, 38, 39, 40, 41, 42] (by decide +kernel) (by decide +kernel)
set_option maxRecDepth 20000 in
theorem gX0_contains_X0_isPermutation : GoodIn wsX0_contains (wsV RX0 29 RX0 yX0_isPermutation wsX0_isPermutation) := goodIn_app (goodIn_of _ (by decide +kernel)) ggX0_contains_X0_isPermutation
set_option maxRecDepth 20000 in
theorem ggX0_contains_X0_isElement : GoodIn wsX0_contains wsX0_isElement := goodIn_r _ [13, 14, 15, 16, 17, 4, 18, 6, 7, 8, 9, 19, 20, 21, 22, 23, 24, 25, 26, 27, 28, 29, 30, 31, 32, 33, 34, 35, 36, 37, 38, 39, 40, 41, 42] (by decide +kernel) (by decide +kernel)
set_option maxRecDepth 20000 in
theorem gX0_contains_X0_isElement : GoodIn wsX0_contains (wsV RX0 56 RX0 yX0_isElement wsX0_isElement) := goodIn_app (goodIn_of _ (by decide +kernel)) ggX0_contains_X0_isElement
theorem dX0_contains_0 : decode cX0_contains 0 = .ok (.aload_n 0, 1) := by decide +kernel
theorem dX0_contains_1 : decode cX0_contains 1 = .ok (.iload_n 1, 1) := by decide +kernel
theorem dX0_contains_2 : decode cX0_contains 2 = .ok (.invokevirtual 29, 3) := by decide +kernel
theorem dX0_contains_5 : decode cX0_contains 5 = .ok (.ifCond .eq 15, 3) := by decide +kernel
theorem dX0_contains_8 : decode cX0_contains 8 = .ok (.aload_n 0, 1) := by decide +kernel
theorem dX0_contains_9 : decode cX0_contains 9 = .ok (.iload_n 1, 1) := by decide +kernel
theorem dX0_contains_10 : decode cX0_contains 10 = .ok (.invokevirtual 56, 3) := by decide +kernel
theorem dX0_contains_13 : decode cX0_contains 13 = .ok (.ifCond .eq 7, 3) := by decide +kernel
theorem dX0_contains_16 : decode cX0_contains 16 = .ok (.iconst 1, 1) := by decide +kernel
theorem dX0_contains_17 : decode cX0_contains 17 = .ok (.goto 4, 3) := by decide +kernel
theorem dX0_contains_20 : decode cX0_contains 20 = .ok (.iconst 0, 1) := by decide +kernel
theorem dX0_contains_21 : decode cX0_contains 21 = .ok (.ireturn, 1) := by decide +kernel
set_option maxRecDepth 20000 in
theorem ggX0_orbit_X0_imagesOf : GoodIn wsX0_orbit wsX0_imagesOf := goodIn_r _ [8, 1, 9, 10, 7, 11, 12, 13, 14, 15, 16, 17, 18] (by decide +kernel) (by decide +kernel)
set_option maxRecDepth 20000 in
theorem gX0_orbit_X0_imagesOf : GoodIn wsX0_orbit (wsV RX0 85 RX0 yX0_imagesOf wsX0_imagesOf) := goodIn_app (goodIn_of _ (by decide +kernel)) ggX0_orbit_X0_imagesOf
theorem dX0_orbit_0 : decode cX0_orbit 0 = .ok (.iload_n 1, 1) := by decide +kernel
theorem dX0_orbit_1 : decode cX0_orbit 1 = .ok (.ifCond .lt 11, 3) := by decide +kernel
theorem dX0_orbit_4 : decode cX0_orbit 4 = .ok (.iload_n 1, 1) := by decide +kernel
theorem dX0_orbit_5 : decode cX0_orbit 5 = .ok (.aload_n 0, 1) := by decide +kernel
theorem dX0_orbit_6 : decode cX0_orbit 6 = .ok (.getfield 25, 3) := by decide +kernel
theorem dX0_orbit_9 : decode cX0_orbit 9 = .ok (.if_icmp .lt 5, 3) := by decide +kernel
theorem dX0_orbit_12 : decode cX0_orbit 12 = .ok (.iconst 0, 1) := by decide +kernel
theorem dX0_orbit_13 : decode cX0_orbit 13 = .ok (.ireturn, 1) := by decide +kernel
theorem dX0_orbit_14 : decode cX0_orbit 14 = .ok (.iconst 1, 1) := by decide +kernel
theorem dX0_orbit_15 : decode cX0_orbit 15 = .ok (.iload_n 1, 1) := by decide +kernel
theorem dX0_orbit_16 : decode cX0_orbit 16 = .ok (.ishl, 1) := by decide +kernel
theorem dX0_orbit_17 : decode cX0_orbit 17 = .ok (.istore_n 2, 1) := by decide +kernel
theorem dX0_orbit_18 : decode cX0_orbit 18 = .ok (.iconst 0, 1) := by decide +kernel
theorem dX0_orbit_19 : decode cX0_orbit 19 = .ok (.istore_n 3, 1) := by decide +kernel
theorem dX0_orbit_20 : decode cX0_orbit 20 = .ok (.iload_n 3, 1) := by decide +kernel
theorem dX0_orbit_21 : decode cX0_orbit 21 = .ok (.aload_n 0, 1) := by decide +kernel
theorem dX0_orbit_22 : decode cX0_orbit 22 = .ok (.getfield 25, 3) := by decide +kernel
theorem dX0_orbit_25 : decode cX0_orbit 25 = .ok (.if_icmp .ge 42, 3) := by decide +kernel
theorem dX0_orbit_28 : decode cX0_orbit 28 = .ok (.iconst 0, 1) := by decide +kernel
theorem dX0_orbit_29 : decode cX0_orbit 29 = .ok (.istore 4, 2) := by decide +kernel
theorem dX0_orbit_31 : decode cX0_orbit 31 = .ok (.iload 4, 2) := by decide +kernel
theorem dX0_orbit_33 : decode cX0_orbit 33 = .ok (.aload_n 0, 1) := by decide +kernel
theorem dX0_orbit_34 : decode cX0_orbit 34 = .ok (.getfield 33, 3) := by decide +kernel
theorem dX0_orbit_37 : decode cX0_orbit 37 = .ok (.if_icmp .ge 24, 3) := by decide +kernel
theorem dX0_orbit_40 : decode cX0_orbit 40 = .ok (.iload_n 2, 1) := by decide +kernel
theorem dX0_orbit_41 : decode cX0_orbit 41 = .ok (.aload_n 0, 1) := by decide +kernel
theorem dX0_orbit_42 : decode cX0_orbit 42 = .ok (.iload_n 2, 1) := by decide +kernel
theorem dX0_orbit_43 : decode cX0_orbit 43 = .ok (.aload_n 0, 1) := by decide +kernel
theorem dX0_orbit_44 : decode cX0_orbit 44 = .ok (.getfield 9, 3) := by decide +kernel
theorem dX0_orbit_47 : decode cX0_orbit 47 = .ok (.iload 4, 2) := by decide +kernel
theorem dX0_orbit_49 : decode cX0_orbit 49 = .ok (.iaload, 1) := by decide +kernel
theorem dX0_orbit_50 : decode cX0_orbit 50 = .ok (.invokevirtual 85, 3) := by decide +kernel
theorem dX0_orbit_53 : decode cX0_orbit 53 = .ok (.ior, 1) := by decide +kernel
theorem dX0_orbit_54 : decode cX0_orbit 54 = .ok (.istore_n 2, 1) := by decide +kernel
theorem dX0_orbit_55 : decode cX0_orbit 55 = .ok (.iinc 4 1, 3) := by decide +kernel
theorem dX0_orbit_58 : decode cX0_orbit 58 = .ok (.goto (-27), 3) := by decide +kernel
theorem dX0_orbit_61 : decode cX0_orbit 61 = .ok (.iinc 3 1, 3) := by decide +kernel
theorem dX0_orbit_64 : decode cX0_orbit 64 = .ok (.goto (-44), 3) := by decide +kernel
theorem dX0_orbit_67 : decode cX0_orbit 67 = .ok (.iload_n 2, 1) := by decide +kernel
theorem dX0_orbit_68 : decode cX0_orbit 68 = .ok (.ireturn, 1) := by decide +kernel
set_option maxRecDepth 20000 in
theorem ggX0_fixing_X0_fixersOfFirst : GoodIn wsX0_fixing wsX0_fixersOfFirst := goodIn_r _ [6, 1, 7, 8, 9, 5, 10, 11, 12, 13, 14, 15, 16, 17, 18, 19, 20, 21, 22] (by decide +kernel) (by decide +kernel)
set_option maxRecDepth 20000 in
theorem gX0_fixing_X0_fixersOfFirst : GoodIn wsX0_fixing (wsV RX0 53 RX0 yX0_fixersOfFirst wsX0_fixersOfFirst) := goodIn_app (goodIn_of _ (by decide +kernel)) ggX0_fixing_X0_fixersOfFirst
theorem dX0_fixing_0 : decode cX0_fixing 0 = .ok (.iload_n 1, 1) := by decide +kernel
theorem dX0_fixing_1 : decode cX0_fixing 1 = .ok (.ifCond .lt 11, 3) := by decide +kernel
theorem dX0_fixing_4 : decode cX0_fixing 4 = .ok (.iload_n 1, 1) := by decide +kernel
theorem dX0_fixing_5 : decode cX0_fixing 5 = .ok (.aload_n 0, 1) := by decide +kernel
theorem dX0_fixing_6 : decode cX0_fixing 6 = .ok (.getfield 25, 3) := by decide +kernel
theorem dX0_fixing_9 : decode cX0_fixing 9 = .ok (.if_icmp .le 7, 3) := by decide +kernel
theorem dX0_fixing_12 : decode cX0_fixing 12 = .ok (.iconst 0, 1) := by decide +kernel
theorem dX0_fixing_13 : decode cX0_fixing 13 = .ok (.goto 8, 3) := by decide +kernel
theorem dX0_fixing_16 : decode cX0_fixing 16 = .ok (.aload_n 0, 1) := by decide +kernel
theorem dX0_fixing_17 : decode cX0_fixing 17 = .ok (.iload_n 1, 1) := by decide +kernel
theorem dX0_fixing_18 : decode cX0_fixing 18 = .ok (.invokevirtual 53, 3) := by decide +kernel
theorem dX0_fixing_21 : decode cX0_fixing 21 = .ok (.ireturn, 1) := by decide +kernel
set_option maxRecDepth 20000 in
theorem ggX0_even_X0_fixersOfFirst : GoodIn wsX0_even wsX0_fixersOfFirst := goodIn_r _ [7, 8, 9, 10, 11, 6, 12, 13, 1, 14, 15, 16, 24, 25, 26, 27, 28, 29, 30] (by decide +kernel) (by decide +kernel)
set_option maxRecDepth 20000 in
theorem gX0_even_X0_fixersOfFirst : GoodIn wsX0_even (wsV RX0 53 RX0 yX0_fixersOfFirst wsX0_fixersOfFirst) := goodIn_app (goodIn_of _ (by decide +kernel)) ggX0_even_X0_fixersOfFirst
set_option maxRecDepth 20000 in
theorem ggX0_even_X0_isOdd : GoodIn wsX0_even wsX0_isOdd := goodIn_r _ [20, 8, 21, 22, 6, 23, 24, 25, 26, 27, 28, 29, 30] (by decide +kernel) (by decide +kernel)
set_option maxRecDepth 20000 in
theorem gX0_even_X0_isOdd : GoodIn wsX0_even (wsV RX0 88 RX0 yX0_isOdd wsX0_isOdd) := goodIn_app (goodIn_of _ (by decide +kernel)) ggX0_even_X0_isOdd
theorem dX0_even_0 : decode cX0_even 0 = .ok (.aload_n 0, 1) := by decide +kernel
theorem dX0_even_1 : decode cX0_even 1 = .ok (.iconst 0, 1) := by decide +kernel
theorem dX0_even_2 : decode cX0_even 2 = .ok (.invokevirtual 53, 3) := by decide +kernel
theorem dX0_even_5 : decode cX0_even 5 = .ok (.istore_n 1, 1) := by decide +kernel
theorem dX0_even_6 : decode cX0_even 6 = .ok (.iconst 0, 1) := by decide +kernel
theorem dX0_even_7 : decode cX0_even 7 = .ok (.istore_n 2, 1) := by decide +kernel
theorem dX0_even_8 : decode cX0_even 8 = .ok (.iload_n 2, 1) := by decide +kernel
theorem dX0_even_9 : decode cX0_even 9 = .ok (.aload_n 0, 1) := by decide +kernel
theorem dX0_even_10 : decode cX0_even 10 = .ok (.getfield 33, 3) := by decide +kernel
theorem dX0_even_13 : decode cX0_even 13 = .ok (.if_icmp .ge 26, 3) := by decide +kernel
theorem dX0_even_16 : decode cX0_even 16 = .ok (.aload_n 0, 1) := by decide +kernel
theorem dX0_even_17 : decode cX0_even 17 = .ok (.aload_n 0, 1) := by decide +kernel
theorem dX0_even_18 : decode cX0_even 18 = .ok (.getfield 9, 3) := by decide +kernel
theorem dX0_even_21 : decode cX0_even 21 = .ok (.iload_n 2, 1) := by decide +kernel
theorem dX0_even_22 : decode cX0_even 22 = .ok (.iaload, 1) := by decide +kernel
theorem dX0_even_23 : decode cX0_even 23 = .ok (.invokevirtual 88, 3) := by decide +kernel
theorem dX0_even_26 : decode cX0_even 26 = .ok (.ifCond .eq 7, 3) := by decide +kernel
theorem dX0_even_29 : decode cX0_even 29 = .ok (.iload_n 1, 1) := by decide +kernel
theorem dX0_even_30 : decode cX0_even 30 = .ok (.iconst 2, 1) := by decide +kernel
theorem dX0_even_31 : decode cX0_even 31 = .ok (.idiv, 1) := by decide +kernel
theorem dX0_even_32 : decode cX0_even 32 = .ok (.ireturn, 1) := by decide +kernel
theorem dX0_even_33 : decode cX0_even 33 = .ok (.iinc 2 1, 3) := by decide +kernel
theorem dX0_even_36 : decode cX0_even 36 = .ok (.goto (-28), 3) := by decide +kernel
theorem dX0_even_39 : decode cX0_even 39 = .ok (.iload_n 1, 1) := by decide +kernel
theorem dX0_even_40 : decode cX0_even 40 = .ok (.ireturn, 1) := by decide +kernel
set_option maxRecDepth 20000 in
theorem ggX0_begin_X0_slotOf : GoodIn wsX0_begin wsX0_slotOf := goodIn_r _ [8] (by decide +kernel) (by decide +kernel)
set_option maxRecDepth 20000 in
theorem gX0_begin_X0_slotOf : GoodIn wsX0_begin (va_wsS RX0 91 yX0_slotOf wsX0_slotOf) := goodIn_app (goodIn_of _ (by decide +kernel)) ggX0_begin_X0_slotOf
theorem dX0_begin_0 : decode cX0_begin 0 = .ok (.aload_n 0, 1) := by decide +kernel
theorem dX0_begin_1 : decode cX0_begin 1 = .ok (.iload_n 1, 1) := by decide +kernel
theorem dX0_begin_2 : decode cX0_begin 2 = .ok (.putfield 25, 3) := by decide +kernel
theorem dX0_begin_5 : decode cX0_begin 5 = .ok (.aload_n 0, 1) := by decide +kernel
theorem dX0_begin_6 : decode cX0_begin 6 = .ok (.iconst 0, 1) := by decide +kernel
theorem dX0_begin_7 : decode cX0_begin 7 = .ok (.putfield 33, 3) := by decide +kernel
theorem dX0_begin_10 : decode cX0_begin 10 = .ok (.aload_n 0, 1) := by decide +kernel
theorem dX0_begin_11 : decode cX0_begin 11 = .ok (.iconst 0, 1) := by decide +kernel
theorem dX0_begin_12 : decode cX0_begin 12 = .ok (.putfield 66, 3) := by decide +kernel
theorem dX0_begin_15 : decode cX0_begin 15 = .ok (.iconst 0, 1) := by decide +kernel
theorem dX0_begin_16 : decode cX0_begin 16 = .ok (.istore_n 2, 1) := by decide +kernel
theorem dX0_begin_17 : decode cX0_begin 17 = .ok (.iload_n 2, 1) := by decide +kernel
theorem dX0_begin_18 : decode cX0_begin 18 = .ok (.aload_n 0, 1) := by decide +kernel
theorem dX0_begin_19 : decode cX0_begin 19 = .ok (.getfield 25, 3) := by decide +kernel
theorem dX0_begin_22 : decode cX0_begin 22 = .ok (.if_icmp .ge 23, 3) := by decide +kernel
theorem dX0_begin_25 : decode cX0_begin 25 = .ok (.aload_n 0, 1) := by decide +kernel
theorem dX0_begin_26 : decode cX0_begin 26 = .ok (.dup, 1) := by decide +kernel
theorem dX0_begin_27 : decode cX0_begin 27 = .ok (.getfield 66, 3) := by decide +kernel
theorem dX0_begin_30 : decode cX0_begin 30 = .ok (.iload_n 2, 1) := by decide +kernel
theorem dX0_begin_31 : decode cX0_begin 31 = .ok (.iconst 3, 1) := by decide +kernel
theorem dX0_begin_32 : decode cX0_begin 32 = .ok (.iload_n 2, 1) := by decide +kernel
theorem dX0_begin_33 : decode cX0_begin 33 = .ok (.imul, 1) := by decide +kernel
theorem dX0_begin_34 : decode cX0_begin 34 = .ok (.ishl, 1) := by decide +kernel
theorem dX0_begin_35 : decode cX0_begin 35 = .ok (.ior, 1) := by decide +kernel
theorem dX0_begin_36 : decode cX0_begin 36 = .ok (.putfield 66, 3) := by decide +kernel
theorem dX0_begin_39 : decode cX0_begin 39 = .ok (.iinc 2 1, 3) := by decide +kernel
theorem dX0_begin_42 : decode cX0_begin 42 = .ok (.goto (-25), 3) := by decide +kernel
theorem dX0_begin_45 : decode cX0_begin 45 = .ok (.aload_n 0, 1) := by decide +kernel
theorem dX0_begin_46 : decode cX0_begin 46 = .ok (.getfield 15, 3) := by decide +kernel
theorem dX0_begin_49 : decode cX0_begin 49 = .ok (.iconst 0, 1) := by decide +kernel
theorem dX0_begin_50 : decode cX0_begin 50 = .ok (.aaload, 1) := by decide +kernel
theorem dX0_begin_51 : decode cX0_begin 51 = .ok (.astore_n 2, 1) := by decide +kernel
theorem dX0_begin_52 : decode cX0_begin 52 = .ok (.iconst 0, 1) := by decide +kernel
theorem dX0_begin_53 : decode cX0_begin 53 = .ok (.istore_n 3, 1) := by decide +kernel
theorem dX0_begin_54 : decode cX0_begin 54 = .ok (.iload_n 3, 1) := by decide +kernel
theorem dX0_begin_55 : decode cX0_begin 55 = .ok (.bipush 56, 2) := by decide +kernel
theorem dX0_begin_57 : decode cX0_begin 57 = .ok (.if_icmp .ge 13, 3) := by decide +kernel
theorem dX0_begin_60 : decode cX0_begin 60 = .ok (.aload_n 2, 1) := by decide +kernel
theorem dX0_begin_61 : decode cX0_begin 61 = .ok (.iload_n 3, 1) := by decide +kernel
theorem dX0_begin_62 : decode cX0_begin 62 = .ok (.iconst (-1), 1) := by decide +kernel
theorem dX0_begin_63 : decode cX0_begin 63 = .ok (.iastore, 1) := by decide +kernel
theorem dX0_begin_64 : decode cX0_begin 64 = .ok (.iinc 3 1, 3) := by decide +kernel
theorem dX0_begin_67 : decode cX0_begin 67 = .ok (.goto (-13), 3) := by decide +kernel
theorem dX0_begin_70 : decode cX0_begin 70 = .ok (.iconst 0, 1) := by decide +kernel
theorem dX0_begin_71 : decode cX0_begin 71 = .ok (.istore_n 3, 1) := by decide +kernel
theorem dX0_begin_72 : decode cX0_begin 72 = .ok (.iload_n 3, 1) := by decide +kernel
theorem dX0_begin_73 : decode cX0_begin 73 = .ok (.aload_n 0, 1) := by decide +kernel
theorem dX0_begin_74 : decode cX0_begin 74 = .ok (.getfield 25, 3) := by decide +kernel
theorem dX0_begin_77 : decode cX0_begin 77 = .ok (.if_icmp .ge 20, 3) := by decide +kernel
theorem dX0_begin_80 : decode cX0_begin 80 = .ok (.aload_n 2, 1) := by decide +kernel
theorem dX0_begin_81 : decode cX0_begin 81 = .ok (.iload_n 3, 1) := by decide +kernel
theorem dX0_begin_82 : decode cX0_begin 82 = .ok (.iload_n 3, 1) := by decide +kernel
theorem dX0_begin_83 : decode cX0_begin 83 = .ok (.invokestatic 91, 3) := by decide +kernel
theorem dX0_begin_86 : decode cX0_begin 86 = .ok (.aload_n 0, 1) := by decide +kernel
theorem dX0_begin_87 : decode cX0_begin 87 = .ok (.getfield 66, 3) := by decide +kernel
theorem dX0_begin_90 : decode cX0_begin 90 = .ok (.iastore, 1) := by decide +kernel
theorem dX0_begin_91 : decode cX0_begin 91 = .ok (.iinc 3 1, 3) := by decide +kernel
theorem dX0_begin_94 : decode cX0_begin 94 = .ok (.goto (-22), 3) := by decide +kernel
theorem dX0_begin_97 : decode cX0_begin 97 = .ok (.return_, 1) := by decide +kernel
set_option maxRecDepth 20000 in
theorem ggX0_isPermutation_X0_image : GoodIn wsX0_isPermutation wsX0_image := goodIn_r _ [5] (by decide +kernel) (by decide +kernel)
set_option maxRecDepth 20000 in
theorem gX0_isPermutation_X0_image : GoodIn wsX0_isPermutation (va_wsS RX0 94 yX0_image wsX0_image) := goodIn_app (goodIn_of _ (by decide +kernel)) ggX0_isPermutation_X0_image
theorem dX0_isPermutation_0 : decode cX0_isPermutation 0 = .ok (.iload_n 1, 1) := by decide +kernel
theorem dX0_isPermutation_1 : decode cX0_isPermutation 1 = .ok (.iconst 3, 1) := by decide +kernel
theorem dX0_isPermutation_2 : decode cX0_isPermutation 2 = .ok (.aload_n 0, 1) := by decide +kernel
theorem dX0_isPermutation_3 : decode cX0_isPermutation 3 = .ok (.getfield 25, 3) := by decide +kernel
theorem dX0_isPermutation_6 : decode cX0_isPermutation 6 = .ok (.imul, 1) := by decide +kernel
theorem dX0_isPermutation_7 : decode cX0_isPermutation 7 = .ok (.iushr, 1) := by decide +kernel
theorem dX0_isPermutation_8 : decode cX0_isPermutation 8 = .ok (.ifCond .eq 5, 3) := by decide +kernel
theorem dX0_isPermutation_11 : decode cX0_isPermutation 11 = .ok (.iconst 0, 1) := by decide +kernel
theorem dX0_isPermutation_12 : decode cX0_isPermutation 12 = .ok (.ireturn, 1) := by decide +kernel
theorem dX0_isPermutation_13 : decode cX0_isPermutation 13 = .ok (.iconst 0, 1) := by decide +kernel
theorem dX0_isPermutation_14 : decode cX0_isPermutation 14 = .ok (.istore_n 2, 1) := by decide +kernel
theorem dX0_isPermutation_15 : decode cX0_isPermutation 15 = .ok (.iconst 0, 1) := by decide +kernel
theorem dX0_isPermutation_16 : decode cX0_isPermutation 16 = .ok (.istore_n 3, 1) := by decide +kernel
theorem dX0_isPermutation_17 : decode cX0_isPermutation 17 = .ok (.iload_n 3, 1) := by decide +kernel
theorem dX0_isPermutation_18 : decode cX0_isPermutation 18 = .ok (.aload_n 0, 1) := by decide +kernel
theorem dX0_isPermutation_19 : decode cX0_isPermutation 19 = .ok (.getfield 25, 3) := by decide +kernel
theorem dX0_isPermutation_22 : decode cX0_isPermutation 22 = .ok (.if_icmp .ge 19, 3) := by decide +kernel
theorem dX0_isPermutation_25 : decode cX0_isPermutation 25 = .ok (.iload_n 2, 1) := by decide +kernel
theorem dX0_isPermutation_26 : decode cX0_isPermutation 26 = .ok (.iconst 1, 1) := by decide +kernel
theorem dX0_isPermutation_27 : decode cX0_isPermutation 27 = .ok (.iload_n 1, 1) := by decide +kernel
theorem dX0_isPermutation_28 : decode cX0_isPermutation 28 = .ok (.iload_n 3, 1) := by decide +kernel
theorem dX0_isPermutation_29 : decode cX0_isPermutation 29 = .ok (.invokestatic 94, 3) := by decide +kernel
theorem dX0_isPermutation_32 : decode cX0_isPermutation 32 = .ok (.ishl, 1) := by decide +kernel
theorem dX0_isPermutation_33 : decode cX0_isPermutation 33 = .ok (.ior, 1) := by decide +kernel
theorem dX0_isPermutation_34 : decode cX0_isPermutation 34 = .ok (.istore_n 2, 1) := by decide +kernel
theorem dX0_isPermutation_35 : decode cX0_isPermutation 35 = .ok (.iinc 3 1, 3) := by decide +kernel
theorem dX0_isPermutation_38 : decode cX0_isPermutation 38 = .ok (.goto (-21), 3) := by decide +kernel
theorem dX0_isPermutation_41 : decode cX0_isPermutation 41 = .ok (.iload_n 2, 1) := by decide +kernel
theorem dX0_isPermutation_42 : decode cX0_isPermutation 42 = .ok (.iconst 1, 1) := by decide +kernel
theorem dX0_isPermutation_43 : decode cX0_isPermutation 43 = .ok (.aload_n 0, 1) := by decide +kernel
theorem dX0_isPermutation_44 : decode cX0_isPermutation 44 = .ok (.getfield 25, 3) := by decide +kernel
theorem dX0_isPermutation_47 : decode cX0_isPermutation 47 = .ok (.ishl, 1) := by decide +kernel
theorem dX0_isPermutation_48 : decode cX0_isPermutation 48 = .ok (.iconst 1, 1) := by decide +kernel
theorem dX0_isPermutation_49 : decode cX0_isPermutation 49 = .ok (.isub, 1) := by decide +kernel
theorem dX0_isPermutation_50 : decode cX0_isPermutation 50 = .ok (.if_icmp .ne 7, 3) := by decide +kernel
theorem dX0_isPermutation_53 : decode cX0_isPermutation 53 = .ok (.iconst 1, 1) := by decide +kernel
theorem dX0_isPermutation_54 : decode cX0_isPermutation 54 = .ok (.goto 4, 3) := by decide +kernel
theorem dX0_isPermutation_57 : decode cX0_isPermutation 57 = .ok (.iconst 0, 1) := by decide +kernel
theorem dX0_isPermutation_58 : decode cX0_isPermutation 58 = .ok (.ireturn, 1) := by decide +kernel
theorem dX0_image_0 : decode cX0_image 0 = .ok (.iload_n 0, 1) := by decide +kernel
theorem dX0_image_1 : decode cX0_image 1 = .ok (.iconst 3, 1) := by decide +kernel
theorem dX0_image_2 : decode cX0_image 2 = .ok (.iload_n 1, 1) := by decide +kernel
theorem dX0_image_3 : decode cX0_image 3 = .ok (.imul, 1) := by decide +kernel
theorem dX0_image_4 : decode cX0_image 4 = .ok (.iushr, 1) := by decide +kernel
theorem dX0_image_5 : decode cX0_image 5 = .ok (.bipush 7, 2) := by decide +kernel
theorem dX0_image_7 : decode cX0_image 7 = .ok (.iand, 1) := by decide +kernel
theorem dX0_image_8 : decode cX0_image 8 = .ok (.ireturn, 1) := by decide +kernel
set_option maxRecDepth 20000 in
theorem ggX0_compose_X0_image : GoodIn wsX0_compose wsX0_image := goodIn_r _ [5] (by decide +kernel) (by decide +kernel)
set_option maxRecDepth 20000 in
theorem gX0_compose_X0_image : GoodIn wsX0_compose (va_wsS RX0 94 yX0_image wsX0_image) := goodIn_app (goodIn_of _ (by decide +kernel)) ggX0_compose_X0_image
theorem dX0_compose_0 : decode cX0_compose 0 = .ok (.iconst 0, 1) := by decide +kernel
theorem dX0_compose_1 : decode cX0_compose 1 = .ok (.istore_n 3, 1) := by decide +kernel
theorem dX0_compose_2 : decode cX0_compose 2 = .ok (.iconst 0, 1) := by decide +kernel
theorem dX0_compose_3 : decode cX0_compose 3 = .ok (.istore 4, 2) := by decide +kernel
theorem dX0_compose_5 : decode cX0_compose 5 = .ok (.iload 4, 2) := by decide +kernel
theorem dX0_compose_7 : decode cX0_compose 7 = .ok (.aload_n 0, 1) := by decide +kernel
theorem dX0_compose_8 : decode cX0_compose 8 = .ok (.getfield 25, 3) := by decide +kernel
theorem dX0_compose_11 : decode cX0_compose 11 = .ok (.if_icmp .ge 27, 3) := by decide +kernel
theorem dX0_compose_14 : decode cX0_compose 14 = .ok (.iload_n 3, 1) := by decide +kernel
theorem dX0_compose_15 : decode cX0_compose 15 = .ok (.iload_n 2, 1) := by decide +kernel
theorem dX0_compose_16 : decode cX0_compose 16 = .ok (.iload_n 1, 1) := by decide +kernel
theorem dX0_compose_17 : decode cX0_compose 17 = .ok (.iload 4, 2) := by decide +kernel
theorem dX0_compose_19 : decode cX0_compose 19 = .ok (.invokestatic 94, 3) := by decide +kernel
theorem dX0_compose_22 : decode cX0_compose 22 = .ok (.invokestatic 94, 3) := by decide +kernel
theorem dX0_compose_25 : decode cX0_compose 25 = .ok (.iconst 3, 1) := by decide +kernel
theorem dX0_compose_26 : decode cX0_compose 26 = .ok (.iload 4, 2) := by decide +kernel
theorem dX0_compose_28 : decode cX0_compose 28 = .ok (.imul, 1) := by decide +kernel
theorem dX0_compose_29 : decode cX0_compose 29 = .ok (.ishl, 1) := by decide +kernel
theorem dX0_compose_30 : decode cX0_compose 30 = .ok (.ior, 1) := by decide +kernel
theorem dX0_compose_31 : decode cX0_compose 31 = .ok (.istore_n 3, 1) := by decide +kernel
theorem dX0_compose_32 : decode cX0_compose 32 = .ok (.iinc 4 1, 3) := by decide +kernel
theorem dX0_compose_35 : decode cX0_compose 35 = .ok (.goto (-30), 3) := by decide +kernel
theorem dX0_compose_38 : decode cX0_compose 38 = .ok (.iload_n 3, 1) := by decide +kernel
theorem dX0_compose_39 : decode cX0_compose 39 = .ok (.ireturn, 1) := by decide +kernel
set_option maxRecDepth 20000 in
theorem ggX0_invert_X0_image : GoodIn wsX0_invert wsX0_image := goodIn_r _ [5] (by decide +kernel) (by decide +kernel)
set_option maxRecDepth 20000 in
theorem gX0_invert_X0_image : GoodIn wsX0_invert (va_wsS RX0 94 yX0_image wsX0_image) := goodIn_app (goodIn_of _ (by decide +kernel)) ggX0_invert_X0_image
theorem dX0_invert_0 : decode cX0_invert 0 = .ok (.iconst 0, 1) := by decide +kernel
theorem dX0_invert_1 : decode cX0_invert 1 = .ok (.istore_n 2, 1) := by decide +kernel
theorem dX0_invert_2 : decode cX0_invert 2 = .ok (.iconst 0, 1) := by decide +kernel
theorem dX0_invert_3 : decode cX0_invert 3 = .ok (.istore_n 3, 1) := by decide +kernel
theorem dX0_invert_4 : decode cX0_invert 4 = .ok (.iload_n 3, 1) := by decide +kernel
theorem dX0_invert_5 : decode cX0_invert 5 = .ok (.aload_n 0, 1) := by decide +kernel
theorem dX0_invert_6 : decode cX0_invert 6 = .ok (.getfield 25, 3) := by decide +kernel
theorem dX0_invert_9 : decode cX0_invert 9 = .ok (.if_icmp .ge 21, 3) := by decide +kernel
theorem dX0_invert_12 : decode cX0_invert 12 = .ok (.iload_n 2, 1) := by decide +kernel
theorem dX0_invert_13 : decode cX0_invert 13 = .ok (.iload_n 3, 1) := by decide +kernel
theorem dX0_invert_14 : decode cX0_invert 14 = .ok (.iconst 3, 1) := by decide +kernel
theorem dX0_invert_15 : decode cX0_invert 15 = .ok (.iload_n 1, 1) := by decide +kernel
theorem dX0_invert_16 : decode cX0_invert 16 = .ok (.iload_n 3, 1) := by decide +kernel
theorem dX0_invert_17 : decode cX0_invert 17 = .ok (.invokestatic 94, 3) := by decide +kernel
theorem dX0_invert_20 : decode cX0_invert 20 = .ok (.imul, 1) := by decide +kernel
theorem dX0_invert_21 : decode cX0_invert 21 = .ok (.ishl, 1) := by decide +kernel
theorem dX0_invert_22 : decode cX0_invert 22 = .ok (.ior, 1) := by decide +kernel
theorem dX0_invert_23 : decode cX0_invert 23 = .ok (.istore_n 2, 1) := by decide +kernel
theorem dX0_invert_24 : decode cX0_invert 24 = .ok (.iinc 3 1, 3) := by decide +kernel
theorem dX0_invert_27 : decode cX0_invert 27 = .ok (.goto (-23), 3) := by decide +kernel
theorem dX0_invert_30 : decode cX0_invert 30 = .ok (.iload_n 2, 1) := by decide +kernel
theorem dX0_invert_31 : decode cX0_invert 31 = .ok (.ireturn, 1) := by decide +kernel
set_option maxRecDepth 20000 in
theorem ggX0_isOdd_X0_image : GoodIn wsX0_isOdd wsX0_image := goodIn_r _ [5] (by decide +kernel) (by decide +kernel)
set_option maxRecDepth 20000 in
theorem gX0_isOdd_X0_image : GoodIn wsX0_isOdd (va_wsS RX0 94 yX0_image wsX0_image) := goodIn_app (goodIn_of _ (by decide +kernel)) ggX0_isOdd_X0_image
theorem dX0_isOdd_0 : decode cX0_isOdd 0 = .ok (.iconst 0, 1) := by decide +kernel
theorem dX0_isOdd_1 : decode cX0_isOdd 1 = .ok (.istore_n 2, 1) := by decide +kernel
theorem dX0_isOdd_2 : decode cX0_isOdd 2 = .ok (.iconst 1, 1) := by decide +kernel
theorem dX0_isOdd_3 : decode cX0_isOdd 3 = .ok (.istore_n 3, 1) := by decide +kernel
theorem dX0_isOdd_4 : decode cX0_isOdd 4 = .ok (.iload_n 3, 1) := by decide +kernel
theorem dX0_isOdd_5 : decode cX0_isOdd 5 = .ok (.aload_n 0, 1) := by decide +kernel
theorem dX0_isOdd_6 : decode cX0_isOdd 6 = .ok (.getfield 25, 3) := by decide +kernel
theorem dX0_isOdd_9 : decode cX0_isOdd 9 = .ok (.if_icmp .ge 41, 3) := by decide +kernel
theorem dX0_isOdd_12 : decode cX0_isOdd 12 = .ok (.iconst 0, 1) := by decide +kernel
theorem dX0_isOdd_13 : decode cX0_isOdd 13 = .ok (.istore 4, 2) := by decide +kernel
theorem dX0_isOdd_15 : decode cX0_isOdd 15 = .ok (.iload 4, 2) := by decide +kernel
theorem dX0_isOdd_17 : decode cX0_isOdd 17 = .ok (.iload_n 3, 1) := by decide +kernel
theorem dX0_isOdd_18 : decode cX0_isOdd 18 = .ok (.if_icmp .ge 26, 3) := by decide +kernel
theorem dX0_isOdd_21 : decode cX0_isOdd 21 = .ok (.iload_n 1, 1) := by decide +kernel
theorem dX0_isOdd_22 : decode cX0_isOdd 22 = .ok (.iload 4, 2) := by decide +kernel
theorem dX0_isOdd_24 : decode cX0_isOdd 24 = .ok (.invokestatic 94, 3) := by decide +kernel
theorem dX0_isOdd_27 : decode cX0_isOdd 27 = .ok (.iload_n 1, 1) := by decide +kernel
theorem dX0_isOdd_28 : decode cX0_isOdd 28 = .ok (.iload_n 3, 1) := by decide +kernel
theorem dX0_isOdd_29 : decode cX0_isOdd 29 = .ok (.invokestatic 94, 3) := by decide +kernel
theorem dX0_isOdd_32 : decode cX0_isOdd 32 = .ok (.if_icmp .le 6, 3) := by decide +kernel
theorem dX0_isOdd_35 : decode cX0_isOdd 35 = .ok (.iinc 2 1, 3) := by decide +kernel
theorem dX0_isOdd_38 : decode cX0_isOdd 38 = .ok (.iinc 4 1, 3) := by decide +kernel
theorem dX0_isOdd_41 : decode cX0_isOdd 41 = .ok (.goto (-26), 3) := by decide +kernel
theorem dX0_isOdd_44 : decode cX0_isOdd 44 = .ok (.iinc 3 1, 3) := by decide +kernel
theorem dX0_isOdd_47 : decode cX0_isOdd 47 = .ok (.goto (-43), 3) := by decide +kernel
theorem dX0_isOdd_50 : decode cX0_isOdd 50 = .ok (.iload_n 2, 1) := by decide +kernel
theorem dX0_isOdd_51 : decode cX0_isOdd 51 = .ok (.iconst 1, 1) := by decide +kernel
theorem dX0_isOdd_52 : decode cX0_isOdd 52 = .ok (.iand, 1) := by decide +kernel
theorem dX0_isOdd_53 : decode cX0_isOdd 53 = .ok (.iconst 1, 1) := by decide +kernel
theorem dX0_isOdd_54 : decode cX0_isOdd 54 = .ok (.if_icmp .ne 7, 3) := by decide +kernel
theorem dX0_isOdd_57 : decode cX0_isOdd 57 = .ok (.iconst 1, 1) := by decide +kernel
theorem dX0_isOdd_58 : decode cX0_isOdd 58 = .ok (.goto 4, 3) := by decide +kernel
theorem dX0_isOdd_61 : decode cX0_isOdd 61 = .ok (.iconst 0, 1) := by decide +kernel
theorem dX0_isOdd_62 : decode cX0_isOdd 62 = .ok (.ireturn, 1) := by decide +kernel
set_option maxRecDepth 20000 in
theorem ggX0_imagesOf_X0_image : GoodIn wsX0_imagesOf wsX0_image := goodIn_r _ [5] (by decide +kernel) (by decide +kernel)
set_option maxRecDepth 20000 in
theorem gX0_imagesOf_X0_image : GoodIn wsX0_imagesOf (va_wsS RX0 94 yX0_image wsX0_image) := goodIn_app (goodIn_of _ (by decide +kernel)) ggX0_imagesOf_X0_image
theorem dX0_imagesOf_0 : decode cX0_imagesOf 0 = .ok (.iconst 0, 1) := by decide +kernel
theorem dX0_imagesOf_1 : decode cX0_imagesOf 1 = .ok (.istore_n 3, 1) := by decide +kernel
theorem dX0_imagesOf_2 : decode cX0_imagesOf 2 = .ok (.iconst 0, 1) := by decide +kernel
theorem dX0_imagesOf_3 : decode cX0_imagesOf 3 = .ok (.istore 4, 2) := by decide +kernel
theorem dX0_imagesOf_5 : decode cX0_imagesOf 5 = .ok (.iload 4, 2) := by decide +kernel
theorem dX0_imagesOf_7 : decode cX0_imagesOf 7 = .ok (.aload_n 0, 1) := by decide +kernel
theorem dX0_imagesOf_8 : decode cX0_imagesOf 8 = .ok (.getfield 25, 3) := by decide +kernel
theorem dX0_imagesOf_11 : decode cX0_imagesOf 11 = .ok (.if_icmp .ge 30, 3) := by decide +kernel
theorem dX0_imagesOf_14 : decode cX0_imagesOf 14 = .ok (.iload_n 1, 1) := by decide +kernel
theorem dX0_imagesOf_15 : decode cX0_imagesOf 15 = .ok (.iload 4, 2) := by decide +kernel
theorem dX0_imagesOf_17 : decode cX0_imagesOf 17 = .ok (.iushr, 1) := by decide +kernel
theorem dX0_imagesOf_18 : decode cX0_imagesOf 18 = .ok (.iconst 1, 1) := by decide +kernel
theorem dX0_imagesOf_19 : decode cX0_imagesOf 19 = .ok (.iand, 1) := by decide +kernel
theorem dX0_imagesOf_20 : decode cX0_imagesOf 20 = .ok (.iconst 1, 1) := by decide +kernel
theorem dX0_imagesOf_21 : decode cX0_imagesOf 21 = .ok (.if_icmp .ne 14, 3) := by decide +kernel
theorem dX0_imagesOf_24 : decode cX0_imagesOf 24 = .ok (.iload_n 3, 1) := by decide +kernel
theorem dX0_imagesOf_25 : decode cX0_imagesOf 25 = .ok (.iconst 1, 1) := by decide +kernel
theorem dX0_imagesOf_26 : decode cX0_imagesOf 26 = .ok (.iload_n 2, 1) := by decide +kernel
theorem dX0_imagesOf_27 : decode cX0_imagesOf 27 = .ok (.iload 4, 2) := by decide +kernel
theorem dX0_imagesOf_29 : decode cX0_imagesOf 29 = .ok (.invokestatic 94, 3) := by decide +kernel
theorem dX0_imagesOf_32 : decode cX0_imagesOf 32 = .ok (.ishl, 1) := by decide +kernel
theorem dX0_imagesOf_33 : decode cX0_imagesOf 33 = .ok (.ior, 1) := by decide +kernel
theorem dX0_imagesOf_34 : decode cX0_imagesOf 34 = .ok (.istore_n 3, 1) := by decide +kernel
theorem dX0_imagesOf_35 : decode cX0_imagesOf 35 = .ok (.iinc 4 1, 3) := by decide +kernel
theorem dX0_imagesOf_38 : decode cX0_imagesOf 38 = .ok (.goto (-33), 3) := by decide +kernel
theorem dX0_imagesOf_41 : decode cX0_imagesOf 41 = .ok (.iload_n 3, 1) := by decide +kernel
theorem dX0_imagesOf_42 : decode cX0_imagesOf 42 = .ok (.ireturn, 1) := by decide +kernel
theorem dX0_slotOf_0 : decode cX0_slotOf 0 = .ok (.iload_n 0, 1) := by decide +kernel
theorem dX0_slotOf_1 : decode cX0_slotOf 1 = .ok (.bipush 8, 2) := by decide +kernel
theorem dX0_slotOf_3 : decode cX0_slotOf 3 = .ok (.imul, 1) := by decide +kernel
theorem dX0_slotOf_4 : decode cX0_slotOf 4 = .ok (.iload_n 1, 1) := by decide +kernel
theorem dX0_slotOf_5 : decode cX0_slotOf 5 = .ok (.iadd, 1) := by decide +kernel
theorem dX0_slotOf_6 : decode cX0_slotOf 6 = .ok (.ireturn, 1) := by decide +kernel
set_option maxRecDepth 20000 in
theorem ggX0_entry_X0_slotOf : GoodIn wsX0_entry wsX0_slotOf := goodIn_r _ [6] (by decide +kernel) (by decide +kernel)
set_option maxRecDepth 20000 in
theorem gX0_entry_X0_slotOf : GoodIn wsX0_entry (va_wsS RX0 91 yX0_slotOf wsX0_slotOf) := goodIn_app (goodIn_of _ (by decide +kernel)) ggX0_entry_X0_slotOf
theorem dX0_entry_0 : decode cX0_entry 0 = .ok (.aload_n 0, 1) := by decide +kernel
theorem dX0_entry_1 : decode cX0_entry 1 = .ok (.getfield 15, 3) := by decide +kernel
theorem dX0_entry_4 : decode cX0_entry 4 = .ok (.aload_n 0, 1) := by decide +kernel
theorem dX0_entry_5 : decode cX0_entry 5 = .ok (.getfield 33, 3) := by decide +kernel
theorem dX0_entry_8 : decode cX0_entry 8 = .ok (.aaload, 1) := by decide +kernel
theorem dX0_entry_9 : decode cX0_entry 9 = .ok (.iload_n 1, 1) := by decide +kernel
theorem dX0_entry_10 : decode cX0_entry 10 = .ok (.iload_n 2, 1) := by decide +kernel
theorem dX0_entry_11 : decode cX0_entry 11 = .ok (.invokestatic 91, 3) := by decide +kernel
theorem dX0_entry_14 : decode cX0_entry 14 = .ok (.iaload, 1) := by decide +kernel
theorem dX0_entry_15 : decode cX0_entry 15 = .ok (.ireturn, 1) := by decide +kernel
set_option maxRecDepth 20000 in
theorem ggX0_fixersOfFirst_X0_entry : GoodIn wsX0_fixersOfFirst wsX0_entry := goodIn_r _ [6, 7, 8, 9, 10, 5, 11, 12, 13, 14, 15, 16, 17, 18] (by decide +kernel) (by decide +kernel)
set_option maxRecDepth 20000 in
theorem gX0_fixersOfFirst_X0_entry : GoodIn wsX0_fixersOfFirst (wsV RX0 97 RX0 yX0_entry wsX0_entry) := goodIn_app (goodIn_of _ (by decide +kernel)) ggX0_fixersOfFirst_X0_entry
theorem dX0_fixersOfFirst_0 : decode cX0_fixersOfFirst 0 = .ok (.iconst 1, 1) := by decide +kernel
theorem dX0_fixersOfFirst_1 : decode cX0_fixersOfFirst 1 = .ok (.istore_n 2, 1) := by decide +kernel
theorem dX0_fixersOfFirst_2 : decode cX0_fixersOfFirst 2 = .ok (.iload_n 1, 1) := by decide +kernel
theorem dX0_fixersOfFirst_3 : decode cX0_fixersOfFirst 3 = .ok (.istore_n 3, 1) := by decide +kernel
theorem dX0_fixersOfFirst_4 : decode cX0_fixersOfFirst 4 = .ok (.iload_n 3, 1) := by decide +kernel
theorem dX0_fixersOfFirst_5 : decode cX0_fixersOfFirst 5 = .ok (.aload_n 0, 1) := by decide +kernel
theorem dX0_fixersOfFirst_6 : decode cX0_fixersOfFirst 6 = .ok (.getfield 25, 3) := by decide +kernel
theorem dX0_fixersOfFirst_9 : decode cX0_fixersOfFirst 9 = .ok (.if_icmp .ge 49, 3) := by decide +kernel
theorem dX0_fixersOfFirst_12 : decode cX0_fixersOfFirst 12 = .ok (.iconst 0, 1) := by decide +kernel
theorem dX0_fixersOfFirst_13 : decode cX0_fixersOfFirst 13 = .ok (.istore 4, 2) := by decide +kernel
theorem dX0_fixersOfFirst_15 : decode cX0_fixersOfFirst 15 = .ok (.iload_n 3, 1) := by decide +kernel
theorem dX0_fixersOfFirst_16 : decode cX0_fixersOfFirst 16 = .ok (.istore 5, 2) := by decide +kernel
theorem dX0_fixersOfFirst_18 : decode cX0_fixersOfFirst 18 = .ok (.iload 5, 2) := by decide +kernel
theorem dX0_fixersOfFirst_20 : decode cX0_fixersOfFirst 20 = .ok (.aload_n 0, 1) := by decide +kernel
theorem dX0_fixersOfFirst_21 : decode cX0_fixersOfFirst 21 = .ok (.getfield 25, 3) := by decide +kernel
theorem dX0_fixersOfFirst_24 : decode cX0_fixersOfFirst 24 = .ok (.if_icmp .ge 23, 3) := by decide +kernel
theorem dX0_fixersOfFirst_27 : decode cX0_fixersOfFirst 27 = .ok (.aload_n 0, 1) := by decide +kernel
theorem dX0_fixersOfFirst_28 : decode cX0_fixersOfFirst 28 = .ok (.iload_n 3, 1) := by decide +kernel
theorem dX0_fixersOfFirst_29 : decode cX0_fixersOfFirst 29 = .ok (.iload 5, 2) := by decide +kernel
theorem dX0_fixersOfFirst_31 : decode cX0_fixersOfFirst 31 = .ok (.invokevirtual 97, 3) := by decide +kernel
theorem dX0_fixersOfFirst_34 : decode cX0_fixersOfFirst 34 = .ok (.iconst (-1), 1) := by decide +kernel
theorem dX0_fixersOfFirst_35 : decode cX0_fixersOfFirst 35 = .ok (.if_icmp .eq 6, 3) := by decide +kernel
theorem dX0_fixersOfFirst_38 : decode cX0_fixersOfFirst 38 = .ok (.iinc 4 1, 3) := by decide +kernel
theorem dX0_fixersOfFirst_41 : decode cX0_fixersOfFirst 41 = .ok (.iinc 5 1, 3) := by decide +kernel
theorem dX0_fixersOfFirst_44 : decode cX0_fixersOfFirst 44 = .ok (.goto (-26), 3) := by decide +kernel
theorem dX0_fixersOfFirst_47 : decode cX0_fixersOfFirst 47 = .ok (.iload_n 2, 1) := by decide +kernel
theorem dX0_fixersOfFirst_48 : decode cX0_fixersOfFirst 48 = .ok (.iload 4, 2) := by decide +kernel
theorem dX0_fixersOfFirst_50 : decode cX0_fixersOfFirst 50 = .ok (.imul, 1) := by decide +kernel
theorem dX0_fixersOfFirst_51 : decode cX0_fixersOfFirst 51 = .ok (.istore_n 2, 1) := by decide +kernel
theorem dX0_fixersOfFirst_52 : decode cX0_fixersOfFirst 52 = .ok (.iinc 3 1, 3) := by decide +kernel
theorem dX0_fixersOfFirst_55 : decode cX0_fixersOfFirst 55 = .ok (.goto (-51), 3) := by decide +kernel
theorem dX0_fixersOfFirst_58 : decode cX0_fixersOfFirst 58 = .ok (.iload_n 2, 1) := by decide +kernel
theorem dX0_fixersOfFirst_59 : decode cX0_fixersOfFirst 59 = .ok (.ireturn, 1) := by decide +kernel
set_option maxRecDepth 20000 in
theorem ggX0_residue_X0_image : GoodIn wsX0_residue wsX0_image := goodIn_r _ [5] (by decide +kernel) (by decide +kernel)
set_option maxRecDepth 20000 in
theorem gX0_residue_X0_image : GoodIn wsX0_residue (va_wsS RX0 94 yX0_image wsX0_image) := goodIn_app (goodIn_of _ (by decide +kernel)) ggX0_residue_X0_image
set_option maxRecDepth 20000 in
theorem ggX0_residue_X0_entry : GoodIn wsX0_residue wsX0_entry := goodIn_r _ [9, 10, 11, 12, 13, 4, 14, 23, 24, 25, 26, 27, 28, 29] (by decide +kernel) (by decide +kernel)
set_option maxRecDepth 20000 in
theorem gX0_residue_X0_entry : GoodIn wsX0_residue (wsV RX0 97 RX0 yX0_entry wsX0_entry) := goodIn_app (goodIn_of _ (by decide +kernel)) ggX0_residue_X0_entry
set_option maxRecDepth 20000 in
theorem ggX0_residue_X0_invert : GoodIn wsX0_residue wsX0_invert := goodIn_r _ [18, 1, 2, 3, 4, 5, 23, 24, 25, 26, 27, 28, 29] (by decide +kernel) (by decide +kernel)
set_option maxRecDepth 20000 in
theorem gX0_residue_X0_invert : GoodIn wsX0_residue (wsV RX0 49 RX0 yX0_invert wsX0_invert) := goodIn_app (goodIn_of _ (by decide +kernel)) ggX0_residue_X0_invert
set_option maxRecDepth 20000 in
theorem ggX0_residue_X0_compose : GoodIn wsX0_residue wsX0_compose := goodIn_r _ [22, 1, 2, 3, 4, 5, 23, 24, 25, 26, 27, 28, 29] (by decide +kernel) (by decide +kernel)
set_option maxRecDepth 20000 in
theorem gX0_residue_X0_compose : GoodIn wsX0_residue (wsV RX0 45 RX0 yX0_compose wsX0_compose) := goodIn_app (goodIn_of _ (by decide +kernel)) ggX0_residue_X0_compose
theorem dX0_residue_0 : decode cX0_residue 0 = .ok (.iload_n 1, 1) := by decide +kernel
theorem dX0_residue_1 : decode cX0_residue 1 = .ok (.istore_n 2, 1) := by decide +kernel
theorem dX0_residue_2 : decode cX0_residue 2 = .ok (.iconst 0, 1) := by decide +kernel
theorem dX0_residue_3 : decode cX0_residue 3 = .ok (.istore_n 3, 1) := by decide +kernel
theorem dX0_residue_4 : decode cX0_residue 4 = .ok (.iload_n 3, 1) := by decide +kernel
theorem dX0_residue_5 : decode cX0_residue 5 = .ok (.aload_n 0, 1) := by decide +kernel
theorem dX0_residue_6 : decode cX0_residue 6 = .ok (.getfield 25, 3) := by decide +kernel
theorem dX0_residue_9 : decode cX0_residue 9 = .ok (.if_icmp .ge 51, 3) := by decide +kernel
theorem dX0_residue_12 : decode cX0_residue 12 = .ok (.iload_n 2, 1) := by decide +kernel
theorem dX0_residue_13 : decode cX0_residue 13 = .ok (.iload_n 3, 1) := by decide +kernel
theorem dX0_residue_14 : decode cX0_residue 14 = .ok (.invokestatic 94, 3) := by decide +kernel
theorem dX0_residue_17 : decode cX0_residue 17 = .ok (.istore 4, 2) := by decide +kernel
theorem dX0_residue_19 : decode cX0_residue 19 = .ok (.iload 4, 2) := by decide +kernel
theorem dX0_residue_21 : decode cX0_residue 21 = .ok (.iload_n 3, 1) := by decide +kernel
theorem dX0_residue_22 : decode cX0_residue 22 = .ok (.if_icmp .eq 32, 3) := by decide +kernel
theorem dX0_residue_25 : decode cX0_residue 25 = .ok (.aload_n 0, 1) := by decide +kernel
theorem dX0_residue_26 : decode cX0_residue 26 = .ok (.iload_n 3, 1) := by decide +kernel
theorem dX0_residue_27 : decode cX0_residue 27 = .ok (.iload 4, 2) := by decide +kernel
theorem dX0_residue_29 : decode cX0_residue 29 = .ok (.invokevirtual 97, 3) := by decide +kernel
theorem dX0_residue_32 : decode cX0_residue 32 = .ok (.istore 5, 2) := by decide +kernel
theorem dX0_residue_34 : decode cX0_residue 34 = .ok (.iload 5, 2) := by decide +kernel
theorem dX0_residue_36 : decode cX0_residue 36 = .ok (.iconst (-1), 1) := by decide +kernel
theorem dX0_residue_37 : decode cX0_residue 37 = .ok (.if_icmp .ne 5, 3) := by decide +kernel
theorem dX0_residue_40 : decode cX0_residue 40 = .ok (.iload_n 2, 1) := by decide +kernel
theorem dX0_residue_41 : decode cX0_residue 41 = .ok (.ireturn, 1) := by decide +kernel
theorem dX0_residue_42 : decode cX0_residue 42 = .ok (.aload_n 0, 1) := by decide +kernel
theorem dX0_residue_43 : decode cX0_residue 43 = .ok (.iload_n 2, 1) := by decide +kernel
theorem dX0_residue_44 : decode cX0_residue 44 = .ok (.aload_n 0, 1) := by decide +kernel
theorem dX0_residue_45 : decode cX0_residue 45 = .ok (.iload 5, 2) := by decide +kernel
theorem dX0_residue_47 : decode cX0_residue 47 = .ok (.invokevirtual 49, 3) := by decide +kernel
theorem dX0_residue_50 : decode cX0_residue 50 = .ok (.invokevirtual 45, 3) := by decide +kernel
theorem dX0_residue_53 : decode cX0_residue 53 = .ok (.istore_n 2, 1) := by decide +kernel
theorem dX0_residue_54 : decode cX0_residue 54 = .ok (.iinc 3 1, 3) := by decide +kernel
theorem dX0_residue_57 : decode cX0_residue 57 = .ok (.goto (-53), 3) := by decide +kernel
theorem dX0_residue_60 : decode cX0_residue 60 = .ok (.iload_n 2, 1) := by decide +kernel
theorem dX0_residue_61 : decode cX0_residue 61 = .ok (.ireturn, 1) := by decide +kernel
set_option maxRecDepth 20000 in
theorem ggX0_isElement_X0_residue : GoodIn wsX0_isElement wsX0_residue := goodIn_r _ [6, 7, 8, 9, 5, 10, 11, 12, 13, 14, 15, 16, 17, 18, 19, 20, 21, 22, 23, 24, 25, 26, 27, 28, 29, 30, 31, 32, 33, 34] (by decide +kernel) (by decide +kernel)
set_option maxRecDepth 20000 in
theorem gX0_isElement_X0_residue : GoodIn wsX0_isElement (wsV RX0 100 RX0 yX0_residue wsX0_residue) := goodIn_app (goodIn_of _ (by decide +kernel)) ggX0_isElement_X0_residue
theorem dX0_isElement_0 : decode cX0_isElement 0 = .ok (.aload_n 0, 1) := by decide +kernel
theorem dX0_isElement_1 : decode cX0_isElement 1 = .ok (.iload_n 1, 1) := by decide +kernel
theorem dX0_isElement_2 : decode cX0_isElement 2 = .ok (.invokevirtual 100, 3) := by decide +kernel
theorem dX0_isElement_5 : decode cX0_isElement 5 = .ok (.aload_n 0, 1) := by decide +kernel
theorem dX0_isElement_6 : decode cX0_isElement 6 = .ok (.getfield 66, 3) := by decide +kernel
theorem dX0_isElement_9 : decode cX0_isElement 9 = .ok (.if_icmp .ne 7, 3) := by decide +kernel
theorem dX0_isElement_12 : decode cX0_isElement 12 = .ok (.iconst 1, 1) := by decide +kernel
theorem dX0_isElement_13 : decode cX0_isElement 13 = .ok (.goto 4, 3) := by decide +kernel
theorem dX0_isElement_16 : decode cX0_isElement 16 = .ok (.iconst 0, 1) := by decide +kernel
theorem dX0_isElement_17 : decode cX0_isElement 17 = .ok (.ireturn, 1) := by decide +kernel
set_option maxRecDepth 20000 in
theorem ggX0_extendBy_X0_listFilled : GoodIn wsX0_extendBy wsX0_listFilled := goodIn_r _ [7, 1, 8, 9, 10, 11, 6, 12, 13, 14, 15, 16, 17, 18, 19, 20, 21, 2, 49, 50, 51, 52, 53, 54, 55] (by decide +kernel) (by decide +kernel)
set_option maxRecDepth 20000 in
theorem gX0_extendBy_X0_listFilled : GoodIn wsX0_extendBy (wsV RX0 103 RX0 yX0_listFilled wsX0_listFilled) := goodIn_app (goodIn_of _ (by decide +kernel)) ggX0_extendBy_X0_listFilled
set_option maxRecDepth 20000 in
theorem ggX0_extendBy_X0_enter : GoodIn wsX0_extendBy wsX0_enter := goodIn_r _ [25, 8, 13, 14, 26, 27, 28, 6, 29, 30, 31, 32, 9, 10, 11, 12, 15, 16, 17, 33, 34, 35, 36, 37, 38, 39, 40, 18, 19, 20, 21, 1, 2, 49, 50, 51, 52, 53, 54, 55] (by decide +kernel) (by decide +kernel)
set_option maxRecDepth 20000 in
theorem gX0_extendBy_X0_enter : GoodIn wsX0_extendBy (wsV RX0 109 RX0 yX0_enter wsX0_enter) := goodIn_app (goodIn_of _ (by decide +kernel)) ggX0_extendBy_X0_enter
set_option maxRecDepth 20000 in
theorem ggX0_extendBy_X0_isFull : GoodIn wsX0_extendBy wsX0_isFull := goodIn_r _ [44, 1, 8, 49, 50, 51, 52, 53, 54, 55] (by decide +kernel) (by decide +kernel)
set_option maxRecDepth 20000 in
theorem gX0_extendBy_X0_isFull : GoodIn wsX0_extendBy (wsV RX0 112 RX0 yX0_isFull wsX0_isFull) := goodIn_app (goodIn_of _ (by decide +kernel)) ggX0_extendBy_X0_isFull
set_option maxRecDepth 20000 in
theorem ggX0_extendBy_X0_enterProduct : GoodIn wsX0_extendBy wsX0_enterProduct := goodIn_r _ [48, 13, 14, 37, 38, 39, 6, 40, 8, 30, 31, 32, 22, 23, 24, 25, 26, 27, 28, 29, 9, 10, 11, 12, 15, 16, 17, 33, 34, 35, 36, 18, 19, 20, 21, 1, 2, 49, 50, 51, 52, 53, 54, 55] (by decide +kernel) (by decide +kernel)
set_option maxRecDepth 20000 in
theorem gX0_extendBy_X0_enterProduct : GoodIn wsX0_extendBy (wsV RX0 116 RX0 yX0_enterProduct wsX0_enterProduct) := goodIn_app (goodIn_of _ (by decide +kernel)) ggX0_extendBy_X0_enterProduct
theorem dX0_extendBy_0 : decode cX0_extendBy 0 = .ok (.aload_n 0, 1) := by decide +kernel
theorem dX0_extendBy_1 : decode cX0_extendBy 1 = .ok (.invokevirtual 103, 3) := by decide +kernel
theorem dX0_extendBy_4 : decode cX0_extendBy 4 = .ok (.aload_n 0, 1) := by decide +kernel
theorem dX0_extendBy_5 : decode cX0_extendBy 5 = .ok (.getfield 106, 3) := by decide +kernel
theorem dX0_extendBy_8 : decode cX0_extendBy 8 = .ok (.istore_n 2, 1) := by decide +kernel
theorem dX0_extendBy_9 : decode cX0_extendBy 9 = .ok (.aload_n 0, 1) := by decide +kernel
theorem dX0_extendBy_10 : decode cX0_extendBy 10 = .ok (.iload_n 1, 1) := by decide +kernel
theorem dX0_extendBy_11 : decode cX0_extendBy 11 = .ok (.invokevirtual 109, 3) := by decide +kernel
theorem dX0_extendBy_14 : decode cX0_extendBy 14 = .ok (.iload_n 2, 1) := by decide +kernel
theorem dX0_extendBy_15 : decode cX0_extendBy 15 = .ok (.istore_n 3, 1) := by decide +kernel
theorem dX0_extendBy_16 : decode cX0_extendBy 16 = .ok (.iload_n 3, 1) := by decide +kernel
theorem dX0_extendBy_17 : decode cX0_extendBy 17 = .ok (.bipush 21, 2) := by decide +kernel
theorem dX0_extendBy_19 : decode cX0_extendBy 19 = .ok (.if_icmp .ge 74, 3) := by decide +kernel
theorem dX0_extendBy_22 : decode cX0_extendBy 22 = .ok (.iload_n 3, 1) := by decide +kernel
theorem dX0_extendBy_23 : decode cX0_extendBy 23 = .ok (.aload_n 0, 1) := by decide +kernel
theorem dX0_extendBy_24 : decode cX0_extendBy 24 = .ok (.getfield 106, 3) := by decide +kernel
theorem dX0_extendBy_27 : decode cX0_extendBy 27 = .ok (.if_icmp .ge 10, 3) := by decide +kernel
theorem dX0_extendBy_30 : decode cX0_extendBy 30 = .ok (.aload_n 0, 1) := by decide +kernel
theorem dX0_extendBy_31 : decode cX0_extendBy 31 = .ok (.invokevirtual 112, 3) := by decide +kernel
theorem dX0_extendBy_34 : decode cX0_extendBy 34 = .ok (.ifCond .eq 4, 3) := by decide +kernel
theorem dX0_extendBy_37 : decode cX0_extendBy 37 = .ok (.return_, 1) := by decide +kernel
theorem dX0_extendBy_38 : decode cX0_extendBy 38 = .ok (.iconst 0, 1) := by decide +kernel
theorem dX0_extendBy_39 : decode cX0_extendBy 39 = .ok (.istore 4, 2) := by decide +kernel
theorem dX0_extendBy_41 : decode cX0_extendBy 41 = .ok (.iload 4, 2) := by decide +kernel
theorem dX0_extendBy_43 : decode cX0_extendBy 43 = .ok (.iload_n 3, 1) := by decide +kernel
theorem dX0_extendBy_44 : decode cX0_extendBy 44 = .ok (.if_icmp .gt 43, 3) := by decide +kernel
theorem dX0_extendBy_47 : decode cX0_extendBy 47 = .ok (.aload_n 0, 1) := by decide +kernel
theorem dX0_extendBy_48 : decode cX0_extendBy 48 = .ok (.aload_n 0, 1) := by decide +kernel
theorem dX0_extendBy_49 : decode cX0_extendBy 49 = .ok (.getfield 18, 3) := by decide +kernel
theorem dX0_extendBy_52 : decode cX0_extendBy 52 = .ok (.iload_n 3, 1) := by decide +kernel
theorem dX0_extendBy_53 : decode cX0_extendBy 53 = .ok (.iaload, 1) := by decide +kernel
theorem dX0_extendBy_54 : decode cX0_extendBy 54 = .ok (.aload_n 0, 1) := by decide +kernel
theorem dX0_extendBy_55 : decode cX0_extendBy 55 = .ok (.getfield 18, 3) := by decide +kernel
theorem dX0_extendBy_58 : decode cX0_extendBy 58 = .ok (.iload 4, 2) := by decide +kernel
theorem dX0_extendBy_60 : decode cX0_extendBy 60 = .ok (.iaload, 1) := by decide +kernel
theorem dX0_extendBy_61 : decode cX0_extendBy 61 = .ok (.invokevirtual 116, 3) := by decide +kernel
theorem dX0_extendBy_64 : decode cX0_extendBy 64 = .ok (.aload_n 0, 1) := by decide +kernel
theorem dX0_extendBy_65 : decode cX0_extendBy 65 = .ok (.aload_n 0, 1) := by decide +kernel
theorem dX0_extendBy_66 : decode cX0_extendBy 66 = .ok (.getfield 18, 3) := by decide +kernel
theorem dX0_extendBy_69 : decode cX0_extendBy 69 = .ok (.iload 4, 2) := by decide +kernel
theorem dX0_extendBy_71 : decode cX0_extendBy 71 = .ok (.iaload, 1) := by decide +kernel
theorem dX0_extendBy_72 : decode cX0_extendBy 72 = .ok (.aload_n 0, 1) := by decide +kernel
theorem dX0_extendBy_73 : decode cX0_extendBy 73 = .ok (.getfield 18, 3) := by decide +kernel
theorem dX0_extendBy_76 : decode cX0_extendBy 76 = .ok (.iload_n 3, 1) := by decide +kernel
theorem dX0_extendBy_77 : decode cX0_extendBy 77 = .ok (.iaload, 1) := by decide +kernel
theorem dX0_extendBy_78 : decode cX0_extendBy 78 = .ok (.invokevirtual 116, 3) := by decide +kernel
theorem dX0_extendBy_81 : decode cX0_extendBy 81 = .ok (.iinc 4 1, 3) := by decide +kernel
theorem dX0_extendBy_84 : decode cX0_extendBy 84 = .ok (.goto (-43), 3) := by decide +kernel
theorem dX0_extendBy_87 : decode cX0_extendBy 87 = .ok (.iinc 3 1, 3) := by decide +kernel
theorem dX0_extendBy_90 : decode cX0_extendBy 90 = .ok (.goto (-74), 3) := by decide +kernel
theorem dX0_extendBy_93 : decode cX0_extendBy 93 = .ok (.return_, 1) := by decide +kernel
set_option maxRecDepth 20000 in
theorem ggX0_listFilled_X0_entry : GoodIn wsX0_listFilled wsX0_entry := goodIn_r _ [7, 8, 9, 10, 11, 6, 12, 18, 19, 20, 21, 22, 23, 24] (by decide +kernel) (by decide +kernel)
set_option maxRecDepth 20000 in
theorem gX0_listFilled_X0_entry : GoodIn wsX0_listFilled (wsV RX0 97 RX0 yX0_entry wsX0_entry) := goodIn_app (goodIn_of _ (by decide +kernel)) ggX0_listFilled_X0_entry
set_option maxRecDepth 20000 in
theorem ggX0_listFilled_X0_slotOf : GoodIn wsX0_listFilled wsX0_slotOf := goodIn_r _ [12] (by decide +kernel) (by decide +kernel)
set_option maxRecDepth 20000 in
theorem gX0_listFilled_X0_slotOf : GoodIn wsX0_listFilled (va_wsS RX0 91 yX0_slotOf wsX0_slotOf) := goodIn_app (goodIn_of _ (by decide +kernel)) ggX0_listFilled_X0_slotOf
set_option maxRecDepth 20000 in
theorem ggX0_listFilled_X0_noteFilled : GoodIn wsX0_listFilled wsX0_noteFilled := goodIn_r _ [16, 1, 17, 18, 19, 20, 21, 22, 23, 24] (by decide +kernel) (by decide +kernel)
set_option maxRecDepth 20000 in
theorem gX0_listFilled_X0_noteFilled : GoodIn wsX0_listFilled (wsV RX0 120 RX0 yX0_noteFilled wsX0_noteFilled) := goodIn_app (goodIn_of _ (by decide +kernel)) ggX0_listFilled_X0_noteFilled
theorem dX0_listFilled_0 : decode cX0_listFilled 0 = .ok (.aload_n 0, 1) := by decide +kernel
theorem dX0_listFilled_1 : decode cX0_listFilled 1 = .ok (.iconst 0, 1) := by decide +kernel
theorem dX0_listFilled_2 : decode cX0_listFilled 2 = .ok (.putfield 106, 3) := by decide +kernel
theorem dX0_listFilled_5 : decode cX0_listFilled 5 = .ok (.iconst 0, 1) := by decide +kernel
theorem dX0_listFilled_6 : decode cX0_listFilled 6 = .ok (.istore_n 1, 1) := by decide +kernel
theorem dX0_listFilled_7 : decode cX0_listFilled 7 = .ok (.iload_n 1, 1) := by decide +kernel
theorem dX0_listFilled_8 : decode cX0_listFilled 8 = .ok (.aload_n 0, 1) := by decide +kernel
theorem dX0_listFilled_9 : decode cX0_listFilled 9 = .ok (.getfield 25, 3) := by decide +kernel
theorem dX0_listFilled_12 : decode cX0_listFilled 12 = .ok (.if_icmp .ge 46, 3) := by decide +kernel
theorem dX0_listFilled_15 : decode cX0_listFilled 15 = .ok (.iload_n 1, 1) := by decide +kernel
theorem dX0_listFilled_16 : decode cX0_listFilled 16 = .ok (.iconst 1, 1) := by decide +kernel
theorem dX0_listFilled_17 : decode cX0_listFilled 17 = .ok (.iadd, 1) := by decide +kernel
theorem dX0_listFilled_18 : decode cX0_listFilled 18 = .ok (.istore_n 2, 1) := by decide +kernel
theorem dX0_listFilled_19 : decode cX0_listFilled 19 = .ok (.iload_n 2, 1) := by decide +kernel
theorem dX0_listFilled_20 : decode cX0_listFilled 20 = .ok (.aload_n 0, 1) := by decide +kernel
theorem dX0_listFilled_21 : decode cX0_listFilled 21 = .ok (.getfield 25, 3) := by decide +kernel
theorem dX0_listFilled_24 : decode cX0_listFilled 24 = .ok (.if_icmp .ge 28, 3) := by decide +kernel
theorem dX0_listFilled_27 : decode cX0_listFilled 27 = .ok (.aload_n 0, 1) := by decide +kernel
theorem dX0_listFilled_28 : decode cX0_listFilled 28 = .ok (.iload_n 1, 1) := by decide +kernel
theorem dX0_listFilled_29 : decode cX0_listFilled 29 = .ok (.iload_n 2, 1) := by decide +kernel
theorem dX0_listFilled_30 : decode cX0_listFilled 30 = .ok (.invokevirtual 97, 3) := by decide +kernel
theorem dX0_listFilled_33 : decode cX0_listFilled 33 = .ok (.iconst (-1), 1) := by decide +kernel
theorem dX0_listFilled_34 : decode cX0_listFilled 34 = .ok (.if_icmp .eq 12, 3) := by decide +kernel
theorem dX0_listFilled_37 : decode cX0_listFilled 37 = .ok (.aload_n 0, 1) := by decide +kernel
theorem dX0_listFilled_38 : decode cX0_listFilled 38 = .ok (.iload_n 1, 1) := by decide +kernel
theorem dX0_listFilled_39 : decode cX0_listFilled 39 = .ok (.iload_n 2, 1) := by decide +kernel
theorem dX0_listFilled_40 : decode cX0_listFilled 40 = .ok (.invokestatic 91, 3) := by decide +kernel
theorem dX0_listFilled_43 : decode cX0_listFilled 43 = .ok (.invokevirtual 120, 3) := by decide +kernel
theorem dX0_listFilled_46 : decode cX0_listFilled 46 = .ok (.iinc 2 1, 3) := by decide +kernel
theorem dX0_listFilled_49 : decode cX0_listFilled 49 = .ok (.goto (-30), 3) := by decide +kernel
theorem dX0_listFilled_52 : decode cX0_listFilled 52 = .ok (.iinc 1 1, 3) := by decide +kernel
theorem dX0_listFilled_55 : decode cX0_listFilled 55 = .ok (.goto (-48), 3) := by decide +kernel
theorem dX0_listFilled_58 : decode cX0_listFilled 58 = .ok (.return_, 1) := by decide +kernel
theorem dX0_noteFilled_0 : decode cX0_noteFilled 0 = .ok (.aload_n 0, 1) := by decide +kernel
theorem dX0_noteFilled_1 : decode cX0_noteFilled 1 = .ok (.getfield 106, 3) := by decide +kernel
theorem dX0_noteFilled_4 : decode cX0_noteFilled 4 = .ok (.bipush 21, 2) := by decide +kernel
theorem dX0_noteFilled_6 : decode cX0_noteFilled 6 = .ok (.if_icmp .ge 23, 3) := by decide +kernel
theorem dX0_noteFilled_9 : decode cX0_noteFilled 9 = .ok (.aload_n 0, 1) := by decide +kernel
theorem dX0_noteFilled_10 : decode cX0_noteFilled 10 = .ok (.getfield 18, 3) := by decide +kernel
theorem dX0_noteFilled_13 : decode cX0_noteFilled 13 = .ok (.aload_n 0, 1) := by decide +kernel
theorem dX0_noteFilled_14 : decode cX0_noteFilled 14 = .ok (.getfield 106, 3) := by decide +kernel
theorem dX0_noteFilled_17 : decode cX0_noteFilled 17 = .ok (.iload_n 1, 1) := by decide +kernel
theorem dX0_noteFilled_18 : decode cX0_noteFilled 18 = .ok (.iastore, 1) := by decide +kernel
theorem dX0_noteFilled_19 : decode cX0_noteFilled 19 = .ok (.aload_n 0, 1) := by decide +kernel
theorem dX0_noteFilled_20 : decode cX0_noteFilled 20 = .ok (.dup, 1) := by decide +kernel
theorem dX0_noteFilled_21 : decode cX0_noteFilled 21 = .ok (.getfield 106, 3) := by decide +kernel
theorem dX0_noteFilled_24 : decode cX0_noteFilled 24 = .ok (.iconst 1, 1) := by decide +kernel
theorem dX0_noteFilled_25 : decode cX0_noteFilled 25 = .ok (.iadd, 1) := by decide +kernel
theorem dX0_noteFilled_26 : decode cX0_noteFilled 26 = .ok (.putfield 106, 3) := by decide +kernel
theorem dX0_noteFilled_29 : decode cX0_noteFilled 29 = .ok (.return_, 1) := by decide +kernel
theorem dX0_isFull_0 : decode cX0_isFull 0 = .ok (.aload_n 0, 1) := by decide +kernel
theorem dX0_isFull_1 : decode cX0_isFull 1 = .ok (.getfield 106, 3) := by decide +kernel
theorem dX0_isFull_4 : decode cX0_isFull 4 = .ok (.aload_n 0, 1) := by decide +kernel
theorem dX0_isFull_5 : decode cX0_isFull 5 = .ok (.getfield 25, 3) := by decide +kernel
theorem dX0_isFull_8 : decode cX0_isFull 8 = .ok (.aload_n 0, 1) := by decide +kernel
theorem dX0_isFull_9 : decode cX0_isFull 9 = .ok (.getfield 25, 3) := by decide +kernel
theorem dX0_isFull_12 : decode cX0_isFull 12 = .ok (.iconst 1, 1) := by decide +kernel
theorem dX0_isFull_13 : decode cX0_isFull 13 = .ok (.isub, 1) := by decide +kernel
theorem dX0_isFull_14 : decode cX0_isFull 14 = .ok (.imul, 1) := by decide +kernel
theorem dX0_isFull_15 : decode cX0_isFull 15 = .ok (.iconst 2, 1) := by decide +kernel
theorem dX0_isFull_16 : decode cX0_isFull 16 = .ok (.idiv, 1) := by decide +kernel
theorem dX0_isFull_17 : decode cX0_isFull 17 = .ok (.if_icmp .lt 7, 3) := by decide +kernel
theorem dX0_isFull_20 : decode cX0_isFull 20 = .ok (.iconst 1, 1) := by decide +kernel
theorem dX0_isFull_21 : decode cX0_isFull 21 = .ok (.goto 4, 3) := by decide +kernel
theorem dX0_isFull_24 : decode cX0_isFull 24 = .ok (.iconst 0, 1) := by decide +kernel
theorem dX0_isFull_25 : decode cX0_isFull 25 = .ok (.ireturn, 1) := by decide +kernel
set_option maxRecDepth 20000 in
theorem ggX0_enterProduct_X0_compose : GoodIn wsX0_enterProduct wsX0_compose := goodIn_r _ [7, 8, 9, 10, 6, 11, 37, 38, 39, 40, 41, 42, 43] (by decide +kernel) (by decide +kernel)
set_option maxRecDepth 20000 in
theorem gX0_enterProduct_X0_compose : GoodIn wsX0_enterProduct (wsV RX0 45 RX0 yX0_compose wsX0_compose) := goodIn_app (goodIn_of _ (by decide +kernel)) ggX0_enterProduct_X0_compose
set_option maxRecDepth 20000 in
theorem ggX0_enterProduct_X0_enter : GoodIn wsX0_enterProduct wsX0_enter := goodIn_r _ [15, 8, 1, 2, 16, 17, 18, 6, 19, 9, 10, 11, 20, 21, 22, 23, 24, 25, 26, 27, 28, 29, 30, 3, 4, 5, 7, 31, 32, 33, 34, 35, 36, 37, 38, 39, 40, 41, 42, 43] (by decide +kernel) (by decide +kernel)
set_option maxRecDepth 20000 in
theorem gX0_enterProduct_X0_enter : GoodIn wsX0_enterProduct (wsV RX0 109 RX0 yX0_enter wsX0_enter) := goodIn_app (goodIn_of _ (by decide +kernel)) ggX0_enterProduct_X0_enter
theorem dX0_enterProduct_0 : decode cX0_enterProduct 0 = .ok (.aload_n 0, 1) := by decide +kernel
theorem dX0_enterProduct_1 : decode cX0_enterProduct 1 = .ok (.getfield 15, 3) := by decide +kernel
theorem dX0_enterProduct_4 : decode cX0_enterProduct 4 = .ok (.aload_n 0, 1) := by decide +kernel
theorem dX0_enterProduct_5 : decode cX0_enterProduct 5 = .ok (.getfield 33, 3) := by decide +kernel
theorem dX0_enterProduct_8 : decode cX0_enterProduct 8 = .ok (.aaload, 1) := by decide +kernel
theorem dX0_enterProduct_9 : decode cX0_enterProduct 9 = .ok (.astore_n 3, 1) := by decide +kernel
theorem dX0_enterProduct_10 : decode cX0_enterProduct 10 = .ok (.iload_n 1, 1) := by decide +kernel
theorem dX0_enterProduct_11 : decode cX0_enterProduct 11 = .ok (.bipush 8, 2) := by decide +kernel
theorem dX0_enterProduct_13 : decode cX0_enterProduct 13 = .ok (.idiv, 1) := by decide +kernel
theorem dX0_enterProduct_14 : decode cX0_enterProduct 14 = .ok (.iload_n 2, 1) := by decide +kernel
theorem dX0_enterProduct_15 : decode cX0_enterProduct 15 = .ok (.bipush 8, 2) := by decide +kernel
theorem dX0_enterProduct_17 : decode cX0_enterProduct 17 = .ok (.idiv, 1) := by decide +kernel
theorem dX0_enterProduct_18 : decode cX0_enterProduct 18 = .ok (.if_icmp .gt 17, 3) := by decide +kernel
theorem dX0_enterProduct_21 : decode cX0_enterProduct 21 = .ok (.aload_n 0, 1) := by decide +kernel
theorem dX0_enterProduct_22 : decode cX0_enterProduct 22 = .ok (.aload_n 0, 1) := by decide +kernel
theorem dX0_enterProduct_23 : decode cX0_enterProduct 23 = .ok (.aload_n 3, 1) := by decide +kernel
theorem dX0_enterProduct_24 : decode cX0_enterProduct 24 = .ok (.iload_n 1, 1) := by decide +kernel
theorem dX0_enterProduct_25 : decode cX0_enterProduct 25 = .ok (.iaload, 1) := by decide +kernel
theorem dX0_enterProduct_26 : decode cX0_enterProduct 26 = .ok (.aload_n 3, 1) := by decide +kernel
theorem dX0_enterProduct_27 : decode cX0_enterProduct 27 = .ok (.iload_n 2, 1) := by decide +kernel
theorem dX0_enterProduct_28 : decode cX0_enterProduct 28 = .ok (.iaload, 1) := by decide +kernel
theorem dX0_enterProduct_29 : decode cX0_enterProduct 29 = .ok (.invokevirtual 45, 3) := by decide +kernel
theorem dX0_enterProduct_32 : decode cX0_enterProduct 32 = .ok (.invokevirtual 109, 3) := by decide +kernel
theorem dX0_enterProduct_35 : decode cX0_enterProduct 35 = .ok (.return_, 1) := by decide +kernel
set_option maxRecDepth 20000 in
theorem ggX0_enter_X0_residue : GoodIn wsX0_enter wsX0_residue := goodIn_r _ [8, 1, 9, 10, 7, 11, 12, 13, 14, 15, 2, 3, 16, 17, 18, 19, 20, 21, 22, 23, 24, 25, 26, 33, 34, 35, 36, 37, 38, 39] (by decide +kernel) (by decide +kernel)
set_option maxRecDepth 20000 in
theorem gX0_enter_X0_residue : GoodIn wsX0_enter (wsV RX0 100 RX0 yX0_residue wsX0_residue) := goodIn_app (goodIn_of _ (by decide +kernel)) ggX0_enter_X0_residue
set_option maxRecDepth 20000 in
theorem ggX0_enter_X0_image : GoodIn wsX0_enter wsX0_image := goodIn_r _ [11] (by decide +kernel) (by decide +kernel)
set_option maxRecDepth 20000 in
theorem gX0_enter_X0_image : GoodIn wsX0_enter (va_wsS RX0 94 yX0_image wsX0_image) := goodIn_app (goodIn_of _ (by decide +kernel)) ggX0_enter_X0_image
set_option maxRecDepth 20000 in
theorem ggX0_enter_X0_slotOf : GoodIn wsX0_enter wsX0_slotOf := goodIn_r _ [18] (by decide +kernel) (by decide +kernel)
set_option maxRecDepth 20000 in
theorem gX0_enter_X0_slotOf : GoodIn wsX0_enter (va_wsS RX0 91 yX0_slotOf wsX0_slotOf) := goodIn_app (goodIn_of _ (by decide +kernel)) ggX0_enter_X0_slotOf
set_option maxRecDepth 20000 in
theorem ggX0_enter_X0_noteFilled : GoodIn wsX0_enter wsX0_noteFilled := goodIn_r _ [30, 31, 32, 33, 34, 35, 36, 37, 38, 39] (by decide +kernel) (by decide +kernel)
set_option maxRecDepth 20000 in
theorem gX0_enter_X0_noteFilled : GoodIn wsX0_enter (wsV RX0 120 RX0 yX0_noteFilled wsX0_noteFilled) := goodIn_app (goodIn_of _ (by decide +kernel)) ggX0_enter_X0_noteFilled
theorem dX0_enter_0 : decode cX0_enter 0 = .ok (.aload_n 0, 1) := by decide +kernel
theorem dX0_enter_1 : decode cX0_enter 1 = .ok (.iload_n 1, 1) := by decide +kernel
theorem dX0_enter_2 : decode cX0_enter 2 = .ok (.invokevirtual 100, 3) := by decide +kernel
theorem dX0_enter_5 : decode cX0_enter 5 = .ok (.istore_n 2, 1) := by decide +kernel
theorem dX0_enter_6 : decode cX0_enter 6 = .ok (.iconst 0, 1) := by decide +kernel
theorem dX0_enter_7 : decode cX0_enter 7 = .ok (.istore_n 3, 1) := by decide +kernel
theorem dX0_enter_8 : decode cX0_enter 8 = .ok (.iload_n 3, 1) := by decide +kernel
theorem dX0_enter_9 : decode cX0_enter 9 = .ok (.aload_n 0, 1) := by decide +kernel
theorem dX0_enter_10 : decode cX0_enter 10 = .ok (.getfield 25, 3) := by decide +kernel
theorem dX0_enter_13 : decode cX0_enter 13 = .ok (.if_icmp .ge 50, 3) := by decide +kernel
theorem dX0_enter_16 : decode cX0_enter 16 = .ok (.iload_n 2, 1) := by decide +kernel
theorem dX0_enter_17 : decode cX0_enter 17 = .ok (.iload_n 3, 1) := by decide +kernel
theorem dX0_enter_18 : decode cX0_enter 18 = .ok (.invokestatic 94, 3) := by decide +kernel
theorem dX0_enter_21 : decode cX0_enter 21 = .ok (.istore 4, 2) := by decide +kernel
theorem dX0_enter_23 : decode cX0_enter 23 = .ok (.iload 4, 2) := by decide +kernel
theorem dX0_enter_25 : decode cX0_enter 25 = .ok (.iload_n 3, 1) := by decide +kernel
theorem dX0_enter_26 : decode cX0_enter 26 = .ok (.if_icmp .eq 31, 3) := by decide +kernel
theorem dX0_enter_29 : decode cX0_enter 29 = .ok (.aload_n 0, 1) := by decide +kernel
theorem dX0_enter_30 : decode cX0_enter 30 = .ok (.getfield 15, 3) := by decide +kernel
theorem dX0_enter_33 : decode cX0_enter 33 = .ok (.aload_n 0, 1) := by decide +kernel
theorem dX0_enter_34 : decode cX0_enter 34 = .ok (.getfield 33, 3) := by decide +kernel
theorem dX0_enter_37 : decode cX0_enter 37 = .ok (.aaload, 1) := by decide +kernel
theorem dX0_enter_38 : decode cX0_enter 38 = .ok (.iload_n 3, 1) := by decide +kernel
theorem dX0_enter_39 : decode cX0_enter 39 = .ok (.iload 4, 2) := by decide +kernel
theorem dX0_enter_41 : decode cX0_enter 41 = .ok (.invokestatic 91, 3) := by decide +kernel
theorem dX0_enter_44 : decode cX0_enter 44 = .ok (.iload_n 2, 1) := by decide +kernel
theorem dX0_enter_45 : decode cX0_enter 45 = .ok (.iastore, 1) := by decide +kernel
theorem dX0_enter_46 : decode cX0_enter 46 = .ok (.aload_n 0, 1) := by decide +kernel
theorem dX0_enter_47 : decode cX0_enter 47 = .ok (.iload_n 3, 1) := by decide +kernel
theorem dX0_enter_48 : decode cX0_enter 48 = .ok (.iload 4, 2) := by decide +kernel
theorem dX0_enter_50 : decode cX0_enter 50 = .ok (.invokestatic 91, 3) := by decide +kernel
theorem dX0_enter_53 : decode cX0_enter 53 = .ok (.invokevirtual 120, 3) := by decide +kernel
theorem dX0_enter_56 : decode cX0_enter 56 = .ok (.return_, 1) := by decide +kernel
theorem dX0_enter_57 : decode cX0_enter 57 = .ok (.iinc 3 1, 3) := by decide +kernel
theorem dX0_enter_60 : decode cX0_enter 60 = .ok (.goto (-52), 3) := by decide +kernel
theorem dX0_enter_63 : decode cX0_enter 63 = .ok (.return_, 1) := by decide +kernel
set_option maxRecDepth 20000 in
theorem ggX0_inCoset_X0_fixersOfFirst : GoodIn wsX0_inCoset wsX0_fixersOfFirst := goodIn_r _ [6, 1, 7, 8, 9, 5, 10, 11, 12, 13, 14, 15, 27, 28, 29, 30, 31, 32, 33] (by decide +kernel) (by decide +kernel)
set_option maxRecDepth 20000 in
theorem gX0_inCoset_X0_fixersOfFirst : GoodIn wsX0_inCoset (wsV RX0 53 RX0 yX0_fixersOfFirst wsX0_fixersOfFirst) := goodIn_app (goodIn_of _ (by decide +kernel)) ggX0_inCoset_X0_fixersOfFirst
set_option maxRecDepth 20000 in
theorem ggX0_inCoset_X0_invert : GoodIn wsX0_inCoset wsX0_invert := goodIn_r _ [19, 1, 20, 21, 5, 22, 27, 28, 29, 30, 31, 32, 33] (by decide +kernel) (by decide +kernel)
set_option maxRecDepth 20000 in
theorem gX0_inCoset_X0_invert : GoodIn wsX0_inCoset (wsV RX0 49 RX0 yX0_invert wsX0_invert) := goodIn_app (goodIn_of _ (by decide +kernel)) ggX0_inCoset_X0_invert
set_option maxRecDepth 20000 in
theorem ggX0_inCoset_X0_image : GoodIn wsX0_inCoset wsX0_image := goodIn_r _ [22] (by decide +kernel) (by decide +kernel)
set_option maxRecDepth 20000 in
theorem gX0_inCoset_X0_image : GoodIn wsX0_inCoset (va_wsS RX0 94 yX0_image wsX0_image) := goodIn_app (goodIn_of _ (by decide +kernel)) ggX0_inCoset_X0_image
set_option maxRecDepth 20000 in
theorem ggX0_inCoset_X0_entry : GoodIn wsX0_inCoset wsX0_entry := goodIn_r _ [10, 11, 12, 13, 14, 5, 15, 27, 28, 29, 30, 31, 32, 33] (by decide +kernel) (by decide +kernel)
set_option maxRecDepth 20000 in
theorem gX0_inCoset_X0_entry : GoodIn wsX0_inCoset (wsV RX0 97 RX0 yX0_entry wsX0_entry) := goodIn_app (goodIn_of _ (by decide +kernel)) ggX0_inCoset_X0_entry
set_option maxRecDepth 20000 in
theorem ggX0_inCoset_X0_compose : GoodIn wsX0_inCoset wsX0_compose := goodIn_r _ [26, 1, 20, 21, 5, 22, 27, 28, 29, 30, 31, 32, 33] (by decide +kernel) (by decide +kernel)
set_option maxRecDepth 20000 in
theorem gX0_inCoset_X0_compose : GoodIn wsX0_inCoset (wsV RX0 45 RX0 yX0_compose wsX0_compose) := goodIn_app (goodIn_of _ (by decide +kernel)) ggX0_inCoset_X0_compose
theorem dX0_inCoset_0 : decode cX0_inCoset 0 = .ok (.iload_n 1, 1) := by decide +kernel
theorem dX0_inCoset_1 : decode cX0_inCoset 1 = .ok (.istore_n 3, 1) := by decide +kernel
theorem dX0_inCoset_2 : decode cX0_inCoset 2 = .ok (.iload_n 2, 1) := by decide +kernel
theorem dX0_inCoset_3 : decode cX0_inCoset 3 = .ok (.istore 4, 2) := by decide +kernel
theorem dX0_inCoset_5 : decode cX0_inCoset 5 = .ok (.iconst 0, 1) := by decide +kernel
theorem dX0_inCoset_6 : decode cX0_inCoset 6 = .ok (.istore 5, 2) := by decide +kernel
theorem dX0_inCoset_8 : decode cX0_inCoset 8 = .ok (.iload 5, 2) := by decide +kernel
theorem dX0_inCoset_10 : decode cX0_inCoset 10 = .ok (.aload_n 0, 1) := by decide +kernel
theorem dX0_inCoset_11 : decode cX0_inCoset 11 = .ok (.getfield 25, 3) := by decide +kernel
theorem dX0_inCoset_14 : decode cX0_inCoset 14 = .ok (.if_icmp .ge 93, 3) := by decide +kernel
theorem dX0_inCoset_17 : decode cX0_inCoset 17 = .ok (.aload_n 0, 1) := by decide +kernel
theorem dX0_inCoset_18 : decode cX0_inCoset 18 = .ok (.iload 5, 2) := by decide +kernel
theorem dX0_inCoset_20 : decode cX0_inCoset 20 = .ok (.iconst 1, 1) := by decide +kernel
theorem dX0_inCoset_21 : decode cX0_inCoset 21 = .ok (.iadd, 1) := by decide +kernel
theorem dX0_inCoset_22 : decode cX0_inCoset 22 = .ok (.invokevirtual 53, 3) := by decide +kernel
theorem dX0_inCoset_25 : decode cX0_inCoset 25 = .ok (.istore 6, 2) := by decide +kernel
theorem dX0_inCoset_27 : decode cX0_inCoset 27 = .ok (.aload_n 0, 1) := by decide +kernel
theorem dX0_inCoset_28 : decode cX0_inCoset 28 = .ok (.iload_n 3, 1) := by decide +kernel
theorem dX0_inCoset_29 : decode cX0_inCoset 29 = .ok (.invokevirtual 49, 3) := by decide +kernel
theorem dX0_inCoset_32 : decode cX0_inCoset 32 = .ok (.istore 7, 2) := by decide +kernel
theorem dX0_inCoset_34 : decode cX0_inCoset 34 = .ok (.iconst 0, 1) := by decide +kernel
theorem dX0_inCoset_35 : decode cX0_inCoset 35 = .ok (.istore 8, 2) := by decide +kernel
theorem dX0_inCoset_37 : decode cX0_inCoset 37 = .ok (.iload 8, 2) := by decide +kernel
theorem dX0_inCoset_39 : decode cX0_inCoset 39 = .ok (.aload_n 0, 1) := by decide +kernel
theorem dX0_inCoset_40 : decode cX0_inCoset 40 = .ok (.getfield 25, 3) := by decide +kernel
theorem dX0_inCoset_43 : decode cX0_inCoset 43 = .ok (.if_icmp .ge 58, 3) := by decide +kernel
theorem dX0_inCoset_46 : decode cX0_inCoset 46 = .ok (.aload_n 0, 1) := by decide +kernel
theorem dX0_inCoset_47 : decode cX0_inCoset 47 = .ok (.iload 5, 2) := by decide +kernel
theorem dX0_inCoset_49 : decode cX0_inCoset 49 = .ok (.iload 7, 2) := by decide +kernel
theorem dX0_inCoset_51 : decode cX0_inCoset 51 = .ok (.iload 8, 2) := by decide +kernel
theorem dX0_inCoset_53 : decode cX0_inCoset 53 = .ok (.invokestatic 94, 3) := by decide +kernel
theorem dX0_inCoset_56 : decode cX0_inCoset 56 = .ok (.invokevirtual 97, 3) := by decide +kernel
theorem dX0_inCoset_59 : decode cX0_inCoset 59 = .ok (.istore 9, 2) := by decide +kernel
theorem dX0_inCoset_61 : decode cX0_inCoset 61 = .ok (.iload 9, 2) := by decide +kernel
theorem dX0_inCoset_63 : decode cX0_inCoset 63 = .ok (.iconst (-1), 1) := by decide +kernel
theorem dX0_inCoset_64 : decode cX0_inCoset 64 = .ok (.if_icmp .ne 6, 3) := by decide +kernel
theorem dX0_inCoset_67 : decode cX0_inCoset 67 = .ok (.goto 28, 3) := by decide +kernel
theorem dX0_inCoset_70 : decode cX0_inCoset 70 = .ok (.iload 4, 2) := by decide +kernel
theorem dX0_inCoset_72 : decode cX0_inCoset 72 = .ok (.iload 6, 2) := by decide +kernel
theorem dX0_inCoset_74 : decode cX0_inCoset 74 = .ok (.if_icmp .ge 14, 3) := by decide +kernel
theorem dX0_inCoset_77 : decode cX0_inCoset 77 = .ok (.aload_n 0, 1) := by decide +kernel
theorem dX0_inCoset_78 : decode cX0_inCoset 78 = .ok (.iload 9, 2) := by decide +kernel
theorem dX0_inCoset_80 : decode cX0_inCoset 80 = .ok (.iload_n 3, 1) := by decide +kernel
theorem dX0_inCoset_81 : decode cX0_inCoset 81 = .ok (.invokevirtual 45, 3) := by decide +kernel
theorem dX0_inCoset_84 : decode cX0_inCoset 84 = .ok (.istore_n 3, 1) := by decide +kernel
theorem dX0_inCoset_85 : decode cX0_inCoset 85 = .ok (.goto 16, 3) := by decide +kernel
theorem dX0_inCoset_88 : decode cX0_inCoset 88 = .ok (.iload 4, 2) := by decide +kernel
theorem dX0_inCoset_90 : decode cX0_inCoset 90 = .ok (.iload 6, 2) := by decide +kernel
theorem dX0_inCoset_92 : decode cX0_inCoset 92 = .ok (.isub, 1) := by decide +kernel
theorem dX0_inCoset_93 : decode cX0_inCoset 93 = .ok (.istore 4, 2) := by decide +kernel
theorem dX0_inCoset_95 : decode cX0_inCoset 95 = .ok (.iinc 8 1, 3) := by decide +kernel
theorem dX0_inCoset_98 : decode cX0_inCoset 98 = .ok (.goto (-61), 3) := by decide +kernel
theorem dX0_inCoset_101 : decode cX0_inCoset 101 = .ok (.iinc 5 1, 3) := by decide +kernel
theorem dX0_inCoset_104 : decode cX0_inCoset 104 = .ok (.goto (-96), 3) := by decide +kernel
theorem dX0_inCoset_107 : decode cX0_inCoset 107 = .ok (.iload_n 3, 1) := by decide +kernel
theorem dX0_inCoset_108 : decode cX0_inCoset 108 = .ok (.ireturn, 1) := by decide +kernel
set_option maxRecDepth 20000 in
theorem ggX0_elementsBefore_X0_image : GoodIn wsX0_elementsBefore wsX0_image := goodIn_r _ [6] (by decide +kernel) (by decide +kernel)
set_option maxRecDepth 20000 in
theorem gX0_elementsBefore_X0_image : GoodIn wsX0_elementsBefore (va_wsS RX0 94 yX0_image wsX0_image) := goodIn_app (goodIn_of _ (by decide +kernel)) ggX0_elementsBefore_X0_image
set_option maxRecDepth 20000 in
theorem ggX0_elementsBefore_X0_entriesBelow : GoodIn wsX0_elementsBefore wsX0_entriesBelow := goodIn_r _ [10, 2, 11, 12, 13, 5, 14, 15, 16, 17, 18, 19, 3, 4, 6, 32, 33, 34, 35, 36, 37, 38] (by decide +kernel) (by decide +kernel)
set_option maxRecDepth 20000 in
theorem gX0_elementsBefore_X0_entriesBelow : GoodIn wsX0_elementsBefore (wsV RX0 123 RX0 yX0_entriesBelow wsX0_entriesBelow) := goodIn_app (goodIn_of _ (by decide +kernel)) ggX0_elementsBefore_X0_entriesBelow
set_option maxRecDepth 20000 in
theorem ggX0_elementsBefore_X0_fixersOfFirst : GoodIn wsX0_elementsBefore wsX0_fixersOfFirst := goodIn_r _ [23, 2, 11, 12, 13, 5, 14, 15, 16, 17, 18, 19, 32, 33, 34, 35, 36, 37, 38] (by decide +kernel) (by decide +kernel)
set_option maxRecDepth 20000 in
theorem gX0_elementsBefore_X0_fixersOfFirst : GoodIn wsX0_elementsBefore (wsV RX0 53 RX0 yX0_fixersOfFirst wsX0_fixersOfFirst) := goodIn_app (goodIn_of _ (by decide +kernel)) ggX0_elementsBefore_X0_fixersOfFirst
set_option maxRecDepth 20000 in
theorem ggX0_elementsBefore_X0_invert : GoodIn wsX0_elementsBefore wsX0_invert := goodIn_r _ [27, 2, 3, 4, 5, 6, 32, 33, 34, 35, 36, 37, 38] (by decide +kernel) (by decide +kernel)
set_option maxRecDepth 20000 in
theorem gX0_elementsBefore_X0_invert : GoodIn wsX0_elementsBefore (wsV RX0 49 RX0 yX0_invert wsX0_invert) := goodIn_app (goodIn_of _ (by decide +kernel)) ggX0_elementsBefore_X0_invert
set_option maxRecDepth 20000 in
theorem ggX0_elementsBefore_X0_entry : GoodIn wsX0_elementsBefore wsX0_entry := goodIn_r _ [14, 15, 16, 17, 18, 5, 19, 32, 33, 34, 35, 36, 37, 38] (by decide +kernel) (by decide +kernel)
set_option maxRecDepth 20000 in
theorem gX0_elementsBefore_X0_entry : GoodIn wsX0_elementsBefore (wsV RX0 97 RX0 yX0_entry wsX0_entry) := goodIn_app (goodIn_of _ (by decide +kernel)) ggX0_elementsBefore_X0_entry
set_option maxRecDepth 20000 in
theorem ggX0_elementsBefore_X0_compose : GoodIn wsX0_elementsBefore wsX0_compose := goodIn_r _ [31, 2, 3, 4, 5, 6, 32, 33, 34, 35, 36, 37, 38] (by decide +kernel) (by decide +kernel)
set_option maxRecDepth 20000 in
theorem gX0_elementsBefore_X0_compose : GoodIn wsX0_elementsBefore (wsV RX0 45 RX0 yX0_compose wsX0_compose) := goodIn_app (goodIn_of _ (by decide +kernel)) ggX0_elementsBefore_X0_compose
theorem dX0_elementsBefore_0 : decode cX0_elementsBefore 0 = .ok (.iconst 0, 1) := by decide +kernel
theorem dX0_elementsBefore_1 : decode cX0_elementsBefore 1 = .ok (.istore_n 2, 1) := by decide +kernel
theorem dX0_elementsBefore_2 : decode cX0_elementsBefore 2 = .ok (.aload_n 0, 1) := by decide +kernel
theorem dX0_elementsBefore_3 : decode cX0_elementsBefore 3 = .ok (.getfield 66, 3) := by decide +kernel
theorem dX0_elementsBefore_6 : decode cX0_elementsBefore 6 = .ok (.istore_n 3, 1) := by decide +kernel
theorem dX0_elementsBefore_7 : decode cX0_elementsBefore 7 = .ok (.iconst 0, 1) := by decide +kernel
theorem dX0_elementsBefore_8 : decode cX0_elementsBefore 8 = .ok (.istore 4, 2) := by decide +kernel
theorem dX0_elementsBefore_10 : decode cX0_elementsBefore 10 = .ok (.iload 4, 2) := by decide +kernel
theorem dX0_elementsBefore_12 : decode cX0_elementsBefore 12 = .ok (.aload_n 0, 1) := by decide +kernel
theorem dX0_elementsBefore_13 : decode cX0_elementsBefore 13 = .ok (.getfield 25, 3) := by decide +kernel
theorem dX0_elementsBefore_16 : decode cX0_elementsBefore 16 = .ok (.if_icmp .ge 60, 3) := by decide +kernel
theorem dX0_elementsBefore_19 : decode cX0_elementsBefore 19 = .ok (.iload_n 1, 1) := by decide +kernel
theorem dX0_elementsBefore_20 : decode cX0_elementsBefore 20 = .ok (.iload 4, 2) := by decide +kernel
theorem dX0_elementsBefore_22 : decode cX0_elementsBefore 22 = .ok (.invokestatic 94, 3) := by decide +kernel
theorem dX0_elementsBefore_25 : decode cX0_elementsBefore 25 = .ok (.istore 5, 2) := by decide +kernel
theorem dX0_elementsBefore_27 : decode cX0_elementsBefore 27 = .ok (.iload_n 2, 1) := by decide +kernel
theorem dX0_elementsBefore_28 : decode cX0_elementsBefore 28 = .ok (.aload_n 0, 1) := by decide +kernel
theorem dX0_elementsBefore_29 : decode cX0_elementsBefore 29 = .ok (.iload 4, 2) := by decide +kernel
theorem dX0_elementsBefore_31 : decode cX0_elementsBefore 31 = .ok (.iload_n 3, 1) := by decide +kernel
theorem dX0_elementsBefore_32 : decode cX0_elementsBefore 32 = .ok (.iload 5, 2) := by decide +kernel
theorem dX0_elementsBefore_34 : decode cX0_elementsBefore 34 = .ok (.invokevirtual 123, 3) := by decide +kernel
theorem dX0_elementsBefore_37 : decode cX0_elementsBefore 37 = .ok (.aload_n 0, 1) := by decide +kernel
theorem dX0_elementsBefore_38 : decode cX0_elementsBefore 38 = .ok (.iload 4, 2) := by decide +kernel
theorem dX0_elementsBefore_40 : decode cX0_elementsBefore 40 = .ok (.iconst 1, 1) := by decide +kernel
theorem dX0_elementsBefore_41 : decode cX0_elementsBefore 41 = .ok (.iadd, 1) := by decide +kernel
theorem dX0_elementsBefore_42 : decode cX0_elementsBefore 42 = .ok (.invokevirtual 53, 3) := by decide +kernel
theorem dX0_elementsBefore_45 : decode cX0_elementsBefore 45 = .ok (.imul, 1) := by decide +kernel
theorem dX0_elementsBefore_46 : decode cX0_elementsBefore 46 = .ok (.iadd, 1) := by decide +kernel
theorem dX0_elementsBefore_47 : decode cX0_elementsBefore 47 = .ok (.istore_n 2, 1) := by decide +kernel
theorem dX0_elementsBefore_48 : decode cX0_elementsBefore 48 = .ok (.aload_n 0, 1) := by decide +kernel
theorem dX0_elementsBefore_49 : decode cX0_elementsBefore 49 = .ok (.aload_n 0, 1) := by decide +kernel
theorem dX0_elementsBefore_50 : decode cX0_elementsBefore 50 = .ok (.iload 4, 2) := by decide +kernel
theorem dX0_elementsBefore_52 : decode cX0_elementsBefore 52 = .ok (.aload_n 0, 1) := by decide +kernel
theorem dX0_elementsBefore_53 : decode cX0_elementsBefore 53 = .ok (.iload_n 3, 1) := by decide +kernel
theorem dX0_elementsBefore_54 : decode cX0_elementsBefore 54 = .ok (.invokevirtual 49, 3) := by decide +kernel
theorem dX0_elementsBefore_57 : decode cX0_elementsBefore 57 = .ok (.iload 5, 2) := by decide +kernel
theorem dX0_elementsBefore_59 : decode cX0_elementsBefore 59 = .ok (.invokestatic 94, 3) := by decide +kernel
theorem dX0_elementsBefore_62 : decode cX0_elementsBefore 62 = .ok (.invokevirtual 97, 3) := by decide +kernel
theorem dX0_elementsBefore_65 : decode cX0_elementsBefore 65 = .ok (.iload_n 3, 1) := by decide +kernel
theorem dX0_elementsBefore_66 : decode cX0_elementsBefore 66 = .ok (.invokevirtual 45, 3) := by decide +kernel
theorem dX0_elementsBefore_69 : decode cX0_elementsBefore 69 = .ok (.istore_n 3, 1) := by decide +kernel
theorem dX0_elementsBefore_70 : decode cX0_elementsBefore 70 = .ok (.iinc 4 1, 3) := by decide +kernel
theorem dX0_elementsBefore_73 : decode cX0_elementsBefore 73 = .ok (.goto (-63), 3) := by decide +kernel
theorem dX0_elementsBefore_76 : decode cX0_elementsBefore 76 = .ok (.iload_n 2, 1) := by decide +kernel
theorem dX0_elementsBefore_77 : decode cX0_elementsBefore 77 = .ok (.ireturn, 1) := by decide +kernel
set_option maxRecDepth 20000 in
theorem ggX0_entriesBelow_X0_entry : GoodIn wsX0_entriesBelow wsX0_entry := goodIn_r _ [6, 7, 8, 9, 10, 5, 11, 15, 16, 17, 18, 19, 20, 21] (by decide +kernel) (by decide +kernel)
set_option maxRecDepth 20000 in
theorem gX0_entriesBelow_X0_entry : GoodIn wsX0_entriesBelow (wsV RX0 97 RX0 yX0_entry wsX0_entry) := goodIn_app (goodIn_of _ (by decide +kernel)) ggX0_entriesBelow_X0_entry
set_option maxRecDepth 20000 in
theorem ggX0_entriesBelow_X0_image : GoodIn wsX0_entriesBelow wsX0_image := goodIn_r _ [14] (by decide +kernel) (by decide +kernel)
set_option maxRecDepth 20000 in
theorem gX0_entriesBelow_X0_image : GoodIn wsX0_entriesBelow (va_wsS RX0 94 yX0_image wsX0_image) := goodIn_app (goodIn_of _ (by decide +kernel)) ggX0_entriesBelow_X0_image
theorem dX0_entriesBelow_0 : decode cX0_entriesBelow 0 = .ok (.iconst 0, 1) := by decide +kernel
theorem dX0_entriesBelow_1 : decode cX0_entriesBelow 1 = .ok (.istore 4, 2) := by decide +kernel
theorem dX0_entriesBelow_3 : decode cX0_entriesBelow 3 = .ok (.iload_n 1, 1) := by decide +kernel
theorem dX0_entriesBelow_4 : decode cX0_entriesBelow 4 = .ok (.istore 5, 2) := by decide +kernel
theorem dX0_entriesBelow_6 : decode cX0_entriesBelow 6 = .ok (.iload 5, 2) := by decide +kernel
theorem dX0_entriesBelow_8 : decode cX0_entriesBelow 8 = .ok (.aload_n 0, 1) := by decide +kernel
theorem dX0_entriesBelow_9 : decode cX0_entriesBelow 9 = .ok (.getfield 25, 3) := by decide +kernel
theorem dX0_entriesBelow_12 : decode cX0_entriesBelow 12 = .ok (.if_icmp .ge 33, 3) := by decide +kernel
theorem dX0_entriesBelow_15 : decode cX0_entriesBelow 15 = .ok (.aload_n 0, 1) := by decide +kernel
theorem dX0_entriesBelow_16 : decode cX0_entriesBelow 16 = .ok (.iload_n 1, 1) := by decide +kernel
theorem dX0_entriesBelow_17 : decode cX0_entriesBelow 17 = .ok (.iload 5, 2) := by decide +kernel
theorem dX0_entriesBelow_19 : decode cX0_entriesBelow 19 = .ok (.invokevirtual 97, 3) := by decide +kernel
theorem dX0_entriesBelow_22 : decode cX0_entriesBelow 22 = .ok (.iconst (-1), 1) := by decide +kernel
theorem dX0_entriesBelow_23 : decode cX0_entriesBelow 23 = .ok (.if_icmp .eq 16, 3) := by decide +kernel
theorem dX0_entriesBelow_26 : decode cX0_entriesBelow 26 = .ok (.iload_n 2, 1) := by decide +kernel
theorem dX0_entriesBelow_27 : decode cX0_entriesBelow 27 = .ok (.iload 5, 2) := by decide +kernel
theorem dX0_entriesBelow_29 : decode cX0_entriesBelow 29 = .ok (.invokestatic 94, 3) := by decide +kernel
theorem dX0_entriesBelow_32 : decode cX0_entriesBelow 32 = .ok (.iload_n 3, 1) := by decide +kernel
theorem dX0_entriesBelow_33 : decode cX0_entriesBelow 33 = .ok (.if_icmp .ge 6, 3) := by decide +kernel
theorem dX0_entriesBelow_36 : decode cX0_entriesBelow 36 = .ok (.iinc 4 1, 3) := by decide +kernel
theorem dX0_entriesBelow_39 : decode cX0_entriesBelow 39 = .ok (.iinc 5 1, 3) := by decide +kernel
theorem dX0_entriesBelow_42 : decode cX0_entriesBelow 42 = .ok (.goto (-36), 3) := by decide +kernel
theorem dX0_entriesBelow_45 : decode cX0_entriesBelow 45 = .ok (.iload 4, 2) := by decide +kernel
theorem dX0_entriesBelow_47 : decode cX0_entriesBelow 47 = .ok (.ireturn, 1) := by decide +kernel
