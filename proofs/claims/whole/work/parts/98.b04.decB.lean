set_option maxRecDepth 20000 in
theorem ggX5_init_X4_init : GoodIn wsX5_init wsX4_init := goodIn_r _ [30, 31, 2, 3, 32, 33, 34, 35, 22, 36, 37, 38, 39, 40, 41, 42, 43, 44, 45, 46, 47, 48, 49, 50, 51, 52, 53, 54, 55, 56, 57, 58, 59, 60, 61, 6, 62, 63, 64, 65, 66, 116, 117, 118, 119, 120, 121, 122, 123, 124, 125, 126, 127, 176, 177] rfl (by decide +kernel)
set_option maxRecDepth 20000 in
theorem gX5_init_X4_init : GoodIn wsX5_init (wsX4_init) := ggX5_init_X4_init
set_option maxRecDepth 20000 in
theorem ggX5_init_X3_init : GoodIn wsX5_init wsX3_init := goodIn_r _ [68, 69, 2, 3, 22, 70, 71, 72, 73, 74, 75, 76, 77, 78, 79, 80, 81, 82, 83, 84, 85, 86, 139, 140, 141, 142, 143, 144, 145, 146, 147, 148, 149, 150, 151, 152, 153, 154, 155] rfl (by decide +kernel)
set_option maxRecDepth 20000 in
theorem gX5_init_X3_init_n24 : GoodIn wsX5_init (wsX3_init) := ggX5_init_X3_init
set_option maxRecDepth 20000 in
theorem ggX5_init_X0_init : GoodIn wsX5_init wsX0_init := goodIn_r _ [88, 89, 2, 3, 90, 91, 92, 93, 94, 95, 96, 22, 97, 98, 99, 100, 101, 102, 156, 157, 158, 159, 160, 161, 162, 163, 164, 165, 166, 167] rfl (by decide +kernel)
set_option maxRecDepth 20000 in
theorem gX5_init_X0_init_n31 : GoodIn wsX5_init (wsX0_init) := ggX5_init_X0_init
set_option maxRecDepth 20000 in
theorem ggX5_init_X1_init : GoodIn wsX5_init wsX1_init := goodIn_r _ [104, 105, 2, 3, 39, 106, 22, 107, 108, 109, 110, 111, 112, 113, 114, 115, 168, 169, 170, 171, 172, 173, 174, 175] rfl (by decide +kernel)
set_option maxRecDepth 20000 in
theorem gX5_init_X1_init_n38 : GoodIn wsX5_init (wsX1_init) := ggX5_init_X1_init
theorem dX5_init_0 : decode cX5_init 0 = .ok (.aload_n 0, 1) := by decide +kernel
theorem dX5_init_1 : decode cX5_init 1 = .ok (.invokespecial 3, 3) := by decide +kernel
theorem dX5_init_4 : decode cX5_init 4 = .ok (.aload_n 0, 1) := by decide +kernel
theorem dX5_init_5 : decode cX5_init 5 = .ok (.new 9, 3) := by decide +kernel
theorem dX5_init_8 : decode cX5_init 8 = .ok (.dup, 1) := by decide +kernel
theorem dX5_init_9 : decode cX5_init 9 = .ok (.invokespecial 11, 3) := by decide +kernel
theorem dX5_init_12 : decode cX5_init 12 = .ok (.putfield 12, 3) := by decide +kernel
theorem dX5_init_15 : decode cX5_init 15 = .ok (.aload_n 0, 1) := by decide +kernel
theorem dX5_init_16 : decode cX5_init 16 = .ok (.new 9, 3) := by decide +kernel
theorem dX5_init_19 : decode cX5_init 19 = .ok (.dup, 1) := by decide +kernel
theorem dX5_init_20 : decode cX5_init 20 = .ok (.invokespecial 11, 3) := by decide +kernel
theorem dX5_init_23 : decode cX5_init 23 = .ok (.putfield 16, 3) := by decide +kernel
theorem dX5_init_26 : decode cX5_init 26 = .ok (.aload_n 0, 1) := by decide +kernel
theorem dX5_init_27 : decode cX5_init 27 = .ok (.new 9, 3) := by decide +kernel
theorem dX5_init_30 : decode cX5_init 30 = .ok (.dup, 1) := by decide +kernel
theorem dX5_init_31 : decode cX5_init 31 = .ok (.invokespecial 11, 3) := by decide +kernel
theorem dX5_init_34 : decode cX5_init 34 = .ok (.putfield 19, 3) := by decide +kernel
theorem dX5_init_37 : decode cX5_init 37 = .ok (.aload_n 0, 1) := by decide +kernel
theorem dX5_init_38 : decode cX5_init 38 = .ok (.new 22, 3) := by decide +kernel
theorem dX5_init_41 : decode cX5_init 41 = .ok (.dup, 1) := by decide +kernel
theorem dX5_init_42 : decode cX5_init 42 = .ok (.invokespecial 24, 3) := by decide +kernel
theorem dX5_init_45 : decode cX5_init 45 = .ok (.putfield 25, 3) := by decide +kernel
theorem dX5_init_48 : decode cX5_init 48 = .ok (.aload_n 0, 1) := by decide +kernel
theorem dX5_init_49 : decode cX5_init 49 = .ok (.new 29, 3) := by decide +kernel
theorem dX5_init_52 : decode cX5_init 52 = .ok (.dup, 1) := by decide +kernel
theorem dX5_init_53 : decode cX5_init 53 = .ok (.invokespecial 31, 3) := by decide +kernel
theorem dX5_init_56 : decode cX5_init 56 = .ok (.putfield 32, 3) := by decide +kernel
theorem dX5_init_59 : decode cX5_init 59 = .ok (.aload_n 0, 1) := by decide +kernel
theorem dX5_init_60 : decode cX5_init 60 = .ok (.new 36, 3) := by decide +kernel
theorem dX5_init_63 : decode cX5_init 63 = .ok (.dup, 1) := by decide +kernel
theorem dX5_init_64 : decode cX5_init 64 = .ok (.invokespecial 38, 3) := by decide +kernel
theorem dX5_init_67 : decode cX5_init 67 = .ok (.putfield 39, 3) := by decide +kernel
theorem dX5_init_70 : decode cX5_init 70 = .ok (.aload_n 0, 1) := by decide +kernel
theorem dX5_init_71 : decode cX5_init 71 = .ok (.sipush 400, 3) := by decide +kernel
theorem dX5_init_74 : decode cX5_init 74 = .ok (.newarray .int, 2) := by decide +kernel
theorem dX5_init_76 : decode cX5_init 76 = .ok (.putfield 43, 3) := by decide +kernel
theorem dX5_init_79 : decode cX5_init 79 = .ok (.aload_n 0, 1) := by decide +kernel
theorem dX5_init_80 : decode cX5_init 80 = .ok (.iconst 0, 1) := by decide +kernel
theorem dX5_init_81 : decode cX5_init 81 = .ok (.putfield 47, 3) := by decide +kernel
theorem dX5_init_84 : decode cX5_init 84 = .ok (.aload_n 0, 1) := by decide +kernel
theorem dX5_init_85 : decode cX5_init 85 = .ok (.iconst 0, 1) := by decide +kernel
theorem dX5_init_86 : decode cX5_init 86 = .ok (.putfield 51, 3) := by decide +kernel
theorem dX5_init_89 : decode cX5_init 89 = .ok (.aload_n 0, 1) := by decide +kernel
theorem dX5_init_90 : decode cX5_init 90 = .ok (.iconst (-1), 1) := by decide +kernel
theorem dX5_init_91 : decode cX5_init 91 = .ok (.putfield 54, 3) := by decide +kernel
theorem dX5_init_94 : decode cX5_init 94 = .ok (.aload_n 0, 1) := by decide +kernel
theorem dX5_init_95 : decode cX5_init 95 = .ok (.iconst 0, 1) := by decide +kernel
theorem dX5_init_96 : decode cX5_init 96 = .ok (.putfield 57, 3) := by decide +kernel
theorem dX5_init_99 : decode cX5_init 99 = .ok (.return_, 1) := by decide +kernel
theorem dX5_state_0 : decode cX5_state 0 = .ok (.aload_n 0, 1) := by decide +kernel
theorem dX5_state_1 : decode cX5_state 1 = .ok (.getfield 12, 3) := by decide +kernel
theorem dX5_state_4 : decode cX5_state 4 = .ok (.getfield 61, 3) := by decide +kernel
theorem dX5_state_7 : decode cX5_state 7 = .ok (.istore_n 2, 1) := by decide +kernel
theorem dX5_state_8 : decode cX5_state 8 = .ok (.aload_n 0, 1) := by decide +kernel
theorem dX5_state_9 : decode cX5_state 9 = .ok (.getfield 12, 3) := by decide +kernel
theorem dX5_state_12 : decode cX5_state 12 = .ok (.iload_n 1, 1) := by decide +kernel
theorem dX5_state_13 : decode cX5_state 13 = .ok (.putfield 61, 3) := by decide +kernel
theorem dX5_state_16 : decode cX5_state 16 = .ok (.iload_n 2, 1) := by decide +kernel
theorem dX5_state_17 : decode cX5_state 17 = .ok (.ireturn, 1) := by decide +kernel
set_option maxRecDepth 20000 in
theorem ggX5_ring_X4_begin : GoodIn wsX5_ring wsX4_begin := goodIn_r _ [6, 7, 8, 9, 10, 11, 12, 13, 14, 26, 27, 28, 29, 30, 31, 32, 33, 34, 35, 36, 37] rfl (by decide +kernel)
set_option maxRecDepth 20000 in
theorem gX5_ring_X4_begin : GoodIn wsX5_ring (wsV RX5 64 RX4 yX4_begin wsX4_begin) := goodIn_app (goodIn_of _ (by decide +kernel)) ggX5_ring_X4_begin
theorem dX5_ring_0 : decode cX5_ring 0 = .ok (.iload_n 1, 1) := by decide +kernel
theorem dX5_ring_1 : decode cX5_ring 1 = .ok (.iconst 2, 1) := by decide +kernel
theorem dX5_ring_2 : decode cX5_ring 2 = .ok (.if_icmp .lt 9, 3) := by decide +kernel
theorem dX5_ring_5 : decode cX5_ring 5 = .ok (.iload_n 1, 1) := by decide +kernel
theorem dX5_ring_6 : decode cX5_ring 6 = .ok (.bipush 10, 2) := by decide +kernel
theorem dX5_ring_8 : decode cX5_ring 8 = .ok (.if_icmp .le 5, 3) := by decide +kernel
theorem dX5_ring_11 : decode cX5_ring 11 = .ok (.iconst 0, 1) := by decide +kernel
theorem dX5_ring_12 : decode cX5_ring 12 = .ok (.ireturn, 1) := by decide +kernel
theorem dX5_ring_13 : decode cX5_ring 13 = .ok (.aload_n 0, 1) := by decide +kernel
theorem dX5_ring_14 : decode cX5_ring 14 = .ok (.getfield 12, 3) := by decide +kernel
theorem dX5_ring_17 : decode cX5_ring 17 = .ok (.iload_n 1, 1) := by decide +kernel
theorem dX5_ring_18 : decode cX5_ring 18 = .ok (.invokevirtual 64, 3) := by decide +kernel
theorem dX5_ring_21 : decode cX5_ring 21 = .ok (.iconst 1, 1) := by decide +kernel
theorem dX5_ring_22 : decode cX5_ring 22 = .ok (.ireturn, 1) := by decide +kernel
set_option maxRecDepth 20000 in
theorem ggX5_farm_X4_has : GoodIn wsX5_farm wsX4_has := goodIn_r _ [8, 9, 25, 26, 27, 28, 29, 30, 31, 32, 33, 34, 35, 36] rfl (by decide +kernel)
set_option maxRecDepth 20000 in
theorem gX5_farm_X4_has : GoodIn wsX5_farm (wsV RX5 68 RX4 yX4_has wsX4_has) := goodIn_app (goodIn_of _ (by decide +kernel)) ggX5_farm_X4_has
set_option maxRecDepth 20000 in
theorem ggX5_farm_X5_mayBe : GoodIn wsX5_farm wsX5_mayBe := goodIn_r _ [13] rfl (by decide +kernel)
set_option maxRecDepth 20000 in
theorem gX5_farm_X5_mayBe : GoodIn wsX5_farm (va_wsS RX5 75 yX5_mayBe wsX5_mayBe) := goodIn_app (goodIn_of _ (by decide +kernel)) ggX5_farm_X5_mayBe
theorem dX5_farm_0 : decode cX5_farm 0 = .ok (.aload_n 0, 1) := by decide +kernel
theorem dX5_farm_1 : decode cX5_farm 1 = .ok (.getfield 12, 3) := by decide +kernel
theorem dX5_farm_4 : decode cX5_farm 4 = .ok (.iload_n 1, 1) := by decide +kernel
theorem dX5_farm_5 : decode cX5_farm 5 = .ok (.invokevirtual 68, 3) := by decide +kernel
theorem dX5_farm_8 : decode cX5_farm 8 = .ok (.ifCond .eq 14, 3) := by decide +kernel
theorem dX5_farm_11 : decode cX5_farm 11 = .ok (.getstatic 72, 3) := by decide +kernel
theorem dX5_farm_14 : decode cX5_farm 14 = .ok (.iload_n 2, 1) := by decide +kernel
theorem dX5_farm_15 : decode cX5_farm 15 = .ok (.iload_n 3, 1) := by decide +kernel
theorem dX5_farm_16 : decode cX5_farm 16 = .ok (.invokestatic 75, 3) := by decide +kernel
theorem dX5_farm_19 : decode cX5_farm 19 = .ok (.ifCond .ne 5, 3) := by decide +kernel
theorem dX5_farm_22 : decode cX5_farm 22 = .ok (.iconst 0, 1) := by decide +kernel
theorem dX5_farm_23 : decode cX5_farm 23 = .ok (.ireturn, 1) := by decide +kernel
theorem dX5_farm_24 : decode cX5_farm 24 = .ok (.aload_n 0, 1) := by decide +kernel
theorem dX5_farm_25 : decode cX5_farm 25 = .ok (.getfield 12, 3) := by decide +kernel
theorem dX5_farm_28 : decode cX5_farm 28 = .ok (.getfield 79, 3) := by decide +kernel
theorem dX5_farm_31 : decode cX5_farm 31 = .ok (.iload_n 1, 1) := by decide +kernel
theorem dX5_farm_32 : decode cX5_farm 32 = .ok (.aaload, 1) := by decide +kernel
theorem dX5_farm_33 : decode cX5_farm 33 = .ok (.iload_n 2, 1) := by decide +kernel
theorem dX5_farm_34 : decode cX5_farm 34 = .ok (.iload_n 3, 1) := by decide +kernel
theorem dX5_farm_35 : decode cX5_farm 35 = .ok (.iastore, 1) := by decide +kernel
theorem dX5_farm_36 : decode cX5_farm 36 = .ok (.iconst 1, 1) := by decide +kernel
theorem dX5_farm_37 : decode cX5_farm 37 = .ok (.ireturn, 1) := by decide +kernel
set_option maxRecDepth 20000 in
theorem ggX5_border_X4_has : GoodIn wsX5_border wsX4_has := goodIn_r _ [8, 9, 25, 26, 27, 28, 29, 30, 31, 32, 33, 34, 35, 36] rfl (by decide +kernel)
set_option maxRecDepth 20000 in
theorem gX5_border_X4_has : GoodIn wsX5_border (wsV RX5 68 RX4 yX4_has wsX4_has) := goodIn_app (goodIn_of _ (by decide +kernel)) ggX5_border_X4_has
set_option maxRecDepth 20000 in
theorem ggX5_border_X5_mayBe : GoodIn wsX5_border wsX5_mayBe := goodIn_r _ [13] rfl (by decide +kernel)
set_option maxRecDepth 20000 in
theorem gX5_border_X5_mayBe : GoodIn wsX5_border (va_wsS RX5 75 yX5_mayBe wsX5_mayBe) := goodIn_app (goodIn_of _ (by decide +kernel)) ggX5_border_X5_mayBe
theorem dX5_border_0 : decode cX5_border 0 = .ok (.aload_n 0, 1) := by decide +kernel
theorem dX5_border_1 : decode cX5_border 1 = .ok (.getfield 12, 3) := by decide +kernel
theorem dX5_border_4 : decode cX5_border 4 = .ok (.iload_n 1, 1) := by decide +kernel
theorem dX5_border_5 : decode cX5_border 5 = .ok (.invokevirtual 68, 3) := by decide +kernel
theorem dX5_border_8 : decode cX5_border 8 = .ok (.ifCond .eq 14, 3) := by decide +kernel
theorem dX5_border_11 : decode cX5_border 11 = .ok (.getstatic 83, 3) := by decide +kernel
theorem dX5_border_14 : decode cX5_border 14 = .ok (.iload_n 2, 1) := by decide +kernel
theorem dX5_border_15 : decode cX5_border 15 = .ok (.iload_n 3, 1) := by decide +kernel
theorem dX5_border_16 : decode cX5_border 16 = .ok (.invokestatic 75, 3) := by decide +kernel
theorem dX5_border_19 : decode cX5_border 19 = .ok (.ifCond .ne 5, 3) := by decide +kernel
theorem dX5_border_22 : decode cX5_border 22 = .ok (.iconst 0, 1) := by decide +kernel
theorem dX5_border_23 : decode cX5_border 23 = .ok (.ireturn, 1) := by decide +kernel
theorem dX5_border_24 : decode cX5_border 24 = .ok (.aload_n 0, 1) := by decide +kernel
theorem dX5_border_25 : decode cX5_border 25 = .ok (.getfield 12, 3) := by decide +kernel
theorem dX5_border_28 : decode cX5_border 28 = .ok (.getfield 86, 3) := by decide +kernel
theorem dX5_border_31 : decode cX5_border 31 = .ok (.iload_n 1, 1) := by decide +kernel
theorem dX5_border_32 : decode cX5_border 32 = .ok (.aaload, 1) := by decide +kernel
theorem dX5_border_33 : decode cX5_border 33 = .ok (.iload_n 2, 1) := by decide +kernel
theorem dX5_border_34 : decode cX5_border 34 = .ok (.iload_n 3, 1) := by decide +kernel
theorem dX5_border_35 : decode cX5_border 35 = .ok (.iastore, 1) := by decide +kernel
theorem dX5_border_36 : decode cX5_border 36 = .ok (.aload_n 0, 1) := by decide +kernel
theorem dX5_border_37 : decode cX5_border 37 = .ok (.getfield 12, 3) := by decide +kernel
theorem dX5_border_40 : decode cX5_border 40 = .ok (.getfield 86, 3) := by decide +kernel
theorem dX5_border_43 : decode cX5_border 43 = .ok (.iload_n 1, 1) := by decide +kernel
theorem dX5_border_44 : decode cX5_border 44 = .ok (.aaload, 1) := by decide +kernel
theorem dX5_border_45 : decode cX5_border 45 = .ok (.iconst 2, 1) := by decide +kernel
theorem dX5_border_46 : decode cX5_border 46 = .ok (.iconst 0, 1) := by decide +kernel
theorem dX5_border_47 : decode cX5_border 47 = .ok (.iastore, 1) := by decide +kernel
theorem dX5_border_48 : decode cX5_border 48 = .ok (.iconst 1, 1) := by decide +kernel
theorem dX5_border_49 : decode cX5_border 49 = .ok (.ireturn, 1) := by decide +kernel
set_option maxRecDepth 20000 in
theorem ggX5_set_X5_mayBe : GoodIn wsX5_set wsX5_mayBe := goodIn_r _ [7] rfl (by decide +kernel)
set_option maxRecDepth 20000 in
theorem gX5_set_X5_mayBe : GoodIn wsX5_set (va_wsS RX5 75 yX5_mayBe wsX5_mayBe) := goodIn_app (goodIn_of _ (by decide +kernel)) ggX5_set_X5_mayBe
theorem dX5_set_0 : decode cX5_set 0 = .ok (.getstatic 89, 3) := by decide +kernel
theorem dX5_set_3 : decode cX5_set 3 = .ok (.iload_n 1, 1) := by decide +kernel
theorem dX5_set_4 : decode cX5_set 4 = .ok (.iload_n 2, 1) := by decide +kernel
theorem dX5_set_5 : decode cX5_set 5 = .ok (.invokestatic 75, 3) := by decide +kernel
theorem dX5_set_8 : decode cX5_set 8 = .ok (.ifCond .ne 5, 3) := by decide +kernel
theorem dX5_set_11 : decode cX5_set 11 = .ok (.iconst 0, 1) := by decide +kernel
theorem dX5_set_12 : decode cX5_set 12 = .ok (.ireturn, 1) := by decide +kernel
theorem dX5_set_13 : decode cX5_set 13 = .ok (.aload_n 0, 1) := by decide +kernel
theorem dX5_set_14 : decode cX5_set 14 = .ok (.getfield 12, 3) := by decide +kernel
theorem dX5_set_17 : decode cX5_set 17 = .ok (.getfield 92, 3) := by decide +kernel
theorem dX5_set_20 : decode cX5_set 20 = .ok (.iload_n 1, 1) := by decide +kernel
theorem dX5_set_21 : decode cX5_set 21 = .ok (.iload_n 2, 1) := by decide +kernel
theorem dX5_set_22 : decode cX5_set 22 = .ok (.iastore, 1) := by decide +kernel
theorem dX5_set_23 : decode cX5_set 23 = .ok (.iconst 1, 1) := by decide +kernel
theorem dX5_set_24 : decode cX5_set 24 = .ok (.ireturn, 1) := by decide +kernel
theorem dX5_mayBe_0 : decode cX5_mayBe 0 = .ok (.iload_n 1, 1) := by decide +kernel
theorem dX5_mayBe_1 : decode cX5_mayBe 1 = .ok (.ifCond .lt 24, 3) := by decide +kernel
theorem dX5_mayBe_4 : decode cX5_mayBe 4 = .ok (.iload_n 1, 1) := by decide +kernel
theorem dX5_mayBe_5 : decode cX5_mayBe 5 = .ok (.aload_n 0, 1) := by decide +kernel
theorem dX5_mayBe_6 : decode cX5_mayBe 6 = .ok (.arraylength, 1) := by decide +kernel
theorem dX5_mayBe_7 : decode cX5_mayBe 7 = .ok (.if_icmp .ge 18, 3) := by decide +kernel
theorem dX5_mayBe_10 : decode cX5_mayBe 10 = .ok (.iload_n 2, 1) := by decide +kernel
theorem dX5_mayBe_11 : decode cX5_mayBe 11 = .ok (.ifCond .lt 14, 3) := by decide +kernel
theorem dX5_mayBe_14 : decode cX5_mayBe 14 = .ok (.iload_n 2, 1) := by decide +kernel
theorem dX5_mayBe_15 : decode cX5_mayBe 15 = .ok (.aload_n 0, 1) := by decide +kernel
theorem dX5_mayBe_16 : decode cX5_mayBe 16 = .ok (.iload_n 1, 1) := by decide +kernel
theorem dX5_mayBe_17 : decode cX5_mayBe 17 = .ok (.iaload, 1) := by decide +kernel
theorem dX5_mayBe_18 : decode cX5_mayBe 18 = .ok (.if_icmp .gt 7, 3) := by decide +kernel
theorem dX5_mayBe_21 : decode cX5_mayBe 21 = .ok (.iconst 1, 1) := by decide +kernel
theorem dX5_mayBe_22 : decode cX5_mayBe 22 = .ok (.goto 4, 3) := by decide +kernel
theorem dX5_mayBe_25 : decode cX5_mayBe 25 = .ok (.iconst 0, 1) := by decide +kernel
theorem dX5_mayBe_26 : decode cX5_mayBe 26 = .ok (.ireturn, 1) := by decide +kernel
set_option maxRecDepth 20000 in
theorem ggX5_worth_X4_worthOf : GoodIn wsX5_worth wsX4_worthOf := goodIn_r _ [6, 7, 8, 9, 10, 11, 12, 13, 14, 26, 27, 28, 29, 30, 31, 32, 33, 34, 35, 36, 37] rfl (by decide +kernel)
set_option maxRecDepth 20000 in
theorem gX5_worth_X4_worthOf : GoodIn wsX5_worth (wsV RX5 95 RX4 yX4_worthOf wsX4_worthOf) := goodIn_app (goodIn_of _ (by decide +kernel)) ggX5_worth_X4_worthOf
theorem dX5_worth_0 : decode cX5_worth 0 = .ok (.iload_n 1, 1) := by decide +kernel
theorem dX5_worth_1 : decode cX5_worth 1 = .ok (.ifCond .lt 10, 3) := by decide +kernel
theorem dX5_worth_4 : decode cX5_worth 4 = .ok (.iload_n 1, 1) := by decide +kernel
theorem dX5_worth_5 : decode cX5_worth 5 = .ok (.sipush 600, 3) := by decide +kernel
theorem dX5_worth_8 : decode cX5_worth 8 = .ok (.if_icmp .le 7, 3) := by decide +kernel
theorem dX5_worth_11 : decode cX5_worth 11 = .ok (.iconst (-1), 1) := by decide +kernel
theorem dX5_worth_12 : decode cX5_worth 12 = .ok (.goto 11, 3) := by decide +kernel
theorem dX5_worth_15 : decode cX5_worth 15 = .ok (.aload_n 0, 1) := by decide +kernel
theorem dX5_worth_16 : decode cX5_worth 16 = .ok (.getfield 12, 3) := by decide +kernel
theorem dX5_worth_19 : decode cX5_worth 19 = .ok (.iload_n 1, 1) := by decide +kernel
theorem dX5_worth_20 : decode cX5_worth 20 = .ok (.invokevirtual 95, 3) := by decide +kernel
theorem dX5_worth_23 : decode cX5_worth 23 = .ok (.ireturn, 1) := by decide +kernel
set_option maxRecDepth 20000 in
theorem ggX5_feed_X5_putBytes : GoodIn wsX5_feed wsX5_putBytes := goodIn_r _ [6, 1, 7, 8, 9, 10, 11, 12, 13, 14, 15, 16, 17, 18] rfl (by decide +kernel)
set_option maxRecDepth 20000 in
theorem gX5_feed_X5_putBytes : GoodIn wsX5_feed (wsV RX5 99 RX5 yX5_putBytes wsX5_putBytes) := goodIn_app (goodIn_of _ (by decide +kernel)) ggX5_feed_X5_putBytes
theorem dX5_feed_0 : decode cX5_feed 0 = .ok (.aload_n 0, 1) := by decide +kernel
theorem dX5_feed_1 : decode cX5_feed 1 = .ok (.getfield 47, 3) := by decide +kernel
theorem dX5_feed_4 : decode cX5_feed 4 = .ok (.bipush 20, 2) := by decide +kernel
theorem dX5_feed_6 : decode cX5_feed 6 = .ok (.iadd, 1) := by decide +kernel
theorem dX5_feed_7 : decode cX5_feed 7 = .ok (.sipush 400, 3) := by decide +kernel
theorem dX5_feed_10 : decode cX5_feed 10 = .ok (.if_icmp .le 5, 3) := by decide +kernel
theorem dX5_feed_13 : decode cX5_feed 13 = .ok (.iconst (-1), 1) := by decide +kernel
theorem dX5_feed_14 : decode cX5_feed 14 = .ok (.ireturn, 1) := by decide +kernel
theorem dX5_feed_15 : decode cX5_feed 15 = .ok (.aload_n 0, 1) := by decide +kernel
theorem dX5_feed_16 : decode cX5_feed 16 = .ok (.iload_n 1, 1) := by decide +kernel
theorem dX5_feed_17 : decode cX5_feed 17 = .ok (.invokevirtual 99, 3) := by decide +kernel
theorem dX5_feed_20 : decode cX5_feed 20 = .ok (.aload_n 0, 1) := by decide +kernel
theorem dX5_feed_21 : decode cX5_feed 21 = .ok (.iload_n 2, 1) := by decide +kernel
theorem dX5_feed_22 : decode cX5_feed 22 = .ok (.invokevirtual 99, 3) := by decide +kernel
theorem dX5_feed_25 : decode cX5_feed 25 = .ok (.aload_n 0, 1) := by decide +kernel
theorem dX5_feed_26 : decode cX5_feed 26 = .ok (.iload_n 3, 1) := by decide +kernel
theorem dX5_feed_27 : decode cX5_feed 27 = .ok (.invokevirtual 99, 3) := by decide +kernel
theorem dX5_feed_30 : decode cX5_feed 30 = .ok (.aload_n 0, 1) := by decide +kernel
theorem dX5_feed_31 : decode cX5_feed 31 = .ok (.iload 4, 2) := by decide +kernel
theorem dX5_feed_33 : decode cX5_feed 33 = .ok (.invokevirtual 99, 3) := by decide +kernel
theorem dX5_feed_36 : decode cX5_feed 36 = .ok (.aload_n 0, 1) := by decide +kernel
theorem dX5_feed_37 : decode cX5_feed 37 = .ok (.iload 5, 2) := by decide +kernel
theorem dX5_feed_39 : decode cX5_feed 39 = .ok (.invokevirtual 99, 3) := by decide +kernel
theorem dX5_feed_42 : decode cX5_feed 42 = .ok (.aload_n 0, 1) := by decide +kernel
theorem dX5_feed_43 : decode cX5_feed 43 = .ok (.getfield 47, 3) := by decide +kernel
theorem dX5_feed_46 : decode cX5_feed 46 = .ok (.ireturn, 1) := by decide +kernel
theorem dX5_putBytes_0 : decode cX5_putBytes 0 = .ok (.bipush 24, 2) := by decide +kernel
theorem dX5_putBytes_2 : decode cX5_putBytes 2 = .ok (.istore_n 2, 1) := by decide +kernel
theorem dX5_putBytes_3 : decode cX5_putBytes 3 = .ok (.iload_n 2, 1) := by decide +kernel
theorem dX5_putBytes_4 : decode cX5_putBytes 4 = .ok (.ifCond .lt 45, 3) := by decide +kernel
theorem dX5_putBytes_7 : decode cX5_putBytes 7 = .ok (.aload_n 0, 1) := by decide +kernel
theorem dX5_putBytes_8 : decode cX5_putBytes 8 = .ok (.getfield 47, 3) := by decide +kernel
theorem dX5_putBytes_11 : decode cX5_putBytes 11 = .ok (.sipush 400, 3) := by decide +kernel
theorem dX5_putBytes_14 : decode cX5_putBytes 14 = .ok (.if_icmp .ge 35, 3) := by decide +kernel
theorem dX5_putBytes_17 : decode cX5_putBytes 17 = .ok (.aload_n 0, 1) := by decide +kernel
theorem dX5_putBytes_18 : decode cX5_putBytes 18 = .ok (.getfield 43, 3) := by decide +kernel
theorem dX5_putBytes_21 : decode cX5_putBytes 21 = .ok (.aload_n 0, 1) := by decide +kernel
theorem dX5_putBytes_22 : decode cX5_putBytes 22 = .ok (.getfield 47, 3) := by decide +kernel
theorem dX5_putBytes_25 : decode cX5_putBytes 25 = .ok (.iload_n 1, 1) := by decide +kernel
theorem dX5_putBytes_26 : decode cX5_putBytes 26 = .ok (.iload_n 2, 1) := by decide +kernel
theorem dX5_putBytes_27 : decode cX5_putBytes 27 = .ok (.iushr, 1) := by decide +kernel
theorem dX5_putBytes_28 : decode cX5_putBytes 28 = .ok (.sipush 255, 3) := by decide +kernel
theorem dX5_putBytes_31 : decode cX5_putBytes 31 = .ok (.iand, 1) := by decide +kernel
theorem dX5_putBytes_32 : decode cX5_putBytes 32 = .ok (.iastore, 1) := by decide +kernel
theorem dX5_putBytes_33 : decode cX5_putBytes 33 = .ok (.aload_n 0, 1) := by decide +kernel
theorem dX5_putBytes_34 : decode cX5_putBytes 34 = .ok (.dup, 1) := by decide +kernel
theorem dX5_putBytes_35 : decode cX5_putBytes 35 = .ok (.getfield 47, 3) := by decide +kernel
theorem dX5_putBytes_38 : decode cX5_putBytes 38 = .ok (.iconst 1, 1) := by decide +kernel
theorem dX5_putBytes_39 : decode cX5_putBytes 39 = .ok (.iadd, 1) := by decide +kernel
theorem dX5_putBytes_40 : decode cX5_putBytes 40 = .ok (.putfield 47, 3) := by decide +kernel
theorem dX5_putBytes_43 : decode cX5_putBytes 43 = .ok (.iinc 2 (-8), 3) := by decide +kernel
theorem dX5_putBytes_46 : decode cX5_putBytes 46 = .ok (.goto (-43), 3) := by decide +kernel
theorem dX5_putBytes_49 : decode cX5_putBytes 49 = .ok (.return_, 1) := by decide +kernel
theorem dX5_end_0 : decode cX5_end 0 = .ok (.iload_n 1, 1) := by decide +kernel
theorem dX5_end_1 : decode cX5_end 1 = .ok (.ifCond .lt 11, 3) := by decide +kernel
theorem dX5_end_4 : decode cX5_end 4 = .ok (.iload_n 1, 1) := by decide +kernel
theorem dX5_end_5 : decode cX5_end 5 = .ok (.aload_n 0, 1) := by decide +kernel
theorem dX5_end_6 : decode cX5_end 6 = .ok (.getfield 47, 3) := by decide +kernel
theorem dX5_end_9 : decode cX5_end 9 = .ok (.if_icmp .le 5, 3) := by decide +kernel
theorem dX5_end_12 : decode cX5_end 12 = .ok (.iconst 0, 1) := by decide +kernel
theorem dX5_end_13 : decode cX5_end 13 = .ok (.ireturn, 1) := by decide +kernel
theorem dX5_end_14 : decode cX5_end 14 = .ok (.aload_n 0, 1) := by decide +kernel
theorem dX5_end_15 : decode cX5_end 15 = .ok (.iload_n 1, 1) := by decide +kernel
theorem dX5_end_16 : decode cX5_end 16 = .ok (.putfield 47, 3) := by decide +kernel
theorem dX5_end_19 : decode cX5_end 19 = .ok (.iconst 1, 1) := by decide +kernel
theorem dX5_end_20 : decode cX5_end 20 = .ok (.ireturn, 1) := by decide +kernel
set_option maxRecDepth 20000 in
theorem ggX5_text_X3_accepts : GoodIn wsX5_text wsX3_accepts := goodIn_r _ [17, 18, 19, 20, 21, 22, 23, 24, 25, 26, 27, 28, 29, 30, 31, 32, 33, 34, 35, 16, 36, 37, 38, 39, 40, 41, 42, 43, 44, 45, 46, 47, 48, 49, 50, 51, 52, 53, 54, 55, 56, 57, 58, 59, 60, 61, 62, 63, 64, 65, 66, 67, 68, 69, 70, 71, 72, 73, 74, 75, 76, 77, 78, 79, 80, 81, 82, 83, 84, 85, 86, 87, 88, 89, 90, 91, 92, 93, 94, 95, 96, 97, 98, 99, 100, 101, 102, 103, 104, 105, 106, 107, 108, 109, 110, 111, 112, 113, 114, 115, 116, 117, 118, 119, 120, 121, 122, 123, 124, 125, 126, 127, 128, 129, 130, 131, 132, 133, 134, 135, 136, 137, 138, 139, 140, 141, 142, 143, 144, 145, 146, 147, 148, 149, 150, 151, 152, 153, 154, 155, 156, 157, 158, 159, 160, 161, 162, 163, 164, 165, 166, 167, 168, 169, 170, 171, 172, 173, 174, 175, 195, 196, 197, 198, 199, 200, 201, 202, 203, 204, 205, 206, 207, 208, 209, 210, 211] rfl (by decide +kernel)
set_option maxRecDepth 20000 in
theorem gX5_text_X3_accepts : GoodIn wsX5_text (wsV RX5 102 RX3 yX3_accepts wsX3_accepts) := goodIn_app (goodIn_of _ (by decide +kernel)) ggX5_text_X3_accepts
set_option maxRecDepth 20000 in
theorem ggX5_text_X2_take : GoodIn wsX5_text wsX2_take := goodIn_r _ [180, 181, 182, 20, 21, 22, 183, 224, 225] rfl (by decide +kernel)
set_option maxRecDepth 20000 in
theorem gX5_text_X2_take : GoodIn wsX5_text (wsV RX5 122 RX2 yX2_take wsX2_take) := goodIn_app (goodIn_of _ (by decide +kernel)) ggX5_text_X2_take
theorem dX5_text_0 : decode cX5_text 0 = .ok (.aload_n 0, 1) := by decide +kernel
theorem dX5_text_1 : decode cX5_text 1 = .ok (.getfield 47, 3) := by decide +kernel
theorem dX5_text_4 : decode cX5_text 4 = .ok (.istore_n 2, 1) := by decide +kernel
theorem dX5_text_5 : decode cX5_text 5 = .ok (.aload_n 0, 1) := by decide +kernel
theorem dX5_text_6 : decode cX5_text 6 = .ok (.iconst 0, 1) := by decide +kernel
theorem dX5_text_7 : decode cX5_text 7 = .ok (.putfield 47, 3) := by decide +kernel
theorem dX5_text_10 : decode cX5_text 10 = .ok (.aload_n 0, 1) := by decide +kernel
theorem dX5_text_11 : decode cX5_text 11 = .ok (.iconst 0, 1) := by decide +kernel
theorem dX5_text_12 : decode cX5_text 12 = .ok (.putfield 51, 3) := by decide +kernel
theorem dX5_text_15 : decode cX5_text 15 = .ok (.aload_n 0, 1) := by decide +kernel
theorem dX5_text_16 : decode cX5_text 16 = .ok (.iconst (-1), 1) := by decide +kernel
theorem dX5_text_17 : decode cX5_text 17 = .ok (.putfield 54, 3) := by decide +kernel
theorem dX5_text_20 : decode cX5_text 20 = .ok (.iload_n 1, 1) := by decide +kernel
theorem dX5_text_21 : decode cX5_text 21 = .ok (.ifCond .lt 8, 3) := by decide +kernel
theorem dX5_text_24 : decode cX5_text 24 = .ok (.iload_n 1, 1) := by decide +kernel
theorem dX5_text_25 : decode cX5_text 25 = .ok (.iconst 4, 1) := by decide +kernel
theorem dX5_text_26 : decode cX5_text 26 = .ok (.if_icmp .lt 5, 3) := by decide +kernel
theorem dX5_text_29 : decode cX5_text 29 = .ok (.iconst (-1), 1) := by decide +kernel
theorem dX5_text_30 : decode cX5_text 30 = .ok (.ireturn, 1) := by decide +kernel
theorem dX5_text_31 : decode cX5_text 31 = .ok (.aload_n 0, 1) := by decide +kernel
theorem dX5_text_32 : decode cX5_text 32 = .ok (.getfield 25, 3) := by decide +kernel
theorem dX5_text_35 : decode cX5_text 35 = .ok (.aload_n 0, 1) := by decide +kernel
theorem dX5_text_36 : decode cX5_text 36 = .ok (.getfield 43, 3) := by decide +kernel
theorem dX5_text_39 : decode cX5_text 39 = .ok (.iload_n 2, 1) := by decide +kernel
theorem dX5_text_40 : decode cX5_text 40 = .ok (.invokevirtual 102, 3) := by decide +kernel
theorem dX5_text_43 : decode cX5_text 43 = .ok (.ifCond .ne 27, 3) := by decide +kernel
theorem dX5_text_46 : decode cX5_text 46 = .ok (.aload_n 0, 1) := by decide +kernel
theorem dX5_text_47 : decode cX5_text 47 = .ok (.aload_n 0, 1) := by decide +kernel
theorem dX5_text_48 : decode cX5_text 48 = .ok (.getfield 25, 3) := by decide +kernel
theorem dX5_text_51 : decode cX5_text 51 = .ok (.getfield 106, 3) := by decide +kernel
theorem dX5_text_54 : decode cX5_text 54 = .ok (.putfield 51, 3) := by decide +kernel
theorem dX5_text_57 : decode cX5_text 57 = .ok (.aload_n 0, 1) := by decide +kernel
theorem dX5_text_58 : decode cX5_text 58 = .ok (.aload_n 0, 1) := by decide +kernel
theorem dX5_text_59 : decode cX5_text 59 = .ok (.getfield 25, 3) := by decide +kernel
theorem dX5_text_62 : decode cX5_text 62 = .ok (.getfield 109, 3) := by decide +kernel
theorem dX5_text_65 : decode cX5_text 65 = .ok (.putfield 54, 3) := by decide +kernel
theorem dX5_text_68 : decode cX5_text 68 = .ok (.iconst (-1), 1) := by decide +kernel
theorem dX5_text_69 : decode cX5_text 69 = .ok (.ireturn, 1) := by decide +kernel
theorem dX5_text_70 : decode cX5_text 70 = .ok (.aload_n 0, 1) := by decide +kernel
theorem dX5_text_71 : decode cX5_text 71 = .ok (.getfield 12, 3) := by decide +kernel
theorem dX5_text_74 : decode cX5_text 74 = .ok (.getfield 112, 3) := by decide +kernel
theorem dX5_text_77 : decode cX5_text 77 = .ok (.iload_n 1, 1) := by decide +kernel
theorem dX5_text_78 : decode cX5_text 78 = .ok (.aaload, 1) := by decide +kernel
theorem dX5_text_79 : decode cX5_text 79 = .ok (.aload_n 0, 1) := by decide +kernel
theorem dX5_text_80 : decode cX5_text 80 = .ok (.getfield 25, 3) := by decide +kernel
theorem dX5_text_83 : decode cX5_text 83 = .ok (.getfield 116, 3) := by decide +kernel
theorem dX5_text_86 : decode cX5_text 86 = .ok (.aload_n 0, 1) := by decide +kernel
theorem dX5_text_87 : decode cX5_text 87 = .ok (.getfield 25, 3) := by decide +kernel
theorem dX5_text_90 : decode cX5_text 90 = .ok (.getfield 119, 3) := by decide +kernel
theorem dX5_text_93 : decode cX5_text 93 = .ok (.invokevirtual 122, 3) := by decide +kernel
theorem dX5_text_96 : decode cX5_text 96 = .ok (.aload_n 0, 1) := by decide +kernel
theorem dX5_text_97 : decode cX5_text 97 = .ok (.getfield 25, 3) := by decide +kernel
theorem dX5_text_100 : decode cX5_text 100 = .ok (.getfield 128, 3) := by decide +kernel
theorem dX5_text_103 : decode cX5_text 103 = .ok (.ireturn, 1) := by decide +kernel
theorem dX5_fault_0 : decode cX5_fault 0 = .ok (.iload_n 1, 1) := by decide +kernel
theorem dX5_fault_1 : decode cX5_fault 1 = .ok (.ifCond .ne 8, 3) := by decide +kernel
theorem dX5_fault_4 : decode cX5_fault 4 = .ok (.aload_n 0, 1) := by decide +kernel
theorem dX5_fault_5 : decode cX5_fault 5 = .ok (.getfield 51, 3) := by decide +kernel
theorem dX5_fault_8 : decode cX5_fault 8 = .ok (.ireturn, 1) := by decide +kernel
theorem dX5_fault_9 : decode cX5_fault 9 = .ok (.iload_n 1, 1) := by decide +kernel
theorem dX5_fault_10 : decode cX5_fault 10 = .ok (.iconst 1, 1) := by decide +kernel
theorem dX5_fault_11 : decode cX5_fault 11 = .ok (.if_icmp .ne 10, 3) := by decide +kernel
theorem dX5_fault_14 : decode cX5_fault 14 = .ok (.aload_n 0, 1) := by decide +kernel
theorem dX5_fault_15 : decode cX5_fault 15 = .ok (.getfield 54, 3) := by decide +kernel
theorem dX5_fault_18 : decode cX5_fault 18 = .ok (.goto 4, 3) := by decide +kernel
theorem dX5_fault_21 : decode cX5_fault 21 = .ok (.iconst (-1), 1) := by decide +kernel
theorem dX5_fault_22 : decode cX5_fault 22 = .ok (.ireturn, 1) := by decide +kernel
set_option maxRecDepth 20000 in
theorem ggX5_of_X4_has : GoodIn wsX5_of wsX4_has := goodIn_r _ [8, 9, 74, 75, 76, 77, 78, 79, 80, 81, 82, 83, 84, 85] rfl (by decide +kernel)
set_option maxRecDepth 20000 in
theorem gX5_of_X4_has : GoodIn wsX5_of (wsV RX5 68 RX4 yX4_has wsX4_has) := goodIn_app (goodIn_of _ (by decide +kernel)) ggX5_of_X4_has
set_option maxRecDepth 20000 in
theorem ggX5_of_X4_purseAsInt : GoodIn wsX5_of wsX4_purseAsInt := goodIn_r _ [13, 14, 74, 75, 76, 77, 78, 79, 80, 81, 82, 83, 84, 85] rfl (by decide +kernel)
set_option maxRecDepth 20000 in
theorem gX5_of_X4_purseAsInt : GoodIn wsX5_of (wsV RX5 132 RX4 yX4_purseAsInt wsX4_purseAsInt) := goodIn_app (goodIn_of _ (by decide +kernel)) ggX5_of_X4_purseAsInt
set_option maxRecDepth 20000 in
theorem ggX5_of_X4_does : GoodIn wsX5_of wsX4_does := goodIn_r _ [18, 19, 20, 21, 22, 23, 24, 25, 26, 7, 27, 28, 29, 30, 31, 32, 33, 34, 35, 36, 37, 38, 39, 40, 41, 42, 43, 44, 45, 46, 47, 48, 49, 50, 9, 51, 52, 53, 54, 55, 56, 57, 58, 59, 60, 61, 62, 11, 12, 13, 14, 74, 75, 76, 77, 78, 79, 80, 81, 82, 83, 84, 85, 86, 87] rfl (by decide +kernel)
set_option maxRecDepth 20000 in
theorem gX5_of_X4_does : GoodIn wsX5_of (wsV RX5 135 RX4 yX4_does wsX4_does) := goodIn_app (goodIn_of _ (by decide +kernel)) ggX5_of_X4_does
theorem dX5_of_0 : decode cX5_of 0 = .ok (.aload_n 0, 1) := by decide +kernel
theorem dX5_of_1 : decode cX5_of 1 = .ok (.getfield 12, 3) := by decide +kernel
theorem dX5_of_4 : decode cX5_of 4 = .ok (.iload_n 1, 1) := by decide +kernel
theorem dX5_of_5 : decode cX5_of 5 = .ok (.invokevirtual 68, 3) := by decide +kernel
theorem dX5_of_8 : decode cX5_of 8 = .ok (.ifCond .eq 13, 3) := by decide +kernel
theorem dX5_of_11 : decode cX5_of 11 = .ok (.iload_n 2, 1) := by decide +kernel
theorem dX5_of_12 : decode cX5_of 12 = .ok (.ifCond .lt 9, 3) := by decide +kernel
theorem dX5_of_15 : decode cX5_of 15 = .ok (.iload_n 2, 1) := by decide +kernel
theorem dX5_of_16 : decode cX5_of 16 = .ok (.bipush 8, 2) := by decide +kernel
theorem dX5_of_18 : decode cX5_of 18 = .ok (.if_icmp .le 6, 3) := by decide +kernel
theorem dX5_of_21 : decode cX5_of 21 = .ok (.ldc 131, 2) := by decide +kernel
theorem dX5_of_23 : decode cX5_of 23 = .ok (.ireturn, 1) := by decide +kernel
theorem dX5_of_24 : decode cX5_of 24 = .ok (.iload_n 2, 1) := by decide +kernel
theorem dX5_of_25 : decode cX5_of 25 = .ok (.lookupswitch 45 #[(4, 27), (8, 36)], 27) := by decide +kernel
theorem dX5_of_52 : decode cX5_of 52 = .ok (.aload_n 0, 1) := by decide +kernel
theorem dX5_of_53 : decode cX5_of 53 = .ok (.getfield 12, 3) := by decide +kernel
theorem dX5_of_56 : decode cX5_of 56 = .ok (.iload_n 1, 1) := by decide +kernel
theorem dX5_of_57 : decode cX5_of 57 = .ok (.invokevirtual 132, 3) := by decide +kernel
theorem dX5_of_60 : decode cX5_of 60 = .ok (.ireturn, 1) := by decide +kernel
theorem dX5_of_61 : decode cX5_of 61 = .ok (.aload_n 0, 1) := by decide +kernel
theorem dX5_of_62 : decode cX5_of 62 = .ok (.getfield 12, 3) := by decide +kernel
theorem dX5_of_65 : decode cX5_of 65 = .ok (.iload_n 1, 1) := by decide +kernel
theorem dX5_of_66 : decode cX5_of 66 = .ok (.invokevirtual 135, 3) := by decide +kernel
theorem dX5_of_69 : decode cX5_of 69 = .ok (.ireturn, 1) := by decide +kernel
theorem dX5_of_70 : decode cX5_of 70 = .ok (.aload_n 0, 1) := by decide +kernel
theorem dX5_of_71 : decode cX5_of 71 = .ok (.getfield 12, 3) := by decide +kernel
theorem dX5_of_74 : decode cX5_of 74 = .ok (.getfield 79, 3) := by decide +kernel
theorem dX5_of_77 : decode cX5_of 77 = .ok (.iload_n 1, 1) := by decide +kernel
theorem dX5_of_78 : decode cX5_of 78 = .ok (.aaload, 1) := by decide +kernel
theorem dX5_of_79 : decode cX5_of 79 = .ok (.iload_n 2, 1) := by decide +kernel
theorem dX5_of_80 : decode cX5_of 80 = .ok (.iaload, 1) := by decide +kernel
theorem dX5_of_81 : decode cX5_of 81 = .ok (.ireturn, 1) := by decide +kernel
set_option maxRecDepth 20000 in
theorem ggX5_stake_X4_has : GoodIn wsX5_stake wsX4_has := goodIn_r _ [7, 8, 20, 21, 22, 23, 24, 25, 26, 27, 28, 29, 30, 31] rfl (by decide +kernel)
set_option maxRecDepth 20000 in
theorem gX5_stake_X4_has : GoodIn wsX5_stake (wsV RX5 68 RX4 yX4_has wsX4_has) := goodIn_app (goodIn_of _ (by decide +kernel)) ggX5_stake_X4_has
theorem dX5_stake_0 : decode cX5_stake 0 = .ok (.aload_n 0, 1) := by decide +kernel
theorem dX5_stake_1 : decode cX5_stake 1 = .ok (.getfield 12, 3) := by decide +kernel
theorem dX5_stake_4 : decode cX5_stake 4 = .ok (.iload_n 1, 1) := by decide +kernel
theorem dX5_stake_5 : decode cX5_stake 5 = .ok (.invokevirtual 68, 3) := by decide +kernel
theorem dX5_stake_8 : decode cX5_stake 8 = .ok (.ifCond .eq 12, 3) := by decide +kernel
theorem dX5_stake_11 : decode cX5_stake 11 = .ok (.iload_n 2, 1) := by decide +kernel
theorem dX5_stake_12 : decode cX5_stake 12 = .ok (.ifCond .lt 8, 3) := by decide +kernel
theorem dX5_stake_15 : decode cX5_stake 15 = .ok (.iload_n 2, 1) := by decide +kernel
theorem dX5_stake_16 : decode cX5_stake 16 = .ok (.iconst 4, 1) := by decide +kernel
theorem dX5_stake_17 : decode cX5_stake 17 = .ok (.if_icmp .lt 6, 3) := by decide +kernel
theorem dX5_stake_20 : decode cX5_stake 20 = .ok (.bipush (-2), 2) := by decide +kernel
theorem dX5_stake_22 : decode cX5_stake 22 = .ok (.ireturn, 1) := by decide +kernel
theorem dX5_stake_23 : decode cX5_stake 23 = .ok (.aload_n 0, 1) := by decide +kernel
theorem dX5_stake_24 : decode cX5_stake 24 = .ok (.getfield 12, 3) := by decide +kernel
theorem dX5_stake_27 : decode cX5_stake 27 = .ok (.getfield 86, 3) := by decide +kernel
theorem dX5_stake_30 : decode cX5_stake 30 = .ok (.iload_n 1, 1) := by decide +kernel
theorem dX5_stake_31 : decode cX5_stake 31 = .ok (.aaload, 1) := by decide +kernel
theorem dX5_stake_32 : decode cX5_stake 32 = .ok (.iload_n 2, 1) := by decide +kernel
theorem dX5_stake_33 : decode cX5_stake 33 = .ok (.iaload, 1) := by decide +kernel
theorem dX5_stake_34 : decode cX5_stake 34 = .ok (.ireturn, 1) := by decide +kernel
set_option maxRecDepth 20000 in
theorem ggX5_nights_X4_pass : GoodIn wsX5_nights wsX4_pass := goodIn_r _ [8, 9, 10, 11, 12, 13, 14, 15, 7, 16, 17, 18, 19, 20, 21, 22, 23, 24, 25, 26, 27, 28, 29, 30, 31, 32, 33, 34, 35, 36, 37, 38, 39, 40, 41, 42, 43, 44, 45, 46, 47, 48, 49, 50, 51, 52, 53, 54, 55, 56, 57, 58, 59, 60, 61, 62, 63, 64, 65, 66, 67, 68, 69, 70, 71, 72, 73, 74, 75, 76, 77, 78, 79, 80, 81, 82, 83, 84, 85, 86, 87, 99, 100, 101, 102, 103, 104, 105, 106, 107, 108, 109, 110, 111, 112] rfl (by decide +kernel)
set_option maxRecDepth 20000 in
theorem gX5_nights_X4_pass : GoodIn wsX5_nights (wsV RX5 144 RX4 yX4_pass wsX4_pass) := goodIn_app (goodIn_of _ (by decide +kernel)) ggX5_nights_X4_pass
theorem dX5_nights_0 : decode cX5_nights 0 = .ok (.iload_n 1, 1) := by decide +kernel
theorem dX5_nights_1 : decode cX5_nights 1 = .ok (.iconst 1, 1) := by decide +kernel
theorem dX5_nights_2 : decode cX5_nights 2 = .ok (.if_icmp .lt 24, 3) := by decide +kernel
theorem dX5_nights_5 : decode cX5_nights 5 = .ok (.iload_n 1, 1) := by decide +kernel
theorem dX5_nights_6 : decode cX5_nights 6 = .ok (.bipush 99, 2) := by decide +kernel
theorem dX5_nights_8 : decode cX5_nights 8 = .ok (.if_icmp .gt 18, 3) := by decide +kernel
theorem dX5_nights_11 : decode cX5_nights 11 = .ok (.aload_n 0, 1) := by decide +kernel
theorem dX5_nights_12 : decode cX5_nights 12 = .ok (.getfield 12, 3) := by decide +kernel
theorem dX5_nights_15 : decode cX5_nights 15 = .ok (.getfield 138, 3) := by decide +kernel
theorem dX5_nights_18 : decode cX5_nights 18 = .ok (.iload_n 1, 1) := by decide +kernel
theorem dX5_nights_19 : decode cX5_nights 19 = .ok (.iadd, 1) := by decide +kernel
theorem dX5_nights_20 : decode cX5_nights 20 = .ok (.sipush 9999, 3) := by decide +kernel
theorem dX5_nights_23 : decode cX5_nights 23 = .ok (.if_icmp .le 5, 3) := by decide +kernel
theorem dX5_nights_26 : decode cX5_nights 26 = .ok (.iconst (-1), 1) := by decide +kernel
theorem dX5_nights_27 : decode cX5_nights 27 = .ok (.ireturn, 1) := by decide +kernel
theorem dX5_nights_28 : decode cX5_nights 28 = .ok (.aload_n 0, 1) := by decide +kernel
theorem dX5_nights_29 : decode cX5_nights 29 = .ok (.getfield 12, 3) := by decide +kernel
theorem dX5_nights_32 : decode cX5_nights 32 = .ok (.getfield 141, 3) := by decide +kernel
theorem dX5_nights_35 : decode cX5_nights 35 = .ok (.istore_n 2, 1) := by decide +kernel
theorem dX5_nights_36 : decode cX5_nights 36 = .ok (.aload_n 0, 1) := by decide +kernel
theorem dX5_nights_37 : decode cX5_nights 37 = .ok (.getfield 12, 3) := by decide +kernel
theorem dX5_nights_40 : decode cX5_nights 40 = .ok (.iload_n 1, 1) := by decide +kernel
theorem dX5_nights_41 : decode cX5_nights 41 = .ok (.invokevirtual 144, 3) := by decide +kernel
theorem dX5_nights_44 : decode cX5_nights 44 = .ok (.aload_n 0, 1) := by decide +kernel
theorem dX5_nights_45 : decode cX5_nights 45 = .ok (.getfield 12, 3) := by decide +kernel
theorem dX5_nights_48 : decode cX5_nights 48 = .ok (.getfield 141, 3) := by decide +kernel
theorem dX5_nights_51 : decode cX5_nights 51 = .ok (.iload_n 2, 1) := by decide +kernel
theorem dX5_nights_52 : decode cX5_nights 52 = .ok (.isub, 1) := by decide +kernel
theorem dX5_nights_53 : decode cX5_nights 53 = .ok (.ireturn, 1) := by decide +kernel
set_option maxRecDepth 20000 in
theorem ggX5_value_X4_has : GoodIn wsX5_value wsX4_has := goodIn_r _ [7, 8, 76, 77, 78, 79, 80, 81, 82, 83, 84, 85, 86, 87] rfl (by decide +kernel)
set_option maxRecDepth 20000 in
theorem gX5_value_X4_has : GoodIn wsX5_value (wsV RX5 68 RX4 yX4_has wsX4_has) := goodIn_app (goodIn_of _ (by decide +kernel)) ggX5_value_X4_has
set_option maxRecDepth 20000 in
theorem ggX5_value_X4_hasRow : GoodIn wsX5_value wsX4_hasRow := goodIn_r _ [12, 8, 76, 77, 78, 79, 80, 81, 82, 83, 84, 85, 86, 87] rfl (by decide +kernel)
set_option maxRecDepth 20000 in
theorem gX5_value_X4_hasRow : GoodIn wsX5_value (wsV RX5 147 RX4 yX4_hasRow wsX4_hasRow) := goodIn_app (goodIn_of _ (by decide +kernel)) ggX5_value_X4_hasRow
set_option maxRecDepth 20000 in
theorem ggX5_value_X0_meanInRow : GoodIn wsX5_value wsX0_meanInRow := goodIn_r _ [16, 17, 18, 19, 6, 20, 8, 21, 22, 15, 23, 24, 25, 26, 27, 28, 29, 30, 31, 32, 33, 34, 35, 36, 37, 38, 39, 40, 41, 42, 43, 44, 45, 46, 47, 48, 49, 50, 51, 52, 53, 54, 55, 56, 57, 58, 59, 60, 61, 62, 63, 64, 76, 77, 78, 79, 80, 81, 82, 83, 84, 85, 86, 87] rfl (by decide +kernel)
set_option maxRecDepth 20000 in
theorem gX5_value_X0_meanInRow : GoodIn wsX5_value (va_wsS RX5 150 yX0_meanInRow wsX0_meanInRow) := goodIn_app (goodIn_of _ (by decide +kernel)) ggX5_value_X0_meanInRow
theorem dX5_value_0 : decode cX5_value 0 = .ok (.aload_n 0, 1) := by decide +kernel
theorem dX5_value_1 : decode cX5_value 1 = .ok (.getfield 12, 3) := by decide +kernel
theorem dX5_value_4 : decode cX5_value 4 = .ok (.iload_n 2, 1) := by decide +kernel
theorem dX5_value_5 : decode cX5_value 5 = .ok (.invokevirtual 68, 3) := by decide +kernel
theorem dX5_value_8 : decode cX5_value 8 = .ok (.ifCond .eq 14, 3) := by decide +kernel
theorem dX5_value_11 : decode cX5_value 11 = .ok (.aload_n 0, 1) := by decide +kernel
theorem dX5_value_12 : decode cX5_value 12 = .ok (.getfield 12, 3) := by decide +kernel
theorem dX5_value_15 : decode cX5_value 15 = .ok (.iload_n 1, 1) := by decide +kernel
theorem dX5_value_16 : decode cX5_value 16 = .ok (.invokevirtual 147, 3) := by decide +kernel
theorem dX5_value_19 : decode cX5_value 19 = .ok (.ifCond .ne 6, 3) := by decide +kernel
theorem dX5_value_22 : decode cX5_value 22 = .ok (.ldc 131, 2) := by decide +kernel
theorem dX5_value_24 : decode cX5_value 24 = .ok (.ireturn, 1) := by decide +kernel
theorem dX5_value_25 : decode cX5_value 25 = .ok (.aload_n 0, 1) := by decide +kernel
theorem dX5_value_26 : decode cX5_value 26 = .ok (.getfield 12, 3) := by decide +kernel
theorem dX5_value_29 : decode cX5_value 29 = .ok (.iload_n 1, 1) := by decide +kernel
theorem dX5_value_30 : decode cX5_value 30 = .ok (.iload_n 2, 1) := by decide +kernel
theorem dX5_value_31 : decode cX5_value 31 = .ok (.invokestatic 150, 3) := by decide +kernel
theorem dX5_value_34 : decode cX5_value 34 = .ok (.ireturn, 1) := by decide +kernel
set_option maxRecDepth 20000 in
theorem ggX5_reply_X4_has : GoodIn wsX5_reply wsX4_has := goodIn_r _ [6, 7, 75, 76, 77, 78, 79, 80, 81, 82, 83, 84, 85, 86] rfl (by decide +kernel)
set_option maxRecDepth 20000 in
theorem gX5_reply_X4_has : GoodIn wsX5_reply (wsV RX5 68 RX4 yX4_has wsX4_has) := goodIn_app (goodIn_of _ (by decide +kernel)) ggX5_reply_X4_has
set_option maxRecDepth 20000 in
theorem ggX5_reply_X4_hasRow : GoodIn wsX5_reply wsX4_hasRow := goodIn_r _ [11, 7, 75, 76, 77, 78, 79, 80, 81, 82, 83, 84, 85, 86] rfl (by decide +kernel)
set_option maxRecDepth 20000 in
theorem gX5_reply_X4_hasRow : GoodIn wsX5_reply (wsV RX5 147 RX4 yX4_hasRow wsX4_hasRow) := goodIn_app (goodIn_of _ (by decide +kernel)) ggX5_reply_X4_hasRow
set_option maxRecDepth 20000 in
theorem ggX5_reply_X0_bestDoing : GoodIn wsX5_reply wsX0_bestDoing := goodIn_r _ [15, 16, 17, 18, 5, 19, 7, 20, 21, 14, 22, 23, 24, 25, 26, 27, 28, 29, 30, 31, 32, 33, 34, 35, 36, 37, 38, 39, 40, 41, 42, 43, 44, 45, 46, 47, 48, 49, 50, 51, 52, 53, 54, 55, 56, 57, 58, 59, 60, 61, 62, 63, 75, 76, 77, 78, 79, 80, 81, 82, 83, 84, 85, 86] rfl (by decide +kernel)
set_option maxRecDepth 20000 in
theorem gX5_reply_X0_bestDoing : GoodIn wsX5_reply (va_wsS RX5 154 yX0_bestDoing wsX0_bestDoing) := goodIn_app (goodIn_of _ (by decide +kernel)) ggX5_reply_X0_bestDoing
theorem dX5_reply_0 : decode cX5_reply 0 = .ok (.aload_n 0, 1) := by decide +kernel
theorem dX5_reply_1 : decode cX5_reply 1 = .ok (.getfield 12, 3) := by decide +kernel
theorem dX5_reply_4 : decode cX5_reply 4 = .ok (.iload_n 2, 1) := by decide +kernel
theorem dX5_reply_5 : decode cX5_reply 5 = .ok (.invokevirtual 68, 3) := by decide +kernel
theorem dX5_reply_8 : decode cX5_reply 8 = .ok (.ifCond .eq 14, 3) := by decide +kernel
theorem dX5_reply_11 : decode cX5_reply 11 = .ok (.aload_n 0, 1) := by decide +kernel
theorem dX5_reply_12 : decode cX5_reply 12 = .ok (.getfield 12, 3) := by decide +kernel
theorem dX5_reply_15 : decode cX5_reply 15 = .ok (.iload_n 1, 1) := by decide +kernel
theorem dX5_reply_16 : decode cX5_reply 16 = .ok (.invokevirtual 147, 3) := by decide +kernel
theorem dX5_reply_19 : decode cX5_reply 19 = .ok (.ifCond .ne 5, 3) := by decide +kernel
theorem dX5_reply_22 : decode cX5_reply 22 = .ok (.iconst (-1), 1) := by decide +kernel
theorem dX5_reply_23 : decode cX5_reply 23 = .ok (.ireturn, 1) := by decide +kernel
theorem dX5_reply_24 : decode cX5_reply 24 = .ok (.aload_n 0, 1) := by decide +kernel
theorem dX5_reply_25 : decode cX5_reply 25 = .ok (.getfield 12, 3) := by decide +kernel
theorem dX5_reply_28 : decode cX5_reply 28 = .ok (.iload_n 1, 1) := by decide +kernel
theorem dX5_reply_29 : decode cX5_reply 29 = .ok (.iload_n 2, 1) := by decide +kernel
theorem dX5_reply_30 : decode cX5_reply 30 = .ok (.invokestatic 154, 3) := by decide +kernel
theorem dX5_reply_33 : decode cX5_reply 33 = .ok (.ireturn, 1) := by decide +kernel
set_option maxRecDepth 20000 in
theorem ggX5_rests_X0_findRests : GoodIn wsX5_rests wsX0_findRests := goodIn_r _ [12, 13, 14, 15, 16, 17, 18, 19, 20, 11, 21, 22, 23, 24, 25, 26, 27, 28, 29, 30, 31, 32, 33, 34, 35, 36, 37, 38, 39, 40, 41, 42, 43, 44, 45, 46, 47, 48, 49, 50, 51, 52, 53, 54, 55, 56, 57, 58, 59, 60, 61, 62, 63, 64, 65, 66, 67, 68, 69, 70, 71, 72, 73, 74, 75, 76, 77, 78, 79, 80, 81, 82, 83, 84, 108, 109, 110, 111, 112, 113, 114, 115, 116, 117, 118, 119, 96, 97, 98, 99, 100, 101, 102, 103, 104, 105, 106, 107] rfl (by decide +kernel)
set_option maxRecDepth 20000 in
theorem gX5_rests_X0_findRests : GoodIn wsX5_rests (wsV RX5 160 RX0 yX0_findRests wsX0_findRests) := goodIn_app (goodIn_of _ (by decide +kernel)) ggX5_rests_X0_findRests
theorem dX5_rests_0 : decode cX5_rests 0 = .ok (.aload_n 0, 1) := by decide +kernel
theorem dX5_rests_1 : decode cX5_rests 1 = .ok (.getfield 12, 3) := by decide +kernel
theorem dX5_rests_4 : decode cX5_rests 4 = .ok (.getfield 157, 3) := by decide +kernel
theorem dX5_rests_7 : decode cX5_rests 7 = .ok (.bipush 6, 2) := by decide +kernel
theorem dX5_rests_9 : decode cX5_rests 9 = .ok (.if_icmp .gt 12, 3) := by decide +kernel
theorem dX5_rests_12 : decode cX5_rests 12 = .ok (.iload_n 1, 1) := by decide +kernel
theorem dX5_rests_13 : decode cX5_rests 13 = .ok (.ifCond .lt 8, 3) := by decide +kernel
theorem dX5_rests_16 : decode cX5_rests 16 = .ok (.iload_n 1, 1) := by decide +kernel
theorem dX5_rests_17 : decode cX5_rests 17 = .ok (.iconst 3, 1) := by decide +kernel
theorem dX5_rests_18 : decode cX5_rests 18 = .ok (.if_icmp .le 5, 3) := by decide +kernel
theorem dX5_rests_21 : decode cX5_rests 21 = .ok (.iconst (-1), 1) := by decide +kernel
theorem dX5_rests_22 : decode cX5_rests 22 = .ok (.ireturn, 1) := by decide +kernel
theorem dX5_rests_23 : decode cX5_rests 23 = .ok (.aload_n 0, 1) := by decide +kernel
theorem dX5_rests_24 : decode cX5_rests 24 = .ok (.getfield 32, 3) := by decide +kernel
theorem dX5_rests_27 : decode cX5_rests 27 = .ok (.aload_n 0, 1) := by decide +kernel
theorem dX5_rests_28 : decode cX5_rests 28 = .ok (.getfield 12, 3) := by decide +kernel
theorem dX5_rests_31 : decode cX5_rests 31 = .ok (.invokevirtual 160, 3) := by decide +kernel
theorem dX5_rests_34 : decode cX5_rests 34 = .ok (.iload_n 1, 1) := by decide +kernel
theorem dX5_rests_35 : decode cX5_rests 35 = .ok (.tableswitch 49 0 2 #[25, 33, 41], 25) := by decide +kernel
theorem dX5_rests_60 : decode cX5_rests 60 = .ok (.aload_n 0, 1) := by decide +kernel
theorem dX5_rests_61 : decode cX5_rests 61 = .ok (.getfield 32, 3) := by decide +kernel
theorem dX5_rests_64 : decode cX5_rests 64 = .ok (.getfield 164, 3) := by decide +kernel
theorem dX5_rests_67 : decode cX5_rests 67 = .ok (.ireturn, 1) := by decide +kernel
theorem dX5_rests_68 : decode cX5_rests 68 = .ok (.aload_n 0, 1) := by decide +kernel
theorem dX5_rests_69 : decode cX5_rests 69 = .ok (.getfield 32, 3) := by decide +kernel
theorem dX5_rests_72 : decode cX5_rests 72 = .ok (.getfield 167, 3) := by decide +kernel
theorem dX5_rests_75 : decode cX5_rests 75 = .ok (.ireturn, 1) := by decide +kernel
theorem dX5_rests_76 : decode cX5_rests 76 = .ok (.aload_n 0, 1) := by decide +kernel
theorem dX5_rests_77 : decode cX5_rests 77 = .ok (.getfield 32, 3) := by decide +kernel
theorem dX5_rests_80 : decode cX5_rests 80 = .ok (.getfield 170, 3) := by decide +kernel
theorem dX5_rests_83 : decode cX5_rests 83 = .ok (.ireturn, 1) := by decide +kernel
theorem dX5_rests_84 : decode cX5_rests 84 = .ok (.aload_n 0, 1) := by decide +kernel
theorem dX5_rests_85 : decode cX5_rests 85 = .ok (.getfield 32, 3) := by decide +kernel
theorem dX5_rests_88 : decode cX5_rests 88 = .ok (.getfield 173, 3) := by decide +kernel
theorem dX5_rests_91 : decode cX5_rests 91 = .ok (.ireturn, 1) := by decide +kernel
set_option maxRecDepth 20000 in
theorem ggX5_still_X0_fewestWatchers : GoodIn wsX5_still wsX0_fewestWatchers := goodIn_r _ [7, 8, 9, 10, 11, 6, 12, 13, 14, 15, 16, 17, 18, 19, 20, 21, 22, 23, 24, 25, 26, 27, 28, 29, 30, 31, 32, 33, 34, 35, 36, 37, 38, 39, 40, 41, 42, 43, 44, 45, 46, 47, 48, 49, 50, 51, 52, 53, 54, 55, 56, 57, 58, 59, 60, 61, 62, 63, 64, 65, 66, 67, 68, 69, 70, 71, 72, 73, 74, 75, 76, 77, 89, 90, 91, 92, 93, 94, 95, 96, 97, 98, 99, 100, 101, 102, 103, 104, 105, 106, 107, 108, 109, 110, 111, 112] rfl (by decide +kernel)
set_option maxRecDepth 20000 in
theorem gX5_still_X0_fewestWatchers : GoodIn wsX5_still (wsV RX5 176 RX0 yX0_fewestWatchers wsX0_fewestWatchers) := goodIn_app (goodIn_of _ (by decide +kernel)) ggX5_still_X0_fewestWatchers
theorem dX5_still_0 : decode cX5_still 0 = .ok (.aload_n 0, 1) := by decide +kernel
theorem dX5_still_1 : decode cX5_still 1 = .ok (.getfield 32, 3) := by decide +kernel
theorem dX5_still_4 : decode cX5_still 4 = .ok (.aload_n 0, 1) := by decide +kernel
theorem dX5_still_5 : decode cX5_still 5 = .ok (.getfield 12, 3) := by decide +kernel
theorem dX5_still_8 : decode cX5_still 8 = .ok (.invokevirtual 176, 3) := by decide +kernel
theorem dX5_still_11 : decode cX5_still 11 = .ok (.ireturn, 1) := by decide +kernel
set_option maxRecDepth 20000 in
theorem ggX5_walls_X4_copy : GoodIn wsX5_walls wsX4_copy := goodIn_r _ [10, 11, 12, 13, 14, 15, 16, 17, 18, 19, 20, 21, 22, 23, 24, 25, 26, 27, 28, 29, 30, 31, 32, 33, 133, 134, 135, 136, 137, 138, 139, 140, 141, 142, 143, 144, 145, 146] rfl (by decide +kernel)
set_option maxRecDepth 20000 in
theorem gX5_walls_X4_copy : GoodIn wsX5_walls (wsV RX5 180 RX4 yX4_copy wsX4_copy) := goodIn_app (goodIn_of _ (by decide +kernel)) ggX5_walls_X4_copy
set_option maxRecDepth 20000 in
theorem ggX5_walls_X0_findWalls : GoodIn wsX5_walls wsX0_findWalls := goodIn_r _ [38, 39, 40, 41, 42, 43, 44, 45, 46, 47, 48, 49, 50, 51, 37, 52, 53, 54, 55, 56, 57, 58, 59, 60, 61, 62, 63, 64, 65, 66, 9, 67, 21, 15, 68, 69, 70, 71, 11, 72, 73, 74, 75, 76, 77, 78, 79, 80, 81, 82, 83, 84, 85, 86, 87, 88, 89, 90, 91, 92, 93, 94, 95, 96, 97, 98, 99, 100, 101, 102, 103, 104, 105, 106, 107, 108, 109, 133, 134, 135, 136, 137, 138, 139, 140, 141, 142, 143, 144, 121, 122, 123, 124, 125, 126, 127, 128, 129, 130, 131, 132] rfl (by decide +kernel)
set_option maxRecDepth 20000 in
theorem gX5_walls_X0_findWalls : GoodIn wsX5_walls (wsV RX5 183 RX0 yX0_findWalls wsX0_findWalls) := goodIn_app (goodIn_of _ (by decide +kernel)) ggX5_walls_X0_findWalls
theorem dX5_walls_0 : decode cX5_walls 0 = .ok (.iload_n 1, 1) := by decide +kernel
theorem dX5_walls_1 : decode cX5_walls 1 = .ok (.ifCond .lt 17, 3) := by decide +kernel
theorem dX5_walls_4 : decode cX5_walls 4 = .ok (.iload_n 1, 1) := by decide +kernel
theorem dX5_walls_5 : decode cX5_walls 5 = .ok (.iconst 2, 1) := by decide +kernel
theorem dX5_walls_6 : decode cX5_walls 6 = .ok (.if_icmp .gt 12, 3) := by decide +kernel
theorem dX5_walls_9 : decode cX5_walls 9 = .ok (.iload_n 2, 1) := by decide +kernel
theorem dX5_walls_10 : decode cX5_walls 10 = .ok (.ifCond .lt 8, 3) := by decide +kernel
theorem dX5_walls_13 : decode cX5_walls 13 = .ok (.iload_n 2, 1) := by decide +kernel
theorem dX5_walls_14 : decode cX5_walls 14 = .ok (.iconst 1, 1) := by decide +kernel
theorem dX5_walls_15 : decode cX5_walls 15 = .ok (.if_icmp .le 5, 3) := by decide +kernel
theorem dX5_walls_18 : decode cX5_walls 18 = .ok (.iconst (-1), 1) := by decide +kernel
theorem dX5_walls_19 : decode cX5_walls 19 = .ok (.ireturn, 1) := by decide +kernel
theorem dX5_walls_20 : decode cX5_walls 20 = .ok (.aload_n 0, 1) := by decide +kernel
theorem dX5_walls_21 : decode cX5_walls 21 = .ok (.getfield 19, 3) := by decide +kernel
theorem dX5_walls_24 : decode cX5_walls 24 = .ok (.aload_n 0, 1) := by decide +kernel
theorem dX5_walls_25 : decode cX5_walls 25 = .ok (.getfield 12, 3) := by decide +kernel
theorem dX5_walls_28 : decode cX5_walls 28 = .ok (.invokevirtual 180, 3) := by decide +kernel
theorem dX5_walls_31 : decode cX5_walls 31 = .ok (.aload_n 0, 1) := by decide +kernel
theorem dX5_walls_32 : decode cX5_walls 32 = .ok (.getfield 32, 3) := by decide +kernel
theorem dX5_walls_35 : decode cX5_walls 35 = .ok (.aload_n 0, 1) := by decide +kernel
theorem dX5_walls_36 : decode cX5_walls 36 = .ok (.getfield 19, 3) := by decide +kernel
theorem dX5_walls_39 : decode cX5_walls 39 = .ok (.iload_n 1, 1) := by decide +kernel
theorem dX5_walls_40 : decode cX5_walls 40 = .ok (.invokevirtual 183, 3) := by decide +kernel
theorem dX5_walls_43 : decode cX5_walls 43 = .ok (.iload_n 2, 1) := by decide +kernel
theorem dX5_walls_44 : decode cX5_walls 44 = .ok (.ifCond .ne 13, 3) := by decide +kernel
theorem dX5_walls_47 : decode cX5_walls 47 = .ok (.aload_n 0, 1) := by decide +kernel
theorem dX5_walls_48 : decode cX5_walls 48 = .ok (.getfield 32, 3) := by decide +kernel
theorem dX5_walls_51 : decode cX5_walls 51 = .ok (.getfield 187, 3) := by decide +kernel
theorem dX5_walls_54 : decode cX5_walls 54 = .ok (.goto 10, 3) := by decide +kernel
theorem dX5_walls_57 : decode cX5_walls 57 = .ok (.aload_n 0, 1) := by decide +kernel
theorem dX5_walls_58 : decode cX5_walls 58 = .ok (.getfield 32, 3) := by decide +kernel
theorem dX5_walls_61 : decode cX5_walls 61 = .ok (.getfield 190, 3) := by decide +kernel
theorem dX5_walls_64 : decode cX5_walls 64 = .ok (.ireturn, 1) := by decide +kernel
set_option maxRecDepth 20000 in
theorem ggX5_pact_X4_has : GoodIn wsX5_pact wsX4_has := goodIn_r _ [6, 7, 71, 72, 73, 74, 75, 76, 77, 78, 79, 80, 81, 82] rfl (by decide +kernel)
set_option maxRecDepth 20000 in
theorem gX5_pact_X4_has : GoodIn wsX5_pact (wsV RX5 68 RX4 yX4_has wsX4_has) := goodIn_app (goodIn_of _ (by decide +kernel)) ggX5_pact_X4_has
set_option maxRecDepth 20000 in
theorem ggX5_pact_X0_leastPatience : GoodIn wsX5_pact wsX0_leastPatience := goodIn_r _ [11, 12, 13, 10, 14, 15, 16, 17, 18, 19, 20, 5, 21, 22, 23, 24, 25, 26, 27, 7, 28, 29, 30, 31, 32, 33, 34, 35, 36, 37, 38, 39, 40, 41, 42, 43, 44, 45, 46, 47, 48, 49, 50, 51, 52, 53, 54, 55, 56, 57, 58, 71, 72, 73, 74, 75, 76, 77, 78, 79, 80, 81, 82] rfl (by decide +kernel)
set_option maxRecDepth 20000 in
theorem gX5_pact_X0_leastPatience : GoodIn wsX5_pact (va_wsS RX5 193 yX0_leastPatience wsX0_leastPatience) := goodIn_app (goodIn_of _ (by decide +kernel)) ggX5_pact_X0_leastPatience
set_option maxRecDepth 20000 in
theorem ggX5_pact_X0_pactHolds : GoodIn wsX5_pact wsX0_pactHolds := goodIn_r _ [14, 15, 16, 10, 17, 18, 19, 20, 5, 21, 22, 23, 24, 25, 26, 27, 7, 28, 29, 30, 31, 32, 33, 34, 35, 36, 37, 38, 39, 40, 41, 42, 43, 44, 45, 46, 47, 48, 49, 50, 51, 52, 53, 54, 55, 56, 57, 58, 71, 72, 73, 74, 75, 76, 77, 78, 79, 80, 81, 82] rfl (by decide +kernel)
set_option maxRecDepth 20000 in
theorem gX5_pact_X0_pactHolds : GoodIn wsX5_pact (va_wsS RX5 197 yX0_pactHolds wsX0_pactHolds) := goodIn_app (goodIn_of _ (by decide +kernel)) ggX5_pact_X0_pactHolds
theorem dX5_pact_0 : decode cX5_pact 0 = .ok (.aload_n 0, 1) := by decide +kernel
theorem dX5_pact_1 : decode cX5_pact 1 = .ok (.getfield 12, 3) := by decide +kernel
theorem dX5_pact_4 : decode cX5_pact 4 = .ok (.iload_n 1, 1) := by decide +kernel
theorem dX5_pact_5 : decode cX5_pact 5 = .ok (.invokevirtual 68, 3) := by decide +kernel
theorem dX5_pact_8 : decode cX5_pact 8 = .ok (.ifCond .eq 15, 3) := by decide +kernel
theorem dX5_pact_11 : decode cX5_pact 11 = .ok (.iload_n 2, 1) := by decide +kernel
theorem dX5_pact_12 : decode cX5_pact 12 = .ok (.iconst (-1), 1) := by decide +kernel
theorem dX5_pact_13 : decode cX5_pact 13 = .ok (.if_icmp .lt 10, 3) := by decide +kernel
theorem dX5_pact_16 : decode cX5_pact 16 = .ok (.iload_n 2, 1) := by decide +kernel
theorem dX5_pact_17 : decode cX5_pact 17 = .ok (.sipush 1000, 3) := by decide +kernel
theorem dX5_pact_20 : decode cX5_pact 20 = .ok (.if_icmp .lt 5, 3) := by decide +kernel
theorem dX5_pact_23 : decode cX5_pact 23 = .ok (.iconst (-1), 1) := by decide +kernel
theorem dX5_pact_24 : decode cX5_pact 24 = .ok (.ireturn, 1) := by decide +kernel
theorem dX5_pact_25 : decode cX5_pact 25 = .ok (.iload_n 2, 1) := by decide +kernel
theorem dX5_pact_26 : decode cX5_pact 26 = .ok (.iconst (-1), 1) := by decide +kernel
theorem dX5_pact_27 : decode cX5_pact 27 = .ok (.if_icmp .ne 12, 3) := by decide +kernel
theorem dX5_pact_30 : decode cX5_pact 30 = .ok (.aload_n 0, 1) := by decide +kernel
theorem dX5_pact_31 : decode cX5_pact 31 = .ok (.getfield 12, 3) := by decide +kernel
theorem dX5_pact_34 : decode cX5_pact 34 = .ok (.iload_n 1, 1) := by decide +kernel
theorem dX5_pact_35 : decode cX5_pact 35 = .ok (.invokestatic 193, 3) := by decide +kernel
theorem dX5_pact_38 : decode cX5_pact 38 = .ok (.ireturn, 1) := by decide +kernel
theorem dX5_pact_39 : decode cX5_pact 39 = .ok (.aload_n 0, 1) := by decide +kernel
theorem dX5_pact_40 : decode cX5_pact 40 = .ok (.getfield 12, 3) := by decide +kernel
theorem dX5_pact_43 : decode cX5_pact 43 = .ok (.iload_n 1, 1) := by decide +kernel
theorem dX5_pact_44 : decode cX5_pact 44 = .ok (.iload_n 2, 1) := by decide +kernel
theorem dX5_pact_45 : decode cX5_pact 45 = .ok (.invokestatic 197, 3) := by decide +kernel
theorem dX5_pact_48 : decode cX5_pact 48 = .ok (.ifCond .eq 7, 3) := by decide +kernel
theorem dX5_pact_51 : decode cX5_pact 51 = .ok (.iconst 1, 1) := by decide +kernel
theorem dX5_pact_52 : decode cX5_pact 52 = .ok (.goto 4, 3) := by decide +kernel
theorem dX5_pact_55 : decode cX5_pact 55 = .ok (.iconst 0, 1) := by decide +kernel
theorem dX5_pact_56 : decode cX5_pact 56 = .ok (.ireturn, 1) := by decide +kernel
set_option maxRecDepth 20000 in
theorem ggX5_two_X4_allWidths : GoodIn wsX5_two wsX4_allWidths := goodIn_r _ [12, 13, 14, 15, 11, 16, 17, 18, 168, 169, 170, 171, 172, 173, 174, 175, 176, 177, 178, 179] rfl (by decide +kernel)
set_option maxRecDepth 20000 in
theorem gX5_two_X4_allWidths : GoodIn wsX5_two (wsV RX5 201 RX4 yX4_allWidths wsX4_allWidths) := goodIn_app (goodIn_of _ (by decide +kernel)) ggX5_two_X4_allWidths
set_option maxRecDepth 20000 in
theorem ggX5_two_X4_copy : GoodIn wsX5_two wsX4_copy := goodIn_r _ [22, 17, 23, 24, 25, 26, 27, 28, 29, 30, 31, 18, 32, 33, 34, 35, 36, 37, 38, 39, 40, 41, 42, 43, 168, 169, 170, 171, 172, 173, 174, 175, 176, 177, 178, 179, 188, 189] rfl (by decide +kernel)
set_option maxRecDepth 20000 in
theorem gX5_two_X4_copy : GoodIn wsX5_two (wsV RX5 180 RX4 yX4_copy wsX4_copy) := goodIn_app (goodIn_of _ (by decide +kernel)) ggX5_two_X4_copy
set_option maxRecDepth 20000 in
theorem ggX5_two_X1_prepare : GoodIn wsX5_two wsX1_prepare := goodIn_r _ [48, 49, 50, 51, 52, 53, 54, 55, 56, 57, 58, 59, 60, 11, 61, 18, 33, 35, 34, 62, 63, 64, 65, 66, 67, 68, 69, 70, 71, 72, 39, 73, 74, 75, 76, 77, 26, 78, 79, 80, 81, 24, 32, 82, 83, 84, 85, 17, 86, 87, 88, 89, 90, 91, 92, 93, 94, 95, 96, 97, 98, 99, 100, 31, 101, 102, 103, 104, 105, 106, 107, 108, 109, 110, 111, 112, 113, 114, 115, 116, 117, 118, 119, 120, 121, 122, 123, 124, 125, 126, 127, 128, 129, 180, 181, 182, 183, 184, 185, 186, 187, 168, 169, 170, 171, 172, 173, 174, 175, 176, 177, 178, 179, 188, 189] rfl (by decide +kernel)
set_option maxRecDepth 20000 in
theorem gX5_two_X1_prepare : GoodIn wsX5_two (wsV RX5 207 RX1 yX1_prepare wsX1_prepare) := goodIn_app (goodIn_of _ (by decide +kernel)) ggX5_two_X1_prepare
set_option maxRecDepth 20000 in
theorem ggX5_two_X1_play : GoodIn wsX5_two wsX1_play := goodIn_r _ [133, 134, 49, 135, 136, 28, 29, 30, 137, 138, 139, 140, 141, 142, 143, 47, 144, 54, 145, 55, 146, 147, 148, 149, 150, 56, 57, 51, 151, 95, 80, 96, 152, 153, 154, 155, 156, 180, 181, 182, 183, 184, 185, 186, 187] rfl (by decide +kernel)
set_option maxRecDepth 20000 in
theorem gX5_two_X1_play : GoodIn wsX5_two (wsV RX5 210 RX1 yX1_play wsX1_play) := goodIn_app (goodIn_of _ (by decide +kernel)) ggX5_two_X1_play
theorem dX5_two_0 : decode cX5_two 0 = .ok (.aload_n 0, 1) := by decide +kernel
theorem dX5_two_1 : decode cX5_two 1 = .ok (.getfield 12, 3) := by decide +kernel
theorem dX5_two_4 : decode cX5_two 4 = .ok (.invokevirtual 201, 3) := by decide +kernel
theorem dX5_two_7 : decode cX5_two 7 = .ok (.istore 5, 2) := by decide +kernel
theorem dX5_two_9 : decode cX5_two 9 = .ok (.aload_n 0, 1) := by decide +kernel
theorem dX5_two_10 : decode cX5_two 10 = .ok (.getfield 12, 3) := by decide +kernel
theorem dX5_two_13 : decode cX5_two 13 = .ok (.getfield 157, 3) := by decide +kernel
theorem dX5_two_16 : decode cX5_two 16 = .ok (.iconst 2, 1) := by decide +kernel
theorem dX5_two_17 : decode cX5_two 17 = .ok (.if_icmp .ne 20, 3) := by decide +kernel
theorem dX5_two_20 : decode cX5_two 20 = .ok (.iload 5, 2) := by decide +kernel
theorem dX5_two_22 : decode cX5_two 22 = .ok (.bipush 60, 2) := by decide +kernel
theorem dX5_two_24 : decode cX5_two 24 = .ok (.if_icmp .gt 13, 3) := by decide +kernel
theorem dX5_two_27 : decode cX5_two 27 = .ok (.iload_n 3, 1) := by decide +kernel
theorem dX5_two_28 : decode cX5_two 28 = .ok (.ifCond .lt 9, 3) := by decide +kernel
theorem dX5_two_31 : decode cX5_two 31 = .ok (.iload_n 3, 1) := by decide +kernel
theorem dX5_two_32 : decode cX5_two 32 = .ok (.iload 5, 2) := by decide +kernel
theorem dX5_two_34 : decode cX5_two 34 = .ok (.if_icmp .le 7, 3) := by decide +kernel
theorem dX5_two_37 : decode cX5_two 37 = .ok (.ldc2_w 205, 3) := by decide +kernel
theorem dX5_two_40 : decode cX5_two 40 = .ok (.lreturn, 1) := by decide +kernel
theorem dX5_two_41 : decode cX5_two 41 = .ok (.iload_n 1, 1) := by decide +kernel
theorem dX5_two_42 : decode cX5_two 42 = .ok (.iconst 1, 1) := by decide +kernel
theorem dX5_two_43 : decode cX5_two 43 = .ok (.if_icmp .lt 31, 3) := by decide +kernel
theorem dX5_two_46 : decode cX5_two 46 = .ok (.iload_n 1, 1) := by decide +kernel
theorem dX5_two_47 : decode cX5_two 47 = .ok (.bipush 40, 2) := by decide +kernel
theorem dX5_two_49 : decode cX5_two 49 = .ok (.if_icmp .gt 25, 3) := by decide +kernel
theorem dX5_two_52 : decode cX5_two 52 = .ok (.iload_n 2, 1) := by decide +kernel
theorem dX5_two_53 : decode cX5_two 53 = .ok (.ifCond .lt 21, 3) := by decide +kernel
theorem dX5_two_56 : decode cX5_two 56 = .ok (.iload_n 2, 1) := by decide +kernel
theorem dX5_two_57 : decode cX5_two 57 = .ok (.sipush 1000, 3) := by decide +kernel
theorem dX5_two_60 : decode cX5_two 60 = .ok (.if_icmp .ge 14, 3) := by decide +kernel
theorem dX5_two_63 : decode cX5_two 63 = .ok (.iload 4, 2) := by decide +kernel
theorem dX5_two_65 : decode cX5_two 65 = .ok (.ifCond .lt 9, 3) := by decide +kernel
theorem dX5_two_68 : decode cX5_two 68 = .ok (.iload 4, 2) := by decide +kernel
theorem dX5_two_70 : decode cX5_two 70 = .ok (.iconst 1, 1) := by decide +kernel
theorem dX5_two_71 : decode cX5_two 71 = .ok (.if_icmp .le 7, 3) := by decide +kernel
theorem dX5_two_74 : decode cX5_two 74 = .ok (.ldc2_w 205, 3) := by decide +kernel
theorem dX5_two_77 : decode cX5_two 77 = .ok (.lreturn, 1) := by decide +kernel
theorem dX5_two_78 : decode cX5_two 78 = .ok (.aload_n 0, 1) := by decide +kernel
theorem dX5_two_79 : decode cX5_two 79 = .ok (.getfield 19, 3) := by decide +kernel
theorem dX5_two_82 : decode cX5_two 82 = .ok (.aload_n 0, 1) := by decide +kernel
theorem dX5_two_83 : decode cX5_two 83 = .ok (.getfield 12, 3) := by decide +kernel
theorem dX5_two_86 : decode cX5_two 86 = .ok (.invokevirtual 180, 3) := by decide +kernel
theorem dX5_two_89 : decode cX5_two 89 = .ok (.aload_n 0, 1) := by decide +kernel
theorem dX5_two_90 : decode cX5_two 90 = .ok (.getfield 39, 3) := by decide +kernel
theorem dX5_two_93 : decode cX5_two 93 = .ok (.aload_n 0, 1) := by decide +kernel
theorem dX5_two_94 : decode cX5_two 94 = .ok (.getfield 19, 3) := by decide +kernel
theorem dX5_two_97 : decode cX5_two 97 = .ok (.iload 5, 2) := by decide +kernel
theorem dX5_two_99 : decode cX5_two 99 = .ok (.invokevirtual 207, 3) := by decide +kernel
theorem dX5_two_102 : decode cX5_two 102 = .ok (.aload_n 0, 1) := by decide +kernel
theorem dX5_two_103 : decode cX5_two 103 = .ok (.getfield 39, 3) := by decide +kernel
theorem dX5_two_106 : decode cX5_two 106 = .ok (.iload_n 1, 1) := by decide +kernel
theorem dX5_two_107 : decode cX5_two 107 = .ok (.iload_n 2, 1) := by decide +kernel
theorem dX5_two_108 : decode cX5_two 108 = .ok (.invokevirtual 210, 3) := by decide +kernel
theorem dX5_two_111 : decode cX5_two 111 = .ok (.iload 4, 2) := by decide +kernel
theorem dX5_two_113 : decode cX5_two 113 = .ok (.ifCond .ne 15, 3) := by decide +kernel
theorem dX5_two_116 : decode cX5_two 116 = .ok (.aload_n 0, 1) := by decide +kernel
theorem dX5_two_117 : decode cX5_two 117 = .ok (.getfield 39, 3) := by decide +kernel
theorem dX5_two_120 : decode cX5_two 120 = .ok (.getfield 214, 3) := by decide +kernel
theorem dX5_two_123 : decode cX5_two 123 = .ok (.iload_n 3, 1) := by decide +kernel
theorem dX5_two_124 : decode cX5_two 124 = .ok (.laload, 1) := by decide +kernel
theorem dX5_two_125 : decode cX5_two 125 = .ok (.goto 13, 3) := by decide +kernel
theorem dX5_two_128 : decode cX5_two 128 = .ok (.aload_n 0, 1) := by decide +kernel
theorem dX5_two_129 : decode cX5_two 129 = .ok (.getfield 39, 3) := by decide +kernel
theorem dX5_two_132 : decode cX5_two 132 = .ok (.getfield 218, 3) := by decide +kernel
theorem dX5_two_135 : decode cX5_two 135 = .ok (.iload_n 3, 1) := by decide +kernel
theorem dX5_two_136 : decode cX5_two 136 = .ok (.iaload, 1) := by decide +kernel
theorem dX5_two_137 : decode cX5_two 137 = .ok (.i2l, 1) := by decide +kernel
theorem dX5_two_138 : decode cX5_two 138 = .ok (.lreturn, 1) := by decide +kernel
set_option maxRecDepth 20000 in
theorem ggX5_was_X4_has : GoodIn wsX5_was wsX4_has := goodIn_r _ [7, 8, 20, 21, 22, 23, 24, 25, 26, 27, 28, 29, 30, 31] rfl (by decide +kernel)
set_option maxRecDepth 20000 in
theorem gX5_was_X4_has : GoodIn wsX5_was (wsV RX5 68 RX4 yX4_has wsX4_has) := goodIn_app (goodIn_of _ (by decide +kernel)) ggX5_was_X4_has
theorem dX5_was_0 : decode cX5_was 0 = .ok (.aload_n 0, 1) := by decide +kernel
theorem dX5_was_1 : decode cX5_was 1 = .ok (.getfield 12, 3) := by decide +kernel
theorem dX5_was_4 : decode cX5_was 4 = .ok (.iload_n 1, 1) := by decide +kernel
theorem dX5_was_5 : decode cX5_was 5 = .ok (.invokevirtual 68, 3) := by decide +kernel
theorem dX5_was_8 : decode cX5_was 8 = .ok (.ifCond .eq 14, 3) := by decide +kernel
theorem dX5_was_11 : decode cX5_was 11 = .ok (.iload_n 2, 1) := by decide +kernel
theorem dX5_was_12 : decode cX5_was 12 = .ok (.iconst (-1), 1) := by decide +kernel
theorem dX5_was_13 : decode cX5_was 13 = .ok (.if_icmp .lt 9, 3) := by decide +kernel
theorem dX5_was_16 : decode cX5_was 16 = .ok (.iload_n 2, 1) := by decide +kernel
theorem dX5_was_17 : decode cX5_was 17 = .ok (.bipush 60, 2) := by decide +kernel
theorem dX5_was_19 : decode cX5_was 19 = .ok (.if_icmp .le 5, 3) := by decide +kernel
theorem dX5_was_22 : decode cX5_was 22 = .ok (.iconst 0, 1) := by decide +kernel
theorem dX5_was_23 : decode cX5_was 23 = .ok (.ireturn, 1) := by decide +kernel
theorem dX5_was_24 : decode cX5_was 24 = .ok (.aload_n 0, 1) := by decide +kernel
theorem dX5_was_25 : decode cX5_was 25 = .ok (.getfield 12, 3) := by decide +kernel
theorem dX5_was_28 : decode cX5_was 28 = .ok (.getfield 79, 3) := by decide +kernel
theorem dX5_was_31 : decode cX5_was 31 = .ok (.iload_n 1, 1) := by decide +kernel
theorem dX5_was_32 : decode cX5_was 32 = .ok (.aaload, 1) := by decide +kernel
theorem dX5_was_33 : decode cX5_was 33 = .ok (.bipush 8, 2) := by decide +kernel
theorem dX5_was_35 : decode cX5_was 35 = .ok (.iload_n 2, 1) := by decide +kernel
theorem dX5_was_36 : decode cX5_was 36 = .ok (.iastore, 1) := by decide +kernel
theorem dX5_was_37 : decode cX5_was 37 = .ok (.iconst 1, 1) := by decide +kernel
theorem dX5_was_38 : decode cX5_was 38 = .ok (.ireturn, 1) := by decide +kernel
set_option maxRecDepth 20000 in
theorem ggX5_judged_X4_allWereTold : GoodIn wsX5_judged wsX4_allWereTold := goodIn_r _ [7, 8, 9, 31, 32, 33, 34, 35, 36, 37, 38, 39, 40, 41, 42] rfl (by decide +kernel)
set_option maxRecDepth 20000 in
theorem gX5_judged_X4_allWereTold : GoodIn wsX5_judged (wsV RX5 221 RX4 yX4_allWereTold wsX4_allWereTold) := goodIn_app (goodIn_of _ (by decide +kernel)) ggX5_judged_X4_allWereTold
set_option maxRecDepth 20000 in
theorem ggX5_judged_X4_feetIfFirstMoved : GoodIn wsX5_judged wsX4_feetIfFirstMoved := goodIn_r _ [13, 8, 9, 14, 15, 16, 17, 18, 19, 31, 32, 33, 34, 35, 36, 37, 38, 39, 40, 41, 42] rfl (by decide +kernel)
set_option maxRecDepth 20000 in
theorem gX5_judged_X4_feetIfFirstMoved : GoodIn wsX5_judged (wsV RX5 225 RX4 yX4_feetIfFirstMoved wsX4_feetIfFirstMoved) := goodIn_app (goodIn_of _ (by decide +kernel)) ggX5_judged_X4_feetIfFirstMoved
theorem dX5_judged_0 : decode cX5_judged 0 = .ok (.aload_n 0, 1) := by decide +kernel
theorem dX5_judged_1 : decode cX5_judged 1 = .ok (.getfield 12, 3) := by decide +kernel
theorem dX5_judged_4 : decode cX5_judged 4 = .ok (.invokevirtual 221, 3) := by decide +kernel
theorem dX5_judged_7 : decode cX5_judged 7 = .ok (.ifCond .ne 5, 3) := by decide +kernel
theorem dX5_judged_10 : decode cX5_judged 10 = .ok (.iconst (-1), 1) := by decide +kernel
theorem dX5_judged_11 : decode cX5_judged 11 = .ok (.ireturn, 1) := by decide +kernel
theorem dX5_judged_12 : decode cX5_judged 12 = .ok (.iconst (-1), 1) := by decide +kernel
theorem dX5_judged_13 : decode cX5_judged 13 = .ok (.istore_n 1, 1) := by decide +kernel
theorem dX5_judged_14 : decode cX5_judged 14 = .ok (.aload_n 0, 1) := by decide +kernel
theorem dX5_judged_15 : decode cX5_judged 15 = .ok (.getfield 12, 3) := by decide +kernel
theorem dX5_judged_18 : decode cX5_judged 18 = .ok (.getfield 92, 3) := by decide +kernel
theorem dX5_judged_21 : decode cX5_judged 21 = .ok (.bipush 9, 2) := by decide +kernel
theorem dX5_judged_23 : decode cX5_judged 23 = .ok (.iaload, 1) := by decide +kernel
theorem dX5_judged_24 : decode cX5_judged 24 = .ok (.ineg, 1) := by decide +kernel
theorem dX5_judged_25 : decode cX5_judged 25 = .ok (.istore_n 2, 1) := by decide +kernel
theorem dX5_judged_26 : decode cX5_judged 26 = .ok (.iload_n 2, 1) := by decide +kernel
theorem dX5_judged_27 : decode cX5_judged 27 = .ok (.aload_n 0, 1) := by decide +kernel
theorem dX5_judged_28 : decode cX5_judged 28 = .ok (.getfield 12, 3) := by decide +kernel
theorem dX5_judged_31 : decode cX5_judged 31 = .ok (.getfield 92, 3) := by decide +kernel
theorem dX5_judged_34 : decode cX5_judged 34 = .ok (.bipush 9, 2) := by decide +kernel
theorem dX5_judged_36 : decode cX5_judged 36 = .ok (.iaload, 1) := by decide +kernel
theorem dX5_judged_37 : decode cX5_judged 37 = .ok (.if_icmp .gt 35, 3) := by decide +kernel
theorem dX5_judged_40 : decode cX5_judged 40 = .ok (.aload_n 0, 1) := by decide +kernel
theorem dX5_judged_41 : decode cX5_judged 41 = .ok (.getfield 12, 3) := by decide +kernel
theorem dX5_judged_44 : decode cX5_judged 44 = .ok (.iload_n 2, 1) := by decide +kernel
theorem dX5_judged_45 : decode cX5_judged 45 = .ok (.invokevirtual 225, 3) := by decide +kernel
theorem dX5_judged_48 : decode cX5_judged 48 = .ok (.istore_n 3, 1) := by decide +kernel
theorem dX5_judged_49 : decode cX5_judged 49 = .ok (.iload_n 3, 1) := by decide +kernel
theorem dX5_judged_50 : decode cX5_judged 50 = .ok (.iconst (-1), 1) := by decide +kernel
theorem dX5_judged_51 : decode cX5_judged 51 = .ok (.if_icmp .eq 15, 3) := by decide +kernel
theorem dX5_judged_54 : decode cX5_judged 54 = .ok (.iload_n 1, 1) := by decide +kernel
theorem dX5_judged_55 : decode cX5_judged 55 = .ok (.iconst (-1), 1) := by decide +kernel
theorem dX5_judged_56 : decode cX5_judged 56 = .ok (.if_icmp .eq 8, 3) := by decide +kernel
theorem dX5_judged_59 : decode cX5_judged 59 = .ok (.iload_n 3, 1) := by decide +kernel
theorem dX5_judged_60 : decode cX5_judged 60 = .ok (.iload_n 1, 1) := by decide +kernel
theorem dX5_judged_61 : decode cX5_judged 61 = .ok (.if_icmp .ge 5, 3) := by decide +kernel
theorem dX5_judged_64 : decode cX5_judged 64 = .ok (.iload_n 3, 1) := by decide +kernel
theorem dX5_judged_65 : decode cX5_judged 65 = .ok (.istore_n 1, 1) := by decide +kernel
theorem dX5_judged_66 : decode cX5_judged 66 = .ok (.iinc 2 1, 3) := by decide +kernel
theorem dX5_judged_69 : decode cX5_judged 69 = .ok (.goto (-43), 3) := by decide +kernel
theorem dX5_judged_72 : decode cX5_judged 72 = .ok (.iload_n 1, 1) := by decide +kernel
theorem dX5_judged_73 : decode cX5_judged 73 = .ok (.ireturn, 1) := by decide +kernel
set_option maxRecDepth 20000 in
theorem ggX5_feet_X4_copy : GoodIn wsX5_feet wsX4_copy := goodIn_r _ [9, 10, 11, 12, 13, 14, 15, 16, 17, 18, 19, 20, 21, 22, 23, 24, 25, 26, 27, 28, 29, 30, 31, 32, 119, 120, 121, 122, 123, 124, 125, 126, 127, 128, 129, 130, 131, 132] rfl (by decide +kernel)
set_option maxRecDepth 20000 in
theorem gX5_feet_X4_copy : GoodIn wsX5_feet (wsV RX5 180 RX4 yX4_copy wsX4_copy) := goodIn_app (goodIn_of _ (by decide +kernel)) ggX5_feet_X4_copy
set_option maxRecDepth 20000 in
theorem ggX5_feet_X4_pass : GoodIn wsX5_feet wsX4_pass := goodIn_r _ [36, 10, 37, 38, 12, 39, 40, 41, 8, 42, 20, 22, 24, 23, 43, 44, 45, 46, 47, 48, 49, 50, 51, 52, 53, 28, 54, 55, 56, 57, 58, 14, 59, 60, 61, 62, 21, 63, 64, 65, 66, 67, 68, 69, 70, 71, 72, 73, 74, 75, 76, 77, 78, 79, 80, 81, 19, 82, 83, 84, 85, 13, 86, 87, 88, 89, 90, 91, 92, 93, 94, 11, 95, 96, 97, 98, 99, 100, 101, 102, 103, 119, 120, 121, 122, 123, 124, 125, 126, 127, 128, 129, 130, 131, 132] rfl (by decide +kernel)
set_option maxRecDepth 20000 in
theorem gX5_feet_X4_pass : GoodIn wsX5_feet (wsV RX5 144 RX4 yX4_pass wsX4_pass) := goodIn_app (goodIn_of _ (by decide +kernel)) ggX5_feet_X4_pass
set_option maxRecDepth 20000 in
theorem ggX5_feet_X4_allPurses : GoodIn wsX5_feet wsX4_allPurses := goodIn_r _ [107, 10, 19, 119, 120, 121, 122, 123, 124, 125, 126, 127, 128, 129, 130] rfl (by decide +kernel)
set_option maxRecDepth 20000 in
theorem gX5_feet_X4_allPurses : GoodIn wsX5_feet (wsV RX5 228 RX4 yX4_allPurses wsX4_allPurses) := goodIn_app (goodIn_of _ (by decide +kernel)) ggX5_feet_X4_allPurses
theorem dX5_feet_0 : decode cX5_feet 0 = .ok (.iload_n 1, 1) := by decide +kernel
theorem dX5_feet_1 : decode cX5_feet 1 = .ok (.iconst 1, 1) := by decide +kernel
theorem dX5_feet_2 : decode cX5_feet 2 = .ok (.if_icmp .lt 9, 3) := by decide +kernel
theorem dX5_feet_5 : decode cX5_feet 5 = .ok (.iload_n 1, 1) := by decide +kernel
theorem dX5_feet_6 : decode cX5_feet 6 = .ok (.bipush 60, 2) := by decide +kernel
theorem dX5_feet_8 : decode cX5_feet 8 = .ok (.if_icmp .le 5, 3) := by decide +kernel
theorem dX5_feet_11 : decode cX5_feet 11 = .ok (.iconst (-1), 1) := by decide +kernel
theorem dX5_feet_12 : decode cX5_feet 12 = .ok (.ireturn, 1) := by decide +kernel
theorem dX5_feet_13 : decode cX5_feet 13 = .ok (.iconst 0, 1) := by decide +kernel
theorem dX5_feet_14 : decode cX5_feet 14 = .ok (.istore_n 2, 1) := by decide +kernel
theorem dX5_feet_15 : decode cX5_feet 15 = .ok (.lconst 0, 1) := by decide +kernel
theorem dX5_feet_16 : decode cX5_feet 16 = .ok (.lstore_n 3, 1) := by decide +kernel
theorem dX5_feet_17 : decode cX5_feet 17 = .ok (.iconst 0, 1) := by decide +kernel
theorem dX5_feet_18 : decode cX5_feet 18 = .ok (.istore 5, 2) := by decide +kernel
theorem dX5_feet_20 : decode cX5_feet 20 = .ok (.iload 5, 2) := by decide +kernel
theorem dX5_feet_22 : decode cX5_feet 22 = .ok (.getstatic 89, 3) := by decide +kernel
theorem dX5_feet_25 : decode cX5_feet 25 = .ok (.bipush 9, 2) := by decide +kernel
theorem dX5_feet_27 : decode cX5_feet 27 = .ok (.iaload, 1) := by decide +kernel
theorem dX5_feet_28 : decode cX5_feet 28 = .ok (.if_icmp .gt 67, 3) := by decide +kernel
theorem dX5_feet_31 : decode cX5_feet 31 = .ok (.aload_n 0, 1) := by decide +kernel
theorem dX5_feet_32 : decode cX5_feet 32 = .ok (.getfield 19, 3) := by decide +kernel
theorem dX5_feet_35 : decode cX5_feet 35 = .ok (.aload_n 0, 1) := by decide +kernel
theorem dX5_feet_36 : decode cX5_feet 36 = .ok (.getfield 12, 3) := by decide +kernel
theorem dX5_feet_39 : decode cX5_feet 39 = .ok (.invokevirtual 180, 3) := by decide +kernel
theorem dX5_feet_42 : decode cX5_feet 42 = .ok (.aload_n 0, 1) := by decide +kernel
theorem dX5_feet_43 : decode cX5_feet 43 = .ok (.getfield 19, 3) := by decide +kernel
theorem dX5_feet_46 : decode cX5_feet 46 = .ok (.getfield 92, 3) := by decide +kernel
theorem dX5_feet_49 : decode cX5_feet 49 = .ok (.bipush 9, 2) := by decide +kernel
theorem dX5_feet_51 : decode cX5_feet 51 = .ok (.iload 5, 2) := by decide +kernel
theorem dX5_feet_53 : decode cX5_feet 53 = .ok (.iastore, 1) := by decide +kernel
theorem dX5_feet_54 : decode cX5_feet 54 = .ok (.aload_n 0, 1) := by decide +kernel
theorem dX5_feet_55 : decode cX5_feet 55 = .ok (.getfield 19, 3) := by decide +kernel
theorem dX5_feet_58 : decode cX5_feet 58 = .ok (.iload_n 1, 1) := by decide +kernel
theorem dX5_feet_59 : decode cX5_feet 59 = .ok (.invokevirtual 144, 3) := by decide +kernel
theorem dX5_feet_62 : decode cX5_feet 62 = .ok (.aload_n 0, 1) := by decide +kernel
theorem dX5_feet_63 : decode cX5_feet 63 = .ok (.getfield 19, 3) := by decide +kernel
theorem dX5_feet_66 : decode cX5_feet 66 = .ok (.invokevirtual 228, 3) := by decide +kernel
theorem dX5_feet_69 : decode cX5_feet 69 = .ok (.lstore 6, 2) := by decide +kernel
theorem dX5_feet_71 : decode cX5_feet 71 = .ok (.iload 5, 2) := by decide +kernel
theorem dX5_feet_73 : decode cX5_feet 73 = .ok (.ifCond .eq 10, 3) := by decide +kernel
theorem dX5_feet_76 : decode cX5_feet 76 = .ok (.lload 6, 2) := by decide +kernel
theorem dX5_feet_78 : decode cX5_feet 78 = .ok (.lload_n 3, 1) := by decide +kernel
theorem dX5_feet_79 : decode cX5_feet 79 = .ok (.lcmp, 1) := by decide +kernel
theorem dX5_feet_80 : decode cX5_feet 80 = .ok (.ifCond .le 9, 3) := by decide +kernel
theorem dX5_feet_83 : decode cX5_feet 83 = .ok (.iload 5, 2) := by decide +kernel
theorem dX5_feet_85 : decode cX5_feet 85 = .ok (.istore_n 2, 1) := by decide +kernel
theorem dX5_feet_86 : decode cX5_feet 86 = .ok (.lload 6, 2) := by decide +kernel
theorem dX5_feet_88 : decode cX5_feet 88 = .ok (.lstore_n 3, 1) := by decide +kernel
theorem dX5_feet_89 : decode cX5_feet 89 = .ok (.iinc 5 1, 3) := by decide +kernel
theorem dX5_feet_92 : decode cX5_feet 92 = .ok (.goto (-72), 3) := by decide +kernel
theorem dX5_feet_95 : decode cX5_feet 95 = .ok (.iload_n 2, 1) := by decide +kernel
theorem dX5_feet_96 : decode cX5_feet 96 = .ok (.ireturn, 1) := by decide +kernel
set_option maxRecDepth 20000 in
theorem ggX5_thought_X4_copy : GoodIn wsX5_thought wsX4_copy := goodIn_r _ [9, 10, 11, 12, 13, 14, 15, 16, 17, 18, 19, 20, 21, 22, 23, 24, 25, 26, 27, 28, 29, 30, 31, 32, 127, 128, 129, 130, 131, 132, 133, 134, 135, 136, 137, 138, 139, 140] rfl (by decide +kernel)
set_option maxRecDepth 20000 in
theorem gX5_thought_X4_copy : GoodIn wsX5_thought (wsV RX5 180 RX4 yX4_copy wsX4_copy) := goodIn_app (goodIn_of _ (by decide +kernel)) ggX5_thought_X4_copy
set_option maxRecDepth 20000 in
theorem ggX5_thought_X4_pass : GoodIn wsX5_thought wsX4_pass := goodIn_r _ [36, 10, 37, 38, 12, 39, 40, 41, 8, 42, 20, 22, 24, 23, 43, 44, 45, 46, 47, 48, 49, 50, 51, 52, 53, 28, 54, 55, 56, 57, 58, 14, 59, 60, 61, 62, 21, 63, 64, 65, 66, 67, 68, 69, 70, 71, 72, 73, 74, 75, 76, 77, 78, 79, 80, 81, 19, 82, 83, 84, 85, 13, 86, 87, 88, 89, 90, 91, 92, 93, 94, 11, 95, 96, 97, 98, 99, 100, 101, 102, 103, 127, 128, 129, 130, 131, 132, 133, 134, 135, 136, 137, 138, 139, 140] rfl (by decide +kernel)
set_option maxRecDepth 20000 in
theorem gX5_thought_X4_pass : GoodIn wsX5_thought (wsV RX5 144 RX4 yX4_pass wsX4_pass) := goodIn_app (goodIn_of _ (by decide +kernel)) ggX5_thought_X4_pass
set_option maxRecDepth 20000 in
theorem ggX5_thought_X4_allPurses : GoodIn wsX5_thought wsX4_allPurses := goodIn_r _ [107, 10, 19, 127, 128, 129, 130, 131, 132, 133, 134, 135, 136, 137, 138] rfl (by decide +kernel)
set_option maxRecDepth 20000 in
theorem gX5_thought_X4_allPurses : GoodIn wsX5_thought (wsV RX5 228 RX4 yX4_allPurses wsX4_allPurses) := goodIn_app (goodIn_of _ (by decide +kernel)) ggX5_thought_X4_allPurses
set_option maxRecDepth 20000 in
theorem ggX5_thought_X4_added : GoodIn wsX5_thought wsX4_added := goodIn_r _ [111, 10, 20, 127, 128, 129, 130, 131, 132, 133, 134, 135, 136, 137, 138] rfl (by decide +kernel)
set_option maxRecDepth 20000 in
theorem gX5_thought_X4_added : GoodIn wsX5_thought (wsV RX5 232 RX4 yX4_added wsX4_added) := goodIn_app (goodIn_of _ (by decide +kernel)) ggX5_thought_X4_added
set_option maxRecDepth 20000 in
theorem ggX5_thought_X4_countEaten : GoodIn wsX5_thought wsX4_countEaten := goodIn_r _ [115, 10, 20, 127, 128, 129, 130, 131, 132, 133, 134, 135, 136, 137, 138] rfl (by decide +kernel)
set_option maxRecDepth 20000 in
theorem gX5_thought_X4_countEaten : GoodIn wsX5_thought (wsV RX5 235 RX4 yX4_countEaten wsX4_countEaten) := goodIn_app (goodIn_of _ (by decide +kernel)) ggX5_thought_X4_countEaten
theorem dX5_thought_0 : decode cX5_thought 0 = .ok (.iload_n 1, 1) := by decide +kernel
theorem dX5_thought_1 : decode cX5_thought 1 = .ok (.iconst 1, 1) := by decide +kernel
theorem dX5_thought_2 : decode cX5_thought 2 = .ok (.if_icmp .lt 18, 3) := by decide +kernel
theorem dX5_thought_5 : decode cX5_thought 5 = .ok (.iload_n 1, 1) := by decide +kernel
theorem dX5_thought_6 : decode cX5_thought 6 = .ok (.bipush 60, 2) := by decide +kernel
theorem dX5_thought_8 : decode cX5_thought 8 = .ok (.if_icmp .gt 12, 3) := by decide +kernel
theorem dX5_thought_11 : decode cX5_thought 11 = .ok (.iload_n 2, 1) := by decide +kernel
theorem dX5_thought_12 : decode cX5_thought 12 = .ok (.ifCond .lt 8, 3) := by decide +kernel
theorem dX5_thought_15 : decode cX5_thought 15 = .ok (.iload_n 2, 1) := by decide +kernel
theorem dX5_thought_16 : decode cX5_thought 16 = .ok (.iconst 3, 1) := by decide +kernel
theorem dX5_thought_17 : decode cX5_thought 17 = .ok (.if_icmp .le 6, 3) := by decide +kernel
theorem dX5_thought_20 : decode cX5_thought 20 = .ok (.ldc 131, 2) := by decide +kernel
theorem dX5_thought_22 : decode cX5_thought 22 = .ok (.ireturn, 1) := by decide +kernel
theorem dX5_thought_23 : decode cX5_thought 23 = .ok (.aload_n 0, 1) := by decide +kernel
theorem dX5_thought_24 : decode cX5_thought 24 = .ok (.getfield 19, 3) := by decide +kernel
theorem dX5_thought_27 : decode cX5_thought 27 = .ok (.aload_n 0, 1) := by decide +kernel
theorem dX5_thought_28 : decode cX5_thought 28 = .ok (.getfield 12, 3) := by decide +kernel
theorem dX5_thought_31 : decode cX5_thought 31 = .ok (.invokevirtual 180, 3) := by decide +kernel
theorem dX5_thought_34 : decode cX5_thought 34 = .ok (.aload_n 0, 1) := by decide +kernel
theorem dX5_thought_35 : decode cX5_thought 35 = .ok (.getfield 19, 3) := by decide +kernel
theorem dX5_thought_38 : decode cX5_thought 38 = .ok (.iload_n 1, 1) := by decide +kernel
theorem dX5_thought_39 : decode cX5_thought 39 = .ok (.invokevirtual 144, 3) := by decide +kernel
theorem dX5_thought_42 : decode cX5_thought 42 = .ok (.iload_n 2, 1) := by decide +kernel
theorem dX5_thought_43 : decode cX5_thought 43 = .ok (.tableswitch 78 0 2 #[25, 42, 58], 25) := by decide +kernel
theorem dX5_thought_68 : decode cX5_thought 68 = .ok (.aload_n 0, 1) := by decide +kernel
theorem dX5_thought_69 : decode cX5_thought 69 = .ok (.getfield 19, 3) := by decide +kernel
theorem dX5_thought_72 : decode cX5_thought 72 = .ok (.invokevirtual 228, 3) := by decide +kernel
theorem dX5_thought_75 : decode cX5_thought 75 = .ok (.aload_n 0, 1) := by decide +kernel
theorem dX5_thought_76 : decode cX5_thought 76 = .ok (.getfield 12, 3) := by decide +kernel
theorem dX5_thought_79 : decode cX5_thought 79 = .ok (.invokevirtual 228, 3) := by decide +kernel
theorem dX5_thought_82 : decode cX5_thought 82 = .ok (.lsub, 1) := by decide +kernel
theorem dX5_thought_83 : decode cX5_thought 83 = .ok (.l2i, 1) := by decide +kernel
theorem dX5_thought_84 : decode cX5_thought 84 = .ok (.ireturn, 1) := by decide +kernel
theorem dX5_thought_85 : decode cX5_thought 85 = .ok (.aload_n 0, 1) := by decide +kernel
theorem dX5_thought_86 : decode cX5_thought 86 = .ok (.getfield 19, 3) := by decide +kernel
theorem dX5_thought_89 : decode cX5_thought 89 = .ok (.getfield 141, 3) := by decide +kernel
theorem dX5_thought_92 : decode cX5_thought 92 = .ok (.aload_n 0, 1) := by decide +kernel
theorem dX5_thought_93 : decode cX5_thought 93 = .ok (.getfield 12, 3) := by decide +kernel
theorem dX5_thought_96 : decode cX5_thought 96 = .ok (.getfield 141, 3) := by decide +kernel
theorem dX5_thought_99 : decode cX5_thought 99 = .ok (.isub, 1) := by decide +kernel
theorem dX5_thought_100 : decode cX5_thought 100 = .ok (.ireturn, 1) := by decide +kernel
theorem dX5_thought_101 : decode cX5_thought 101 = .ok (.aload_n 0, 1) := by decide +kernel
theorem dX5_thought_102 : decode cX5_thought 102 = .ok (.getfield 19, 3) := by decide +kernel
theorem dX5_thought_105 : decode cX5_thought 105 = .ok (.bipush 6, 2) := by decide +kernel
theorem dX5_thought_107 : decode cX5_thought 107 = .ok (.invokevirtual 232, 3) := by decide +kernel
theorem dX5_thought_110 : decode cX5_thought 110 = .ok (.aload_n 0, 1) := by decide +kernel
theorem dX5_thought_111 : decode cX5_thought 111 = .ok (.getfield 12, 3) := by decide +kernel
theorem dX5_thought_114 : decode cX5_thought 114 = .ok (.bipush 6, 2) := by decide +kernel
theorem dX5_thought_116 : decode cX5_thought 116 = .ok (.invokevirtual 232, 3) := by decide +kernel
theorem dX5_thought_119 : decode cX5_thought 119 = .ok (.isub, 1) := by decide +kernel
theorem dX5_thought_120 : decode cX5_thought 120 = .ok (.ireturn, 1) := by decide +kernel
theorem dX5_thought_121 : decode cX5_thought 121 = .ok (.aload_n 0, 1) := by decide +kernel
theorem dX5_thought_122 : decode cX5_thought 122 = .ok (.getfield 19, 3) := by decide +kernel
theorem dX5_thought_125 : decode cX5_thought 125 = .ok (.invokevirtual 235, 3) := by decide +kernel
theorem dX5_thought_128 : decode cX5_thought 128 = .ok (.ireturn, 1) := by decide +kernel
set_option maxRecDepth 20000 in
theorem ggX5_image_X4_copy : GoodIn wsX5_image wsX4_copy := goodIn_r _ [8, 9, 10, 11, 12, 13, 14, 15, 16, 17, 18, 19, 20, 21, 22, 23, 24, 25, 26, 27, 28, 29, 30, 31, 43, 44, 45, 46, 47, 48, 49, 50, 51, 52, 53, 54, 55, 56] rfl (by decide +kernel)
set_option maxRecDepth 20000 in
theorem gX5_image_X4_copy : GoodIn wsX5_image (wsV RX5 180 RX4 yX4_copy wsX4_copy) := goodIn_app (goodIn_of _ (by decide +kernel)) ggX5_image_X4_copy
theorem dX5_image_0 : decode cX5_image 0 = .ok (.iload_n 1, 1) := by decide +kernel
theorem dX5_image_1 : decode cX5_image 1 = .ok (.ifCond .eq 22, 3) := by decide +kernel
theorem dX5_image_4 : decode cX5_image 4 = .ok (.aload_n 0, 1) := by decide +kernel
theorem dX5_image_5 : decode cX5_image 5 = .ok (.getfield 16, 3) := by decide +kernel
theorem dX5_image_8 : decode cX5_image 8 = .ok (.aload_n 0, 1) := by decide +kernel
theorem dX5_image_9 : decode cX5_image 9 = .ok (.getfield 12, 3) := by decide +kernel
theorem dX5_image_12 : decode cX5_image 12 = .ok (.invokevirtual 180, 3) := by decide +kernel
theorem dX5_image_15 : decode cX5_image 15 = .ok (.aload_n 0, 1) := by decide +kernel
theorem dX5_image_16 : decode cX5_image 16 = .ok (.iconst 1, 1) := by decide +kernel
theorem dX5_image_17 : decode cX5_image 17 = .ok (.putfield 57, 3) := by decide +kernel
theorem dX5_image_20 : decode cX5_image 20 = .ok (.goto 21, 3) := by decide +kernel
theorem dX5_image_23 : decode cX5_image 23 = .ok (.aload_n 0, 1) := by decide +kernel
theorem dX5_image_24 : decode cX5_image 24 = .ok (.getfield 57, 3) := by decide +kernel
theorem dX5_image_27 : decode cX5_image 27 = .ok (.ifCond .eq 14, 3) := by decide +kernel
theorem dX5_image_30 : decode cX5_image 30 = .ok (.aload_n 0, 1) := by decide +kernel
theorem dX5_image_31 : decode cX5_image 31 = .ok (.getfield 12, 3) := by decide +kernel
theorem dX5_image_34 : decode cX5_image 34 = .ok (.aload_n 0, 1) := by decide +kernel
theorem dX5_image_35 : decode cX5_image 35 = .ok (.getfield 16, 3) := by decide +kernel
theorem dX5_image_38 : decode cX5_image 38 = .ok (.invokevirtual 180, 3) := by decide +kernel
theorem dX5_image_41 : decode cX5_image 41 = .ok (.aload_n 0, 1) := by decide +kernel
theorem dX5_image_42 : decode cX5_image 42 = .ok (.getfield 57, 3) := by decide +kernel
theorem dX5_image_45 : decode cX5_image 45 = .ok (.ireturn, 1) := by decide +kernel
set_option maxRecDepth 20000 in
theorem ggX5_look_X4_allWidths : GoodIn wsX5_look wsX4_allWidths := goodIn_r _ [10, 11, 12, 13, 9, 14, 15, 16, 32, 33, 34, 35, 36, 37, 38, 39, 40, 41, 42, 43] rfl (by decide +kernel)
set_option maxRecDepth 20000 in
theorem gX5_look_X4_allWidths : GoodIn wsX5_look (wsV RX5 201 RX4 yX4_allWidths wsX4_allWidths) := goodIn_app (goodIn_of _ (by decide +kernel)) ggX5_look_X4_allWidths
set_option maxRecDepth 20000 in
theorem ggX5_look_X4_countEaten : GoodIn wsX5_look wsX4_countEaten := goodIn_r _ [20, 15, 16, 32, 33, 34, 35, 36, 37, 38, 39, 40, 41, 42, 43] rfl (by decide +kernel)
set_option maxRecDepth 20000 in
theorem gX5_look_X4_countEaten : GoodIn wsX5_look (wsV RX5 235 RX4 yX4_countEaten wsX4_countEaten) := goodIn_app (goodIn_of _ (by decide +kernel)) ggX5_look_X4_countEaten
theorem dX5_look_0 : decode cX5_look 0 = .ok (.iload_n 1, 1) := by decide +kernel
theorem dX5_look_1 : decode cX5_look 1 = .ok (.bipush 10, 2) := by decide +kernel
theorem dX5_look_3 : decode cX5_look 3 = .ok (.if_icmp .lt 22, 3) := by decide +kernel
theorem dX5_look_6 : decode cX5_look 6 = .ok (.iload_n 1, 1) := by decide +kernel
theorem dX5_look_7 : decode cX5_look 7 = .ok (.bipush 20, 2) := by decide +kernel
theorem dX5_look_9 : decode cX5_look 9 = .ok (.if_icmp .ge 16, 3) := by decide +kernel
theorem dX5_look_12 : decode cX5_look 12 = .ok (.aload_n 0, 1) := by decide +kernel
theorem dX5_look_13 : decode cX5_look 13 = .ok (.getfield 12, 3) := by decide +kernel
theorem dX5_look_16 : decode cX5_look 16 = .ok (.getfield 92, 3) := by decide +kernel
theorem dX5_look_19 : decode cX5_look 19 = .ok (.iload_n 1, 1) := by decide +kernel
theorem dX5_look_20 : decode cX5_look 20 = .ok (.bipush 10, 2) := by decide +kernel
theorem dX5_look_22 : decode cX5_look 22 = .ok (.isub, 1) := by decide +kernel
theorem dX5_look_23 : decode cX5_look 23 = .ok (.iaload, 1) := by decide +kernel
theorem dX5_look_24 : decode cX5_look 24 = .ok (.ireturn, 1) := by decide +kernel
theorem dX5_look_25 : decode cX5_look 25 = .ok (.iload_n 1, 1) := by decide +kernel
theorem dX5_look_26 : decode cX5_look 26 = .ok (.tableswitch 74 0 4 #[34, 42, 50, 58, 66], 34) := by decide +kernel
theorem dX5_look_60 : decode cX5_look 60 = .ok (.aload_n 0, 1) := by decide +kernel
theorem dX5_look_61 : decode cX5_look 61 = .ok (.getfield 12, 3) := by decide +kernel
theorem dX5_look_64 : decode cX5_look 64 = .ok (.getfield 157, 3) := by decide +kernel
theorem dX5_look_67 : decode cX5_look 67 = .ok (.ireturn, 1) := by decide +kernel
theorem dX5_look_68 : decode cX5_look 68 = .ok (.aload_n 0, 1) := by decide +kernel
theorem dX5_look_69 : decode cX5_look 69 = .ok (.getfield 12, 3) := by decide +kernel
theorem dX5_look_72 : decode cX5_look 72 = .ok (.getfield 138, 3) := by decide +kernel
theorem dX5_look_75 : decode cX5_look 75 = .ok (.ireturn, 1) := by decide +kernel
theorem dX5_look_76 : decode cX5_look 76 = .ok (.aload_n 0, 1) := by decide +kernel
theorem dX5_look_77 : decode cX5_look 77 = .ok (.getfield 12, 3) := by decide +kernel
theorem dX5_look_80 : decode cX5_look 80 = .ok (.getfield 141, 3) := by decide +kernel
theorem dX5_look_83 : decode cX5_look 83 = .ok (.ireturn, 1) := by decide +kernel
theorem dX5_look_84 : decode cX5_look 84 = .ok (.aload_n 0, 1) := by decide +kernel
theorem dX5_look_85 : decode cX5_look 85 = .ok (.getfield 12, 3) := by decide +kernel
theorem dX5_look_88 : decode cX5_look 88 = .ok (.invokevirtual 201, 3) := by decide +kernel
theorem dX5_look_91 : decode cX5_look 91 = .ok (.ireturn, 1) := by decide +kernel
theorem dX5_look_92 : decode cX5_look 92 = .ok (.aload_n 0, 1) := by decide +kernel
theorem dX5_look_93 : decode cX5_look 93 = .ok (.getfield 12, 3) := by decide +kernel
theorem dX5_look_96 : decode cX5_look 96 = .ok (.invokevirtual 235, 3) := by decide +kernel
theorem dX5_look_99 : decode cX5_look 99 = .ok (.ireturn, 1) := by decide +kernel
theorem dX5_look_100 : decode cX5_look 100 = .ok (.iconst (-1), 1) := by decide +kernel
theorem dX5_look_101 : decode cX5_look 101 = .ok (.ireturn, 1) := by decide +kernel
