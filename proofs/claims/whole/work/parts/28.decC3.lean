theorem dX6_canMove_37 : decode cX6_canMove 37 = .ok (.iaload, 1) := by decide +kernel
theorem dX6_canMove_38 : decode cX6_canMove 38 = .ok (.ifCond .le 7, 3) := by decide +kernel
theorem dX6_canMove_41 : decode cX6_canMove 41 = .ok (.iconst 1, 1) := by decide +kernel
theorem dX6_canMove_42 : decode cX6_canMove 42 = .ok (.goto 4, 3) := by decide +kernel
theorem dX6_canMove_45 : decode cX6_canMove 45 = .ok (.iconst 0, 1) := by decide +kernel
theorem dX6_canMove_46 : decode cX6_canMove 46 = .ok (.ireturn, 1) := by decide +kernel
theorem dX6_chanceOf_0 : decode cX6_chanceOf 0 = .ok (.iload_n 3, 1) := by decide +kernel
theorem dX6_chanceOf_1 : decode cX6_chanceOf 1 = .ok (.iconst 1, 1) := by decide +kernel
theorem dX6_chanceOf_2 : decode cX6_chanceOf 2 = .ok (.if_icmp .ne 17, 3) := by decide +kernel
theorem dX6_chanceOf_5 : decode cX6_chanceOf 5 = .ok (.sipush 1000, 3) := by decide +kernel
theorem dX6_chanceOf_8 : decode cX6_chanceOf 8 = .ok (.aload_n 0, 1) := by decide +kernel
theorem dX6_chanceOf_9 : decode cX6_chanceOf 9 = .ok (.getfield 53, 3) := by decide +kernel
theorem dX6_chanceOf_12 : decode cX6_chanceOf 12 = .ok (.bipush 7, 2) := by decide +kernel
theorem dX6_chanceOf_14 : decode cX6_chanceOf 14 = .ok (.iaload, 1) := by decide +kernel
theorem dX6_chanceOf_15 : decode cX6_chanceOf 15 = .ok (.isub, 1) := by decide +kernel
theorem dX6_chanceOf_16 : decode cX6_chanceOf 16 = .ok (.goto 30, 3) := by decide +kernel
theorem dX6_chanceOf_19 : decode cX6_chanceOf 19 = .ok (.aload_n 0, 1) := by decide +kernel
theorem dX6_chanceOf_20 : decode cX6_chanceOf 20 = .ok (.getfield 23, 3) := by decide +kernel
theorem dX6_chanceOf_23 : decode cX6_chanceOf 23 = .ok (.iload_n 2, 1) := by decide +kernel
theorem dX6_chanceOf_24 : decode cX6_chanceOf 24 = .ok (.iaload, 1) := by decide +kernel
theorem dX6_chanceOf_25 : decode cX6_chanceOf 25 = .ok (.iconst 1, 1) := by decide +kernel
theorem dX6_chanceOf_26 : decode cX6_chanceOf 26 = .ok (.if_icmp .ne 17, 3) := by decide +kernel
theorem dX6_chanceOf_29 : decode cX6_chanceOf 29 = .ok (.sipush 1000, 3) := by decide +kernel
theorem dX6_chanceOf_32 : decode cX6_chanceOf 32 = .ok (.aload_n 0, 1) := by decide +kernel
theorem dX6_chanceOf_33 : decode cX6_chanceOf 33 = .ok (.getfield 53, 3) := by decide +kernel
theorem dX6_chanceOf_36 : decode cX6_chanceOf 36 = .ok (.bipush 8, 2) := by decide +kernel
theorem dX6_chanceOf_38 : decode cX6_chanceOf 38 = .ok (.iaload, 1) := by decide +kernel
theorem dX6_chanceOf_39 : decode cX6_chanceOf 39 = .ok (.isub, 1) := by decide +kernel
theorem dX6_chanceOf_40 : decode cX6_chanceOf 40 = .ok (.goto 6, 3) := by decide +kernel
theorem dX6_chanceOf_43 : decode cX6_chanceOf 43 = .ok (.sipush 1000, 3) := by decide +kernel
theorem dX6_chanceOf_46 : decode cX6_chanceOf 46 = .ok (.istore 4, 2) := by decide +kernel
theorem dX6_chanceOf_48 : decode cX6_chanceOf 48 = .ok (.iload 4, 2) := by decide +kernel
theorem dX6_chanceOf_50 : decode cX6_chanceOf 50 = .ok (.aload_n 0, 1) := by decide +kernel
theorem dX6_chanceOf_51 : decode cX6_chanceOf 51 = .ok (.getfield 41, 3) := by decide +kernel
theorem dX6_chanceOf_54 : decode cX6_chanceOf 54 = .ok (.iload_n 1, 1) := by decide +kernel
theorem dX6_chanceOf_55 : decode cX6_chanceOf 55 = .ok (.iaload, 1) := by decide +kernel
theorem dX6_chanceOf_56 : decode cX6_chanceOf 56 = .ok (.iconst 1, 1) := by decide +kernel
theorem dX6_chanceOf_57 : decode cX6_chanceOf 57 = .ok (.iadd, 1) := by decide +kernel
theorem dX6_chanceOf_58 : decode cX6_chanceOf 58 = .ok (.idiv, 1) := by decide +kernel
theorem dX6_chanceOf_59 : decode cX6_chanceOf 59 = .ok (.ireturn, 1) := by decide +kernel
set_option maxRecDepth 20000 in
theorem ggX6_lossBy_X6_less : GoodIn wsX6_lossBy wsX6_less := goodIn_r _ [8] (by decide +kernel) (by decide +kernel)
set_option maxRecDepth 20000 in
theorem gX6_lossBy_X6_less : GoodIn wsX6_lossBy (wsV RX6 137 RX6 yX6_less wsX6_less) := goodIn_app (goodIn_of _ (by decide +kernel)) ggX6_lossBy_X6_less
set_option maxRecDepth 20000 in
theorem ggX6_lossBy_X6_canMove : GoodIn wsX6_lossBy wsX6_canMove := goodIn_r _ [12, 13, 1, 2, 14, 15, 16, 7, 17, 18, 29, 30, 31, 32, 33, 34, 35, 36, 37, 38, 39, 40, 41, 42, 43, 44, 45, 46, 47, 48, 49, 50, 51, 52, 53, 54, 55, 56, 57, 58, 59, 60, 61, 62, 63, 64, 65, 66, 67, 68, 69, 70, 71, 72, 73, 74, 75, 76, 77, 78, 79, 80, 81, 82, 83] (by decide +kernel) (by decide +kernel)
set_option maxRecDepth 20000 in
theorem gX6_lossBy_X6_canMove : GoodIn wsX6_lossBy (wsV RX6 277 RX6 yX6_canMove wsX6_canMove) := goodIn_app (goodIn_of _ (by decide +kernel)) ggX6_lossBy_X6_canMove
set_option maxRecDepth 20000 in
theorem ggX6_lossBy_X6_chanceOf : GoodIn wsX6_lossBy wsX6_chanceOf := goodIn_r _ [22, 1, 23, 24, 29, 30, 31, 32, 33, 34, 35, 36, 37, 38, 39, 40, 41, 42, 43, 44, 45, 46, 47, 48, 49, 50, 51, 52, 53, 54, 55, 56, 57, 58, 59, 60, 61, 62, 63, 64, 65, 66, 67, 68, 69, 70, 71, 72, 73, 74, 75, 76, 77, 78, 79, 80, 81, 82, 83] (by decide +kernel) (by decide +kernel)
set_option maxRecDepth 20000 in
theorem gX6_lossBy_X6_chanceOf : GoodIn wsX6_lossBy (wsV RX6 280 RX6 yX6_chanceOf wsX6_chanceOf) := goodIn_app (goodIn_of _ (by decide +kernel)) ggX6_lossBy_X6_chanceOf
set_option maxRecDepth 20000 in
theorem ggX6_lossBy_X6_worthOf : GoodIn wsX6_lossBy wsX6_worthOf := goodIn_r _ [28, 1, 4, 5, 6, 7, 8, 29, 30, 31, 32, 33, 34, 35, 36, 37, 38, 39, 40, 41, 42, 43, 44, 45, 46, 47, 48, 49, 50, 51, 52, 53, 54, 55, 56, 57, 58, 59, 60, 61, 62, 63, 64, 65, 66, 67, 68, 69, 70, 71, 72, 73, 74, 75, 76, 77, 78, 79, 80, 81, 82, 83] (by decide +kernel) (by decide +kernel)
set_option maxRecDepth 20000 in
theorem gX6_lossBy_X6_worthOf : GoodIn wsX6_lossBy (wsV RX6 141 RX6 yX6_worthOf wsX6_worthOf) := goodIn_app (goodIn_of _ (by decide +kernel)) ggX6_lossBy_X6_worthOf
theorem dX6_lossBy_0 : decode cX6_lossBy 0 = .ok (.aload_n 0, 1) := by decide +kernel
theorem dX6_lossBy_1 : decode cX6_lossBy 1 = .ok (.aload_n 0, 1) := by decide +kernel
theorem dX6_lossBy_2 : decode cX6_lossBy 2 = .ok (.getfield 53, 3) := by decide +kernel
theorem dX6_lossBy_5 : decode cX6_lossBy 5 = .ok (.bipush 9, 2) := by decide +kernel
theorem dX6_lossBy_7 : decode cX6_lossBy 7 = .ok (.iaload, 1) := by decide +kernel
theorem dX6_lossBy_8 : decode cX6_lossBy 8 = .ok (.aload_n 0, 1) := by decide +kernel
theorem dX6_lossBy_9 : decode cX6_lossBy 9 = .ok (.getfield 13, 3) := by decide +kernel
theorem dX6_lossBy_12 : decode cX6_lossBy 12 = .ok (.iload_n 1, 1) := by decide +kernel
theorem dX6_lossBy_13 : decode cX6_lossBy 13 = .ok (.iaload, 1) := by decide +kernel
theorem dX6_lossBy_14 : decode cX6_lossBy 14 = .ok (.invokevirtual 137, 3) := by decide +kernel
theorem dX6_lossBy_17 : decode cX6_lossBy 17 = .ok (.istore_n 3, 1) := by decide +kernel
theorem dX6_lossBy_18 : decode cX6_lossBy 18 = .ok (.aload_n 0, 1) := by decide +kernel
theorem dX6_lossBy_19 : decode cX6_lossBy 19 = .ok (.iload_n 2, 1) := by decide +kernel
theorem dX6_lossBy_20 : decode cX6_lossBy 20 = .ok (.invokevirtual 277, 3) := by decide +kernel
theorem dX6_lossBy_23 : decode cX6_lossBy 23 = .ok (.ifCond .eq 42, 3) := by decide +kernel
theorem dX6_lossBy_26 : decode cX6_lossBy 26 = .ok (.aload_n 0, 1) := by decide +kernel
theorem dX6_lossBy_27 : decode cX6_lossBy 27 = .ok (.iload_n 2, 1) := by decide +kernel
theorem dX6_lossBy_28 : decode cX6_lossBy 28 = .ok (.iload_n 1, 1) := by decide +kernel
theorem dX6_lossBy_29 : decode cX6_lossBy 29 = .ok (.aload_n 0, 1) := by decide +kernel
theorem dX6_lossBy_30 : decode cX6_lossBy 30 = .ok (.getfield 99, 3) := by decide +kernel
theorem dX6_lossBy_33 : decode cX6_lossBy 33 = .ok (.iload_n 1, 1) := by decide +kernel
theorem dX6_lossBy_34 : decode cX6_lossBy 34 = .ok (.iaload, 1) := by decide +kernel
theorem dX6_lossBy_35 : decode cX6_lossBy 35 = .ok (.invokevirtual 280, 3) := by decide +kernel
theorem dX6_lossBy_38 : decode cX6_lossBy 38 = .ok (.aload_n 0, 1) := by decide +kernel
theorem dX6_lossBy_39 : decode cX6_lossBy 39 = .ok (.aload_n 0, 1) := by decide +kernel
theorem dX6_lossBy_40 : decode cX6_lossBy 40 = .ok (.getfield 13, 3) := by decide +kernel
theorem dX6_lossBy_43 : decode cX6_lossBy 43 = .ok (.iload_n 1, 1) := by decide +kernel
theorem dX6_lossBy_44 : decode cX6_lossBy 44 = .ok (.iaload, 1) := by decide +kernel
theorem dX6_lossBy_45 : decode cX6_lossBy 45 = .ok (.invokevirtual 141, 3) := by decide +kernel
theorem dX6_lossBy_48 : decode cX6_lossBy 48 = .ok (.aload_n 0, 1) := by decide +kernel
theorem dX6_lossBy_49 : decode cX6_lossBy 49 = .ok (.aload_n 0, 1) := by decide +kernel
theorem dX6_lossBy_50 : decode cX6_lossBy 50 = .ok (.getfield 13, 3) := by decide +kernel
theorem dX6_lossBy_53 : decode cX6_lossBy 53 = .ok (.iload_n 1, 1) := by decide +kernel
theorem dX6_lossBy_54 : decode cX6_lossBy 54 = .ok (.iaload, 1) := by decide +kernel
theorem dX6_lossBy_55 : decode cX6_lossBy 55 = .ok (.iload_n 3, 1) := by decide +kernel
theorem dX6_lossBy_56 : decode cX6_lossBy 56 = .ok (.isub, 1) := by decide +kernel
theorem dX6_lossBy_57 : decode cX6_lossBy 57 = .ok (.invokevirtual 141, 3) := by decide +kernel
theorem dX6_lossBy_60 : decode cX6_lossBy 60 = .ok (.isub, 1) := by decide +kernel
theorem dX6_lossBy_61 : decode cX6_lossBy 61 = .ok (.imul, 1) := by decide +kernel
theorem dX6_lossBy_62 : decode cX6_lossBy 62 = .ok (.goto 4, 3) := by decide +kernel
theorem dX6_lossBy_65 : decode cX6_lossBy 65 = .ok (.iconst 0, 1) := by decide +kernel
theorem dX6_lossBy_66 : decode cX6_lossBy 66 = .ok (.ireturn, 1) := by decide +kernel
set_option maxRecDepth 20000 in
theorem ggX6_valueOf_X6_leftOf : GoodIn wsX6_valueOf wsX6_leftOf := goodIn_r _ [9, 10, 37, 38, 39, 40, 41, 42, 43, 44, 45, 46, 47, 48, 49, 50, 51, 52, 53, 54, 55, 56, 57, 58, 59, 60, 61, 62, 63, 64, 65, 66, 67, 68, 69, 70, 71, 72, 73, 74, 75, 76, 77, 78, 79, 80, 81, 82, 83, 84, 85, 86, 87, 88, 89, 90, 91] (by decide +kernel) (by decide +kernel)
set_option maxRecDepth 20000 in
theorem gX6_valueOf_X6_leftOf : GoodIn wsX6_valueOf (wsV RX6 245 RX6 yX6_leftOf wsX6_leftOf) := goodIn_app (goodIn_of _ (by decide +kernel)) ggX6_valueOf_X6_leftOf
set_option maxRecDepth 20000 in
theorem ggX6_valueOf_X6_rightOf : GoodIn wsX6_valueOf wsX6_rightOf := goodIn_r _ [14, 10, 37, 38, 39, 40, 41, 42, 43, 44, 45, 46, 47, 48, 49, 50, 51, 52, 53, 54, 55, 56, 57, 58, 59, 60, 61, 62, 63, 64, 65, 66, 67, 68, 69, 70, 71, 72, 73, 74, 75, 76, 77, 78, 79, 80, 81, 82, 83, 84, 85, 86, 87, 88, 89, 90, 91] (by decide +kernel) (by decide +kernel)
set_option maxRecDepth 20000 in
theorem gX6_valueOf_X6_rightOf : GoodIn wsX6_valueOf (wsV RX6 248 RX6 yX6_rightOf wsX6_rightOf) := goodIn_app (goodIn_of _ (by decide +kernel)) ggX6_valueOf_X6_rightOf
set_option maxRecDepth 20000 in
theorem ggX6_valueOf_X6_canMove : GoodIn wsX6_valueOf wsX6_canMove := goodIn_r _ [18, 19, 2, 4, 11, 12, 13, 8, 14, 10, 37, 38, 39, 40, 41, 42, 43, 44, 45, 46, 47, 48, 49, 50, 51, 52, 53, 54, 55, 56, 57, 58, 59, 60, 61, 62, 63, 64, 65, 66, 67, 68, 69, 70, 71, 72, 73, 74, 75, 76, 77, 78, 79, 80, 81, 82, 83, 84, 85, 86, 87, 88, 89, 90, 91] (by decide +kernel) (by decide +kernel)
set_option maxRecDepth 20000 in
theorem gX6_valueOf_X6_canMove : GoodIn wsX6_valueOf (wsV RX6 277 RX6 yX6_canMove wsX6_canMove) := goodIn_app (goodIn_of _ (by decide +kernel)) ggX6_valueOf_X6_canMove
set_option maxRecDepth 20000 in
theorem ggX6_valueOf_X6_chanceOf : GoodIn wsX6_valueOf wsX6_chanceOf := goodIn_r _ [23, 2, 1, 24, 37, 38, 39, 40, 41, 42, 43, 44, 45, 46, 47, 48, 49, 50, 51, 52, 53, 54, 55, 56, 57, 58, 59, 60, 61, 62, 63, 64, 65, 66, 67, 68, 69, 70, 71, 72, 73, 74, 75, 76, 77, 78, 79, 80, 81, 82, 83, 84, 85, 86, 87, 88, 89, 90, 91] (by decide +kernel) (by decide +kernel)
set_option maxRecDepth 20000 in
theorem gX6_valueOf_X6_chanceOf : GoodIn wsX6_valueOf (wsV RX6 280 RX6 yX6_chanceOf wsX6_chanceOf) := goodIn_app (goodIn_of _ (by decide +kernel)) ggX6_valueOf_X6_chanceOf
set_option maxRecDepth 20000 in
theorem ggX6_valueOf_X6_less : GoodIn wsX6_valueOf wsX6_less := goodIn_r _ [28] (by decide +kernel) (by decide +kernel)
set_option maxRecDepth 20000 in
theorem gX6_valueOf_X6_less : GoodIn wsX6_valueOf (wsV RX6 137 RX6 yX6_less wsX6_less) := goodIn_app (goodIn_of _ (by decide +kernel)) ggX6_valueOf_X6_less
set_option maxRecDepth 20000 in
theorem ggX6_valueOf_X6_worthOf : GoodIn wsX6_valueOf wsX6_worthOf := goodIn_r _ [32, 2, 25, 26, 27, 8, 28, 37, 38, 39, 40, 41, 42, 43, 44, 45, 46, 47, 48, 49, 50, 51, 52, 53, 54, 55, 56, 57, 58, 59, 60, 61, 62, 63, 64, 65, 66, 67, 68, 69, 70, 71, 72, 73, 74, 75, 76, 77, 78, 79, 80, 81, 82, 83, 84, 85, 86, 87, 88, 89, 90, 91] (by decide +kernel) (by decide +kernel)
set_option maxRecDepth 20000 in
theorem gX6_valueOf_X6_worthOf : GoodIn wsX6_valueOf (wsV RX6 141 RX6 yX6_worthOf wsX6_worthOf) := goodIn_app (goodIn_of _ (by decide +kernel)) ggX6_valueOf_X6_worthOf
set_option maxRecDepth 20000 in
theorem ggX6_valueOf_X6_lossBy : GoodIn wsX6_valueOf wsX6_lossBy := goodIn_r _ [36, 2, 4, 3, 25, 26, 27, 8, 28, 15, 16, 17, 18, 19, 11, 12, 13, 14, 10, 20, 21, 22, 23, 1, 24, 29, 30, 31, 32, 37, 38, 39, 40, 41, 42, 43, 44, 45, 46, 47, 48, 49, 50, 51, 52, 53, 54, 55, 56, 57, 58, 59, 60, 61, 62, 63, 64, 65, 66, 67, 68, 69, 70, 71, 72, 73, 74, 75, 76, 77, 78, 79, 80, 81, 82, 83, 84, 85, 86, 87, 88, 89, 90, 91] (by decide +kernel) (by decide +kernel)
set_option maxRecDepth 20000 in
theorem gX6_valueOf_X6_lossBy : GoodIn wsX6_valueOf (wsV RX6 283 RX6 yX6_lossBy wsX6_lossBy) := goodIn_app (goodIn_of _ (by decide +kernel)) ggX6_valueOf_X6_lossBy
theorem dX6_valueOf_0 : decode cX6_valueOf 0 = .ok (.aload_n 0, 1) := by decide +kernel
theorem dX6_valueOf_1 : decode cX6_valueOf 1 = .ok (.getfield 23, 3) := by decide +kernel
theorem dX6_valueOf_4 : decode cX6_valueOf 4 = .ok (.iload_n 1, 1) := by decide +kernel
theorem dX6_valueOf_5 : decode cX6_valueOf 5 = .ok (.iaload, 1) := by decide +kernel
theorem dX6_valueOf_6 : decode cX6_valueOf 6 = .ok (.iconst 1, 1) := by decide +kernel
theorem dX6_valueOf_7 : decode cX6_valueOf 7 = .ok (.if_icmp .ne 16, 3) := by decide +kernel
theorem dX6_valueOf_10 : decode cX6_valueOf 10 = .ok (.sipush (-1000), 3) := by decide +kernel
theorem dX6_valueOf_13 : decode cX6_valueOf 13 = .ok (.aload_n 0, 1) := by decide +kernel
theorem dX6_valueOf_14 : decode cX6_valueOf 14 = .ok (.getfield 53, 3) := by decide +kernel
theorem dX6_valueOf_17 : decode cX6_valueOf 17 = .ok (.iconst 5, 1) := by decide +kernel
theorem dX6_valueOf_18 : decode cX6_valueOf 18 = .ok (.iaload, 1) := by decide +kernel
theorem dX6_valueOf_19 : decode cX6_valueOf 19 = .ok (.imul, 1) := by decide +kernel
theorem dX6_valueOf_20 : decode cX6_valueOf 20 = .ok (.goto 4, 3) := by decide +kernel
theorem dX6_valueOf_23 : decode cX6_valueOf 23 = .ok (.iconst 0, 1) := by decide +kernel
theorem dX6_valueOf_24 : decode cX6_valueOf 24 = .ok (.istore_n 2, 1) := by decide +kernel
theorem dX6_valueOf_25 : decode cX6_valueOf 25 = .ok (.aload_n 0, 1) := by decide +kernel
theorem dX6_valueOf_26 : decode cX6_valueOf 26 = .ok (.getfield 99, 3) := by decide +kernel
theorem dX6_valueOf_29 : decode cX6_valueOf 29 = .ok (.iload_n 1, 1) := by decide +kernel
theorem dX6_valueOf_30 : decode cX6_valueOf 30 = .ok (.iaload, 1) := by decide +kernel
theorem dX6_valueOf_31 : decode cX6_valueOf 31 = .ok (.iconst 1, 1) := by decide +kernel
theorem dX6_valueOf_32 : decode cX6_valueOf 32 = .ok (.if_icmp .ne 16, 3) := by decide +kernel
theorem dX6_valueOf_35 : decode cX6_valueOf 35 = .ok (.iload_n 2, 1) := by decide +kernel
theorem dX6_valueOf_36 : decode cX6_valueOf 36 = .ok (.sipush 1000, 3) := by decide +kernel
theorem dX6_valueOf_39 : decode cX6_valueOf 39 = .ok (.aload_n 0, 1) := by decide +kernel
theorem dX6_valueOf_40 : decode cX6_valueOf 40 = .ok (.getfield 53, 3) := by decide +kernel
theorem dX6_valueOf_43 : decode cX6_valueOf 43 = .ok (.iconst 4, 1) := by decide +kernel
theorem dX6_valueOf_44 : decode cX6_valueOf 44 = .ok (.iaload, 1) := by decide +kernel
theorem dX6_valueOf_45 : decode cX6_valueOf 45 = .ok (.imul, 1) := by decide +kernel
theorem dX6_valueOf_46 : decode cX6_valueOf 46 = .ok (.isub, 1) := by decide +kernel
theorem dX6_valueOf_47 : decode cX6_valueOf 47 = .ok (.istore_n 2, 1) := by decide +kernel
theorem dX6_valueOf_48 : decode cX6_valueOf 48 = .ok (.aload_n 0, 1) := by decide +kernel
theorem dX6_valueOf_49 : decode cX6_valueOf 49 = .ok (.getfield 99, 3) := by decide +kernel
theorem dX6_valueOf_52 : decode cX6_valueOf 52 = .ok (.iload_n 1, 1) := by decide +kernel
theorem dX6_valueOf_53 : decode cX6_valueOf 53 = .ok (.iaload, 1) := by decide +kernel
theorem dX6_valueOf_54 : decode cX6_valueOf 54 = .ok (.iconst 1, 1) := by decide +kernel
theorem dX6_valueOf_55 : decode cX6_valueOf 55 = .ok (.if_icmp .le 16, 3) := by decide +kernel
theorem dX6_valueOf_58 : decode cX6_valueOf 58 = .ok (.iload_n 2, 1) := by decide +kernel
theorem dX6_valueOf_59 : decode cX6_valueOf 59 = .ok (.sipush 1000, 3) := by decide +kernel
theorem dX6_valueOf_62 : decode cX6_valueOf 62 = .ok (.aload_n 0, 1) := by decide +kernel
theorem dX6_valueOf_63 : decode cX6_valueOf 63 = .ok (.getfield 53, 3) := by decide +kernel
theorem dX6_valueOf_66 : decode cX6_valueOf 66 = .ok (.iconst 3, 1) := by decide +kernel
theorem dX6_valueOf_67 : decode cX6_valueOf 67 = .ok (.iaload, 1) := by decide +kernel
theorem dX6_valueOf_68 : decode cX6_valueOf 68 = .ok (.imul, 1) := by decide +kernel
theorem dX6_valueOf_69 : decode cX6_valueOf 69 = .ok (.isub, 1) := by decide +kernel
theorem dX6_valueOf_70 : decode cX6_valueOf 70 = .ok (.istore_n 2, 1) := by decide +kernel
theorem dX6_valueOf_71 : decode cX6_valueOf 71 = .ok (.aload_n 0, 1) := by decide +kernel
theorem dX6_valueOf_72 : decode cX6_valueOf 72 = .ok (.iload_n 1, 1) := by decide +kernel
theorem dX6_valueOf_73 : decode cX6_valueOf 73 = .ok (.invokevirtual 245, 3) := by decide +kernel
theorem dX6_valueOf_76 : decode cX6_valueOf 76 = .ok (.istore_n 3, 1) := by decide +kernel
theorem dX6_valueOf_77 : decode cX6_valueOf 77 = .ok (.aload_n 0, 1) := by decide +kernel
theorem dX6_valueOf_78 : decode cX6_valueOf 78 = .ok (.iload_n 1, 1) := by decide +kernel
theorem dX6_valueOf_79 : decode cX6_valueOf 79 = .ok (.invokevirtual 248, 3) := by decide +kernel
theorem dX6_valueOf_82 : decode cX6_valueOf 82 = .ok (.istore 4, 2) := by decide +kernel
theorem dX6_valueOf_84 : decode cX6_valueOf 84 = .ok (.aload_n 0, 1) := by decide +kernel
theorem dX6_valueOf_85 : decode cX6_valueOf 85 = .ok (.getfield 99, 3) := by decide +kernel
theorem dX6_valueOf_88 : decode cX6_valueOf 88 = .ok (.iload_n 1, 1) := by decide +kernel
theorem dX6_valueOf_89 : decode cX6_valueOf 89 = .ok (.iaload, 1) := by decide +kernel
theorem dX6_valueOf_90 : decode cX6_valueOf 90 = .ok (.iconst 1, 1) := by decide +kernel
theorem dX6_valueOf_91 : decode cX6_valueOf 91 = .ok (.if_icmp .le 129, 3) := by decide +kernel
theorem dX6_valueOf_94 : decode cX6_valueOf 94 = .ok (.aload_n 0, 1) := by decide +kernel
theorem dX6_valueOf_95 : decode cX6_valueOf 95 = .ok (.getfield 99, 3) := by decide +kernel
theorem dX6_valueOf_98 : decode cX6_valueOf 98 = .ok (.iload_n 1, 1) := by decide +kernel
theorem dX6_valueOf_99 : decode cX6_valueOf 99 = .ok (.iaload, 1) := by decide +kernel
theorem dX6_valueOf_100 : decode cX6_valueOf 100 = .ok (.iconst 2, 1) := by decide +kernel
theorem dX6_valueOf_101 : decode cX6_valueOf 101 = .ok (.if_icmp .ne 7, 3) := by decide +kernel
theorem dX6_valueOf_104 : decode cX6_valueOf 104 = .ok (.iload_n 3, 1) := by decide +kernel
theorem dX6_valueOf_105 : decode cX6_valueOf 105 = .ok (.goto 4, 3) := by decide +kernel
theorem dX6_valueOf_108 : decode cX6_valueOf 108 = .ok (.iload_n 1, 1) := by decide +kernel
theorem dX6_valueOf_109 : decode cX6_valueOf 109 = .ok (.istore 5, 2) := by decide +kernel
theorem dX6_valueOf_111 : decode cX6_valueOf 111 = .ok (.aload_n 0, 1) := by decide +kernel
theorem dX6_valueOf_112 : decode cX6_valueOf 112 = .ok (.getfield 99, 3) := by decide +kernel
theorem dX6_valueOf_115 : decode cX6_valueOf 115 = .ok (.iload_n 1, 1) := by decide +kernel
theorem dX6_valueOf_116 : decode cX6_valueOf 116 = .ok (.iaload, 1) := by decide +kernel
theorem dX6_valueOf_117 : decode cX6_valueOf 117 = .ok (.iconst 2, 1) := by decide +kernel
theorem dX6_valueOf_118 : decode cX6_valueOf 118 = .ok (.if_icmp .ne 7, 3) := by decide +kernel
theorem dX6_valueOf_121 : decode cX6_valueOf 121 = .ok (.iload_n 3, 1) := by decide +kernel
theorem dX6_valueOf_122 : decode cX6_valueOf 122 = .ok (.goto 5, 3) := by decide +kernel
theorem dX6_valueOf_125 : decode cX6_valueOf 125 = .ok (.iload 4, 2) := by decide +kernel
theorem dX6_valueOf_127 : decode cX6_valueOf 127 = .ok (.istore 6, 2) := by decide +kernel
theorem dX6_valueOf_129 : decode cX6_valueOf 129 = .ok (.aload_n 0, 1) := by decide +kernel
theorem dX6_valueOf_130 : decode cX6_valueOf 130 = .ok (.iload 5, 2) := by decide +kernel
theorem dX6_valueOf_132 : decode cX6_valueOf 132 = .ok (.invokevirtual 277, 3) := by decide +kernel
theorem dX6_valueOf_135 : decode cX6_valueOf 135 = .ok (.ifCond .eq 85, 3) := by decide +kernel
theorem dX6_valueOf_138 : decode cX6_valueOf 138 = .ok (.aload_n 0, 1) := by decide +kernel
theorem dX6_valueOf_139 : decode cX6_valueOf 139 = .ok (.iload 5, 2) := by decide +kernel
theorem dX6_valueOf_141 : decode cX6_valueOf 141 = .ok (.iload 6, 2) := by decide +kernel
theorem dX6_valueOf_143 : decode cX6_valueOf 143 = .ok (.aload_n 0, 1) := by decide +kernel
theorem dX6_valueOf_144 : decode cX6_valueOf 144 = .ok (.getfield 99, 3) := by decide +kernel
theorem dX6_valueOf_147 : decode cX6_valueOf 147 = .ok (.iload 6, 2) := by decide +kernel
theorem dX6_valueOf_149 : decode cX6_valueOf 149 = .ok (.iaload, 1) := by decide +kernel
theorem dX6_valueOf_150 : decode cX6_valueOf 150 = .ok (.invokevirtual 280, 3) := by decide +kernel
theorem dX6_valueOf_153 : decode cX6_valueOf 153 = .ok (.istore 7, 2) := by decide +kernel
theorem dX6_valueOf_155 : decode cX6_valueOf 155 = .ok (.aload_n 0, 1) := by decide +kernel
theorem dX6_valueOf_156 : decode cX6_valueOf 156 = .ok (.aload_n 0, 1) := by decide +kernel
theorem dX6_valueOf_157 : decode cX6_valueOf 157 = .ok (.getfield 53, 3) := by decide +kernel
theorem dX6_valueOf_160 : decode cX6_valueOf 160 = .ok (.bipush 9, 2) := by decide +kernel
theorem dX6_valueOf_162 : decode cX6_valueOf 162 = .ok (.iaload, 1) := by decide +kernel
theorem dX6_valueOf_163 : decode cX6_valueOf 163 = .ok (.aload_n 0, 1) := by decide +kernel
theorem dX6_valueOf_164 : decode cX6_valueOf 164 = .ok (.getfield 13, 3) := by decide +kernel
theorem dX6_valueOf_167 : decode cX6_valueOf 167 = .ok (.iload 6, 2) := by decide +kernel
theorem dX6_valueOf_169 : decode cX6_valueOf 169 = .ok (.iaload, 1) := by decide +kernel
theorem dX6_valueOf_170 : decode cX6_valueOf 170 = .ok (.invokevirtual 137, 3) := by decide +kernel
theorem dX6_valueOf_173 : decode cX6_valueOf 173 = .ok (.istore 8, 2) := by decide +kernel
theorem dX6_valueOf_175 : decode cX6_valueOf 175 = .ok (.iload_n 2, 1) := by decide +kernel
theorem dX6_valueOf_176 : decode cX6_valueOf 176 = .ok (.iload 7, 2) := by decide +kernel
theorem dX6_valueOf_178 : decode cX6_valueOf 178 = .ok (.aload_n 0, 1) := by decide +kernel
theorem dX6_valueOf_179 : decode cX6_valueOf 179 = .ok (.aload_n 0, 1) := by decide +kernel
theorem dX6_valueOf_180 : decode cX6_valueOf 180 = .ok (.getfield 13, 3) := by decide +kernel
theorem dX6_valueOf_183 : decode cX6_valueOf 183 = .ok (.iload_n 1, 1) := by decide +kernel
theorem dX6_valueOf_184 : decode cX6_valueOf 184 = .ok (.iaload, 1) := by decide +kernel
theorem dX6_valueOf_185 : decode cX6_valueOf 185 = .ok (.iload 8, 2) := by decide +kernel
theorem dX6_valueOf_187 : decode cX6_valueOf 187 = .ok (.iadd, 1) := by decide +kernel
theorem dX6_valueOf_188 : decode cX6_valueOf 188 = .ok (.invokevirtual 141, 3) := by decide +kernel
theorem dX6_valueOf_191 : decode cX6_valueOf 191 = .ok (.aload_n 0, 1) := by decide +kernel
theorem dX6_valueOf_192 : decode cX6_valueOf 192 = .ok (.aload_n 0, 1) := by decide +kernel
theorem dX6_valueOf_193 : decode cX6_valueOf 193 = .ok (.getfield 13, 3) := by decide +kernel
theorem dX6_valueOf_196 : decode cX6_valueOf 196 = .ok (.iload_n 1, 1) := by decide +kernel
theorem dX6_valueOf_197 : decode cX6_valueOf 197 = .ok (.iaload, 1) := by decide +kernel
theorem dX6_valueOf_198 : decode cX6_valueOf 198 = .ok (.invokevirtual 141, 3) := by decide +kernel
theorem dX6_valueOf_201 : decode cX6_valueOf 201 = .ok (.isub, 1) := by decide +kernel
theorem dX6_valueOf_202 : decode cX6_valueOf 202 = .ok (.imul, 1) := by decide +kernel
theorem dX6_valueOf_203 : decode cX6_valueOf 203 = .ok (.iadd, 1) := by decide +kernel
theorem dX6_valueOf_204 : decode cX6_valueOf 204 = .ok (.sipush 1000, 3) := by decide +kernel
theorem dX6_valueOf_207 : decode cX6_valueOf 207 = .ok (.iload 7, 2) := by decide +kernel
theorem dX6_valueOf_209 : decode cX6_valueOf 209 = .ok (.isub, 1) := by decide +kernel
theorem dX6_valueOf_210 : decode cX6_valueOf 210 = .ok (.aload_n 0, 1) := by decide +kernel
theorem dX6_valueOf_211 : decode cX6_valueOf 211 = .ok (.getfield 53, 3) := by decide +kernel
theorem dX6_valueOf_214 : decode cX6_valueOf 214 = .ok (.bipush 6, 2) := by decide +kernel
theorem dX6_valueOf_216 : decode cX6_valueOf 216 = .ok (.iaload, 1) := by decide +kernel
theorem dX6_valueOf_217 : decode cX6_valueOf 217 = .ok (.imul, 1) := by decide +kernel
theorem dX6_valueOf_218 : decode cX6_valueOf 218 = .ok (.isub, 1) := by decide +kernel
theorem dX6_valueOf_219 : decode cX6_valueOf 219 = .ok (.istore_n 2, 1) := by decide +kernel
theorem dX6_valueOf_220 : decode cX6_valueOf 220 = .ok (.aload_n 0, 1) := by decide +kernel
theorem dX6_valueOf_221 : decode cX6_valueOf 221 = .ok (.getfield 99, 3) := by decide +kernel
theorem dX6_valueOf_224 : decode cX6_valueOf 224 = .ok (.iload_n 3, 1) := by decide +kernel
theorem dX6_valueOf_225 : decode cX6_valueOf 225 = .ok (.iaload, 1) := by decide +kernel
theorem dX6_valueOf_226 : decode cX6_valueOf 226 = .ok (.iconst 3, 1) := by decide +kernel
theorem dX6_valueOf_227 : decode cX6_valueOf 227 = .ok (.if_icmp .ne 12, 3) := by decide +kernel
theorem dX6_valueOf_230 : decode cX6_valueOf 230 = .ok (.iload_n 2, 1) := by decide +kernel
theorem dX6_valueOf_231 : decode cX6_valueOf 231 = .ok (.aload_n 0, 1) := by decide +kernel
theorem dX6_valueOf_232 : decode cX6_valueOf 232 = .ok (.iload_n 1, 1) := by decide +kernel
theorem dX6_valueOf_233 : decode cX6_valueOf 233 = .ok (.iload_n 3, 1) := by decide +kernel
theorem dX6_valueOf_234 : decode cX6_valueOf 234 = .ok (.invokevirtual 283, 3) := by decide +kernel
theorem dX6_valueOf_237 : decode cX6_valueOf 237 = .ok (.isub, 1) := by decide +kernel
theorem dX6_valueOf_238 : decode cX6_valueOf 238 = .ok (.istore_n 2, 1) := by decide +kernel
theorem dX6_valueOf_239 : decode cX6_valueOf 239 = .ok (.aload_n 0, 1) := by decide +kernel
theorem dX6_valueOf_240 : decode cX6_valueOf 240 = .ok (.getfield 99, 3) := by decide +kernel
theorem dX6_valueOf_243 : decode cX6_valueOf 243 = .ok (.iload 4, 2) := by decide +kernel
theorem dX6_valueOf_245 : decode cX6_valueOf 245 = .ok (.iaload, 1) := by decide +kernel
theorem dX6_valueOf_246 : decode cX6_valueOf 246 = .ok (.iconst 2, 1) := by decide +kernel
theorem dX6_valueOf_247 : decode cX6_valueOf 247 = .ok (.if_icmp .ne 12, 3) := by decide +kernel
theorem dX6_valueOf_250 : decode cX6_valueOf 250 = .ok (.iload_n 2, 1) := by decide +kernel
theorem dX6_valueOf_251 : decode cX6_valueOf 251 = .ok (.aload_n 0, 1) := by decide +kernel
theorem dX6_valueOf_252 : decode cX6_valueOf 252 = .ok (.iload_n 1, 1) := by decide +kernel
theorem dX6_valueOf_253 : decode cX6_valueOf 253 = .ok (.iload_n 1, 1) := by decide +kernel
theorem dX6_valueOf_254 : decode cX6_valueOf 254 = .ok (.invokevirtual 283, 3) := by decide +kernel
theorem dX6_valueOf_257 : decode cX6_valueOf 257 = .ok (.isub, 1) := by decide +kernel
theorem dX6_valueOf_258 : decode cX6_valueOf 258 = .ok (.istore_n 2, 1) := by decide +kernel
theorem dX6_valueOf_259 : decode cX6_valueOf 259 = .ok (.iload_n 2, 1) := by decide +kernel
theorem dX6_valueOf_260 : decode cX6_valueOf 260 = .ok (.ireturn, 1) := by decide +kernel
theorem dX6_isRow_0 : decode cX6_isRow 0 = .ok (.iload_n 1, 1) := by decide +kernel
theorem dX6_isRow_1 : decode cX6_isRow 1 = .ok (.ifCond .lt 19, 3) := by decide +kernel
theorem dX6_isRow_4 : decode cX6_isRow 4 = .ok (.iload_n 1, 1) := by decide +kernel
theorem dX6_isRow_5 : decode cX6_isRow 5 = .ok (.iconst 1, 1) := by decide +kernel
theorem dX6_isRow_6 : decode cX6_isRow 6 = .ok (.iconst 2, 1) := by decide +kernel
theorem dX6_isRow_7 : decode cX6_isRow 7 = .ok (.aload_n 0, 1) := by decide +kernel
theorem dX6_isRow_8 : decode cX6_isRow 8 = .ok (.getfield 7, 3) := by decide +kernel
theorem dX6_isRow_11 : decode cX6_isRow 11 = .ok (.imul, 1) := by decide +kernel
theorem dX6_isRow_12 : decode cX6_isRow 12 = .ok (.ishl, 1) := by decide +kernel
theorem dX6_isRow_13 : decode cX6_isRow 13 = .ok (.if_icmp .ge 7, 3) := by decide +kernel
theorem dX6_isRow_16 : decode cX6_isRow 16 = .ok (.iconst 1, 1) := by decide +kernel
theorem dX6_isRow_17 : decode cX6_isRow 17 = .ok (.goto 4, 3) := by decide +kernel
theorem dX6_isRow_20 : decode cX6_isRow 20 = .ok (.iconst 0, 1) := by decide +kernel
theorem dX6_isRow_21 : decode cX6_isRow 21 = .ok (.ireturn, 1) := by decide +kernel
set_option maxRecDepth 20000 in
theorem ggX6_value_X6_isRow : GoodIn wsX6_value wsX6_isRow := goodIn_r _ [7, 8, 55, 56, 57, 58, 59, 60, 61, 62, 63, 64, 65, 66, 67, 68, 69, 70, 71, 72, 73, 74, 75, 76, 77, 78, 79, 80, 81, 82, 83, 84, 85, 86, 87, 88, 89, 90, 91, 92, 93, 94, 95, 96, 97, 98, 99, 100, 101, 102, 103, 104, 105, 106, 107, 108, 109] (by decide +kernel) (by decide +kernel)
set_option maxRecDepth 20000 in
theorem gX6_value_X6_isRow : GoodIn wsX6_value (wsV RX6 286 RX6 yX6_isRow wsX6_isRow) := goodIn_app (goodIn_of _ (by decide +kernel)) ggX6_value_X6_isRow
set_option maxRecDepth 20000 in
theorem ggX6_value_X6_isFarm : GoodIn wsX6_value wsX6_isFarm := goodIn_r _ [12, 8, 55, 56, 57, 58, 59, 60, 61, 62, 63, 64, 65, 66, 67, 68, 69, 70, 71, 72, 73, 74, 75, 76, 77, 78, 79, 80, 81, 82, 83, 84, 85, 86, 87, 88, 89, 90, 91, 92, 93, 94, 95, 96, 97, 98, 99, 100, 101, 102, 103, 104, 105, 106, 107, 108, 109] (by decide +kernel) (by decide +kernel)
set_option maxRecDepth 20000 in
theorem gX6_value_X6_isFarm : GoodIn wsX6_value (wsV RX6 133 RX6 yX6_isFarm wsX6_isFarm) := goodIn_app (goodIn_of _ (by decide +kernel)) ggX6_value_X6_isFarm
set_option maxRecDepth 20000 in
theorem ggX6_value_X6_takesRow : GoodIn wsX6_value wsX6_takesRow := goodIn_r _ [16, 8, 17, 55, 56, 57, 58, 59, 60, 61, 62, 63, 64, 65, 66, 67, 68, 69, 70, 71, 72, 73, 74, 75, 76, 77, 78, 79, 80, 81, 82, 83, 84, 85, 86, 87, 88, 89, 90, 91, 92, 93, 94, 95, 96, 97, 98, 99, 100, 101, 102, 103, 104, 105, 106, 107, 108, 109] (by decide +kernel) (by decide +kernel)
set_option maxRecDepth 20000 in
theorem gX6_value_X6_takesRow : GoodIn wsX6_value (wsV RX6 289 RX6 yX6_takesRow wsX6_takesRow) := goodIn_app (goodIn_of _ (by decide +kernel)) ggX6_value_X6_takesRow
set_option maxRecDepth 20000 in
theorem ggX6_value_X6_valueOf : GoodIn wsX6_value wsX6_valueOf := goodIn_r _ [21, 22, 23, 17, 24, 25, 26, 27, 6, 28, 8, 29, 30, 31, 32, 33, 34, 35, 36, 37, 38, 39, 40, 41, 42, 43, 44, 45, 46, 47, 48, 49, 50, 51, 52, 53, 54, 55, 56, 57, 58, 59, 60, 61, 62, 63, 64, 65, 66, 67, 68, 69, 70, 71, 72, 73, 74, 75, 76, 77, 78, 79, 80, 81, 82, 83, 84, 85, 86, 87, 88, 89, 90, 91, 92, 93, 94, 95, 96, 97, 98, 99, 100, 101, 102, 103, 104, 105, 106, 107, 108, 109] (by decide +kernel) (by decide +kernel)
set_option maxRecDepth 20000 in
theorem gX6_value_X6_valueOf : GoodIn wsX6_value (wsV RX6 292 RX6 yX6_valueOf wsX6_valueOf) := goodIn_app (goodIn_of _ (by decide +kernel)) ggX6_value_X6_valueOf
theorem dX6_value_0 : decode cX6_value 0 = .ok (.aload_n 0, 1) := by decide +kernel
theorem dX6_value_1 : decode cX6_value 1 = .ok (.iconst 0, 1) := by decide +kernel
theorem dX6_value_2 : decode cX6_value 2 = .ok (.putfield 121, 3) := by decide +kernel
theorem dX6_value_5 : decode cX6_value 5 = .ok (.aload_n 0, 1) := by decide +kernel
theorem dX6_value_6 : decode cX6_value 6 = .ok (.iload_n 1, 1) := by decide +kernel
theorem dX6_value_7 : decode cX6_value 7 = .ok (.invokevirtual 286, 3) := by decide +kernel
theorem dX6_value_10 : decode cX6_value 10 = .ok (.ifCond .eq 11, 3) := by decide +kernel
theorem dX6_value_13 : decode cX6_value 13 = .ok (.aload_n 0, 1) := by decide +kernel
theorem dX6_value_14 : decode cX6_value 14 = .ok (.iload_n 2, 1) := by decide +kernel
theorem dX6_value_15 : decode cX6_value 15 = .ok (.invokevirtual 133, 3) := by decide +kernel
theorem dX6_value_18 : decode cX6_value 18 = .ok (.ifCond .ne 7, 3) := by decide +kernel
theorem dX6_value_21 : decode cX6_value 21 = .ok (.ldc_w 276, 3) := by decide +kernel
theorem dX6_value_24 : decode cX6_value 24 = .ok (.ireturn, 1) := by decide +kernel
theorem dX6_value_25 : decode cX6_value 25 = .ok (.aload_n 0, 1) := by decide +kernel
theorem dX6_value_26 : decode cX6_value 26 = .ok (.iload_n 1, 1) := by decide +kernel
theorem dX6_value_27 : decode cX6_value 27 = .ok (.invokevirtual 289, 3) := by decide +kernel
theorem dX6_value_30 : decode cX6_value 30 = .ok (.aload_n 0, 1) := by decide +kernel
theorem dX6_value_31 : decode cX6_value 31 = .ok (.iload_n 2, 1) := by decide +kernel
theorem dX6_value_32 : decode cX6_value 32 = .ok (.invokevirtual 292, 3) := by decide +kernel
theorem dX6_value_35 : decode cX6_value 35 = .ok (.ireturn, 1) := by decide +kernel
set_option maxRecDepth 20000 in
theorem ggX6_replyOf_X6_valueOf : GoodIn wsX6_replyOf wsX6_valueOf := goodIn_r _ [6, 7, 8, 1, 9, 10, 11, 12, 5, 13, 14, 15, 16, 17, 18, 19, 20, 21, 22, 23, 24, 25, 26, 27, 28, 29, 30, 31, 32, 33, 34, 35, 36, 37, 38, 39, 40, 41, 42, 43, 44, 45, 46, 47, 48, 49, 50, 51, 52, 53, 54, 55, 56, 57, 58, 59, 60, 61, 62, 63, 64, 65, 66, 67, 68, 69, 70, 71, 72, 73, 74, 75, 76, 77, 78, 79, 80, 81, 82, 83, 84, 85, 86, 87, 88, 89, 90, 91, 92, 93, 94, 95] (by decide +kernel) (by decide +kernel)
set_option maxRecDepth 20000 in
theorem gX6_replyOf_X6_valueOf : GoodIn wsX6_replyOf (wsV RX6 292 RX6 yX6_valueOf wsX6_valueOf) := goodIn_app (goodIn_of _ (by decide +kernel)) ggX6_replyOf_X6_valueOf
theorem dX6_replyOf_0 : decode cX6_replyOf 0 = .ok (.aload_n 0, 1) := by decide +kernel
theorem dX6_replyOf_1 : decode cX6_replyOf 1 = .ok (.getfield 99, 3) := by decide +kernel
theorem dX6_replyOf_4 : decode cX6_replyOf 4 = .ok (.iload_n 1, 1) := by decide +kernel
theorem dX6_replyOf_5 : decode cX6_replyOf 5 = .ok (.iaload, 1) := by decide +kernel
theorem dX6_replyOf_6 : decode cX6_replyOf 6 = .ok (.istore_n 2, 1) := by decide +kernel
theorem dX6_replyOf_7 : decode cX6_replyOf 7 = .ok (.iconst 0, 1) := by decide +kernel
theorem dX6_replyOf_8 : decode cX6_replyOf 8 = .ok (.istore_n 3, 1) := by decide +kernel
theorem dX6_replyOf_9 : decode cX6_replyOf 9 = .ok (.iconst 0, 1) := by decide +kernel
theorem dX6_replyOf_10 : decode cX6_replyOf 10 = .ok (.istore 4, 2) := by decide +kernel
theorem dX6_replyOf_12 : decode cX6_replyOf 12 = .ok (.iconst 0, 1) := by decide +kernel
theorem dX6_replyOf_13 : decode cX6_replyOf 13 = .ok (.istore 5, 2) := by decide +kernel
theorem dX6_replyOf_15 : decode cX6_replyOf 15 = .ok (.iload 5, 2) := by decide +kernel
theorem dX6_replyOf_17 : decode cX6_replyOf 17 = .ok (.iconst 4, 1) := by decide +kernel
theorem dX6_replyOf_18 : decode cX6_replyOf 18 = .ok (.if_icmp .ge 46, 3) := by decide +kernel
theorem dX6_replyOf_21 : decode cX6_replyOf 21 = .ok (.aload_n 0, 1) := by decide +kernel
theorem dX6_replyOf_22 : decode cX6_replyOf 22 = .ok (.getfield 99, 3) := by decide +kernel
theorem dX6_replyOf_25 : decode cX6_replyOf 25 = .ok (.iload_n 1, 1) := by decide +kernel
theorem dX6_replyOf_26 : decode cX6_replyOf 26 = .ok (.iload 5, 2) := by decide +kernel
theorem dX6_replyOf_28 : decode cX6_replyOf 28 = .ok (.iastore, 1) := by decide +kernel
theorem dX6_replyOf_29 : decode cX6_replyOf 29 = .ok (.aload_n 0, 1) := by decide +kernel
theorem dX6_replyOf_30 : decode cX6_replyOf 30 = .ok (.iload_n 1, 1) := by decide +kernel
theorem dX6_replyOf_31 : decode cX6_replyOf 31 = .ok (.invokevirtual 292, 3) := by decide +kernel
theorem dX6_replyOf_34 : decode cX6_replyOf 34 = .ok (.istore 6, 2) := by decide +kernel
theorem dX6_replyOf_36 : decode cX6_replyOf 36 = .ok (.iload 5, 2) := by decide +kernel
theorem dX6_replyOf_38 : decode cX6_replyOf 38 = .ok (.ifCond .le 13, 3) := by decide +kernel
theorem dX6_replyOf_41 : decode cX6_replyOf 41 = .ok (.iload 6, 2) := by decide +kernel
theorem dX6_replyOf_43 : decode cX6_replyOf 43 = .ok (.iload 4, 2) := by decide +kernel
theorem dX6_replyOf_45 : decode cX6_replyOf 45 = .ok (.if_icmp .gt 6, 3) := by decide +kernel
theorem dX6_replyOf_48 : decode cX6_replyOf 48 = .ok (.goto 10, 3) := by decide +kernel
theorem dX6_replyOf_51 : decode cX6_replyOf 51 = .ok (.iload 5, 2) := by decide +kernel
theorem dX6_replyOf_53 : decode cX6_replyOf 53 = .ok (.istore_n 3, 1) := by decide +kernel
theorem dX6_replyOf_54 : decode cX6_replyOf 54 = .ok (.iload 6, 2) := by decide +kernel
theorem dX6_replyOf_56 : decode cX6_replyOf 56 = .ok (.istore 4, 2) := by decide +kernel
theorem dX6_replyOf_58 : decode cX6_replyOf 58 = .ok (.iinc 5 1, 3) := by decide +kernel
theorem dX6_replyOf_61 : decode cX6_replyOf 61 = .ok (.goto (-46), 3) := by decide +kernel
theorem dX6_replyOf_64 : decode cX6_replyOf 64 = .ok (.aload_n 0, 1) := by decide +kernel
theorem dX6_replyOf_65 : decode cX6_replyOf 65 = .ok (.getfield 99, 3) := by decide +kernel
theorem dX6_replyOf_68 : decode cX6_replyOf 68 = .ok (.iload_n 1, 1) := by decide +kernel
theorem dX6_replyOf_69 : decode cX6_replyOf 69 = .ok (.iload_n 2, 1) := by decide +kernel
theorem dX6_replyOf_70 : decode cX6_replyOf 70 = .ok (.iastore, 1) := by decide +kernel
theorem dX6_replyOf_71 : decode cX6_replyOf 71 = .ok (.iload_n 3, 1) := by decide +kernel
theorem dX6_replyOf_72 : decode cX6_replyOf 72 = .ok (.ireturn, 1) := by decide +kernel
set_option maxRecDepth 20000 in
theorem ggX6_reply_X6_isRow : GoodIn wsX6_reply wsX6_isRow := goodIn_r _ [6, 7, 58, 59, 60, 61, 62, 63, 64, 65, 66, 67, 68, 69, 70, 71, 72, 73, 74, 75, 76, 77, 78, 79, 80, 81, 82, 83, 84, 85, 86, 87, 88, 89, 90, 91, 92, 93, 94, 95, 96, 97, 98, 99, 100, 101, 102, 103, 104, 105, 106, 107, 108, 109, 110, 111, 112] (by decide +kernel) (by decide +kernel)
set_option maxRecDepth 20000 in
theorem gX6_reply_X6_isRow : GoodIn wsX6_reply (wsV RX6 286 RX6 yX6_isRow wsX6_isRow) := goodIn_app (goodIn_of _ (by decide +kernel)) ggX6_reply_X6_isRow
set_option maxRecDepth 20000 in
theorem ggX6_reply_X6_isFarm : GoodIn wsX6_reply wsX6_isFarm := goodIn_r _ [11, 7, 58, 59, 60, 61, 62, 63, 64, 65, 66, 67, 68, 69, 70, 71, 72, 73, 74, 75, 76, 77, 78, 79, 80, 81, 82, 83, 84, 85, 86, 87, 88, 89, 90, 91, 92, 93, 94, 95, 96, 97, 98, 99, 100, 101, 102, 103, 104, 105, 106, 107, 108, 109, 110, 111, 112] (by decide +kernel) (by decide +kernel)
set_option maxRecDepth 20000 in
theorem gX6_reply_X6_isFarm : GoodIn wsX6_reply (wsV RX6 133 RX6 yX6_isFarm wsX6_isFarm) := goodIn_app (goodIn_of _ (by decide +kernel)) ggX6_reply_X6_isFarm
set_option maxRecDepth 20000 in
theorem ggX6_reply_X6_takesRow : GoodIn wsX6_reply wsX6_takesRow := goodIn_r _ [15, 7, 16, 58, 59, 60, 61, 62, 63, 64, 65, 66, 67, 68, 69, 70, 71, 72, 73, 74, 75, 76, 77, 78, 79, 80, 81, 82, 83, 84, 85, 86, 87, 88, 89, 90, 91, 92, 93, 94, 95, 96, 97, 98, 99, 100, 101, 102, 103, 104, 105, 106, 107, 108, 109, 110, 111, 112] (by decide +kernel) (by decide +kernel)
set_option maxRecDepth 20000 in
theorem gX6_reply_X6_takesRow : GoodIn wsX6_reply (wsV RX6 289 RX6 yX6_takesRow wsX6_takesRow) := goodIn_app (goodIn_of _ (by decide +kernel)) ggX6_reply_X6_takesRow
set_option maxRecDepth 20000 in
theorem ggX6_reply_X6_replyOf : GoodIn wsX6_reply wsX6_replyOf := goodIn_r _ [20, 16, 21, 22, 23, 5, 24, 25, 26, 27, 28, 29, 30, 31, 7, 32, 33, 34, 35, 36, 37, 38, 39, 40, 41, 42, 43, 44, 45, 46, 47, 48, 49, 50, 51, 52, 53, 54, 55, 56, 57, 58, 59, 60, 61, 62, 63, 64, 65, 66, 67, 68, 69, 70, 71, 72, 73, 74, 75, 76, 77, 78, 79, 80, 81, 82, 83, 84, 85, 86, 87, 88, 89, 90, 91, 92, 93, 94, 95, 96, 97, 98, 99, 100, 101, 102, 103, 104, 105, 106, 107, 108, 109, 110, 111, 112] (by decide +kernel) (by decide +kernel)
set_option maxRecDepth 20000 in
theorem gX6_reply_X6_replyOf : GoodIn wsX6_reply (wsV RX6 295 RX6 yX6_replyOf wsX6_replyOf) := goodIn_app (goodIn_of _ (by decide +kernel)) ggX6_reply_X6_replyOf
theorem dX6_reply_0 : decode cX6_reply 0 = .ok (.aload_n 0, 1) := by decide +kernel
theorem dX6_reply_1 : decode cX6_reply 1 = .ok (.iconst 0, 1) := by decide +kernel
theorem dX6_reply_2 : decode cX6_reply 2 = .ok (.putfield 121, 3) := by decide +kernel
theorem dX6_reply_5 : decode cX6_reply 5 = .ok (.aload_n 0, 1) := by decide +kernel
theorem dX6_reply_6 : decode cX6_reply 6 = .ok (.iload_n 1, 1) := by decide +kernel
theorem dX6_reply_7 : decode cX6_reply 7 = .ok (.invokevirtual 286, 3) := by decide +kernel
theorem dX6_reply_10 : decode cX6_reply 10 = .ok (.ifCond .eq 11, 3) := by decide +kernel
theorem dX6_reply_13 : decode cX6_reply 13 = .ok (.aload_n 0, 1) := by decide +kernel
theorem dX6_reply_14 : decode cX6_reply 14 = .ok (.iload_n 2, 1) := by decide +kernel
theorem dX6_reply_15 : decode cX6_reply 15 = .ok (.invokevirtual 133, 3) := by decide +kernel
theorem dX6_reply_18 : decode cX6_reply 18 = .ok (.ifCond .ne 5, 3) := by decide +kernel
theorem dX6_reply_21 : decode cX6_reply 21 = .ok (.iconst (-1), 1) := by decide +kernel
theorem dX6_reply_22 : decode cX6_reply 22 = .ok (.ireturn, 1) := by decide +kernel
theorem dX6_reply_23 : decode cX6_reply 23 = .ok (.aload_n 0, 1) := by decide +kernel
theorem dX6_reply_24 : decode cX6_reply 24 = .ok (.iload_n 1, 1) := by decide +kernel
theorem dX6_reply_25 : decode cX6_reply 25 = .ok (.invokevirtual 289, 3) := by decide +kernel
theorem dX6_reply_28 : decode cX6_reply 28 = .ok (.aload_n 0, 1) := by decide +kernel
theorem dX6_reply_29 : decode cX6_reply 29 = .ok (.iload_n 2, 1) := by decide +kernel
theorem dX6_reply_30 : decode cX6_reply 30 = .ok (.invokevirtual 295, 3) := by decide +kernel
theorem dX6_reply_33 : decode cX6_reply 33 = .ok (.ireturn, 1) := by decide +kernel
set_option maxRecDepth 20000 in
theorem ggX6_isRest_X6_valueOf : GoodIn wsX6_isRest wsX6_valueOf := goodIn_r _ [7, 8, 9, 2, 10, 11, 12, 13, 6, 14, 1, 15, 16, 17, 18, 19, 20, 21, 22, 23, 24, 25, 26, 27, 28, 29, 30, 31, 32, 33, 34, 35, 36, 37, 38, 39, 40, 45, 46, 47, 48, 49, 50, 51, 52, 53, 54, 55, 56, 57, 58, 59, 60, 61, 62, 63, 64, 65, 66, 67, 68, 69, 70, 71, 72, 73, 74, 75, 76, 77, 78, 79, 80, 81, 82, 83, 84, 85, 86, 87, 88, 89, 90, 91, 92, 93, 94, 95, 96, 97, 98, 99] (by decide +kernel) (by decide +kernel)
set_option maxRecDepth 20000 in
theorem gX6_isRest_X6_valueOf : GoodIn wsX6_isRest (wsV RX6 292 RX6 yX6_valueOf wsX6_valueOf) := goodIn_app (goodIn_of _ (by decide +kernel)) ggX6_isRest_X6_valueOf
set_option maxRecDepth 20000 in
theorem ggX6_isRest_X6_replyOf : GoodIn wsX6_isRest wsX6_replyOf := goodIn_r _ [44, 2, 3, 4, 5, 6, 7, 8, 9, 10, 11, 12, 13, 14, 1, 15, 16, 17, 18, 19, 20, 21, 22, 23, 24, 25, 26, 27, 28, 29, 30, 31, 32, 33, 34, 35, 36, 37, 38, 39, 40, 45, 46, 47, 48, 49, 50, 51, 52, 53, 54, 55, 56, 57, 58, 59, 60, 61, 62, 63, 64, 65, 66, 67, 68, 69, 70, 71, 72, 73, 74, 75, 76, 77, 78, 79, 80, 81, 82, 83, 84, 85, 86, 87, 88, 89, 90, 91, 92, 93, 94, 95, 96, 97, 98, 99] (by decide +kernel) (by decide +kernel)
set_option maxRecDepth 20000 in
theorem gX6_isRest_X6_replyOf : GoodIn wsX6_isRest (wsV RX6 295 RX6 yX6_replyOf wsX6_replyOf) := goodIn_app (goodIn_of _ (by decide +kernel)) ggX6_isRest_X6_replyOf
theorem dX6_isRest_0 : decode cX6_isRest 0 = .ok (.iconst 0, 1) := by decide +kernel
theorem dX6_isRest_1 : decode cX6_isRest 1 = .ok (.istore_n 1, 1) := by decide +kernel
theorem dX6_isRest_2 : decode cX6_isRest 2 = .ok (.iload_n 1, 1) := by decide +kernel
theorem dX6_isRest_3 : decode cX6_isRest 3 = .ok (.aload_n 0, 1) := by decide +kernel
theorem dX6_isRest_4 : decode cX6_isRest 4 = .ok (.getfield 7, 3) := by decide +kernel
theorem dX6_isRest_7 : decode cX6_isRest 7 = .ok (.if_icmp .ge 55, 3) := by decide +kernel
theorem dX6_isRest_10 : decode cX6_isRest 10 = .ok (.aload_n 0, 1) := by decide +kernel
theorem dX6_isRest_11 : decode cX6_isRest 11 = .ok (.iload_n 1, 1) := by decide +kernel
theorem dX6_isRest_12 : decode cX6_isRest 12 = .ok (.invokevirtual 292, 3) := by decide +kernel
theorem dX6_isRest_15 : decode cX6_isRest 15 = .ok (.istore_n 2, 1) := by decide +kernel
theorem dX6_isRest_16 : decode cX6_isRest 16 = .ok (.aload_n 0, 1) := by decide +kernel
theorem dX6_isRest_17 : decode cX6_isRest 17 = .ok (.getfield 99, 3) := by decide +kernel
theorem dX6_isRest_20 : decode cX6_isRest 20 = .ok (.iload_n 1, 1) := by decide +kernel
theorem dX6_isRest_21 : decode cX6_isRest 21 = .ok (.iaload, 1) := by decide +kernel
theorem dX6_isRest_22 : decode cX6_isRest 22 = .ok (.istore_n 3, 1) := by decide +kernel
theorem dX6_isRest_23 : decode cX6_isRest 23 = .ok (.aload_n 0, 1) := by decide +kernel
theorem dX6_isRest_24 : decode cX6_isRest 24 = .ok (.getfield 99, 3) := by decide +kernel
theorem dX6_isRest_27 : decode cX6_isRest 27 = .ok (.iload_n 1, 1) := by decide +kernel
theorem dX6_isRest_28 : decode cX6_isRest 28 = .ok (.aload_n 0, 1) := by decide +kernel
theorem dX6_isRest_29 : decode cX6_isRest 29 = .ok (.iload_n 1, 1) := by decide +kernel
theorem dX6_isRest_30 : decode cX6_isRest 30 = .ok (.invokevirtual 295, 3) := by decide +kernel
theorem dX6_isRest_33 : decode cX6_isRest 33 = .ok (.iastore, 1) := by decide +kernel
theorem dX6_isRest_34 : decode cX6_isRest 34 = .ok (.aload_n 0, 1) := by decide +kernel
theorem dX6_isRest_35 : decode cX6_isRest 35 = .ok (.iload_n 1, 1) := by decide +kernel
theorem dX6_isRest_36 : decode cX6_isRest 36 = .ok (.invokevirtual 292, 3) := by decide +kernel
theorem dX6_isRest_39 : decode cX6_isRest 39 = .ok (.istore 4, 2) := by decide +kernel
theorem dX6_isRest_41 : decode cX6_isRest 41 = .ok (.aload_n 0, 1) := by decide +kernel
theorem dX6_isRest_42 : decode cX6_isRest 42 = .ok (.getfield 99, 3) := by decide +kernel
theorem dX6_isRest_45 : decode cX6_isRest 45 = .ok (.iload_n 1, 1) := by decide +kernel
theorem dX6_isRest_46 : decode cX6_isRest 46 = .ok (.iload_n 3, 1) := by decide +kernel
theorem dX6_isRest_47 : decode cX6_isRest 47 = .ok (.iastore, 1) := by decide +kernel
theorem dX6_isRest_48 : decode cX6_isRest 48 = .ok (.iload 4, 2) := by decide +kernel
theorem dX6_isRest_50 : decode cX6_isRest 50 = .ok (.iload_n 2, 1) := by decide +kernel
theorem dX6_isRest_51 : decode cX6_isRest 51 = .ok (.if_icmp .le 5, 3) := by decide +kernel
theorem dX6_isRest_54 : decode cX6_isRest 54 = .ok (.iconst 0, 1) := by decide +kernel
theorem dX6_isRest_55 : decode cX6_isRest 55 = .ok (.ireturn, 1) := by decide +kernel
theorem dX6_isRest_56 : decode cX6_isRest 56 = .ok (.iinc 1 1, 3) := by decide +kernel
theorem dX6_isRest_59 : decode cX6_isRest 59 = .ok (.goto (-57), 3) := by decide +kernel
theorem dX6_isRest_62 : decode cX6_isRest 62 = .ok (.iconst 1, 1) := by decide +kernel
theorem dX6_isRest_63 : decode cX6_isRest 63 = .ok (.ireturn, 1) := by decide +kernel
set_option maxRecDepth 20000 in
theorem ggX6_sumOf_X6_valueOf : GoodIn wsX6_sumOf wsX6_valueOf := goodIn_r _ [6, 7, 8, 9, 10, 11, 12, 13, 5, 14, 1, 15, 16, 17, 18, 19, 20, 21, 22, 23, 24, 25, 26, 27, 28, 29, 30, 31, 32, 33, 34, 35, 36, 37, 38, 39, 40, 41, 42, 43, 44, 45, 46, 47, 48, 49, 50, 51, 52, 53, 54, 55, 56, 57, 58, 59, 60, 61, 62, 63, 64, 65, 66, 67, 68, 69, 70, 71, 72, 73, 74, 75, 76, 77, 78, 79, 80, 81, 82, 83, 84, 85, 86, 87, 88, 89, 90, 91, 92, 93, 94, 95] (by decide +kernel) (by decide +kernel)
set_option maxRecDepth 20000 in
theorem gX6_sumOf_X6_valueOf : GoodIn wsX6_sumOf (wsV RX6 292 RX6 yX6_valueOf wsX6_valueOf) := goodIn_app (goodIn_of _ (by decide +kernel)) ggX6_sumOf_X6_valueOf
theorem dX6_sumOf_0 : decode cX6_sumOf 0 = .ok (.iconst 0, 1) := by decide +kernel
theorem dX6_sumOf_1 : decode cX6_sumOf 1 = .ok (.istore_n 1, 1) := by decide +kernel
theorem dX6_sumOf_2 : decode cX6_sumOf 2 = .ok (.iconst 0, 1) := by decide +kernel
theorem dX6_sumOf_3 : decode cX6_sumOf 3 = .ok (.istore_n 2, 1) := by decide +kernel
theorem dX6_sumOf_4 : decode cX6_sumOf 4 = .ok (.iload_n 2, 1) := by decide +kernel
theorem dX6_sumOf_5 : decode cX6_sumOf 5 = .ok (.aload_n 0, 1) := by decide +kernel
theorem dX6_sumOf_6 : decode cX6_sumOf 6 = .ok (.getfield 7, 3) := by decide +kernel
theorem dX6_sumOf_9 : decode cX6_sumOf 9 = .ok (.if_icmp .ge 17, 3) := by decide +kernel
theorem dX6_sumOf_12 : decode cX6_sumOf 12 = .ok (.iload_n 1, 1) := by decide +kernel
theorem dX6_sumOf_13 : decode cX6_sumOf 13 = .ok (.aload_n 0, 1) := by decide +kernel
theorem dX6_sumOf_14 : decode cX6_sumOf 14 = .ok (.iload_n 2, 1) := by decide +kernel
theorem dX6_sumOf_15 : decode cX6_sumOf 15 = .ok (.invokevirtual 292, 3) := by decide +kernel
theorem dX6_sumOf_18 : decode cX6_sumOf 18 = .ok (.iadd, 1) := by decide +kernel
theorem dX6_sumOf_19 : decode cX6_sumOf 19 = .ok (.istore_n 1, 1) := by decide +kernel
theorem dX6_sumOf_20 : decode cX6_sumOf 20 = .ok (.iinc 2 1, 3) := by decide +kernel
theorem dX6_sumOf_23 : decode cX6_sumOf 23 = .ok (.goto (-19), 3) := by decide +kernel
theorem dX6_sumOf_26 : decode cX6_sumOf 26 = .ok (.iload_n 1, 1) := by decide +kernel
theorem dX6_sumOf_27 : decode cX6_sumOf 27 = .ok (.ireturn, 1) := by decide +kernel
set_option maxRecDepth 20000 in
theorem ggX6_rests_X6_isIn : GoodIn wsX6_rests wsX6_isIn := goodIn_r _ [7] (by decide +kernel) (by decide +kernel)
set_option maxRecDepth 20000 in
theorem gX6_rests_X6_isIn : GoodIn wsX6_rests (wsV RX6 129 RX6 yX6_isIn wsX6_isIn) := goodIn_app (goodIn_of _ (by decide +kernel)) ggX6_rests_X6_isIn
set_option maxRecDepth 20000 in
theorem ggX6_rests_X6_takesRow : GoodIn wsX6_rests wsX6_takesRow := goodIn_r _ [11, 2, 12, 62, 63, 64, 65, 66, 67, 68, 69, 70, 71, 72, 73, 74, 75, 76, 77, 78, 79, 80, 81, 82, 83, 84, 85, 86, 87, 88, 89, 90, 91, 92, 93, 94, 95, 96, 97, 98, 99, 100, 101, 102, 103, 104, 105, 106, 107, 108, 109, 110, 111, 112, 113, 114, 115, 116] (by decide +kernel) (by decide +kernel)
set_option maxRecDepth 20000 in
theorem gX6_rests_X6_takesRow : GoodIn wsX6_rests (wsV RX6 289 RX6 yX6_takesRow wsX6_takesRow) := goodIn_app (goodIn_of _ (by decide +kernel)) ggX6_rests_X6_takesRow
set_option maxRecDepth 20000 in
theorem ggX6_rests_X6_isRest : GoodIn wsX6_rests wsX6_isRest := goodIn_r _ [16, 2, 12, 17, 18, 19, 6, 20, 21, 22, 23, 24, 25, 26, 27, 28, 29, 30, 31, 32, 33, 34, 35, 36, 37, 38, 39, 40, 41, 42, 43, 44, 45, 46, 47, 48, 49, 50, 51, 52, 53, 54, 55, 56, 57, 62, 63, 64, 65, 66, 67, 68, 69, 70, 71, 72, 73, 74, 75, 76, 77, 78, 79, 80, 81, 82, 83, 84, 85, 86, 87, 88, 89, 90, 91, 92, 93, 94, 95, 96, 97, 98, 99, 100, 101, 102, 103, 104, 105, 106, 107, 108, 109, 110, 111, 112, 113, 114, 115, 116] (by decide +kernel) (by decide +kernel)
set_option maxRecDepth 20000 in
theorem gX6_rests_X6_isRest : GoodIn wsX6_rests (wsV RX6 298 RX6 yX6_isRest wsX6_isRest) := goodIn_app (goodIn_of _ (by decide +kernel)) ggX6_rests_X6_isRest
set_option maxRecDepth 20000 in
theorem ggX6_rests_X6_sumOf : GoodIn wsX6_rests wsX6_sumOf := goodIn_r _ [61, 2, 17, 18, 19, 6, 20, 21, 22, 12, 23, 24, 25, 26, 27, 28, 29, 30, 31, 32, 33, 34, 35, 36, 37, 38, 39, 40, 41, 42, 43, 44, 45, 46, 47, 48, 49, 50, 51, 52, 53, 62, 63, 64, 65, 66, 67, 68, 69, 70, 71, 72, 73, 74, 75, 76, 77, 78, 79, 80, 81, 82, 83, 84, 85, 86, 87, 88, 89, 90, 91, 92, 93, 94, 95, 96, 97, 98, 99, 100, 101, 102, 103, 104, 105, 106, 107, 108, 109, 110, 111, 112, 113, 114, 115, 116] (by decide +kernel) (by decide +kernel)
set_option maxRecDepth 20000 in
theorem gX6_rests_X6_sumOf : GoodIn wsX6_rests (wsV RX6 302 RX6 yX6_sumOf wsX6_sumOf) := goodIn_app (goodIn_of _ (by decide +kernel)) ggX6_rests_X6_sumOf
theorem dX6_rests_0 : decode cX6_rests 0 = .ok (.aload_n 0, 1) := by decide +kernel
theorem dX6_rests_1 : decode cX6_rests 1 = .ok (.iconst 0, 1) := by decide +kernel
theorem dX6_rests_2 : decode cX6_rests 2 = .ok (.putfield 121, 3) := by decide +kernel
theorem dX6_rests_5 : decode cX6_rests 5 = .ok (.aload_n 0, 1) := by decide +kernel
theorem dX6_rests_6 : decode cX6_rests 6 = .ok (.getfield 7, 3) := by decide +kernel
theorem dX6_rests_9 : decode cX6_rests 9 = .ok (.bipush 6, 2) := by decide +kernel
theorem dX6_rests_11 : decode cX6_rests 11 = .ok (.if_icmp .gt 13, 3) := by decide +kernel
theorem dX6_rests_14 : decode cX6_rests 14 = .ok (.aload_n 0, 1) := by decide +kernel
theorem dX6_rests_15 : decode cX6_rests 15 = .ok (.iload_n 1, 1) := by decide +kernel
theorem dX6_rests_16 : decode cX6_rests 16 = .ok (.iconst 0, 1) := by decide +kernel
theorem dX6_rests_17 : decode cX6_rests 17 = .ok (.iconst 3, 1) := by decide +kernel
theorem dX6_rests_18 : decode cX6_rests 18 = .ok (.invokevirtual 129, 3) := by decide +kernel
theorem dX6_rests_21 : decode cX6_rests 21 = .ok (.ifCond .ne 5, 3) := by decide +kernel
theorem dX6_rests_24 : decode cX6_rests 24 = .ok (.iconst (-1), 1) := by decide +kernel
theorem dX6_rests_25 : decode cX6_rests 25 = .ok (.ireturn, 1) := by decide +kernel
theorem dX6_rests_26 : decode cX6_rests 26 = .ok (.iconst 0, 1) := by decide +kernel
theorem dX6_rests_27 : decode cX6_rests 27 = .ok (.istore_n 2, 1) := by decide +kernel
theorem dX6_rests_28 : decode cX6_rests 28 = .ok (.iconst (-1), 1) := by decide +kernel
theorem dX6_rests_29 : decode cX6_rests 29 = .ok (.istore_n 3, 1) := by decide +kernel
theorem dX6_rests_30 : decode cX6_rests 30 = .ok (.iconst (-1), 1) := by decide +kernel
theorem dX6_rests_31 : decode cX6_rests 31 = .ok (.istore 4, 2) := by decide +kernel
theorem dX6_rests_33 : decode cX6_rests 33 = .ok (.iconst 0, 1) := by decide +kernel
theorem dX6_rests_34 : decode cX6_rests 34 = .ok (.istore 5, 2) := by decide +kernel
theorem dX6_rests_36 : decode cX6_rests 36 = .ok (.iconst 0, 1) := by decide +kernel
theorem dX6_rests_37 : decode cX6_rests 37 = .ok (.istore 6, 2) := by decide +kernel
theorem dX6_rests_39 : decode cX6_rests 39 = .ok (.iconst 1, 1) := by decide +kernel
theorem dX6_rests_40 : decode cX6_rests 40 = .ok (.iconst 2, 1) := by decide +kernel
theorem dX6_rests_41 : decode cX6_rests 41 = .ok (.aload_n 0, 1) := by decide +kernel
theorem dX6_rests_42 : decode cX6_rests 42 = .ok (.getfield 7, 3) := by decide +kernel
theorem dX6_rests_45 : decode cX6_rests 45 = .ok (.imul, 1) := by decide +kernel
theorem dX6_rests_46 : decode cX6_rests 46 = .ok (.ishl, 1) := by decide +kernel
theorem dX6_rests_47 : decode cX6_rests 47 = .ok (.iconst 1, 1) := by decide +kernel
theorem dX6_rests_48 : decode cX6_rests 48 = .ok (.isub, 1) := by decide +kernel
theorem dX6_rests_49 : decode cX6_rests 49 = .ok (.iconst 3, 1) := by decide +kernel
theorem dX6_rests_50 : decode cX6_rests 50 = .ok (.idiv, 1) := by decide +kernel
theorem dX6_rests_51 : decode cX6_rests 51 = .ok (.istore 7, 2) := by decide +kernel
theorem dX6_rests_53 : decode cX6_rests 53 = .ok (.iconst 0, 1) := by decide +kernel
theorem dX6_rests_54 : decode cX6_rests 54 = .ok (.istore 8, 2) := by decide +kernel
theorem dX6_rests_56 : decode cX6_rests 56 = .ok (.iload 8, 2) := by decide +kernel
theorem dX6_rests_58 : decode cX6_rests 58 = .ok (.iconst 1, 1) := by decide +kernel
theorem dX6_rests_59 : decode cX6_rests 59 = .ok (.iconst 2, 1) := by decide +kernel
theorem dX6_rests_60 : decode cX6_rests 60 = .ok (.aload_n 0, 1) := by decide +kernel
theorem dX6_rests_61 : decode cX6_rests 61 = .ok (.getfield 7, 3) := by decide +kernel
theorem dX6_rests_64 : decode cX6_rests 64 = .ok (.imul, 1) := by decide +kernel
theorem dX6_rests_65 : decode cX6_rests 65 = .ok (.ishl, 1) := by decide +kernel
theorem dX6_rests_66 : decode cX6_rests 66 = .ok (.if_icmp .ge 89, 3) := by decide +kernel
theorem dX6_rests_69 : decode cX6_rests 69 = .ok (.aload_n 0, 1) := by decide +kernel
theorem dX6_rests_70 : decode cX6_rests 70 = .ok (.iload 8, 2) := by decide +kernel
theorem dX6_rests_72 : decode cX6_rests 72 = .ok (.invokevirtual 289, 3) := by decide +kernel
theorem dX6_rests_75 : decode cX6_rests 75 = .ok (.aload_n 0, 1) := by decide +kernel
theorem dX6_rests_76 : decode cX6_rests 76 = .ok (.invokevirtual 298, 3) := by decide +kernel
theorem dX6_rests_79 : decode cX6_rests 79 = .ok (.ifCond .ne 6, 3) := by decide +kernel
theorem dX6_rests_82 : decode cX6_rests 82 = .ok (.goto 67, 3) := by decide +kernel
theorem dX6_rests_85 : decode cX6_rests 85 = .ok (.iload_n 2, 1) := by decide +kernel
theorem dX6_rests_86 : decode cX6_rests 86 = .ok (.iconst 1, 1) := by decide +kernel
theorem dX6_rests_87 : decode cX6_rests 87 = .ok (.iadd, 1) := by decide +kernel
theorem dX6_rests_88 : decode cX6_rests 88 = .ok (.istore_n 2, 1) := by decide +kernel
theorem dX6_rests_89 : decode cX6_rests 89 = .ok (.iload_n 3, 1) := by decide +kernel
theorem dX6_rests_90 : decode cX6_rests 90 = .ok (.iconst (-1), 1) := by decide +kernel
theorem dX6_rests_91 : decode cX6_rests 91 = .ok (.if_icmp .ne 8, 3) := by decide +kernel
theorem dX6_rests_94 : decode cX6_rests 94 = .ok (.iload 8, 2) := by decide +kernel
theorem dX6_rests_96 : decode cX6_rests 96 = .ok (.goto 4, 3) := by decide +kernel
theorem dX6_rests_99 : decode cX6_rests 99 = .ok (.iload_n 3, 1) := by decide +kernel
theorem dX6_rests_100 : decode cX6_rests 100 = .ok (.istore_n 3, 1) := by decide +kernel
theorem dX6_rests_101 : decode cX6_rests 101 = .ok (.iload 8, 2) := by decide +kernel
theorem dX6_rests_103 : decode cX6_rests 103 = .ok (.iload 7, 2) := by decide +kernel
theorem dX6_rests_105 : decode cX6_rests 105 = .ok (.irem, 1) := by decide +kernel
theorem dX6_rests_106 : decode cX6_rests 106 = .ok (.ifCond .ne 15, 3) := by decide +kernel
theorem dX6_rests_109 : decode cX6_rests 109 = .ok (.iload 6, 2) := by decide +kernel
theorem dX6_rests_111 : decode cX6_rests 111 = .ok (.iconst 1, 1) := by decide +kernel
theorem dX6_rests_112 : decode cX6_rests 112 = .ok (.iload 8, 2) := by decide +kernel
theorem dX6_rests_114 : decode cX6_rests 114 = .ok (.iload 7, 2) := by decide +kernel
theorem dX6_rests_116 : decode cX6_rests 116 = .ok (.idiv, 1) := by decide +kernel
theorem dX6_rests_117 : decode cX6_rests 117 = .ok (.ishl, 1) := by decide +kernel
theorem dX6_rests_118 : decode cX6_rests 118 = .ok (.ior, 1) := by decide +kernel
theorem dX6_rests_119 : decode cX6_rests 119 = .ok (.istore 6, 2) := by decide +kernel
theorem dX6_rests_121 : decode cX6_rests 121 = .ok (.iload 4, 2) := by decide +kernel
theorem dX6_rests_123 : decode cX6_rests 123 = .ok (.iconst (-1), 1) := by decide +kernel
theorem dX6_rests_124 : decode cX6_rests 124 = .ok (.if_icmp .eq 15, 3) := by decide +kernel
theorem dX6_rests_127 : decode cX6_rests 127 = .ok (.aload_n 0, 1) := by decide +kernel
theorem dX6_rests_128 : decode cX6_rests 128 = .ok (.invokevirtual 302, 3) := by decide +kernel
theorem dX6_rests_131 : decode cX6_rests 131 = .ok (.iload 5, 2) := by decide +kernel
theorem dX6_rests_133 : decode cX6_rests 133 = .ok (.if_icmp .gt 6, 3) := by decide +kernel
theorem dX6_rests_136 : decode cX6_rests 136 = .ok (.goto 13, 3) := by decide +kernel
theorem dX6_rests_139 : decode cX6_rests 139 = .ok (.iload 8, 2) := by decide +kernel
theorem dX6_rests_141 : decode cX6_rests 141 = .ok (.istore 4, 2) := by decide +kernel
theorem dX6_rests_143 : decode cX6_rests 143 = .ok (.aload_n 0, 1) := by decide +kernel
theorem dX6_rests_144 : decode cX6_rests 144 = .ok (.invokevirtual 302, 3) := by decide +kernel
theorem dX6_rests_147 : decode cX6_rests 147 = .ok (.istore 5, 2) := by decide +kernel
theorem dX6_rests_149 : decode cX6_rests 149 = .ok (.iinc 8 1, 3) := by decide +kernel
theorem dX6_rests_152 : decode cX6_rests 152 = .ok (.goto (-96), 3) := by decide +kernel
theorem dX6_rests_155 : decode cX6_rests 155 = .ok (.iload_n 1, 1) := by decide +kernel
theorem dX6_rests_156 : decode cX6_rests 156 = .ok (.ifCond .ne 7, 3) := by decide +kernel
theorem dX6_rests_159 : decode cX6_rests 159 = .ok (.iload_n 2, 1) := by decide +kernel
theorem dX6_rests_160 : decode cX6_rests 160 = .ok (.goto 24, 3) := by decide +kernel
theorem dX6_rests_163 : decode cX6_rests 163 = .ok (.iload_n 1, 1) := by decide +kernel
theorem dX6_rests_164 : decode cX6_rests 164 = .ok (.iconst 1, 1) := by decide +kernel
theorem dX6_rests_165 : decode cX6_rests 165 = .ok (.if_icmp .ne 7, 3) := by decide +kernel
theorem dX6_rests_168 : decode cX6_rests 168 = .ok (.iload_n 3, 1) := by decide +kernel
theorem dX6_rests_169 : decode cX6_rests 169 = .ok (.goto 15, 3) := by decide +kernel
theorem dX6_rests_172 : decode cX6_rests 172 = .ok (.iload_n 1, 1) := by decide +kernel
theorem dX6_rests_173 : decode cX6_rests 173 = .ok (.iconst 2, 1) := by decide +kernel
theorem dX6_rests_174 : decode cX6_rests 174 = .ok (.if_icmp .ne 8, 3) := by decide +kernel
theorem dX6_rests_177 : decode cX6_rests 177 = .ok (.iload 4, 2) := by decide +kernel
theorem dX6_rests_179 : decode cX6_rests 179 = .ok (.goto 5, 3) := by decide +kernel
theorem dX6_rests_182 : decode cX6_rests 182 = .ok (.iload 6, 2) := by decide +kernel
theorem dX6_rests_184 : decode cX6_rests 184 = .ok (.ireturn, 1) := by decide +kernel
set_option maxRecDepth 20000 in
theorem ggX6_standsStill_X6_valueOf : GoodIn wsX6_standsStill wsX6_valueOf := goodIn_r _ [7, 8, 9, 2, 10, 11, 12, 13, 6, 14, 1, 15, 16, 17, 18, 19, 20, 21, 22, 23, 24, 25, 26, 27, 28, 29, 30, 31, 32, 33, 34, 35, 36, 37, 38, 39, 40, 41, 42, 43, 44, 45, 46, 47, 48, 49, 50, 51, 52, 53, 54, 55, 56, 57, 58, 59, 60, 61, 62, 63, 64, 65, 66, 67, 68, 69, 70, 71, 72, 73, 74, 75, 76, 77, 78, 79, 80, 81, 82, 83, 84, 85, 86, 87, 88, 89, 90, 91, 92, 93, 94, 95] (by decide +kernel) (by decide +kernel)
set_option maxRecDepth 20000 in
theorem gX6_standsStill_X6_valueOf : GoodIn wsX6_standsStill (wsV RX6 292 RX6 yX6_valueOf wsX6_valueOf) := goodIn_app (goodIn_of _ (by decide +kernel)) ggX6_standsStill_X6_valueOf
theorem dX6_standsStill_0 : decode cX6_standsStill 0 = .ok (.iconst 0, 1) := by decide +kernel
theorem dX6_standsStill_1 : decode cX6_standsStill 1 = .ok (.istore_n 2, 1) := by decide +kernel
theorem dX6_standsStill_2 : decode cX6_standsStill 2 = .ok (.iload_n 2, 1) := by decide +kernel
theorem dX6_standsStill_3 : decode cX6_standsStill 3 = .ok (.aload_n 0, 1) := by decide +kernel
theorem dX6_standsStill_4 : decode cX6_standsStill 4 = .ok (.getfield 7, 3) := by decide +kernel
theorem dX6_standsStill_7 : decode cX6_standsStill 7 = .ok (.if_icmp .ge 20, 3) := by decide +kernel
theorem dX6_standsStill_10 : decode cX6_standsStill 10 = .ok (.aload_n 0, 1) := by decide +kernel
theorem dX6_standsStill_11 : decode cX6_standsStill 11 = .ok (.getfield 99, 3) := by decide +kernel
theorem dX6_standsStill_14 : decode cX6_standsStill 14 = .ok (.iload_n 2, 1) := by decide +kernel
theorem dX6_standsStill_15 : decode cX6_standsStill 15 = .ok (.iload_n 1, 1) := by decide +kernel
theorem dX6_standsStill_16 : decode cX6_standsStill 16 = .ok (.iload_n 2, 1) := by decide +kernel
theorem dX6_standsStill_17 : decode cX6_standsStill 17 = .ok (.ishr, 1) := by decide +kernel
theorem dX6_standsStill_18 : decode cX6_standsStill 18 = .ok (.iconst 1, 1) := by decide +kernel
theorem dX6_standsStill_19 : decode cX6_standsStill 19 = .ok (.iand, 1) := by decide +kernel
theorem dX6_standsStill_20 : decode cX6_standsStill 20 = .ok (.iastore, 1) := by decide +kernel
theorem dX6_standsStill_21 : decode cX6_standsStill 21 = .ok (.iinc 2 1, 3) := by decide +kernel
theorem dX6_standsStill_24 : decode cX6_standsStill 24 = .ok (.goto (-22), 3) := by decide +kernel
theorem dX6_standsStill_27 : decode cX6_standsStill 27 = .ok (.iconst 0, 1) := by decide +kernel
theorem dX6_standsStill_28 : decode cX6_standsStill 28 = .ok (.istore_n 2, 1) := by decide +kernel
theorem dX6_standsStill_29 : decode cX6_standsStill 29 = .ok (.iload_n 2, 1) := by decide +kernel
theorem dX6_standsStill_30 : decode cX6_standsStill 30 = .ok (.aload_n 0, 1) := by decide +kernel
theorem dX6_standsStill_31 : decode cX6_standsStill 31 = .ok (.getfield 7, 3) := by decide +kernel
theorem dX6_standsStill_34 : decode cX6_standsStill 34 = .ok (.if_icmp .ge 81, 3) := by decide +kernel
theorem dX6_standsStill_37 : decode cX6_standsStill 37 = .ok (.aload_n 0, 1) := by decide +kernel
theorem dX6_standsStill_38 : decode cX6_standsStill 38 = .ok (.getfield 99, 3) := by decide +kernel
theorem dX6_standsStill_41 : decode cX6_standsStill 41 = .ok (.iload_n 2, 1) := by decide +kernel
theorem dX6_standsStill_42 : decode cX6_standsStill 42 = .ok (.iaload, 1) := by decide +kernel
theorem dX6_standsStill_43 : decode cX6_standsStill 43 = .ok (.iconst 1, 1) := by decide +kernel
theorem dX6_standsStill_44 : decode cX6_standsStill 44 = .ok (.if_icmp .ne 6, 3) := by decide +kernel
theorem dX6_standsStill_47 : decode cX6_standsStill 47 = .ok (.goto 62, 3) := by decide +kernel
theorem dX6_standsStill_50 : decode cX6_standsStill 50 = .ok (.aload_n 0, 1) := by decide +kernel
theorem dX6_standsStill_51 : decode cX6_standsStill 51 = .ok (.iload_n 2, 1) := by decide +kernel
theorem dX6_standsStill_52 : decode cX6_standsStill 52 = .ok (.invokevirtual 292, 3) := by decide +kernel
theorem dX6_standsStill_55 : decode cX6_standsStill 55 = .ok (.istore_n 3, 1) := by decide +kernel
theorem dX6_standsStill_56 : decode cX6_standsStill 56 = .ok (.iconst 2, 1) := by decide +kernel
theorem dX6_standsStill_57 : decode cX6_standsStill 57 = .ok (.istore 4, 2) := by decide +kernel
theorem dX6_standsStill_59 : decode cX6_standsStill 59 = .ok (.iload 4, 2) := by decide +kernel
theorem dX6_standsStill_61 : decode cX6_standsStill 61 = .ok (.iconst 3, 1) := by decide +kernel
theorem dX6_standsStill_62 : decode cX6_standsStill 62 = .ok (.if_icmp .gt 47, 3) := by decide +kernel
theorem dX6_standsStill_65 : decode cX6_standsStill 65 = .ok (.aload_n 0, 1) := by decide +kernel
theorem dX6_standsStill_66 : decode cX6_standsStill 66 = .ok (.getfield 99, 3) := by decide +kernel
theorem dX6_standsStill_69 : decode cX6_standsStill 69 = .ok (.iload_n 2, 1) := by decide +kernel
theorem dX6_standsStill_70 : decode cX6_standsStill 70 = .ok (.iload 4, 2) := by decide +kernel
theorem dX6_standsStill_72 : decode cX6_standsStill 72 = .ok (.iastore, 1) := by decide +kernel
theorem dX6_standsStill_73 : decode cX6_standsStill 73 = .ok (.aload_n 0, 1) := by decide +kernel
theorem dX6_standsStill_74 : decode cX6_standsStill 74 = .ok (.iload_n 2, 1) := by decide +kernel
theorem dX6_standsStill_75 : decode cX6_standsStill 75 = .ok (.invokevirtual 292, 3) := by decide +kernel
theorem dX6_standsStill_78 : decode cX6_standsStill 78 = .ok (.iload_n 3, 1) := by decide +kernel
theorem dX6_standsStill_79 : decode cX6_standsStill 79 = .ok (.if_icmp .le 7, 3) := by decide +kernel
theorem dX6_standsStill_82 : decode cX6_standsStill 82 = .ok (.iconst 1, 1) := by decide +kernel
theorem dX6_standsStill_83 : decode cX6_standsStill 83 = .ok (.goto 4, 3) := by decide +kernel
theorem dX6_standsStill_86 : decode cX6_standsStill 86 = .ok (.iconst 0, 1) := by decide +kernel
theorem dX6_standsStill_87 : decode cX6_standsStill 87 = .ok (.istore 5, 2) := by decide +kernel
theorem dX6_standsStill_89 : decode cX6_standsStill 89 = .ok (.aload_n 0, 1) := by decide +kernel
theorem dX6_standsStill_90 : decode cX6_standsStill 90 = .ok (.getfield 99, 3) := by decide +kernel
theorem dX6_standsStill_93 : decode cX6_standsStill 93 = .ok (.iload_n 2, 1) := by decide +kernel
theorem dX6_standsStill_94 : decode cX6_standsStill 94 = .ok (.iconst 0, 1) := by decide +kernel
theorem dX6_standsStill_95 : decode cX6_standsStill 95 = .ok (.iastore, 1) := by decide +kernel
theorem dX6_standsStill_96 : decode cX6_standsStill 96 = .ok (.iload 5, 2) := by decide +kernel
theorem dX6_standsStill_98 : decode cX6_standsStill 98 = .ok (.ifCond .eq 5, 3) := by decide +kernel
theorem dX6_standsStill_101 : decode cX6_standsStill 101 = .ok (.iconst 0, 1) := by decide +kernel
theorem dX6_standsStill_102 : decode cX6_standsStill 102 = .ok (.ireturn, 1) := by decide +kernel
theorem dX6_standsStill_103 : decode cX6_standsStill 103 = .ok (.iinc 4 1, 3) := by decide +kernel
theorem dX6_standsStill_106 : decode cX6_standsStill 106 = .ok (.goto (-47), 3) := by decide +kernel
theorem dX6_standsStill_109 : decode cX6_standsStill 109 = .ok (.iinc 2 1, 3) := by decide +kernel
theorem dX6_standsStill_112 : decode cX6_standsStill 112 = .ok (.goto (-83), 3) := by decide +kernel
theorem dX6_standsStill_115 : decode cX6_standsStill 115 = .ok (.iconst 1, 1) := by decide +kernel
theorem dX6_standsStill_116 : decode cX6_standsStill 116 = .ok (.ireturn, 1) := by decide +kernel
set_option maxRecDepth 20000 in
theorem ggX6_stillSet_X6_ones : GoodIn wsX6_stillSet wsX6_ones := goodIn_r _ [6] (by decide +kernel) (by decide +kernel)
set_option maxRecDepth 20000 in
theorem gX6_stillSet_X6_ones : GoodIn wsX6_stillSet (wsV RX6 305 RX6 yX6_ones wsX6_ones) := goodIn_app (goodIn_of _ (by decide +kernel)) ggX6_stillSet_X6_ones
set_option maxRecDepth 20000 in
theorem ggX6_stillSet_X6_standsStill : GoodIn wsX6_stillSet wsX6_standsStill := goodIn_r _ [10, 1, 11, 12, 13, 14, 5, 15, 16, 17, 18, 19, 20, 21, 22, 23, 24, 25, 26, 27, 28, 29, 30, 31, 32, 33, 34, 35, 36, 37, 38, 39, 40, 41, 42, 43, 44, 45, 46, 47, 48, 49, 50, 51, 52, 53, 54, 55, 56, 57, 58, 59, 60, 61, 62, 63, 64, 65, 66, 67, 68, 69, 70, 71, 72, 73, 74, 75, 76, 77, 78, 79, 80, 81, 82, 83, 84, 85, 86, 87, 88, 89, 90, 91, 92, 93, 94, 95, 96, 97, 98, 99, 100, 101, 102, 103] (by decide +kernel) (by decide +kernel)
set_option maxRecDepth 20000 in
theorem gX6_stillSet_X6_standsStill : GoodIn wsX6_stillSet (wsV RX6 308 RX6 yX6_standsStill wsX6_standsStill) := goodIn_app (goodIn_of _ (by decide +kernel)) ggX6_stillSet_X6_standsStill
theorem dX6_stillSet_0 : decode cX6_stillSet 0 = .ok (.iconst (-1), 1) := by decide +kernel
theorem dX6_stillSet_1 : decode cX6_stillSet 1 = .ok (.istore_n 1, 1) := by decide +kernel
theorem dX6_stillSet_2 : decode cX6_stillSet 2 = .ok (.iconst 0, 1) := by decide +kernel
theorem dX6_stillSet_3 : decode cX6_stillSet 3 = .ok (.istore_n 2, 1) := by decide +kernel
theorem dX6_stillSet_4 : decode cX6_stillSet 4 = .ok (.iload_n 2, 1) := by decide +kernel
theorem dX6_stillSet_5 : decode cX6_stillSet 5 = .ok (.iconst 1, 1) := by decide +kernel
theorem dX6_stillSet_6 : decode cX6_stillSet 6 = .ok (.aload_n 0, 1) := by decide +kernel
theorem dX6_stillSet_7 : decode cX6_stillSet 7 = .ok (.getfield 7, 3) := by decide +kernel
theorem dX6_stillSet_10 : decode cX6_stillSet 10 = .ok (.ishl, 1) := by decide +kernel
theorem dX6_stillSet_11 : decode cX6_stillSet 11 = .ok (.if_icmp .ge 37, 3) := by decide +kernel
theorem dX6_stillSet_14 : decode cX6_stillSet 14 = .ok (.iload_n 1, 1) := by decide +kernel
theorem dX6_stillSet_15 : decode cX6_stillSet 15 = .ok (.iconst (-1), 1) := by decide +kernel
theorem dX6_stillSet_16 : decode cX6_stillSet 16 = .ok (.if_icmp .eq 16, 3) := by decide +kernel
theorem dX6_stillSet_19 : decode cX6_stillSet 19 = .ok (.aload_n 0, 1) := by decide +kernel
theorem dX6_stillSet_20 : decode cX6_stillSet 20 = .ok (.iload_n 2, 1) := by decide +kernel
theorem dX6_stillSet_21 : decode cX6_stillSet 21 = .ok (.invokevirtual 305, 3) := by decide +kernel
theorem dX6_stillSet_24 : decode cX6_stillSet 24 = .ok (.aload_n 0, 1) := by decide +kernel
theorem dX6_stillSet_25 : decode cX6_stillSet 25 = .ok (.iload_n 1, 1) := by decide +kernel
theorem dX6_stillSet_26 : decode cX6_stillSet 26 = .ok (.invokevirtual 305, 3) := by decide +kernel
theorem dX6_stillSet_29 : decode cX6_stillSet 29 = .ok (.if_icmp .ge 13, 3) := by decide +kernel
theorem dX6_stillSet_32 : decode cX6_stillSet 32 = .ok (.aload_n 0, 1) := by decide +kernel
theorem dX6_stillSet_33 : decode cX6_stillSet 33 = .ok (.iload_n 2, 1) := by decide +kernel
theorem dX6_stillSet_34 : decode cX6_stillSet 34 = .ok (.invokevirtual 308, 3) := by decide +kernel
theorem dX6_stillSet_37 : decode cX6_stillSet 37 = .ok (.ifCond .eq 5, 3) := by decide +kernel
theorem dX6_stillSet_40 : decode cX6_stillSet 40 = .ok (.iload_n 2, 1) := by decide +kernel
theorem dX6_stillSet_41 : decode cX6_stillSet 41 = .ok (.istore_n 1, 1) := by decide +kernel
theorem dX6_stillSet_42 : decode cX6_stillSet 42 = .ok (.iinc 2 1, 3) := by decide +kernel
theorem dX6_stillSet_45 : decode cX6_stillSet 45 = .ok (.goto (-41), 3) := by decide +kernel
theorem dX6_stillSet_48 : decode cX6_stillSet 48 = .ok (.iload_n 1, 1) := by decide +kernel
theorem dX6_stillSet_49 : decode cX6_stillSet 49 = .ok (.ireturn, 1) := by decide +kernel
set_option maxRecDepth 20000 in
theorem ggX6_still_X6_stillSet : GoodIn wsX6_still wsX6_stillSet := goodIn_r _ [6, 7, 8, 9, 10, 5, 11, 12, 13, 14, 15, 16, 17, 18, 19, 20, 21, 22, 23, 24, 25, 26, 27, 28, 29, 30, 31, 32, 33, 34, 35, 36, 37, 38, 39, 40, 41, 42, 43, 44, 45, 46, 47, 48, 49, 50, 51, 52, 53, 54, 55, 56, 57, 58, 59, 60, 61, 62, 63, 64, 65, 66, 67, 68, 69, 70, 71, 72, 73, 74, 75, 76, 77, 78, 79, 80, 81, 82, 83, 84, 85, 86, 87, 88, 89, 90, 91, 92, 93, 94, 95, 96, 97, 98, 99, 100, 101, 102, 103, 104, 105, 106, 107, 108] (by decide +kernel) (by decide +kernel)
set_option maxRecDepth 20000 in
theorem gX6_still_X6_stillSet : GoodIn wsX6_still (wsV RX6 311 RX6 yX6_stillSet wsX6_stillSet) := goodIn_app (goodIn_of _ (by decide +kernel)) ggX6_still_X6_stillSet
theorem dX6_still_0 : decode cX6_still 0 = .ok (.aload_n 0, 1) := by decide +kernel
theorem dX6_still_1 : decode cX6_still 1 = .ok (.iconst 0, 1) := by decide +kernel
theorem dX6_still_2 : decode cX6_still 2 = .ok (.putfield 121, 3) := by decide +kernel
theorem dX6_still_5 : decode cX6_still 5 = .ok (.aload_n 0, 1) := by decide +kernel
theorem dX6_still_6 : decode cX6_still 6 = .ok (.invokevirtual 311, 3) := by decide +kernel
theorem dX6_still_9 : decode cX6_still 9 = .ok (.ireturn, 1) := by decide +kernel
set_option maxRecDepth 20000 in
theorem ggX6_walls_X6_isIn : GoodIn wsX6_walls wsX6_isIn := goodIn_r _ [8] (by decide +kernel) (by decide +kernel)
set_option maxRecDepth 20000 in
theorem gX6_walls_X6_isIn : GoodIn wsX6_walls (wsV RX6 129 RX6 yX6_isIn wsX6_isIn) := goodIn_app (goodIn_of _ (by decide +kernel)) ggX6_walls_X6_isIn
set_option maxRecDepth 20000 in
theorem ggX6_walls_X6_ones : GoodIn wsX6_walls wsX6_ones := goodIn_r _ [12] (by decide +kernel) (by decide +kernel)
set_option maxRecDepth 20000 in
theorem gX6_walls_X6_ones : GoodIn wsX6_walls (wsV RX6 305 RX6 yX6_ones wsX6_ones) := goodIn_app (goodIn_of _ (by decide +kernel)) ggX6_walls_X6_ones
set_option maxRecDepth 20000 in
theorem ggX6_walls_X6_stillSet : GoodIn wsX6_walls wsX6_stillSet := goodIn_r _ [16, 2, 9, 10, 11, 7, 12, 17, 18, 19, 20, 21, 22, 23, 24, 25, 26, 27, 28, 29, 30, 31, 32, 33, 34, 35, 36, 37, 38, 39, 40, 3, 41, 42, 43, 44, 45, 46, 47, 48, 49, 50, 51, 52, 53, 54, 55, 56, 57, 58, 59, 60, 61, 62, 63, 64, 65, 66, 67, 68, 69, 70, 71, 72, 73, 74, 75, 76, 77, 78, 79, 80, 81, 82, 83, 84, 85, 86, 87, 88, 89, 90, 91, 92, 93, 94, 95, 96, 97, 98, 99, 100, 101, 102, 103, 104, 105, 106, 107, 108, 109, 110, 111, 112] (by decide +kernel) (by decide +kernel)
set_option maxRecDepth 20000 in
theorem gX6_walls_X6_stillSet : GoodIn wsX6_walls (wsV RX6 311 RX6 yX6_stillSet wsX6_stillSet) := goodIn_app (goodIn_of _ (by decide +kernel)) ggX6_walls_X6_stillSet
theorem dX6_walls_0 : decode cX6_walls 0 = .ok (.aload_n 0, 1) := by decide +kernel
theorem dX6_walls_1 : decode cX6_walls 1 = .ok (.iconst 0, 1) := by decide +kernel
theorem dX6_walls_2 : decode cX6_walls 2 = .ok (.putfield 121, 3) := by decide +kernel
theorem dX6_walls_5 : decode cX6_walls 5 = .ok (.aload_n 0, 1) := by decide +kernel
theorem dX6_walls_6 : decode cX6_walls 6 = .ok (.iload_n 1, 1) := by decide +kernel
theorem dX6_walls_7 : decode cX6_walls 7 = .ok (.iconst 0, 1) := by decide +kernel
theorem dX6_walls_8 : decode cX6_walls 8 = .ok (.iconst 2, 1) := by decide +kernel
theorem dX6_walls_9 : decode cX6_walls 9 = .ok (.invokevirtual 129, 3) := by decide +kernel
theorem dX6_walls_12 : decode cX6_walls 12 = .ok (.ifCond .eq 13, 3) := by decide +kernel
theorem dX6_walls_15 : decode cX6_walls 15 = .ok (.aload_n 0, 1) := by decide +kernel
theorem dX6_walls_16 : decode cX6_walls 16 = .ok (.iload_n 2, 1) := by decide +kernel
theorem dX6_walls_17 : decode cX6_walls 17 = .ok (.iconst 0, 1) := by decide +kernel
theorem dX6_walls_18 : decode cX6_walls 18 = .ok (.iconst 1, 1) := by decide +kernel
theorem dX6_walls_19 : decode cX6_walls 19 = .ok (.invokevirtual 129, 3) := by decide +kernel
theorem dX6_walls_22 : decode cX6_walls 22 = .ok (.ifCond .ne 5, 3) := by decide +kernel
theorem dX6_walls_25 : decode cX6_walls 25 = .ok (.iconst (-1), 1) := by decide +kernel
theorem dX6_walls_26 : decode cX6_walls 26 = .ok (.ireturn, 1) := by decide +kernel
theorem dX6_walls_27 : decode cX6_walls 27 = .ok (.iconst 0, 1) := by decide +kernel
theorem dX6_walls_28 : decode cX6_walls 28 = .ok (.istore_n 3, 1) := by decide +kernel
theorem dX6_walls_29 : decode cX6_walls 29 = .ok (.iconst 0, 1) := by decide +kernel
theorem dX6_walls_30 : decode cX6_walls 30 = .ok (.istore 4, 2) := by decide +kernel
theorem dX6_walls_32 : decode cX6_walls 32 = .ok (.iload 4, 2) := by decide +kernel
theorem dX6_walls_34 : decode cX6_walls 34 = .ok (.aload_n 0, 1) := by decide +kernel
theorem dX6_walls_35 : decode cX6_walls 35 = .ok (.getfield 7, 3) := by decide +kernel
theorem dX6_walls_38 : decode cX6_walls 38 = .ok (.if_icmp .ge 22, 3) := by decide +kernel
theorem dX6_walls_41 : decode cX6_walls 41 = .ok (.iload_n 3, 1) := by decide +kernel
theorem dX6_walls_42 : decode cX6_walls 42 = .ok (.aload_n 0, 1) := by decide +kernel
theorem dX6_walls_43 : decode cX6_walls 43 = .ok (.getfield 38, 3) := by decide +kernel
theorem dX6_walls_46 : decode cX6_walls 46 = .ok (.iload 4, 2) := by decide +kernel
theorem dX6_walls_48 : decode cX6_walls 48 = .ok (.iaload, 1) := by decide +kernel
theorem dX6_walls_49 : decode cX6_walls 49 = .ok (.iload 4, 2) := by decide +kernel
theorem dX6_walls_51 : decode cX6_walls 51 = .ok (.ishl, 1) := by decide +kernel
theorem dX6_walls_52 : decode cX6_walls 52 = .ok (.ior, 1) := by decide +kernel
theorem dX6_walls_53 : decode cX6_walls 53 = .ok (.istore_n 3, 1) := by decide +kernel
theorem dX6_walls_54 : decode cX6_walls 54 = .ok (.iinc 4 1, 3) := by decide +kernel
theorem dX6_walls_57 : decode cX6_walls 57 = .ok (.goto (-25), 3) := by decide +kernel
theorem dX6_walls_60 : decode cX6_walls 60 = .ok (.iconst (-1), 1) := by decide +kernel
theorem dX6_walls_61 : decode cX6_walls 61 = .ok (.istore 4, 2) := by decide +kernel
theorem dX6_walls_63 : decode cX6_walls 63 = .ok (.iconst 0, 1) := by decide +kernel
theorem dX6_walls_64 : decode cX6_walls 64 = .ok (.istore 5, 2) := by decide +kernel
theorem dX6_walls_66 : decode cX6_walls 66 = .ok (.iconst 0, 1) := by decide +kernel
theorem dX6_walls_67 : decode cX6_walls 67 = .ok (.istore 6, 2) := by decide +kernel
theorem dX6_walls_69 : decode cX6_walls 69 = .ok (.iload 6, 2) := by decide +kernel
theorem dX6_walls_71 : decode cX6_walls 71 = .ok (.iconst 1, 1) := by decide +kernel
theorem dX6_walls_72 : decode cX6_walls 72 = .ok (.aload_n 0, 1) := by decide +kernel
theorem dX6_walls_73 : decode cX6_walls 73 = .ok (.getfield 7, 3) := by decide +kernel
theorem dX6_walls_76 : decode cX6_walls 76 = .ok (.ishl, 1) := by decide +kernel
theorem dX6_walls_77 : decode cX6_walls 77 = .ok (.if_icmp .ge 134, 3) := by decide +kernel
theorem dX6_walls_80 : decode cX6_walls 80 = .ok (.aload_n 0, 1) := by decide +kernel
theorem dX6_walls_81 : decode cX6_walls 81 = .ok (.iload 6, 2) := by decide +kernel
theorem dX6_walls_83 : decode cX6_walls 83 = .ok (.invokevirtual 305, 3) := by decide +kernel
theorem dX6_walls_86 : decode cX6_walls 86 = .ok (.iload_n 1, 1) := by decide +kernel
theorem dX6_walls_87 : decode cX6_walls 87 = .ok (.if_icmp .gt 118, 3) := by decide +kernel
theorem dX6_walls_90 : decode cX6_walls 90 = .ok (.iload 6, 2) := by decide +kernel
theorem dX6_walls_92 : decode cX6_walls 92 = .ok (.iload_n 3, 1) := by decide +kernel
theorem dX6_walls_93 : decode cX6_walls 93 = .ok (.iand, 1) := by decide +kernel
theorem dX6_walls_94 : decode cX6_walls 94 = .ok (.ifCond .eq 6, 3) := by decide +kernel
theorem dX6_walls_97 : decode cX6_walls 97 = .ok (.goto 108, 3) := by decide +kernel
theorem dX6_walls_100 : decode cX6_walls 100 = .ok (.iconst 0, 1) := by decide +kernel
theorem dX6_walls_101 : decode cX6_walls 101 = .ok (.istore 7, 2) := by decide +kernel
theorem dX6_walls_103 : decode cX6_walls 103 = .ok (.iload 7, 2) := by decide +kernel
theorem dX6_walls_105 : decode cX6_walls 105 = .ok (.aload_n 0, 1) := by decide +kernel
theorem dX6_walls_106 : decode cX6_walls 106 = .ok (.getfield 7, 3) := by decide +kernel
theorem dX6_walls_109 : decode cX6_walls 109 = .ok (.if_icmp .ge 25, 3) := by decide +kernel
theorem dX6_walls_112 : decode cX6_walls 112 = .ok (.aload_n 0, 1) := by decide +kernel
theorem dX6_walls_113 : decode cX6_walls 113 = .ok (.getfield 38, 3) := by decide +kernel
theorem dX6_walls_116 : decode cX6_walls 116 = .ok (.iload 7, 2) := by decide +kernel
theorem dX6_walls_118 : decode cX6_walls 118 = .ok (.iload 6, 2) := by decide +kernel
theorem dX6_walls_120 : decode cX6_walls 120 = .ok (.iload_n 3, 1) := by decide +kernel
theorem dX6_walls_121 : decode cX6_walls 121 = .ok (.ior, 1) := by decide +kernel
theorem dX6_walls_122 : decode cX6_walls 122 = .ok (.iload 7, 2) := by decide +kernel
theorem dX6_walls_124 : decode cX6_walls 124 = .ok (.ishr, 1) := by decide +kernel
theorem dX6_walls_125 : decode cX6_walls 125 = .ok (.iconst 1, 1) := by decide +kernel
theorem dX6_walls_126 : decode cX6_walls 126 = .ok (.iand, 1) := by decide +kernel
theorem dX6_walls_127 : decode cX6_walls 127 = .ok (.iastore, 1) := by decide +kernel
theorem dX6_walls_128 : decode cX6_walls 128 = .ok (.iinc 7 1, 3) := by decide +kernel
theorem dX6_walls_131 : decode cX6_walls 131 = .ok (.goto (-28), 3) := by decide +kernel
theorem dX6_walls_134 : decode cX6_walls 134 = .ok (.aload_n 0, 1) := by decide +kernel
theorem dX6_walls_135 : decode cX6_walls 135 = .ok (.invokevirtual 311, 3) := by decide +kernel
theorem dX6_walls_138 : decode cX6_walls 138 = .ok (.istore 7, 2) := by decide +kernel
theorem dX6_walls_140 : decode cX6_walls 140 = .ok (.iload 7, 2) := by decide +kernel
theorem dX6_walls_142 : decode cX6_walls 142 = .ok (.iconst (-1), 1) := by decide +kernel
theorem dX6_walls_143 : decode cX6_walls 143 = .ok (.if_icmp .ne 8, 3) := by decide +kernel
theorem dX6_walls_146 : decode cX6_walls 146 = .ok (.bipush 99, 2) := by decide +kernel
theorem dX6_walls_148 : decode cX6_walls 148 = .ok (.goto 9, 3) := by decide +kernel
theorem dX6_walls_151 : decode cX6_walls 151 = .ok (.aload_n 0, 1) := by decide +kernel
theorem dX6_walls_152 : decode cX6_walls 152 = .ok (.iload 7, 2) := by decide +kernel
theorem dX6_walls_154 : decode cX6_walls 154 = .ok (.invokevirtual 305, 3) := by decide +kernel
theorem dX6_walls_157 : decode cX6_walls 157 = .ok (.istore 8, 2) := by decide +kernel
theorem dX6_walls_159 : decode cX6_walls 159 = .ok (.iload 4, 2) := by decide +kernel
theorem dX6_walls_161 : decode cX6_walls 161 = .ok (.iconst (-1), 1) := by decide +kernel
theorem dX6_walls_162 : decode cX6_walls 162 = .ok (.if_icmp .eq 35, 3) := by decide +kernel
theorem dX6_walls_165 : decode cX6_walls 165 = .ok (.iload 8, 2) := by decide +kernel
theorem dX6_walls_167 : decode cX6_walls 167 = .ok (.iload 5, 2) := by decide +kernel
theorem dX6_walls_169 : decode cX6_walls 169 = .ok (.if_icmp .gt 36, 3) := by decide +kernel
theorem dX6_walls_172 : decode cX6_walls 172 = .ok (.iload 8, 2) := by decide +kernel
theorem dX6_walls_174 : decode cX6_walls 174 = .ok (.iload 5, 2) := by decide +kernel
theorem dX6_walls_176 : decode cX6_walls 176 = .ok (.if_icmp .ne 21, 3) := by decide +kernel
theorem dX6_walls_179 : decode cX6_walls 179 = .ok (.aload_n 0, 1) := by decide +kernel
theorem dX6_walls_180 : decode cX6_walls 180 = .ok (.iload 6, 2) := by decide +kernel
theorem dX6_walls_182 : decode cX6_walls 182 = .ok (.invokevirtual 305, 3) := by decide +kernel
theorem dX6_walls_185 : decode cX6_walls 185 = .ok (.aload_n 0, 1) := by decide +kernel
theorem dX6_walls_186 : decode cX6_walls 186 = .ok (.iload 4, 2) := by decide +kernel
theorem dX6_walls_188 : decode cX6_walls 188 = .ok (.invokevirtual 305, 3) := by decide +kernel
theorem dX6_walls_191 : decode cX6_walls 191 = .ok (.if_icmp .lt 6, 3) := by decide +kernel
theorem dX6_walls_194 : decode cX6_walls 194 = .ok (.goto 11, 3) := by decide +kernel
theorem dX6_walls_197 : decode cX6_walls 197 = .ok (.iload 6, 2) := by decide +kernel
theorem dX6_walls_199 : decode cX6_walls 199 = .ok (.istore 4, 2) := by decide +kernel
theorem dX6_walls_201 : decode cX6_walls 201 = .ok (.iload 8, 2) := by decide +kernel
theorem dX6_walls_203 : decode cX6_walls 203 = .ok (.istore 5, 2) := by decide +kernel
theorem dX6_walls_205 : decode cX6_walls 205 = .ok (.iinc 6 1, 3) := by decide +kernel
theorem dX6_walls_208 : decode cX6_walls 208 = .ok (.goto (-139), 3) := by decide +kernel
theorem dX6_walls_211 : decode cX6_walls 211 = .ok (.iconst 0, 1) := by decide +kernel
theorem dX6_walls_212 : decode cX6_walls 212 = .ok (.istore 6, 2) := by decide +kernel
theorem dX6_walls_214 : decode cX6_walls 214 = .ok (.iload 6, 2) := by decide +kernel
theorem dX6_walls_216 : decode cX6_walls 216 = .ok (.aload_n 0, 1) := by decide +kernel
theorem dX6_walls_217 : decode cX6_walls 217 = .ok (.getfield 7, 3) := by decide +kernel
theorem dX6_walls_220 : decode cX6_walls 220 = .ok (.if_icmp .ge 22, 3) := by decide +kernel
theorem dX6_walls_223 : decode cX6_walls 223 = .ok (.aload_n 0, 1) := by decide +kernel
theorem dX6_walls_224 : decode cX6_walls 224 = .ok (.getfield 38, 3) := by decide +kernel
theorem dX6_walls_227 : decode cX6_walls 227 = .ok (.iload 6, 2) := by decide +kernel
theorem dX6_walls_229 : decode cX6_walls 229 = .ok (.iload_n 3, 1) := by decide +kernel
theorem dX6_walls_230 : decode cX6_walls 230 = .ok (.iload 6, 2) := by decide +kernel
theorem dX6_walls_232 : decode cX6_walls 232 = .ok (.ishr, 1) := by decide +kernel
theorem dX6_walls_233 : decode cX6_walls 233 = .ok (.iconst 1, 1) := by decide +kernel
theorem dX6_walls_234 : decode cX6_walls 234 = .ok (.iand, 1) := by decide +kernel
theorem dX6_walls_235 : decode cX6_walls 235 = .ok (.iastore, 1) := by decide +kernel
theorem dX6_walls_236 : decode cX6_walls 236 = .ok (.iinc 6 1, 3) := by decide +kernel
theorem dX6_walls_239 : decode cX6_walls 239 = .ok (.goto (-25), 3) := by decide +kernel
theorem dX6_walls_242 : decode cX6_walls 242 = .ok (.iload_n 2, 1) := by decide +kernel
theorem dX6_walls_243 : decode cX6_walls 243 = .ok (.ifCond .ne 8, 3) := by decide +kernel
theorem dX6_walls_246 : decode cX6_walls 246 = .ok (.iload 4, 2) := by decide +kernel
theorem dX6_walls_248 : decode cX6_walls 248 = .ok (.goto 5, 3) := by decide +kernel
theorem dX6_walls_251 : decode cX6_walls 251 = .ok (.iload 5, 2) := by decide +kernel
theorem dX6_walls_253 : decode cX6_walls 253 = .ok (.ireturn, 1) := by decide +kernel
set_option maxRecDepth 20000 in
theorem ggX6_pactValue_X6_rightOf : GoodIn wsX6_pactValue wsX6_rightOf := goodIn_r _ [7, 1, 41, 42, 43, 44, 45, 46, 47, 48, 49, 50, 51, 52, 53, 54, 55, 56, 57, 58, 59, 60, 61, 62, 63, 64, 65, 66, 67, 68, 69, 70, 71, 72, 73, 74, 75, 76, 77, 78, 79, 80, 81, 82, 83, 84, 85, 86, 87, 88, 89, 90, 91, 92, 93, 94, 95] (by decide +kernel) (by decide +kernel)
set_option maxRecDepth 20000 in
theorem gX6_pactValue_X6_rightOf : GoodIn wsX6_pactValue (wsV RX6 248 RX6 yX6_rightOf wsX6_rightOf) := goodIn_app (goodIn_of _ (by decide +kernel)) ggX6_pactValue_X6_rightOf
set_option maxRecDepth 20000 in
theorem ggX6_pactValue_X6_valueOf : GoodIn wsX6_pactValue wsX6_valueOf := goodIn_r _ [11, 12, 13, 2, 14, 15, 16, 17, 6, 18, 1, 3, 4, 5, 7, 19, 20, 21, 22, 23, 24, 25, 26, 27, 28, 29, 30, 31, 32, 33, 34, 35, 36, 37, 38, 39, 40, 41, 42, 43, 44, 45, 46, 47, 48, 49, 50, 51, 52, 53, 54, 55, 56, 57, 58, 59, 60, 61, 62, 63, 64, 65, 66, 67, 68, 69, 70, 71, 72, 73, 74, 75, 76, 77, 78, 79, 80, 81, 82, 83, 84, 85, 86, 87, 88, 89, 90, 91, 92, 93, 94, 95] (by decide +kernel) (by decide +kernel)
set_option maxRecDepth 20000 in
theorem gX6_pactValue_X6_valueOf : GoodIn wsX6_pactValue (wsV RX6 292 RX6 yX6_valueOf wsX6_valueOf) := goodIn_app (goodIn_of _ (by decide +kernel)) ggX6_pactValue_X6_valueOf
theorem dX6_pactValue_0 : decode cX6_pactValue 0 = .ok (.iconst 0, 1) := by decide +kernel
theorem dX6_pactValue_1 : decode cX6_pactValue 1 = .ok (.istore 4, 2) := by decide +kernel
theorem dX6_pactValue_3 : decode cX6_pactValue 3 = .ok (.iload 4, 2) := by decide +kernel
theorem dX6_pactValue_5 : decode cX6_pactValue 5 = .ok (.aload_n 0, 1) := by decide +kernel
theorem dX6_pactValue_6 : decode cX6_pactValue 6 = .ok (.getfield 7, 3) := by decide +kernel
theorem dX6_pactValue_9 : decode cX6_pactValue 9 = .ok (.if_icmp .ge 17, 3) := by decide +kernel
theorem dX6_pactValue_12 : decode cX6_pactValue 12 = .ok (.aload_n 0, 1) := by decide +kernel
theorem dX6_pactValue_13 : decode cX6_pactValue 13 = .ok (.getfield 99, 3) := by decide +kernel
theorem dX6_pactValue_16 : decode cX6_pactValue 16 = .ok (.iload 4, 2) := by decide +kernel
theorem dX6_pactValue_18 : decode cX6_pactValue 18 = .ok (.iconst 0, 1) := by decide +kernel
theorem dX6_pactValue_19 : decode cX6_pactValue 19 = .ok (.iastore, 1) := by decide +kernel
theorem dX6_pactValue_20 : decode cX6_pactValue 20 = .ok (.iinc 4 1, 3) := by decide +kernel
theorem dX6_pactValue_23 : decode cX6_pactValue 23 = .ok (.goto (-20), 3) := by decide +kernel
theorem dX6_pactValue_26 : decode cX6_pactValue 26 = .ok (.aload_n 0, 1) := by decide +kernel
theorem dX6_pactValue_27 : decode cX6_pactValue 27 = .ok (.getfield 99, 3) := by decide +kernel
theorem dX6_pactValue_30 : decode cX6_pactValue 30 = .ok (.aload_n 0, 1) := by decide +kernel
theorem dX6_pactValue_31 : decode cX6_pactValue 31 = .ok (.iload_n 1, 1) := by decide +kernel
theorem dX6_pactValue_32 : decode cX6_pactValue 32 = .ok (.invokevirtual 248, 3) := by decide +kernel
theorem dX6_pactValue_35 : decode cX6_pactValue 35 = .ok (.iload_n 3, 1) := by decide +kernel
theorem dX6_pactValue_36 : decode cX6_pactValue 36 = .ok (.iastore, 1) := by decide +kernel
theorem dX6_pactValue_37 : decode cX6_pactValue 37 = .ok (.aload_n 0, 1) := by decide +kernel
theorem dX6_pactValue_38 : decode cX6_pactValue 38 = .ok (.getfield 99, 3) := by decide +kernel
theorem dX6_pactValue_41 : decode cX6_pactValue 41 = .ok (.iload_n 1, 1) := by decide +kernel
theorem dX6_pactValue_42 : decode cX6_pactValue 42 = .ok (.iload_n 2, 1) := by decide +kernel
theorem dX6_pactValue_43 : decode cX6_pactValue 43 = .ok (.iastore, 1) := by decide +kernel
theorem dX6_pactValue_44 : decode cX6_pactValue 44 = .ok (.aload_n 0, 1) := by decide +kernel
theorem dX6_pactValue_45 : decode cX6_pactValue 45 = .ok (.iload_n 1, 1) := by decide +kernel
theorem dX6_pactValue_46 : decode cX6_pactValue 46 = .ok (.invokevirtual 292, 3) := by decide +kernel
theorem dX6_pactValue_49 : decode cX6_pactValue 49 = .ok (.ireturn, 1) := by decide +kernel
set_option maxRecDepth 20000 in
theorem ggX6_holds_X6_pactValue : GoodIn wsX6_holds wsX6_pactValue := goodIn_r _ [5, 6, 7, 8, 9, 10, 4, 11, 12, 13, 14, 15, 16, 17, 18, 19, 20, 21, 22, 23, 24, 25, 26, 27, 28, 29, 30, 31, 32, 33, 34, 35, 36, 37, 38, 39, 40, 41, 42, 43, 44, 45, 46, 47, 48, 49, 50, 51, 52, 53, 54, 55, 56, 57, 58, 59, 60, 61, 62, 63, 64, 65, 66, 67, 68, 69, 70, 71, 72, 73, 74, 75, 76, 77, 78, 79, 80, 81, 82, 83, 84, 85, 86, 87, 88, 89, 90, 91, 92, 93, 94, 95, 96, 97, 98, 99] (by decide +kernel) (by decide +kernel)
set_option maxRecDepth 20000 in
theorem gX6_holds_X6_pactValue : GoodIn wsX6_holds (wsV RX6 314 RX6 yX6_pactValue wsX6_pactValue) := goodIn_app (goodIn_of _ (by decide +kernel)) ggX6_holds_X6_pactValue
theorem dX6_holds_0 : decode cX6_holds 0 = .ok (.aload_n 0, 1) := by decide +kernel
theorem dX6_holds_1 : decode cX6_holds 1 = .ok (.iload_n 1, 1) := by decide +kernel
theorem dX6_holds_2 : decode cX6_holds 2 = .ok (.iconst 0, 1) := by decide +kernel
theorem dX6_holds_3 : decode cX6_holds 3 = .ok (.iconst 0, 1) := by decide +kernel
theorem dX6_holds_4 : decode cX6_holds 4 = .ok (.invokevirtual 314, 3) := by decide +kernel
theorem dX6_holds_7 : decode cX6_holds 7 = .ok (.istore_n 3, 1) := by decide +kernel
theorem dX6_holds_8 : decode cX6_holds 8 = .ok (.aload_n 0, 1) := by decide +kernel
theorem dX6_holds_9 : decode cX6_holds 9 = .ok (.iload_n 1, 1) := by decide +kernel
theorem dX6_holds_10 : decode cX6_holds 10 = .ok (.iconst 3, 1) := by decide +kernel
theorem dX6_holds_11 : decode cX6_holds 11 = .ok (.iconst 0, 1) := by decide +kernel
theorem dX6_holds_12 : decode cX6_holds 12 = .ok (.invokevirtual 314, 3) := by decide +kernel
theorem dX6_holds_15 : decode cX6_holds 15 = .ok (.iload_n 3, 1) := by decide +kernel
theorem dX6_holds_16 : decode cX6_holds 16 = .ok (.isub, 1) := by decide +kernel
theorem dX6_holds_17 : decode cX6_holds 17 = .ok (.i2l, 1) := by decide +kernel
theorem dX6_holds_18 : decode cX6_holds 18 = .ok (.lstore 4, 2) := by decide +kernel
theorem dX6_holds_20 : decode cX6_holds 20 = .ok (.iload_n 3, 1) := by decide +kernel
theorem dX6_holds_21 : decode cX6_holds 21 = .ok (.aload_n 0, 1) := by decide +kernel
theorem dX6_holds_22 : decode cX6_holds 22 = .ok (.iload_n 1, 1) := by decide +kernel
theorem dX6_holds_23 : decode cX6_holds 23 = .ok (.iconst 3, 1) := by decide +kernel
theorem dX6_holds_24 : decode cX6_holds 24 = .ok (.iconst 2, 1) := by decide +kernel
theorem dX6_holds_25 : decode cX6_holds 25 = .ok (.invokevirtual 314, 3) := by decide +kernel
theorem dX6_holds_28 : decode cX6_holds 28 = .ok (.isub, 1) := by decide +kernel
theorem dX6_holds_29 : decode cX6_holds 29 = .ok (.i2l, 1) := by decide +kernel
theorem dX6_holds_30 : decode cX6_holds 30 = .ok (.lstore 6, 2) := by decide +kernel
theorem dX6_holds_32 : decode cX6_holds 32 = .ok (.lload 4, 2) := by decide +kernel
theorem dX6_holds_34 : decode cX6_holds 34 = .ok (.sipush 1000, 3) := by decide +kernel
theorem dX6_holds_37 : decode cX6_holds 37 = .ok (.iload_n 2, 1) := by decide +kernel
theorem dX6_holds_38 : decode cX6_holds 38 = .ok (.isub, 1) := by decide +kernel
theorem dX6_holds_39 : decode cX6_holds 39 = .ok (.i2l, 1) := by decide +kernel
theorem dX6_holds_40 : decode cX6_holds 40 = .ok (.lmul, 1) := by decide +kernel
theorem dX6_holds_41 : decode cX6_holds 41 = .ok (.lload 6, 2) := by decide +kernel
theorem dX6_holds_43 : decode cX6_holds 43 = .ok (.iload_n 2, 1) := by decide +kernel
theorem dX6_holds_44 : decode cX6_holds 44 = .ok (.i2l, 1) := by decide +kernel
theorem dX6_holds_45 : decode cX6_holds 45 = .ok (.lmul, 1) := by decide +kernel
theorem dX6_holds_46 : decode cX6_holds 46 = .ok (.lcmp, 1) := by decide +kernel
theorem dX6_holds_47 : decode cX6_holds 47 = .ok (.ifCond .gt 7, 3) := by decide +kernel
theorem dX6_holds_50 : decode cX6_holds 50 = .ok (.iconst 1, 1) := by decide +kernel
theorem dX6_holds_51 : decode cX6_holds 51 = .ok (.goto 4, 3) := by decide +kernel
theorem dX6_holds_54 : decode cX6_holds 54 = .ok (.iconst 0, 1) := by decide +kernel
theorem dX6_holds_55 : decode cX6_holds 55 = .ok (.ireturn, 1) := by decide +kernel
set_option maxRecDepth 20000 in
theorem ggX6_pact_X6_isFarm : GoodIn wsX6_pact wsX6_isFarm := goodIn_r _ [6, 7, 58, 59, 60, 61, 62, 63, 64, 65, 66, 67, 68, 69, 70, 71, 72, 73, 74, 75, 76, 77, 78, 79, 80, 81, 82, 83, 84, 85, 86, 87, 88, 89, 90, 91, 92, 93, 94, 95, 96, 97, 98, 99, 100, 101, 102, 103, 104, 105, 106, 107, 108, 109, 110, 111, 112] (by decide +kernel) (by decide +kernel)
set_option maxRecDepth 20000 in
theorem gX6_pact_X6_isFarm : GoodIn wsX6_pact (wsV RX6 133 RX6 yX6_isFarm wsX6_isFarm) := goodIn_app (goodIn_of _ (by decide +kernel)) ggX6_pact_X6_isFarm
set_option maxRecDepth 20000 in
theorem ggX6_pact_X6_isIn : GoodIn wsX6_pact wsX6_isIn := goodIn_r _ [11] (by decide +kernel) (by decide +kernel)
set_option maxRecDepth 20000 in
theorem gX6_pact_X6_isIn : GoodIn wsX6_pact (wsV RX6 129 RX6 yX6_isIn wsX6_isIn) := goodIn_app (goodIn_of _ (by decide +kernel)) ggX6_pact_X6_isIn
set_option maxRecDepth 20000 in
theorem ggX6_pact_X6_holds : GoodIn wsX6_pact wsX6_holds := goodIn_r _ [15, 16, 17, 18, 5, 19, 7, 20, 21, 22, 23, 24, 25, 26, 27, 28, 29, 30, 31, 32, 33, 34, 35, 36, 37, 38, 39, 40, 41, 42, 43, 44, 45, 46, 47, 48, 49, 50, 51, 52, 53, 54, 55, 56, 57, 58, 59, 60, 61, 62, 63, 64, 65, 66, 67, 68, 69, 70, 71, 72, 73, 74, 75, 76, 77, 78, 79, 80, 81, 82, 83, 84, 85, 86, 87, 88, 89, 90, 91, 92, 93, 94, 95, 96, 97, 98, 99, 100, 101, 102, 103, 104, 105, 106, 107, 108, 109, 110, 111, 112] (by decide +kernel) (by decide +kernel)
set_option maxRecDepth 20000 in
theorem gX6_pact_X6_holds : GoodIn wsX6_pact (wsV RX6 317 RX6 yX6_holds wsX6_holds) := goodIn_app (goodIn_of _ (by decide +kernel)) ggX6_pact_X6_holds
theorem dX6_pact_0 : decode cX6_pact 0 = .ok (.aload_n 0, 1) := by decide +kernel
theorem dX6_pact_1 : decode cX6_pact 1 = .ok (.iconst 0, 1) := by decide +kernel
theorem dX6_pact_2 : decode cX6_pact 2 = .ok (.putfield 121, 3) := by decide +kernel
theorem dX6_pact_5 : decode cX6_pact 5 = .ok (.aload_n 0, 1) := by decide +kernel
theorem dX6_pact_6 : decode cX6_pact 6 = .ok (.iload_n 1, 1) := by decide +kernel
theorem dX6_pact_7 : decode cX6_pact 7 = .ok (.invokevirtual 133, 3) := by decide +kernel
theorem dX6_pact_10 : decode cX6_pact 10 = .ok (.ifCond .eq 15, 3) := by decide +kernel
theorem dX6_pact_13 : decode cX6_pact 13 = .ok (.aload_n 0, 1) := by decide +kernel
theorem dX6_pact_14 : decode cX6_pact 14 = .ok (.iload_n 2, 1) := by decide +kernel
theorem dX6_pact_15 : decode cX6_pact 15 = .ok (.iconst (-1), 1) := by decide +kernel
theorem dX6_pact_16 : decode cX6_pact 16 = .ok (.sipush 999, 3) := by decide +kernel
theorem dX6_pact_19 : decode cX6_pact 19 = .ok (.invokevirtual 129, 3) := by decide +kernel
theorem dX6_pact_22 : decode cX6_pact 22 = .ok (.ifCond .ne 5, 3) := by decide +kernel
theorem dX6_pact_25 : decode cX6_pact 25 = .ok (.iconst (-1), 1) := by decide +kernel
theorem dX6_pact_26 : decode cX6_pact 26 = .ok (.ireturn, 1) := by decide +kernel
theorem dX6_pact_27 : decode cX6_pact 27 = .ok (.iload_n 2, 1) := by decide +kernel
theorem dX6_pact_28 : decode cX6_pact 28 = .ok (.iconst (-1), 1) := by decide +kernel
theorem dX6_pact_29 : decode cX6_pact 29 = .ok (.if_icmp .eq 18, 3) := by decide +kernel
theorem dX6_pact_32 : decode cX6_pact 32 = .ok (.aload_n 0, 1) := by decide +kernel
theorem dX6_pact_33 : decode cX6_pact 33 = .ok (.iload_n 1, 1) := by decide +kernel
theorem dX6_pact_34 : decode cX6_pact 34 = .ok (.iload_n 2, 1) := by decide +kernel
theorem dX6_pact_35 : decode cX6_pact 35 = .ok (.invokevirtual 317, 3) := by decide +kernel
theorem dX6_pact_38 : decode cX6_pact 38 = .ok (.ifCond .eq 7, 3) := by decide +kernel
theorem dX6_pact_41 : decode cX6_pact 41 = .ok (.iconst 1, 1) := by decide +kernel
theorem dX6_pact_42 : decode cX6_pact 42 = .ok (.goto 4, 3) := by decide +kernel
theorem dX6_pact_45 : decode cX6_pact 45 = .ok (.iconst 0, 1) := by decide +kernel
theorem dX6_pact_46 : decode cX6_pact 46 = .ok (.ireturn, 1) := by decide +kernel
theorem dX6_pact_47 : decode cX6_pact 47 = .ok (.iconst 0, 1) := by decide +kernel
theorem dX6_pact_48 : decode cX6_pact 48 = .ok (.istore_n 3, 1) := by decide +kernel
theorem dX6_pact_49 : decode cX6_pact 49 = .ok (.iload_n 3, 1) := by decide +kernel
theorem dX6_pact_50 : decode cX6_pact 50 = .ok (.sipush 1000, 3) := by decide +kernel
theorem dX6_pact_53 : decode cX6_pact 53 = .ok (.if_icmp .ge 20, 3) := by decide +kernel
theorem dX6_pact_56 : decode cX6_pact 56 = .ok (.aload_n 0, 1) := by decide +kernel
theorem dX6_pact_57 : decode cX6_pact 57 = .ok (.iload_n 1, 1) := by decide +kernel
theorem dX6_pact_58 : decode cX6_pact 58 = .ok (.iload_n 3, 1) := by decide +kernel
theorem dX6_pact_59 : decode cX6_pact 59 = .ok (.invokevirtual 317, 3) := by decide +kernel
theorem dX6_pact_62 : decode cX6_pact 62 = .ok (.ifCond .eq 5, 3) := by decide +kernel
theorem dX6_pact_65 : decode cX6_pact 65 = .ok (.iload_n 3, 1) := by decide +kernel
theorem dX6_pact_66 : decode cX6_pact 66 = .ok (.ireturn, 1) := by decide +kernel
theorem dX6_pact_67 : decode cX6_pact 67 = .ok (.iinc 3 1, 3) := by decide +kernel
theorem dX6_pact_70 : decode cX6_pact 70 = .ok (.goto (-21), 3) := by decide +kernel
theorem dX6_pact_73 : decode cX6_pact 73 = .ok (.iconst (-1), 1) := by decide +kernel
theorem dX6_pact_74 : decode cX6_pact 74 = .ok (.ireturn, 1) := by decide +kernel
set_option maxRecDepth 20000 in
theorem ggX6_nextOf_X6_less : GoodIn wsX6_nextOf wsX6_less := goodIn_r _ [8] (by decide +kernel) (by decide +kernel)
set_option maxRecDepth 20000 in
theorem gX6_nextOf_X6_less : GoodIn wsX6_nextOf (wsV RX6 137 RX6 yX6_less wsX6_less) := goodIn_app (goodIn_of _ (by decide +kernel)) ggX6_nextOf_X6_less
theorem dX6_nextOf_0 : decode cX6_nextOf 0 = .ok (.aload_n 0, 1) := by decide +kernel
theorem dX6_nextOf_1 : decode cX6_nextOf 1 = .ok (.aload_n 0, 1) := by decide +kernel
theorem dX6_nextOf_2 : decode cX6_nextOf 2 = .ok (.getfield 53, 3) := by decide +kernel
theorem dX6_nextOf_5 : decode cX6_nextOf 5 = .ok (.bipush 9, 2) := by decide +kernel
theorem dX6_nextOf_7 : decode cX6_nextOf 7 = .ok (.iaload, 1) := by decide +kernel
theorem dX6_nextOf_8 : decode cX6_nextOf 8 = .ok (.iload_n 2, 1) := by decide +kernel
theorem dX6_nextOf_9 : decode cX6_nextOf 9 = .ok (.iload_n 1, 1) := by decide +kernel
theorem dX6_nextOf_10 : decode cX6_nextOf 10 = .ok (.isub, 1) := by decide +kernel
theorem dX6_nextOf_11 : decode cX6_nextOf 11 = .ok (.invokevirtual 137, 3) := by decide +kernel
theorem dX6_nextOf_14 : decode cX6_nextOf 14 = .ok (.istore 5, 2) := by decide +kernel
theorem dX6_nextOf_16 : decode cX6_nextOf 16 = .ok (.aload_n 0, 1) := by decide +kernel
theorem dX6_nextOf_17 : decode cX6_nextOf 17 = .ok (.aload_n 0, 1) := by decide +kernel
theorem dX6_nextOf_18 : decode cX6_nextOf 18 = .ok (.getfield 53, 3) := by decide +kernel
theorem dX6_nextOf_21 : decode cX6_nextOf 21 = .ok (.bipush 9, 2) := by decide +kernel
theorem dX6_nextOf_23 : decode cX6_nextOf 23 = .ok (.iaload, 1) := by decide +kernel
theorem dX6_nextOf_24 : decode cX6_nextOf 24 = .ok (.iload_n 1, 1) := by decide +kernel
theorem dX6_nextOf_25 : decode cX6_nextOf 25 = .ok (.invokevirtual 137, 3) := by decide +kernel
theorem dX6_nextOf_28 : decode cX6_nextOf 28 = .ok (.istore 6, 2) := by decide +kernel
theorem dX6_nextOf_30 : decode cX6_nextOf 30 = .ok (.iload_n 3, 1) := by decide +kernel
theorem dX6_nextOf_31 : decode cX6_nextOf 31 = .ok (.i2l, 1) := by decide +kernel
theorem dX6_nextOf_32 : decode cX6_nextOf 32 = .ok (.iload 4, 2) := by decide +kernel
theorem dX6_nextOf_34 : decode cX6_nextOf 34 = .ok (.i2l, 1) := by decide +kernel
theorem dX6_nextOf_35 : decode cX6_nextOf 35 = .ok (.lmul, 1) := by decide +kernel
theorem dX6_nextOf_36 : decode cX6_nextOf 36 = .ok (.aload_n 0, 1) := by decide +kernel
theorem dX6_nextOf_37 : decode cX6_nextOf 37 = .ok (.getfield 102, 3) := by decide +kernel
theorem dX6_nextOf_40 : decode cX6_nextOf 40 = .ok (.iload_n 3, 1) := by decide +kernel
theorem dX6_nextOf_41 : decode cX6_nextOf 41 = .ok (.ifCond .le 18, 3) := by decide +kernel
theorem dX6_nextOf_44 : decode cX6_nextOf 44 = .ok (.iload 4, 2) := by decide +kernel
theorem dX6_nextOf_46 : decode cX6_nextOf 46 = .ok (.ifCond .le 13, 3) := by decide +kernel
theorem dX6_nextOf_49 : decode cX6_nextOf 49 = .ok (.iload_n 1, 1) := by decide +kernel
theorem dX6_nextOf_50 : decode cX6_nextOf 50 = .ok (.iload 5, 2) := by decide +kernel
theorem dX6_nextOf_52 : decode cX6_nextOf 52 = .ok (.iadd, 1) := by decide +kernel
theorem dX6_nextOf_53 : decode cX6_nextOf 53 = .ok (.iload 6, 2) := by decide +kernel
theorem dX6_nextOf_55 : decode cX6_nextOf 55 = .ok (.isub, 1) := by decide +kernel
theorem dX6_nextOf_56 : decode cX6_nextOf 56 = .ok (.goto 4, 3) := by decide +kernel
theorem dX6_nextOf_59 : decode cX6_nextOf 59 = .ok (.iload_n 1, 1) := by decide +kernel
theorem dX6_nextOf_60 : decode cX6_nextOf 60 = .ok (.laload, 1) := by decide +kernel
theorem dX6_nextOf_61 : decode cX6_nextOf 61 = .ok (.lmul, 1) := by decide +kernel
theorem dX6_nextOf_62 : decode cX6_nextOf 62 = .ok (.lstore 7, 2) := by decide +kernel
theorem dX6_nextOf_64 : decode cX6_nextOf 64 = .ok (.lload 7, 2) := by decide +kernel
theorem dX6_nextOf_66 : decode cX6_nextOf 66 = .ok (.iload_n 3, 1) := by decide +kernel
theorem dX6_nextOf_67 : decode cX6_nextOf 67 = .ok (.i2l, 1) := by decide +kernel
theorem dX6_nextOf_68 : decode cX6_nextOf 68 = .ok (.sipush 1000, 3) := by decide +kernel
theorem dX6_nextOf_71 : decode cX6_nextOf 71 = .ok (.iload 4, 2) := by decide +kernel
theorem dX6_nextOf_73 : decode cX6_nextOf 73 = .ok (.isub, 1) := by decide +kernel
theorem dX6_nextOf_74 : decode cX6_nextOf 74 = .ok (.i2l, 1) := by decide +kernel
theorem dX6_nextOf_75 : decode cX6_nextOf 75 = .ok (.lmul, 1) := by decide +kernel
theorem dX6_nextOf_76 : decode cX6_nextOf 76 = .ok (.aload_n 0, 1) := by decide +kernel
theorem dX6_nextOf_77 : decode cX6_nextOf 77 = .ok (.getfield 102, 3) := by decide +kernel
theorem dX6_nextOf_80 : decode cX6_nextOf 80 = .ok (.iload_n 3, 1) := by decide +kernel
theorem dX6_nextOf_81 : decode cX6_nextOf 81 = .ok (.ifCond .le 10, 3) := by decide +kernel
theorem dX6_nextOf_84 : decode cX6_nextOf 84 = .ok (.iload_n 1, 1) := by decide +kernel
theorem dX6_nextOf_85 : decode cX6_nextOf 85 = .ok (.iload 5, 2) := by decide +kernel
theorem dX6_nextOf_87 : decode cX6_nextOf 87 = .ok (.iadd, 1) := by decide +kernel
theorem dX6_nextOf_88 : decode cX6_nextOf 88 = .ok (.goto 4, 3) := by decide +kernel
theorem dX6_nextOf_91 : decode cX6_nextOf 91 = .ok (.iload_n 1, 1) := by decide +kernel
theorem dX6_nextOf_92 : decode cX6_nextOf 92 = .ok (.laload, 1) := by decide +kernel
theorem dX6_nextOf_93 : decode cX6_nextOf 93 = .ok (.lmul, 1) := by decide +kernel
theorem dX6_nextOf_94 : decode cX6_nextOf 94 = .ok (.ladd, 1) := by decide +kernel
theorem dX6_nextOf_95 : decode cX6_nextOf 95 = .ok (.lstore 7, 2) := by decide +kernel
theorem dX6_nextOf_97 : decode cX6_nextOf 97 = .ok (.lload 7, 2) := by decide +kernel
theorem dX6_nextOf_99 : decode cX6_nextOf 99 = .ok (.sipush 1000, 3) := by decide +kernel
theorem dX6_nextOf_102 : decode cX6_nextOf 102 = .ok (.iload_n 3, 1) := by decide +kernel
theorem dX6_nextOf_103 : decode cX6_nextOf 103 = .ok (.isub, 1) := by decide +kernel
theorem dX6_nextOf_104 : decode cX6_nextOf 104 = .ok (.i2l, 1) := by decide +kernel
theorem dX6_nextOf_105 : decode cX6_nextOf 105 = .ok (.iload 4, 2) := by decide +kernel
theorem dX6_nextOf_107 : decode cX6_nextOf 107 = .ok (.i2l, 1) := by decide +kernel
theorem dX6_nextOf_108 : decode cX6_nextOf 108 = .ok (.lmul, 1) := by decide +kernel
theorem dX6_nextOf_109 : decode cX6_nextOf 109 = .ok (.aload_n 0, 1) := by decide +kernel
theorem dX6_nextOf_110 : decode cX6_nextOf 110 = .ok (.getfield 102, 3) := by decide +kernel
theorem dX6_nextOf_113 : decode cX6_nextOf 113 = .ok (.iload 4, 2) := by decide +kernel
theorem dX6_nextOf_115 : decode cX6_nextOf 115 = .ok (.ifCond .le 10, 3) := by decide +kernel
theorem dX6_nextOf_118 : decode cX6_nextOf 118 = .ok (.iload_n 1, 1) := by decide +kernel
theorem dX6_nextOf_119 : decode cX6_nextOf 119 = .ok (.iload 6, 2) := by decide +kernel
theorem dX6_nextOf_121 : decode cX6_nextOf 121 = .ok (.isub, 1) := by decide +kernel
theorem dX6_nextOf_122 : decode cX6_nextOf 122 = .ok (.goto 4, 3) := by decide +kernel
theorem dX6_nextOf_125 : decode cX6_nextOf 125 = .ok (.iload_n 1, 1) := by decide +kernel
theorem dX6_nextOf_126 : decode cX6_nextOf 126 = .ok (.laload, 1) := by decide +kernel
theorem dX6_nextOf_127 : decode cX6_nextOf 127 = .ok (.lmul, 1) := by decide +kernel
theorem dX6_nextOf_128 : decode cX6_nextOf 128 = .ok (.ladd, 1) := by decide +kernel
theorem dX6_nextOf_129 : decode cX6_nextOf 129 = .ok (.lstore 7, 2) := by decide +kernel
theorem dX6_nextOf_131 : decode cX6_nextOf 131 = .ok (.lload 7, 2) := by decide +kernel
theorem dX6_nextOf_133 : decode cX6_nextOf 133 = .ok (.sipush 1000, 3) := by decide +kernel
theorem dX6_nextOf_136 : decode cX6_nextOf 136 = .ok (.iload_n 3, 1) := by decide +kernel
theorem dX6_nextOf_137 : decode cX6_nextOf 137 = .ok (.isub, 1) := by decide +kernel
theorem dX6_nextOf_138 : decode cX6_nextOf 138 = .ok (.i2l, 1) := by decide +kernel
theorem dX6_nextOf_139 : decode cX6_nextOf 139 = .ok (.sipush 1000, 3) := by decide +kernel
theorem dX6_nextOf_142 : decode cX6_nextOf 142 = .ok (.iload 4, 2) := by decide +kernel
theorem dX6_nextOf_144 : decode cX6_nextOf 144 = .ok (.isub, 1) := by decide +kernel
theorem dX6_nextOf_145 : decode cX6_nextOf 145 = .ok (.i2l, 1) := by decide +kernel
theorem dX6_nextOf_146 : decode cX6_nextOf 146 = .ok (.lmul, 1) := by decide +kernel
theorem dX6_nextOf_147 : decode cX6_nextOf 147 = .ok (.aload_n 0, 1) := by decide +kernel
theorem dX6_nextOf_148 : decode cX6_nextOf 148 = .ok (.getfield 102, 3) := by decide +kernel
theorem dX6_nextOf_151 : decode cX6_nextOf 151 = .ok (.iload_n 1, 1) := by decide +kernel
theorem dX6_nextOf_152 : decode cX6_nextOf 152 = .ok (.laload, 1) := by decide +kernel
theorem dX6_nextOf_153 : decode cX6_nextOf 153 = .ok (.lmul, 1) := by decide +kernel
theorem dX6_nextOf_154 : decode cX6_nextOf 154 = .ok (.ladd, 1) := by decide +kernel
theorem dX6_nextOf_155 : decode cX6_nextOf 155 = .ok (.lstore 7, 2) := by decide +kernel
theorem dX6_nextOf_157 : decode cX6_nextOf 157 = .ok (.lload 7, 2) := by decide +kernel
theorem dX6_nextOf_159 : decode cX6_nextOf 159 = .ok (.ldc2_w 321, 3) := by decide +kernel
theorem dX6_nextOf_162 : decode cX6_nextOf 162 = .ok (.ldiv, 1) := by decide +kernel
theorem dX6_nextOf_163 : decode cX6_nextOf 163 = .ok (.lstore 9, 2) := by decide +kernel
theorem dX6_nextOf_165 : decode cX6_nextOf 165 = .ok (.lload 7, 2) := by decide +kernel
theorem dX6_nextOf_167 : decode cX6_nextOf 167 = .ok (.ldc2_w 321, 3) := by decide +kernel
theorem dX6_nextOf_170 : decode cX6_nextOf 170 = .ok (.lrem, 1) := by decide +kernel
theorem dX6_nextOf_171 : decode cX6_nextOf 171 = .ok (.lconst 0, 1) := by decide +kernel
theorem dX6_nextOf_172 : decode cX6_nextOf 172 = .ok (.lcmp, 1) := by decide +kernel
theorem dX6_nextOf_173 : decode cX6_nextOf 173 = .ok (.ifCond .eq 17, 3) := by decide +kernel
theorem dX6_nextOf_176 : decode cX6_nextOf 176 = .ok (.lload 7, 2) := by decide +kernel
theorem dX6_nextOf_178 : decode cX6_nextOf 178 = .ok (.lconst 0, 1) := by decide +kernel
theorem dX6_nextOf_179 : decode cX6_nextOf 179 = .ok (.lcmp, 1) := by decide +kernel
theorem dX6_nextOf_180 : decode cX6_nextOf 180 = .ok (.ifCond .ge 10, 3) := by decide +kernel
theorem dX6_nextOf_183 : decode cX6_nextOf 183 = .ok (.lload 9, 2) := by decide +kernel
theorem dX6_nextOf_185 : decode cX6_nextOf 185 = .ok (.lconst 1, 1) := by decide +kernel
theorem dX6_nextOf_186 : decode cX6_nextOf 186 = .ok (.lsub, 1) := by decide +kernel
theorem dX6_nextOf_187 : decode cX6_nextOf 187 = .ok (.goto 5, 3) := by decide +kernel
theorem dX6_nextOf_190 : decode cX6_nextOf 190 = .ok (.lload 9, 2) := by decide +kernel
theorem dX6_nextOf_192 : decode cX6_nextOf 192 = .ok (.lreturn, 1) := by decide +kernel
theorem dX6_lowered_0 : decode cX6_lowered 0 = .ok (.lload_n 1, 1) := by decide +kernel
theorem dX6_lowered_1 : decode cX6_lowered 1 = .ok (.lload_n 3, 1) := by decide +kernel
theorem dX6_lowered_2 : decode cX6_lowered 2 = .ok (.ldiv, 1) := by decide +kernel
theorem dX6_lowered_3 : decode cX6_lowered 3 = .ok (.lstore 5, 2) := by decide +kernel
theorem dX6_lowered_5 : decode cX6_lowered 5 = .ok (.lload_n 1, 1) := by decide +kernel
theorem dX6_lowered_6 : decode cX6_lowered 6 = .ok (.lload_n 3, 1) := by decide +kernel
theorem dX6_lowered_7 : decode cX6_lowered 7 = .ok (.lrem, 1) := by decide +kernel
theorem dX6_lowered_8 : decode cX6_lowered 8 = .ok (.lconst 0, 1) := by decide +kernel
theorem dX6_lowered_9 : decode cX6_lowered 9 = .ok (.lcmp, 1) := by decide +kernel
theorem dX6_lowered_10 : decode cX6_lowered 10 = .ok (.ifCond .eq 16, 3) := by decide +kernel
theorem dX6_lowered_13 : decode cX6_lowered 13 = .ok (.lload_n 1, 1) := by decide +kernel
theorem dX6_lowered_14 : decode cX6_lowered 14 = .ok (.lconst 0, 1) := by decide +kernel
theorem dX6_lowered_15 : decode cX6_lowered 15 = .ok (.lcmp, 1) := by decide +kernel
theorem dX6_lowered_16 : decode cX6_lowered 16 = .ok (.ifCond .ge 10, 3) := by decide +kernel
