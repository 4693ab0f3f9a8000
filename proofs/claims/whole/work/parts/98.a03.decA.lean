theorem dX0_init_0 : decode cX0_init 0 = .ok (.aload_n 0, 1) := by decide +kernel
theorem dX0_init_1 : decode cX0_init 1 = .ok (.invokespecial 3, 3) := by decide +kernel
theorem dX0_init_4 : decode cX0_init 4 = .ok (.aload_n 0, 1) := by decide +kernel
theorem dX0_init_5 : decode cX0_init 5 = .ok (.iconst 0, 1) := by decide +kernel
theorem dX0_init_6 : decode cX0_init 6 = .ok (.putfield 9, 3) := by decide +kernel
theorem dX0_init_9 : decode cX0_init 9 = .ok (.aload_n 0, 1) := by decide +kernel
theorem dX0_init_10 : decode cX0_init 10 = .ok (.iconst (-1), 1) := by decide +kernel
theorem dX0_init_11 : decode cX0_init 11 = .ok (.putfield 15, 3) := by decide +kernel
theorem dX0_init_14 : decode cX0_init 14 = .ok (.aload_n 0, 1) := by decide +kernel
theorem dX0_init_15 : decode cX0_init 15 = .ok (.iconst (-1), 1) := by decide +kernel
theorem dX0_init_16 : decode cX0_init 16 = .ok (.putfield 18, 3) := by decide +kernel
theorem dX0_init_19 : decode cX0_init 19 = .ok (.aload_n 0, 1) := by decide +kernel
theorem dX0_init_20 : decode cX0_init 20 = .ok (.iconst 0, 1) := by decide +kernel
theorem dX0_init_21 : decode cX0_init 21 = .ok (.putfield 21, 3) := by decide +kernel
theorem dX0_init_24 : decode cX0_init 24 = .ok (.aload_n 0, 1) := by decide +kernel
theorem dX0_init_25 : decode cX0_init 25 = .ok (.iconst 0, 1) := by decide +kernel
theorem dX0_init_26 : decode cX0_init 26 = .ok (.putfield 24, 3) := by decide +kernel
theorem dX0_init_29 : decode cX0_init 29 = .ok (.aload_n 0, 1) := by decide +kernel
theorem dX0_init_30 : decode cX0_init 30 = .ok (.iconst 0, 1) := by decide +kernel
theorem dX0_init_31 : decode cX0_init 31 = .ok (.putfield 27, 3) := by decide +kernel
theorem dX0_init_34 : decode cX0_init 34 = .ok (.aload_n 0, 1) := by decide +kernel
theorem dX0_init_35 : decode cX0_init 35 = .ok (.bipush 6, 2) := by decide +kernel
theorem dX0_init_37 : decode cX0_init 37 = .ok (.bipush 64, 2) := by decide +kernel
theorem dX0_init_39 : decode cX0_init 39 = .ok (.multianewarray 30 2, 4) := by decide +kernel
theorem dX0_init_43 : decode cX0_init 43 = .ok (.putfield 32, 3) := by decide +kernel
theorem dX0_init_46 : decode cX0_init 46 = .ok (.aload_n 0, 1) := by decide +kernel
theorem dX0_init_47 : decode cX0_init 47 = .ok (.bipush 6, 2) := by decide +kernel
theorem dX0_init_49 : decode cX0_init 49 = .ok (.bipush 16, 2) := by decide +kernel
theorem dX0_init_51 : decode cX0_init 51 = .ok (.multianewarray 30 2, 4) := by decide +kernel
theorem dX0_init_55 : decode cX0_init 55 = .ok (.putfield 35, 3) := by decide +kernel
theorem dX0_init_58 : decode cX0_init 58 = .ok (.aload_n 0, 1) := by decide +kernel
theorem dX0_init_59 : decode cX0_init 59 = .ok (.iconst 0, 1) := by decide +kernel
theorem dX0_init_60 : decode cX0_init 60 = .ok (.putfield 38, 3) := by decide +kernel
theorem dX0_init_63 : decode cX0_init 63 = .ok (.aload_n 0, 1) := by decide +kernel
theorem dX0_init_64 : decode cX0_init 64 = .ok (.iconst 0, 1) := by decide +kernel
theorem dX0_init_65 : decode cX0_init 65 = .ok (.putfield 41, 3) := by decide +kernel
theorem dX0_init_68 : decode cX0_init 68 = .ok (.aload_n 0, 1) := by decide +kernel
theorem dX0_init_69 : decode cX0_init 69 = .ok (.iconst 0, 1) := by decide +kernel
theorem dX0_init_70 : decode cX0_init 70 = .ok (.putfield 44, 3) := by decide +kernel
theorem dX0_init_73 : decode cX0_init 73 = .ok (.aload_n 0, 1) := by decide +kernel
theorem dX0_init_74 : decode cX0_init 74 = .ok (.iconst 0, 1) := by decide +kernel
theorem dX0_init_75 : decode cX0_init 75 = .ok (.putfield 47, 3) := by decide +kernel
theorem dX0_init_78 : decode cX0_init 78 = .ok (.return_, 1) := by decide +kernel
theorem dX0_digit_0 : decode cX0_digit 0 = .ok (.iload_n 1, 1) := by decide +kernel
theorem dX0_digit_1 : decode cX0_digit 1 = .ok (.iconst 2, 1) := by decide +kernel
theorem dX0_digit_2 : decode cX0_digit 2 = .ok (.aload_n 0, 1) := by decide +kernel
theorem dX0_digit_3 : decode cX0_digit 3 = .ok (.getfield 50, 3) := by decide +kernel
theorem dX0_digit_6 : decode cX0_digit 6 = .ok (.iconst 1, 1) := by decide +kernel
theorem dX0_digit_7 : decode cX0_digit 7 = .ok (.isub, 1) := by decide +kernel
theorem dX0_digit_8 : decode cX0_digit 8 = .ok (.iload_n 2, 1) := by decide +kernel
theorem dX0_digit_9 : decode cX0_digit 9 = .ok (.isub, 1) := by decide +kernel
theorem dX0_digit_10 : decode cX0_digit 10 = .ok (.imul, 1) := by decide +kernel
theorem dX0_digit_11 : decode cX0_digit 11 = .ok (.ishr, 1) := by decide +kernel
theorem dX0_digit_12 : decode cX0_digit 12 = .ok (.iconst 3, 1) := by decide +kernel
theorem dX0_digit_13 : decode cX0_digit 13 = .ok (.iand, 1) := by decide +kernel
theorem dX0_digit_14 : decode cX0_digit 14 = .ok (.ireturn, 1) := by decide +kernel
set_option maxRecDepth 20000 in
theorem ggX0_meanInRow_X4_leftOf : GoodIn wsX0_meanInRow wsX4_leftOf := goodIn_r _ [5, 6, 52, 53, 54, 55, 56, 57, 58, 59, 60, 61, 62, 63] rfl (by decide +kernel)
set_option maxRecDepth 20000 in
theorem gX0_meanInRow_X4_leftOf : GoodIn wsX0_meanInRow (wsV RX0 55 RX4 yX4_leftOf wsX4_leftOf) := goodIn_app (goodIn_of _ (by decide +kernel)) ggX0_meanInRow_X4_leftOf
set_option maxRecDepth 20000 in
theorem ggX0_meanInRow_X0_digit : GoodIn wsX0_meanInRow wsX0_digit := goodIn_r _ [10, 11, 52, 53, 54, 55, 56, 57, 58, 59, 60, 61, 62, 63] rfl (by decide +kernel)
set_option maxRecDepth 20000 in
theorem gX0_meanInRow_X0_digit : GoodIn wsX0_meanInRow (va_wsS RX0 59 yX0_digit wsX0_digit) := goodIn_app (goodIn_of _ (by decide +kernel)) ggX0_meanInRow_X0_digit
set_option maxRecDepth 20000 in
theorem ggX0_meanInRow_X4_rightOf : GoodIn wsX0_meanInRow wsX4_rightOf := goodIn_r _ [15, 6, 52, 53, 54, 55, 56, 57, 58, 59, 60, 61, 62, 63] rfl (by decide +kernel)
set_option maxRecDepth 20000 in
theorem gX0_meanInRow_X4_rightOf : GoodIn wsX0_meanInRow (wsV RX0 63 RX4 yX4_rightOf wsX4_rightOf) := goodIn_app (goodIn_of _ (by decide +kernel)) ggX0_meanInRow_X4_rightOf
set_option maxRecDepth 20000 in
theorem ggX0_meanInRow_X0_mean : GoodIn wsX0_meanInRow wsX0_mean := goodIn_r _ [18, 19, 20, 21, 4, 22, 23, 24, 1, 2, 3, 5, 6, 25, 26, 9, 27, 28, 29, 30, 31, 32, 33, 34, 35, 36, 37, 38, 39, 40, 41, 42, 43, 44, 45, 46, 47, 48, 12, 13, 14, 15, 49, 50, 51, 52, 53, 54, 55, 56, 57, 58, 59, 60, 61, 62, 63] rfl (by decide +kernel)
set_option maxRecDepth 20000 in
theorem gX0_meanInRow_X0_mean : GoodIn wsX0_meanInRow (va_wsS RX0 66 yX0_mean wsX0_mean) := goodIn_app (goodIn_of _ (by decide +kernel)) ggX0_meanInRow_X0_mean
theorem dX0_meanInRow_0 : decode cX0_meanInRow 0 = .ok (.aload_n 0, 1) := by decide +kernel
theorem dX0_meanInRow_1 : decode cX0_meanInRow 1 = .ok (.iload_n 2, 1) := by decide +kernel
theorem dX0_meanInRow_2 : decode cX0_meanInRow 2 = .ok (.aload_n 0, 1) := by decide +kernel
theorem dX0_meanInRow_3 : decode cX0_meanInRow 3 = .ok (.iload_n 1, 1) := by decide +kernel
theorem dX0_meanInRow_4 : decode cX0_meanInRow 4 = .ok (.aload_n 0, 1) := by decide +kernel
theorem dX0_meanInRow_5 : decode cX0_meanInRow 5 = .ok (.iload_n 2, 1) := by decide +kernel
theorem dX0_meanInRow_6 : decode cX0_meanInRow 6 = .ok (.invokevirtual 55, 3) := by decide +kernel
theorem dX0_meanInRow_9 : decode cX0_meanInRow 9 = .ok (.invokestatic 59, 3) := by decide +kernel
theorem dX0_meanInRow_12 : decode cX0_meanInRow 12 = .ok (.aload_n 0, 1) := by decide +kernel
theorem dX0_meanInRow_13 : decode cX0_meanInRow 13 = .ok (.iload_n 1, 1) := by decide +kernel
theorem dX0_meanInRow_14 : decode cX0_meanInRow 14 = .ok (.iload_n 2, 1) := by decide +kernel
theorem dX0_meanInRow_15 : decode cX0_meanInRow 15 = .ok (.invokestatic 59, 3) := by decide +kernel
theorem dX0_meanInRow_18 : decode cX0_meanInRow 18 = .ok (.aload_n 0, 1) := by decide +kernel
theorem dX0_meanInRow_19 : decode cX0_meanInRow 19 = .ok (.iload_n 1, 1) := by decide +kernel
theorem dX0_meanInRow_20 : decode cX0_meanInRow 20 = .ok (.aload_n 0, 1) := by decide +kernel
theorem dX0_meanInRow_21 : decode cX0_meanInRow 21 = .ok (.iload_n 2, 1) := by decide +kernel
theorem dX0_meanInRow_22 : decode cX0_meanInRow 22 = .ok (.invokevirtual 63, 3) := by decide +kernel
theorem dX0_meanInRow_25 : decode cX0_meanInRow 25 = .ok (.invokestatic 59, 3) := by decide +kernel
theorem dX0_meanInRow_28 : decode cX0_meanInRow 28 = .ok (.invokestatic 66, 3) := by decide +kernel
theorem dX0_meanInRow_31 : decode cX0_meanInRow 31 = .ok (.ireturn, 1) := by decide +kernel
set_option maxRecDepth 20000 in
theorem ggX0_bestDoing_X4_leftOf : GoodIn wsX0_bestDoing wsX4_leftOf := goodIn_r _ [5, 6, 52, 53, 54, 55, 56, 57, 58, 59, 60, 61, 62, 63] rfl (by decide +kernel)
set_option maxRecDepth 20000 in
theorem gX0_bestDoing_X4_leftOf : GoodIn wsX0_bestDoing (wsV RX0 55 RX4 yX4_leftOf wsX4_leftOf) := goodIn_app (goodIn_of _ (by decide +kernel)) ggX0_bestDoing_X4_leftOf
set_option maxRecDepth 20000 in
theorem ggX0_bestDoing_X0_digit : GoodIn wsX0_bestDoing wsX0_digit := goodIn_r _ [10, 11, 52, 53, 54, 55, 56, 57, 58, 59, 60, 61, 62, 63] rfl (by decide +kernel)
set_option maxRecDepth 20000 in
theorem gX0_bestDoing_X0_digit : GoodIn wsX0_bestDoing (va_wsS RX0 59 yX0_digit wsX0_digit) := goodIn_app (goodIn_of _ (by decide +kernel)) ggX0_bestDoing_X0_digit
set_option maxRecDepth 20000 in
theorem ggX0_bestDoing_X4_rightOf : GoodIn wsX0_bestDoing wsX4_rightOf := goodIn_r _ [15, 6, 52, 53, 54, 55, 56, 57, 58, 59, 60, 61, 62, 63] rfl (by decide +kernel)
set_option maxRecDepth 20000 in
theorem gX0_bestDoing_X4_rightOf : GoodIn wsX0_bestDoing (wsV RX0 63 RX4 yX4_rightOf wsX4_rightOf) := goodIn_app (goodIn_of _ (by decide +kernel)) ggX0_bestDoing_X4_rightOf
set_option maxRecDepth 20000 in
theorem ggX0_bestDoing_X0_mean : GoodIn wsX0_bestDoing wsX0_mean := goodIn_r _ [18, 19, 20, 21, 4, 22, 23, 24, 1, 2, 3, 5, 6, 25, 26, 9, 27, 28, 29, 30, 31, 32, 33, 34, 35, 36, 37, 38, 39, 40, 41, 42, 43, 44, 45, 46, 47, 48, 12, 13, 14, 15, 49, 50, 51, 52, 53, 54, 55, 56, 57, 58, 59, 60, 61, 62, 63] rfl (by decide +kernel)
set_option maxRecDepth 20000 in
theorem gX0_bestDoing_X0_mean : GoodIn wsX0_bestDoing (va_wsS RX0 66 yX0_mean wsX0_mean) := goodIn_app (goodIn_of _ (by decide +kernel)) ggX0_bestDoing_X0_mean
theorem dX0_bestDoing_0 : decode cX0_bestDoing 0 = .ok (.aload_n 0, 1) := by decide +kernel
theorem dX0_bestDoing_1 : decode cX0_bestDoing 1 = .ok (.iload_n 1, 1) := by decide +kernel
theorem dX0_bestDoing_2 : decode cX0_bestDoing 2 = .ok (.aload_n 0, 1) := by decide +kernel
theorem dX0_bestDoing_3 : decode cX0_bestDoing 3 = .ok (.iload_n 2, 1) := by decide +kernel
theorem dX0_bestDoing_4 : decode cX0_bestDoing 4 = .ok (.invokevirtual 55, 3) := by decide +kernel
theorem dX0_bestDoing_7 : decode cX0_bestDoing 7 = .ok (.invokestatic 59, 3) := by decide +kernel
theorem dX0_bestDoing_10 : decode cX0_bestDoing 10 = .ok (.istore_n 3, 1) := by decide +kernel
theorem dX0_bestDoing_11 : decode cX0_bestDoing 11 = .ok (.aload_n 0, 1) := by decide +kernel
theorem dX0_bestDoing_12 : decode cX0_bestDoing 12 = .ok (.iload_n 1, 1) := by decide +kernel
theorem dX0_bestDoing_13 : decode cX0_bestDoing 13 = .ok (.aload_n 0, 1) := by decide +kernel
theorem dX0_bestDoing_14 : decode cX0_bestDoing 14 = .ok (.iload_n 2, 1) := by decide +kernel
theorem dX0_bestDoing_15 : decode cX0_bestDoing 15 = .ok (.invokevirtual 63, 3) := by decide +kernel
theorem dX0_bestDoing_18 : decode cX0_bestDoing 18 = .ok (.invokestatic 59, 3) := by decide +kernel
theorem dX0_bestDoing_21 : decode cX0_bestDoing 21 = .ok (.istore 4, 2) := by decide +kernel
theorem dX0_bestDoing_23 : decode cX0_bestDoing 23 = .ok (.iconst 0, 1) := by decide +kernel
theorem dX0_bestDoing_24 : decode cX0_bestDoing 24 = .ok (.istore 5, 2) := by decide +kernel
theorem dX0_bestDoing_26 : decode cX0_bestDoing 26 = .ok (.aload_n 0, 1) := by decide +kernel
theorem dX0_bestDoing_27 : decode cX0_bestDoing 27 = .ok (.iload_n 2, 1) := by decide +kernel
theorem dX0_bestDoing_28 : decode cX0_bestDoing 28 = .ok (.iload_n 3, 1) := by decide +kernel
theorem dX0_bestDoing_29 : decode cX0_bestDoing 29 = .ok (.iconst 0, 1) := by decide +kernel
theorem dX0_bestDoing_30 : decode cX0_bestDoing 30 = .ok (.iload 4, 2) := by decide +kernel
theorem dX0_bestDoing_32 : decode cX0_bestDoing 32 = .ok (.invokestatic 66, 3) := by decide +kernel
theorem dX0_bestDoing_35 : decode cX0_bestDoing 35 = .ok (.istore 6, 2) := by decide +kernel
theorem dX0_bestDoing_37 : decode cX0_bestDoing 37 = .ok (.iconst 1, 1) := by decide +kernel
theorem dX0_bestDoing_38 : decode cX0_bestDoing 38 = .ok (.istore 7, 2) := by decide +kernel
theorem dX0_bestDoing_40 : decode cX0_bestDoing 40 = .ok (.iload 7, 2) := by decide +kernel
theorem dX0_bestDoing_42 : decode cX0_bestDoing 42 = .ok (.iconst 4, 1) := by decide +kernel
theorem dX0_bestDoing_43 : decode cX0_bestDoing 43 = .ok (.if_icmp .ge 36, 3) := by decide +kernel
theorem dX0_bestDoing_46 : decode cX0_bestDoing 46 = .ok (.aload_n 0, 1) := by decide +kernel
theorem dX0_bestDoing_47 : decode cX0_bestDoing 47 = .ok (.iload_n 2, 1) := by decide +kernel
theorem dX0_bestDoing_48 : decode cX0_bestDoing 48 = .ok (.iload_n 3, 1) := by decide +kernel
theorem dX0_bestDoing_49 : decode cX0_bestDoing 49 = .ok (.iload 7, 2) := by decide +kernel
theorem dX0_bestDoing_51 : decode cX0_bestDoing 51 = .ok (.iload 4, 2) := by decide +kernel
theorem dX0_bestDoing_53 : decode cX0_bestDoing 53 = .ok (.invokestatic 66, 3) := by decide +kernel
theorem dX0_bestDoing_56 : decode cX0_bestDoing 56 = .ok (.istore 8, 2) := by decide +kernel
theorem dX0_bestDoing_58 : decode cX0_bestDoing 58 = .ok (.iload 8, 2) := by decide +kernel
theorem dX0_bestDoing_60 : decode cX0_bestDoing 60 = .ok (.iload 6, 2) := by decide +kernel
theorem dX0_bestDoing_62 : decode cX0_bestDoing 62 = .ok (.if_icmp .le 11, 3) := by decide +kernel
theorem dX0_bestDoing_65 : decode cX0_bestDoing 65 = .ok (.iload 7, 2) := by decide +kernel
theorem dX0_bestDoing_67 : decode cX0_bestDoing 67 = .ok (.istore 5, 2) := by decide +kernel
theorem dX0_bestDoing_69 : decode cX0_bestDoing 69 = .ok (.iload 8, 2) := by decide +kernel
theorem dX0_bestDoing_71 : decode cX0_bestDoing 71 = .ok (.istore 6, 2) := by decide +kernel
theorem dX0_bestDoing_73 : decode cX0_bestDoing 73 = .ok (.iinc 7 1, 3) := by decide +kernel
theorem dX0_bestDoing_76 : decode cX0_bestDoing 76 = .ok (.goto (-36), 3) := by decide +kernel
theorem dX0_bestDoing_79 : decode cX0_bestDoing 79 = .ok (.iload 5, 2) := by decide +kernel
theorem dX0_bestDoing_81 : decode cX0_bestDoing 81 = .ok (.ireturn, 1) := by decide +kernel
set_option maxRecDepth 20000 in
theorem ggX0_mean_X4_costOf : GoodIn wsX0_mean wsX4_costOf := goodIn_r _ [5, 6, 7, 45, 46, 47, 48, 49, 50, 51, 52, 53, 54, 55, 56] rfl (by decide +kernel)
set_option maxRecDepth 20000 in
theorem gX0_mean_X4_costOf : GoodIn wsX0_mean (wsV RX0 70 RX4 yX4_costOf wsX4_costOf) := goodIn_app (goodIn_of _ (by decide +kernel)) ggX0_mean_X4_costOf
set_option maxRecDepth 20000 in
theorem ggX0_mean_X4_leftOf : GoodIn wsX0_mean wsX4_leftOf := goodIn_r _ [11, 12, 45, 46, 47, 48, 49, 50, 51, 52, 53, 54, 55, 56] rfl (by decide +kernel)
set_option maxRecDepth 20000 in
theorem gX0_mean_X4_leftOf : GoodIn wsX0_mean (wsV RX0 55 RX4 yX4_leftOf wsX4_leftOf) := goodIn_app (goodIn_of _ (by decide +kernel)) ggX0_mean_X4_leftOf
set_option maxRecDepth 20000 in
theorem ggX0_mean_X0_gain : GoodIn wsX0_mean wsX0_gain := goodIn_r _ [16, 17, 18, 19, 20, 21, 22, 23, 24, 15, 25, 26, 27, 28, 29, 30, 31, 32, 4, 33, 7, 34, 35, 36, 37, 45, 46, 47, 48, 49, 50, 51, 52, 53, 54, 55, 56] rfl (by decide +kernel)
set_option maxRecDepth 20000 in
theorem gX0_mean_X0_gain : GoodIn wsX0_mean (va_wsS RX0 74 yX0_gain wsX0_gain) := goodIn_app (goodIn_of _ (by decide +kernel)) ggX0_mean_X0_gain
set_option maxRecDepth 20000 in
theorem ggX0_mean_X4_rightOf : GoodIn wsX0_mean wsX4_rightOf := goodIn_r _ [41, 12, 45, 46, 47, 48, 49, 50, 51, 52, 53, 54, 55, 56] rfl (by decide +kernel)
set_option maxRecDepth 20000 in
theorem gX0_mean_X4_rightOf : GoodIn wsX0_mean (wsV RX0 63 RX4 yX4_rightOf wsX4_rightOf) := goodIn_app (goodIn_of _ (by decide +kernel)) ggX0_mean_X4_rightOf
set_option maxRecDepth 20000 in
theorem ggX0_mean_X0_loss : GoodIn wsX0_mean wsX0_loss := goodIn_r _ [44, 17, 18, 19, 20, 21, 22, 23, 24, 15, 25, 26, 27, 28, 29, 30, 31, 32, 4, 33, 7, 34, 35, 36, 37, 45, 46, 47, 48, 49, 50, 51, 52, 53, 54, 55, 56] rfl (by decide +kernel)
set_option maxRecDepth 20000 in
theorem gX0_mean_X0_loss : GoodIn wsX0_mean (va_wsS RX0 78 yX0_loss wsX0_loss) := goodIn_app (goodIn_of _ (by decide +kernel)) ggX0_mean_X0_loss
theorem dX0_mean_0 : decode cX0_mean 0 = .ok (.sipush (-1000), 3) := by decide +kernel
theorem dX0_mean_3 : decode cX0_mean 3 = .ok (.aload_n 0, 1) := by decide +kernel
theorem dX0_mean_4 : decode cX0_mean 4 = .ok (.iload_n 1, 1) := by decide +kernel
theorem dX0_mean_5 : decode cX0_mean 5 = .ok (.iload_n 3, 1) := by decide +kernel
theorem dX0_mean_6 : decode cX0_mean 6 = .ok (.invokevirtual 70, 3) := by decide +kernel
theorem dX0_mean_9 : decode cX0_mean 9 = .ok (.imul, 1) := by decide +kernel
theorem dX0_mean_10 : decode cX0_mean 10 = .ok (.istore 5, 2) := by decide +kernel
theorem dX0_mean_12 : decode cX0_mean 12 = .ok (.aload_n 0, 1) := by decide +kernel
theorem dX0_mean_13 : decode cX0_mean 13 = .ok (.iload_n 1, 1) := by decide +kernel
theorem dX0_mean_14 : decode cX0_mean 14 = .ok (.invokevirtual 55, 3) := by decide +kernel
theorem dX0_mean_17 : decode cX0_mean 17 = .ok (.istore 6, 2) := by decide +kernel
theorem dX0_mean_19 : decode cX0_mean 19 = .ok (.iload_n 3, 1) := by decide +kernel
theorem dX0_mean_20 : decode cX0_mean 20 = .ok (.iconst 2, 1) := by decide +kernel
theorem dX0_mean_21 : decode cX0_mean 21 = .ok (.if_icmp .ne 30, 3) := by decide +kernel
theorem dX0_mean_24 : decode cX0_mean 24 = .ok (.iload 5, 2) := by decide +kernel
theorem dX0_mean_26 : decode cX0_mean 26 = .ok (.aload_n 0, 1) := by decide +kernel
theorem dX0_mean_27 : decode cX0_mean 27 = .ok (.iload 6, 2) := by decide +kernel
theorem dX0_mean_29 : decode cX0_mean 29 = .ok (.iload_n 1, 1) := by decide +kernel
theorem dX0_mean_30 : decode cX0_mean 30 = .ok (.iload 6, 2) := by decide +kernel
theorem dX0_mean_32 : decode cX0_mean 32 = .ok (.iload_n 2, 1) := by decide +kernel
theorem dX0_mean_33 : decode cX0_mean 33 = .ok (.iconst 1, 1) := by decide +kernel
theorem dX0_mean_34 : decode cX0_mean 34 = .ok (.if_icmp .ne 7, 3) := by decide +kernel
theorem dX0_mean_37 : decode cX0_mean 37 = .ok (.iconst 1, 1) := by decide +kernel
theorem dX0_mean_38 : decode cX0_mean 38 = .ok (.goto 4, 3) := by decide +kernel
theorem dX0_mean_41 : decode cX0_mean 41 = .ok (.iconst 0, 1) := by decide +kernel
theorem dX0_mean_42 : decode cX0_mean 42 = .ok (.invokestatic 74, 3) := by decide +kernel
theorem dX0_mean_45 : decode cX0_mean 45 = .ok (.iadd, 1) := by decide +kernel
theorem dX0_mean_46 : decode cX0_mean 46 = .ok (.istore 5, 2) := by decide +kernel
theorem dX0_mean_48 : decode cX0_mean 48 = .ok (.goto 35, 3) := by decide +kernel
theorem dX0_mean_51 : decode cX0_mean 51 = .ok (.iload_n 3, 1) := by decide +kernel
theorem dX0_mean_52 : decode cX0_mean 52 = .ok (.iconst 3, 1) := by decide +kernel
theorem dX0_mean_53 : decode cX0_mean 53 = .ok (.if_icmp .ne 30, 3) := by decide +kernel
theorem dX0_mean_56 : decode cX0_mean 56 = .ok (.iload 5, 2) := by decide +kernel
theorem dX0_mean_58 : decode cX0_mean 58 = .ok (.aload_n 0, 1) := by decide +kernel
theorem dX0_mean_59 : decode cX0_mean 59 = .ok (.iload_n 1, 1) := by decide +kernel
theorem dX0_mean_60 : decode cX0_mean 60 = .ok (.iload_n 1, 1) := by decide +kernel
theorem dX0_mean_61 : decode cX0_mean 61 = .ok (.aload_n 0, 1) := by decide +kernel
theorem dX0_mean_62 : decode cX0_mean 62 = .ok (.iload_n 1, 1) := by decide +kernel
theorem dX0_mean_63 : decode cX0_mean 63 = .ok (.invokevirtual 63, 3) := by decide +kernel
theorem dX0_mean_66 : decode cX0_mean 66 = .ok (.iload 4, 2) := by decide +kernel
theorem dX0_mean_68 : decode cX0_mean 68 = .ok (.iconst 1, 1) := by decide +kernel
theorem dX0_mean_69 : decode cX0_mean 69 = .ok (.if_icmp .ne 7, 3) := by decide +kernel
theorem dX0_mean_72 : decode cX0_mean 72 = .ok (.iconst 1, 1) := by decide +kernel
theorem dX0_mean_73 : decode cX0_mean 73 = .ok (.goto 4, 3) := by decide +kernel
theorem dX0_mean_76 : decode cX0_mean 76 = .ok (.iconst 0, 1) := by decide +kernel
theorem dX0_mean_77 : decode cX0_mean 77 = .ok (.invokestatic 74, 3) := by decide +kernel
theorem dX0_mean_80 : decode cX0_mean 80 = .ok (.iadd, 1) := by decide +kernel
theorem dX0_mean_81 : decode cX0_mean 81 = .ok (.istore 5, 2) := by decide +kernel
theorem dX0_mean_83 : decode cX0_mean 83 = .ok (.iload_n 2, 1) := by decide +kernel
theorem dX0_mean_84 : decode cX0_mean 84 = .ok (.iconst 3, 1) := by decide +kernel
theorem dX0_mean_85 : decode cX0_mean 85 = .ok (.if_icmp .ne 27, 3) := by decide +kernel
theorem dX0_mean_88 : decode cX0_mean 88 = .ok (.iload 5, 2) := by decide +kernel
theorem dX0_mean_90 : decode cX0_mean 90 = .ok (.aload_n 0, 1) := by decide +kernel
theorem dX0_mean_91 : decode cX0_mean 91 = .ok (.iload 6, 2) := by decide +kernel
theorem dX0_mean_93 : decode cX0_mean 93 = .ok (.iload_n 1, 1) := by decide +kernel
theorem dX0_mean_94 : decode cX0_mean 94 = .ok (.iload 6, 2) := by decide +kernel
theorem dX0_mean_96 : decode cX0_mean 96 = .ok (.iload_n 3, 1) := by decide +kernel
theorem dX0_mean_97 : decode cX0_mean 97 = .ok (.iconst 1, 1) := by decide +kernel
theorem dX0_mean_98 : decode cX0_mean 98 = .ok (.if_icmp .ne 7, 3) := by decide +kernel
theorem dX0_mean_101 : decode cX0_mean 101 = .ok (.iconst 1, 1) := by decide +kernel
theorem dX0_mean_102 : decode cX0_mean 102 = .ok (.goto 4, 3) := by decide +kernel
theorem dX0_mean_105 : decode cX0_mean 105 = .ok (.iconst 0, 1) := by decide +kernel
theorem dX0_mean_106 : decode cX0_mean 106 = .ok (.invokestatic 78, 3) := by decide +kernel
theorem dX0_mean_109 : decode cX0_mean 109 = .ok (.isub, 1) := by decide +kernel
theorem dX0_mean_110 : decode cX0_mean 110 = .ok (.istore 5, 2) := by decide +kernel
theorem dX0_mean_112 : decode cX0_mean 112 = .ok (.iload 4, 2) := by decide +kernel
theorem dX0_mean_114 : decode cX0_mean 114 = .ok (.iconst 2, 1) := by decide +kernel
theorem dX0_mean_115 : decode cX0_mean 115 = .ok (.if_icmp .ne 29, 3) := by decide +kernel
theorem dX0_mean_118 : decode cX0_mean 118 = .ok (.iload 5, 2) := by decide +kernel
theorem dX0_mean_120 : decode cX0_mean 120 = .ok (.aload_n 0, 1) := by decide +kernel
theorem dX0_mean_121 : decode cX0_mean 121 = .ok (.iload_n 1, 1) := by decide +kernel
theorem dX0_mean_122 : decode cX0_mean 122 = .ok (.iload_n 1, 1) := by decide +kernel
theorem dX0_mean_123 : decode cX0_mean 123 = .ok (.aload_n 0, 1) := by decide +kernel
theorem dX0_mean_124 : decode cX0_mean 124 = .ok (.iload_n 1, 1) := by decide +kernel
theorem dX0_mean_125 : decode cX0_mean 125 = .ok (.invokevirtual 63, 3) := by decide +kernel
theorem dX0_mean_128 : decode cX0_mean 128 = .ok (.iload_n 3, 1) := by decide +kernel
theorem dX0_mean_129 : decode cX0_mean 129 = .ok (.iconst 1, 1) := by decide +kernel
theorem dX0_mean_130 : decode cX0_mean 130 = .ok (.if_icmp .ne 7, 3) := by decide +kernel
theorem dX0_mean_133 : decode cX0_mean 133 = .ok (.iconst 1, 1) := by decide +kernel
theorem dX0_mean_134 : decode cX0_mean 134 = .ok (.goto 4, 3) := by decide +kernel
theorem dX0_mean_137 : decode cX0_mean 137 = .ok (.iconst 0, 1) := by decide +kernel
theorem dX0_mean_138 : decode cX0_mean 138 = .ok (.invokestatic 78, 3) := by decide +kernel
theorem dX0_mean_141 : decode cX0_mean 141 = .ok (.isub, 1) := by decide +kernel
theorem dX0_mean_142 : decode cX0_mean 142 = .ok (.istore 5, 2) := by decide +kernel
theorem dX0_mean_144 : decode cX0_mean 144 = .ok (.iload 5, 2) := by decide +kernel
theorem dX0_mean_146 : decode cX0_mean 146 = .ok (.ireturn, 1) := by decide +kernel
set_option maxRecDepth 20000 in
theorem ggX0_gain_X0_canMove : GoodIn wsX0_gain wsX0_canMove := goodIn_r _ [10, 11, 2, 1, 25, 26, 27, 28, 29, 30, 31, 32, 33, 34, 35, 36] rfl (by decide +kernel)
set_option maxRecDepth 20000 in
theorem gX0_gain_X0_canMove : GoodIn wsX0_gain (va_wsS RX0 81 yX0_canMove wsX0_canMove) := goodIn_app (goodIn_of _ (by decide +kernel)) ggX0_gain_X0_canMove
set_option maxRecDepth 20000 in
theorem ggX0_gain_X0_chance : GoodIn wsX0_gain wsX0_chance := goodIn_r _ [14, 2, 1, 11, 25, 26, 27, 28, 29, 30, 31, 32, 33, 34, 35, 36] rfl (by decide +kernel)
set_option maxRecDepth 20000 in
theorem gX0_gain_X0_chance : GoodIn wsX0_gain (va_wsS RX0 97 yX0_chance wsX0_chance) := goodIn_app (goodIn_of _ (by decide +kernel)) ggX0_gain_X0_chance
set_option maxRecDepth 20000 in
theorem ggX0_gain_X4_worthOf : GoodIn wsX0_gain wsX4_worthOf := goodIn_r _ [19, 20, 21, 4, 5, 6, 22, 23, 24, 25, 26, 27, 28, 29, 30, 31, 32, 33, 34, 35, 36] rfl (by decide +kernel)
set_option maxRecDepth 20000 in
theorem gX0_gain_X4_worthOf : GoodIn wsX0_gain (wsV RX0 101 RX4 yX4_worthOf wsX4_worthOf) := goodIn_app (goodIn_of _ (by decide +kernel)) ggX0_gain_X4_worthOf
theorem dX0_gain_0 : decode cX0_gain 0 = .ok (.aload_n 0, 1) := by decide +kernel
theorem dX0_gain_1 : decode cX0_gain 1 = .ok (.iload_n 1, 1) := by decide +kernel
theorem dX0_gain_2 : decode cX0_gain 2 = .ok (.iload_n 2, 1) := by decide +kernel
theorem dX0_gain_3 : decode cX0_gain 3 = .ok (.iload_n 3, 1) := by decide +kernel
theorem dX0_gain_4 : decode cX0_gain 4 = .ok (.invokestatic 81, 3) := by decide +kernel
theorem dX0_gain_7 : decode cX0_gain 7 = .ok (.ifCond .ne 5, 3) := by decide +kernel
theorem dX0_gain_10 : decode cX0_gain 10 = .ok (.iconst 0, 1) := by decide +kernel
theorem dX0_gain_11 : decode cX0_gain 11 = .ok (.ireturn, 1) := by decide +kernel
theorem dX0_gain_12 : decode cX0_gain 12 = .ok (.aload_n 0, 1) := by decide +kernel
theorem dX0_gain_13 : decode cX0_gain 13 = .ok (.getfield 85, 3) := by decide +kernel
theorem dX0_gain_16 : decode cX0_gain 16 = .ok (.iload_n 2, 1) := by decide +kernel
theorem dX0_gain_17 : decode cX0_gain 17 = .ok (.aaload, 1) := by decide +kernel
theorem dX0_gain_18 : decode cX0_gain 18 = .ok (.iconst 0, 1) := by decide +kernel
theorem dX0_gain_19 : decode cX0_gain 19 = .ok (.iaload, 1) := by decide +kernel
theorem dX0_gain_20 : decode cX0_gain 20 = .ok (.istore 5, 2) := by decide +kernel
theorem dX0_gain_22 : decode cX0_gain 22 = .ok (.aload_n 0, 1) := by decide +kernel
theorem dX0_gain_23 : decode cX0_gain 23 = .ok (.getfield 88, 3) := by decide +kernel
theorem dX0_gain_26 : decode cX0_gain 26 = .ok (.bipush 9, 2) := by decide +kernel
theorem dX0_gain_28 : decode cX0_gain 28 = .ok (.iaload, 1) := by decide +kernel
theorem dX0_gain_29 : decode cX0_gain 29 = .ok (.aload_n 0, 1) := by decide +kernel
theorem dX0_gain_30 : decode cX0_gain 30 = .ok (.getfield 85, 3) := by decide +kernel
theorem dX0_gain_33 : decode cX0_gain 33 = .ok (.iload_n 3, 1) := by decide +kernel
theorem dX0_gain_34 : decode cX0_gain 34 = .ok (.aaload, 1) := by decide +kernel
theorem dX0_gain_35 : decode cX0_gain 35 = .ok (.iconst 0, 1) := by decide +kernel
theorem dX0_gain_36 : decode cX0_gain 36 = .ok (.iaload, 1) := by decide +kernel
theorem dX0_gain_37 : decode cX0_gain 37 = .ok (.invokestatic 92, 3) := by decide +kernel
theorem dX0_gain_40 : decode cX0_gain 40 = .ok (.istore 6, 2) := by decide +kernel
theorem dX0_gain_42 : decode cX0_gain 42 = .ok (.aload_n 0, 1) := by decide +kernel
theorem dX0_gain_43 : decode cX0_gain 43 = .ok (.iload_n 1, 1) := by decide +kernel
theorem dX0_gain_44 : decode cX0_gain 44 = .ok (.iload_n 3, 1) := by decide +kernel
theorem dX0_gain_45 : decode cX0_gain 45 = .ok (.iload 4, 2) := by decide +kernel
theorem dX0_gain_47 : decode cX0_gain 47 = .ok (.invokestatic 97, 3) := by decide +kernel
theorem dX0_gain_50 : decode cX0_gain 50 = .ok (.istore 7, 2) := by decide +kernel
theorem dX0_gain_52 : decode cX0_gain 52 = .ok (.iload 7, 2) := by decide +kernel
theorem dX0_gain_54 : decode cX0_gain 54 = .ok (.aload_n 0, 1) := by decide +kernel
theorem dX0_gain_55 : decode cX0_gain 55 = .ok (.iload 5, 2) := by decide +kernel
theorem dX0_gain_57 : decode cX0_gain 57 = .ok (.iload 6, 2) := by decide +kernel
theorem dX0_gain_59 : decode cX0_gain 59 = .ok (.iadd, 1) := by decide +kernel
theorem dX0_gain_60 : decode cX0_gain 60 = .ok (.invokevirtual 101, 3) := by decide +kernel
theorem dX0_gain_63 : decode cX0_gain 63 = .ok (.aload_n 0, 1) := by decide +kernel
theorem dX0_gain_64 : decode cX0_gain 64 = .ok (.iload 5, 2) := by decide +kernel
theorem dX0_gain_66 : decode cX0_gain 66 = .ok (.invokevirtual 101, 3) := by decide +kernel
theorem dX0_gain_69 : decode cX0_gain 69 = .ok (.isub, 1) := by decide +kernel
theorem dX0_gain_70 : decode cX0_gain 70 = .ok (.imul, 1) := by decide +kernel
theorem dX0_gain_71 : decode cX0_gain 71 = .ok (.sipush 1000, 3) := by decide +kernel
theorem dX0_gain_74 : decode cX0_gain 74 = .ok (.iload 7, 2) := by decide +kernel
theorem dX0_gain_76 : decode cX0_gain 76 = .ok (.isub, 1) := by decide +kernel
theorem dX0_gain_77 : decode cX0_gain 77 = .ok (.aload_n 0, 1) := by decide +kernel
theorem dX0_gain_78 : decode cX0_gain 78 = .ok (.getfield 88, 3) := by decide +kernel
theorem dX0_gain_81 : decode cX0_gain 81 = .ok (.bipush 6, 2) := by decide +kernel
theorem dX0_gain_83 : decode cX0_gain 83 = .ok (.iaload, 1) := by decide +kernel
theorem dX0_gain_84 : decode cX0_gain 84 = .ok (.imul, 1) := by decide +kernel
theorem dX0_gain_85 : decode cX0_gain 85 = .ok (.isub, 1) := by decide +kernel
theorem dX0_gain_86 : decode cX0_gain 86 = .ok (.ireturn, 1) := by decide +kernel
set_option maxRecDepth 20000 in
theorem ggX0_loss_X0_canMove : GoodIn wsX0_loss wsX0_canMove := goodIn_r _ [10, 11, 2, 1, 25, 26, 27, 28, 29, 30, 31, 32, 33, 34, 35, 36] rfl (by decide +kernel)
set_option maxRecDepth 20000 in
theorem gX0_loss_X0_canMove : GoodIn wsX0_loss (va_wsS RX0 81 yX0_canMove wsX0_canMove) := goodIn_app (goodIn_of _ (by decide +kernel)) ggX0_loss_X0_canMove
set_option maxRecDepth 20000 in
theorem ggX0_loss_X0_chance : GoodIn wsX0_loss wsX0_chance := goodIn_r _ [14, 2, 1, 11, 25, 26, 27, 28, 29, 30, 31, 32, 33, 34, 35, 36] rfl (by decide +kernel)
set_option maxRecDepth 20000 in
theorem gX0_loss_X0_chance : GoodIn wsX0_loss (va_wsS RX0 97 yX0_chance wsX0_chance) := goodIn_app (goodIn_of _ (by decide +kernel)) ggX0_loss_X0_chance
set_option maxRecDepth 20000 in
theorem ggX0_loss_X4_worthOf : GoodIn wsX0_loss wsX4_worthOf := goodIn_r _ [19, 20, 21, 4, 5, 6, 22, 23, 24, 25, 26, 27, 28, 29, 30, 31, 32, 33, 34, 35, 36] rfl (by decide +kernel)
set_option maxRecDepth 20000 in
theorem gX0_loss_X4_worthOf : GoodIn wsX0_loss (wsV RX0 101 RX4 yX4_worthOf wsX4_worthOf) := goodIn_app (goodIn_of _ (by decide +kernel)) ggX0_loss_X4_worthOf
theorem dX0_loss_0 : decode cX0_loss 0 = .ok (.aload_n 0, 1) := by decide +kernel
theorem dX0_loss_1 : decode cX0_loss 1 = .ok (.iload_n 1, 1) := by decide +kernel
theorem dX0_loss_2 : decode cX0_loss 2 = .ok (.iload_n 2, 1) := by decide +kernel
theorem dX0_loss_3 : decode cX0_loss 3 = .ok (.iload_n 3, 1) := by decide +kernel
theorem dX0_loss_4 : decode cX0_loss 4 = .ok (.invokestatic 81, 3) := by decide +kernel
theorem dX0_loss_7 : decode cX0_loss 7 = .ok (.ifCond .ne 5, 3) := by decide +kernel
theorem dX0_loss_10 : decode cX0_loss 10 = .ok (.iconst 0, 1) := by decide +kernel
theorem dX0_loss_11 : decode cX0_loss 11 = .ok (.ireturn, 1) := by decide +kernel
theorem dX0_loss_12 : decode cX0_loss 12 = .ok (.aload_n 0, 1) := by decide +kernel
theorem dX0_loss_13 : decode cX0_loss 13 = .ok (.getfield 85, 3) := by decide +kernel
theorem dX0_loss_16 : decode cX0_loss 16 = .ok (.iload_n 2, 1) := by decide +kernel
theorem dX0_loss_17 : decode cX0_loss 17 = .ok (.aaload, 1) := by decide +kernel
theorem dX0_loss_18 : decode cX0_loss 18 = .ok (.iconst 0, 1) := by decide +kernel
theorem dX0_loss_19 : decode cX0_loss 19 = .ok (.iaload, 1) := by decide +kernel
theorem dX0_loss_20 : decode cX0_loss 20 = .ok (.istore 5, 2) := by decide +kernel
theorem dX0_loss_22 : decode cX0_loss 22 = .ok (.aload_n 0, 1) := by decide +kernel
theorem dX0_loss_23 : decode cX0_loss 23 = .ok (.getfield 88, 3) := by decide +kernel
theorem dX0_loss_26 : decode cX0_loss 26 = .ok (.bipush 9, 2) := by decide +kernel
theorem dX0_loss_28 : decode cX0_loss 28 = .ok (.iaload, 1) := by decide +kernel
theorem dX0_loss_29 : decode cX0_loss 29 = .ok (.iload 5, 2) := by decide +kernel
theorem dX0_loss_31 : decode cX0_loss 31 = .ok (.invokestatic 92, 3) := by decide +kernel
theorem dX0_loss_34 : decode cX0_loss 34 = .ok (.istore 6, 2) := by decide +kernel
theorem dX0_loss_36 : decode cX0_loss 36 = .ok (.aload_n 0, 1) := by decide +kernel
theorem dX0_loss_37 : decode cX0_loss 37 = .ok (.iload_n 1, 1) := by decide +kernel
theorem dX0_loss_38 : decode cX0_loss 38 = .ok (.iload_n 2, 1) := by decide +kernel
theorem dX0_loss_39 : decode cX0_loss 39 = .ok (.iload 4, 2) := by decide +kernel
theorem dX0_loss_41 : decode cX0_loss 41 = .ok (.invokestatic 97, 3) := by decide +kernel
theorem dX0_loss_44 : decode cX0_loss 44 = .ok (.aload_n 0, 1) := by decide +kernel
theorem dX0_loss_45 : decode cX0_loss 45 = .ok (.iload 5, 2) := by decide +kernel
theorem dX0_loss_47 : decode cX0_loss 47 = .ok (.invokevirtual 101, 3) := by decide +kernel
theorem dX0_loss_50 : decode cX0_loss 50 = .ok (.aload_n 0, 1) := by decide +kernel
theorem dX0_loss_51 : decode cX0_loss 51 = .ok (.iload 5, 2) := by decide +kernel
theorem dX0_loss_53 : decode cX0_loss 53 = .ok (.iload 6, 2) := by decide +kernel
theorem dX0_loss_55 : decode cX0_loss 55 = .ok (.isub, 1) := by decide +kernel
theorem dX0_loss_56 : decode cX0_loss 56 = .ok (.invokevirtual 101, 3) := by decide +kernel
theorem dX0_loss_59 : decode cX0_loss 59 = .ok (.isub, 1) := by decide +kernel
theorem dX0_loss_60 : decode cX0_loss 60 = .ok (.imul, 1) := by decide +kernel
theorem dX0_loss_61 : decode cX0_loss 61 = .ok (.ireturn, 1) := by decide +kernel
theorem dX0_canMove_0 : decode cX0_canMove 0 = .ok (.aload_n 0, 1) := by decide +kernel
theorem dX0_canMove_1 : decode cX0_canMove 1 = .ok (.getfield 104, 3) := by decide +kernel
theorem dX0_canMove_4 : decode cX0_canMove 4 = .ok (.iload_n 1, 1) := by decide +kernel
theorem dX0_canMove_5 : decode cX0_canMove 5 = .ok (.aaload, 1) := by decide +kernel
theorem dX0_canMove_6 : decode cX0_canMove 6 = .ok (.iconst 0, 1) := by decide +kernel
theorem dX0_canMove_7 : decode cX0_canMove 7 = .ok (.iaload, 1) := by decide +kernel
theorem dX0_canMove_8 : decode cX0_canMove 8 = .ok (.ifCond .ne 39, 3) := by decide +kernel
theorem dX0_canMove_11 : decode cX0_canMove 11 = .ok (.aload_n 0, 1) := by decide +kernel
theorem dX0_canMove_12 : decode cX0_canMove 12 = .ok (.getfield 88, 3) := by decide +kernel
theorem dX0_canMove_15 : decode cX0_canMove 15 = .ok (.bipush 9, 2) := by decide +kernel
theorem dX0_canMove_17 : decode cX0_canMove 17 = .ok (.iaload, 1) := by decide +kernel
theorem dX0_canMove_18 : decode cX0_canMove 18 = .ok (.ifCond .le 29, 3) := by decide +kernel
theorem dX0_canMove_21 : decode cX0_canMove 21 = .ok (.aload_n 0, 1) := by decide +kernel
theorem dX0_canMove_22 : decode cX0_canMove 22 = .ok (.getfield 85, 3) := by decide +kernel
theorem dX0_canMove_25 : decode cX0_canMove 25 = .ok (.iload_n 2, 1) := by decide +kernel
theorem dX0_canMove_26 : decode cX0_canMove 26 = .ok (.aaload, 1) := by decide +kernel
theorem dX0_canMove_27 : decode cX0_canMove 27 = .ok (.iconst 0, 1) := by decide +kernel
theorem dX0_canMove_28 : decode cX0_canMove 28 = .ok (.iaload, 1) := by decide +kernel
theorem dX0_canMove_29 : decode cX0_canMove 29 = .ok (.ifCond .le 18, 3) := by decide +kernel
theorem dX0_canMove_32 : decode cX0_canMove 32 = .ok (.aload_n 0, 1) := by decide +kernel
theorem dX0_canMove_33 : decode cX0_canMove 33 = .ok (.getfield 85, 3) := by decide +kernel
theorem dX0_canMove_36 : decode cX0_canMove 36 = .ok (.iload_n 3, 1) := by decide +kernel
theorem dX0_canMove_37 : decode cX0_canMove 37 = .ok (.aaload, 1) := by decide +kernel
theorem dX0_canMove_38 : decode cX0_canMove 38 = .ok (.iconst 0, 1) := by decide +kernel
theorem dX0_canMove_39 : decode cX0_canMove 39 = .ok (.iaload, 1) := by decide +kernel
theorem dX0_canMove_40 : decode cX0_canMove 40 = .ok (.ifCond .le 7, 3) := by decide +kernel
theorem dX0_canMove_43 : decode cX0_canMove 43 = .ok (.iconst 1, 1) := by decide +kernel
theorem dX0_canMove_44 : decode cX0_canMove 44 = .ok (.goto 4, 3) := by decide +kernel
theorem dX0_canMove_47 : decode cX0_canMove 47 = .ok (.iconst 0, 1) := by decide +kernel
theorem dX0_canMove_48 : decode cX0_canMove 48 = .ok (.ireturn, 1) := by decide +kernel
theorem dX0_chance_0 : decode cX0_chance 0 = .ok (.sipush 1000, 3) := by decide +kernel
theorem dX0_chance_3 : decode cX0_chance 3 = .ok (.istore 4, 2) := by decide +kernel
theorem dX0_chance_5 : decode cX0_chance 5 = .ok (.iload_n 3, 1) := by decide +kernel
theorem dX0_chance_6 : decode cX0_chance 6 = .ok (.ifCond .eq 18, 3) := by decide +kernel
theorem dX0_chance_9 : decode cX0_chance 9 = .ok (.iload 4, 2) := by decide +kernel
theorem dX0_chance_11 : decode cX0_chance 11 = .ok (.aload_n 0, 1) := by decide +kernel
theorem dX0_chance_12 : decode cX0_chance 12 = .ok (.getfield 88, 3) := by decide +kernel
theorem dX0_chance_15 : decode cX0_chance 15 = .ok (.bipush 7, 2) := by decide +kernel
theorem dX0_chance_17 : decode cX0_chance 17 = .ok (.iaload, 1) := by decide +kernel
theorem dX0_chance_18 : decode cX0_chance 18 = .ok (.isub, 1) := by decide +kernel
theorem dX0_chance_19 : decode cX0_chance 19 = .ok (.istore 4, 2) := by decide +kernel
theorem dX0_chance_21 : decode cX0_chance 21 = .ok (.goto 26, 3) := by decide +kernel
theorem dX0_chance_24 : decode cX0_chance 24 = .ok (.aload_n 0, 1) := by decide +kernel
theorem dX0_chance_25 : decode cX0_chance 25 = .ok (.getfield 85, 3) := by decide +kernel
theorem dX0_chance_28 : decode cX0_chance 28 = .ok (.iload_n 2, 1) := by decide +kernel
theorem dX0_chance_29 : decode cX0_chance 29 = .ok (.aaload, 1) := by decide +kernel
theorem dX0_chance_30 : decode cX0_chance 30 = .ok (.iconst 3, 1) := by decide +kernel
theorem dX0_chance_31 : decode cX0_chance 31 = .ok (.iaload, 1) := by decide +kernel
theorem dX0_chance_32 : decode cX0_chance 32 = .ok (.ifCond .eq 15, 3) := by decide +kernel
theorem dX0_chance_35 : decode cX0_chance 35 = .ok (.iload 4, 2) := by decide +kernel
theorem dX0_chance_37 : decode cX0_chance 37 = .ok (.aload_n 0, 1) := by decide +kernel
theorem dX0_chance_38 : decode cX0_chance 38 = .ok (.getfield 88, 3) := by decide +kernel
theorem dX0_chance_41 : decode cX0_chance 41 = .ok (.bipush 8, 2) := by decide +kernel
theorem dX0_chance_43 : decode cX0_chance 43 = .ok (.iaload, 1) := by decide +kernel
theorem dX0_chance_44 : decode cX0_chance 44 = .ok (.isub, 1) := by decide +kernel
theorem dX0_chance_45 : decode cX0_chance 45 = .ok (.istore 4, 2) := by decide +kernel
theorem dX0_chance_47 : decode cX0_chance 47 = .ok (.iconst 1, 1) := by decide +kernel
theorem dX0_chance_48 : decode cX0_chance 48 = .ok (.aload_n 0, 1) := by decide +kernel
theorem dX0_chance_49 : decode cX0_chance 49 = .ok (.getfield 104, 3) := by decide +kernel
theorem dX0_chance_52 : decode cX0_chance 52 = .ok (.iload_n 1, 1) := by decide +kernel
theorem dX0_chance_53 : decode cX0_chance 53 = .ok (.aaload, 1) := by decide +kernel
theorem dX0_chance_54 : decode cX0_chance 54 = .ok (.iconst 1, 1) := by decide +kernel
theorem dX0_chance_55 : decode cX0_chance 55 = .ok (.iaload, 1) := by decide +kernel
theorem dX0_chance_56 : decode cX0_chance 56 = .ok (.iadd, 1) := by decide +kernel
theorem dX0_chance_57 : decode cX0_chance 57 = .ok (.istore 5, 2) := by decide +kernel
theorem dX0_chance_59 : decode cX0_chance 59 = .ok (.iload 5, 2) := by decide +kernel
theorem dX0_chance_61 : decode cX0_chance 61 = .ok (.iconst 1, 1) := by decide +kernel
theorem dX0_chance_62 : decode cX0_chance 62 = .ok (.if_icmp .le 11, 3) := by decide +kernel
theorem dX0_chance_65 : decode cX0_chance 65 = .ok (.iload 4, 2) := by decide +kernel
theorem dX0_chance_67 : decode cX0_chance 67 = .ok (.iload 5, 2) := by decide +kernel
theorem dX0_chance_69 : decode cX0_chance 69 = .ok (.idiv, 1) := by decide +kernel
theorem dX0_chance_70 : decode cX0_chance 70 = .ok (.goto 5, 3) := by decide +kernel
theorem dX0_chance_73 : decode cX0_chance 73 = .ok (.iload 4, 2) := by decide +kernel
theorem dX0_chance_75 : decode cX0_chance 75 = .ok (.ireturn, 1) := by decide +kernel
set_option maxRecDepth 20000 in
theorem ggX0_findRests_X0_fillMeans : GoodIn wsX0_findRests wsX0_fillMeans := goodIn_r _ [10, 5, 11, 12, 13, 14, 15, 16, 17, 18, 9, 19, 20, 21, 22, 23, 24, 25, 26, 27, 28, 29, 30, 31, 32, 33, 34, 35, 36, 37, 38, 39, 40, 41, 42, 43, 44, 45, 46, 47, 48, 49, 50, 51, 52, 53, 54, 55, 56, 57, 58, 59, 86, 87, 88, 89, 90, 91, 92, 93, 94, 95, 96, 97, 74, 75, 76, 77, 78, 79, 80, 81, 82, 83, 84, 85] rfl (by decide +kernel)
set_option maxRecDepth 20000 in
theorem gX0_findRests_X0_fillMeans : GoodIn wsX0_findRests (wsV RX0 107 RX0 yX0_fillMeans wsX0_fillMeans) := goodIn_app (goodIn_of _ (by decide +kernel)) ggX0_findRests_X0_fillMeans
set_option maxRecDepth 20000 in
theorem ggX0_findRests_X0_nobodyWouldRather : GoodIn wsX0_findRests wsX0_nobodyWouldRather := goodIn_r _ [63, 5, 11, 16, 64, 65, 9, 66, 27, 28, 29, 23, 30, 31, 67, 68, 69, 53, 54, 55, 56, 86, 87, 88, 89, 90, 91, 92, 93, 94, 95, 96, 97, 74, 75, 76, 77, 78, 79, 80, 81, 82, 83, 84, 85] rfl (by decide +kernel)
set_option maxRecDepth 20000 in
theorem gX0_findRests_X0_nobodyWouldRather : GoodIn wsX0_findRests (wsV RX0 111 RX0 yX0_nobodyWouldRather wsX0_nobodyWouldRather) := goodIn_app (goodIn_of _ (by decide +kernel)) ggX0_findRests_X0_nobodyWouldRather
set_option maxRecDepth 20000 in
theorem ggX0_findRests_X0_meansAdded : GoodIn wsX0_findRests wsX0_meansAdded := goodIn_r _ [73, 5, 11, 64, 65, 9, 66, 27, 28, 29, 23, 30, 31, 67, 68, 69, 53, 54, 55, 56, 86, 87, 88, 89, 90, 91, 92, 93, 94, 95, 96, 97, 74, 75, 76, 77, 78, 79, 80, 81, 82, 83, 84, 85] rfl (by decide +kernel)
set_option maxRecDepth 20000 in
theorem gX0_findRests_X0_meansAdded : GoodIn wsX0_findRests (wsV RX0 115 RX0 yX0_meansAdded wsX0_meansAdded) := goodIn_app (goodIn_of _ (by decide +kernel)) ggX0_findRests_X0_meansAdded
set_option maxRecDepth 20000 in
theorem ggX0_findRests_X0_digit : GoodIn wsX0_findRests wsX0_digit := goodIn_r _ [69, 5, 86, 87, 88, 89, 90, 91, 92, 93, 94, 95, 96, 97] rfl (by decide +kernel)
set_option maxRecDepth 20000 in
theorem gX0_findRests_X0_digit : GoodIn wsX0_findRests (va_wsS RX0 59 yX0_digit wsX0_digit) := goodIn_app (goodIn_of _ (by decide +kernel)) ggX0_findRests_X0_digit
theorem dX0_findRests_0 : decode cX0_findRests 0 = .ok (.aload_n 0, 1) := by decide +kernel
theorem dX0_findRests_1 : decode cX0_findRests 1 = .ok (.aload_n 1, 1) := by decide +kernel
theorem dX0_findRests_2 : decode cX0_findRests 2 = .ok (.invokevirtual 107, 3) := by decide +kernel
theorem dX0_findRests_5 : decode cX0_findRests 5 = .ok (.aload_n 0, 1) := by decide +kernel
theorem dX0_findRests_6 : decode cX0_findRests 6 = .ok (.iconst 0, 1) := by decide +kernel
theorem dX0_findRests_7 : decode cX0_findRests 7 = .ok (.putfield 9, 3) := by decide +kernel
theorem dX0_findRests_10 : decode cX0_findRests 10 = .ok (.aload_n 0, 1) := by decide +kernel
theorem dX0_findRests_11 : decode cX0_findRests 11 = .ok (.iconst (-1), 1) := by decide +kernel
theorem dX0_findRests_12 : decode cX0_findRests 12 = .ok (.putfield 15, 3) := by decide +kernel
theorem dX0_findRests_15 : decode cX0_findRests 15 = .ok (.aload_n 0, 1) := by decide +kernel
theorem dX0_findRests_16 : decode cX0_findRests 16 = .ok (.iconst (-1), 1) := by decide +kernel
theorem dX0_findRests_17 : decode cX0_findRests 17 = .ok (.putfield 18, 3) := by decide +kernel
theorem dX0_findRests_20 : decode cX0_findRests 20 = .ok (.aload_n 0, 1) := by decide +kernel
theorem dX0_findRests_21 : decode cX0_findRests 21 = .ok (.iconst 0, 1) := by decide +kernel
theorem dX0_findRests_22 : decode cX0_findRests 22 = .ok (.putfield 21, 3) := by decide +kernel
theorem dX0_findRests_25 : decode cX0_findRests 25 = .ok (.iconst 1, 1) := by decide +kernel
theorem dX0_findRests_26 : decode cX0_findRests 26 = .ok (.iconst 2, 1) := by decide +kernel
theorem dX0_findRests_27 : decode cX0_findRests 27 = .ok (.aload_n 1, 1) := by decide +kernel
theorem dX0_findRests_28 : decode cX0_findRests 28 = .ok (.getfield 50, 3) := by decide +kernel
theorem dX0_findRests_31 : decode cX0_findRests 31 = .ok (.imul, 1) := by decide +kernel
theorem dX0_findRests_32 : decode cX0_findRests 32 = .ok (.ishl, 1) := by decide +kernel
theorem dX0_findRests_33 : decode cX0_findRests 33 = .ok (.istore_n 2, 1) := by decide +kernel
theorem dX0_findRests_34 : decode cX0_findRests 34 = .ok (.iload_n 2, 1) := by decide +kernel
theorem dX0_findRests_35 : decode cX0_findRests 35 = .ok (.iconst 1, 1) := by decide +kernel
theorem dX0_findRests_36 : decode cX0_findRests 36 = .ok (.isub, 1) := by decide +kernel
theorem dX0_findRests_37 : decode cX0_findRests 37 = .ok (.iconst 3, 1) := by decide +kernel
theorem dX0_findRests_38 : decode cX0_findRests 38 = .ok (.idiv, 1) := by decide +kernel
theorem dX0_findRests_39 : decode cX0_findRests 39 = .ok (.istore_n 3, 1) := by decide +kernel
theorem dX0_findRests_40 : decode cX0_findRests 40 = .ok (.iconst 0, 1) := by decide +kernel
theorem dX0_findRests_41 : decode cX0_findRests 41 = .ok (.istore 4, 2) := by decide +kernel
theorem dX0_findRests_43 : decode cX0_findRests 43 = .ok (.iconst 0, 1) := by decide +kernel
theorem dX0_findRests_44 : decode cX0_findRests 44 = .ok (.istore 5, 2) := by decide +kernel
theorem dX0_findRests_46 : decode cX0_findRests 46 = .ok (.iload 5, 2) := by decide +kernel
theorem dX0_findRests_48 : decode cX0_findRests 48 = .ok (.iload_n 2, 1) := by decide +kernel
theorem dX0_findRests_49 : decode cX0_findRests 49 = .ok (.if_icmp .ge 109, 3) := by decide +kernel
theorem dX0_findRests_52 : decode cX0_findRests 52 = .ok (.aload_n 0, 1) := by decide +kernel
theorem dX0_findRests_53 : decode cX0_findRests 53 = .ok (.aload_n 1, 1) := by decide +kernel
theorem dX0_findRests_54 : decode cX0_findRests 54 = .ok (.iload 5, 2) := by decide +kernel
theorem dX0_findRests_56 : decode cX0_findRests 56 = .ok (.invokevirtual 111, 3) := by decide +kernel
theorem dX0_findRests_59 : decode cX0_findRests 59 = .ok (.ifCond .ne 6, 3) := by decide +kernel
theorem dX0_findRests_62 : decode cX0_findRests 62 = .ok (.goto 90, 3) := by decide +kernel
theorem dX0_findRests_65 : decode cX0_findRests 65 = .ok (.aload_n 0, 1) := by decide +kernel
theorem dX0_findRests_66 : decode cX0_findRests 66 = .ok (.aload_n 1, 1) := by decide +kernel
theorem dX0_findRests_67 : decode cX0_findRests 67 = .ok (.iload 5, 2) := by decide +kernel
theorem dX0_findRests_69 : decode cX0_findRests 69 = .ok (.invokevirtual 115, 3) := by decide +kernel
theorem dX0_findRests_72 : decode cX0_findRests 72 = .ok (.istore 6, 2) := by decide +kernel
theorem dX0_findRests_74 : decode cX0_findRests 74 = .ok (.aload_n 0, 1) := by decide +kernel
theorem dX0_findRests_75 : decode cX0_findRests 75 = .ok (.getfield 9, 3) := by decide +kernel
theorem dX0_findRests_78 : decode cX0_findRests 78 = .ok (.ifCond .ne 9, 3) := by decide +kernel
theorem dX0_findRests_81 : decode cX0_findRests 81 = .ok (.aload_n 0, 1) := by decide +kernel
theorem dX0_findRests_82 : decode cX0_findRests 82 = .ok (.iload 5, 2) := by decide +kernel
theorem dX0_findRests_84 : decode cX0_findRests 84 = .ok (.putfield 15, 3) := by decide +kernel
theorem dX0_findRests_87 : decode cX0_findRests 87 = .ok (.aload_n 0, 1) := by decide +kernel
theorem dX0_findRests_88 : decode cX0_findRests 88 = .ok (.getfield 9, 3) := by decide +kernel
theorem dX0_findRests_91 : decode cX0_findRests 91 = .ok (.ifCond .eq 10, 3) := by decide +kernel
theorem dX0_findRests_94 : decode cX0_findRests 94 = .ok (.iload 6, 2) := by decide +kernel
theorem dX0_findRests_96 : decode cX0_findRests 96 = .ok (.iload 4, 2) := by decide +kernel
theorem dX0_findRests_98 : decode cX0_findRests 98 = .ok (.if_icmp .le 13, 3) := by decide +kernel
theorem dX0_findRests_101 : decode cX0_findRests 101 = .ok (.aload_n 0, 1) := by decide +kernel
theorem dX0_findRests_102 : decode cX0_findRests 102 = .ok (.iload 5, 2) := by decide +kernel
theorem dX0_findRests_104 : decode cX0_findRests 104 = .ok (.putfield 18, 3) := by decide +kernel
theorem dX0_findRests_107 : decode cX0_findRests 107 = .ok (.iload 6, 2) := by decide +kernel
theorem dX0_findRests_109 : decode cX0_findRests 109 = .ok (.istore 4, 2) := by decide +kernel
theorem dX0_findRests_111 : decode cX0_findRests 111 = .ok (.aload_n 1, 1) := by decide +kernel
theorem dX0_findRests_112 : decode cX0_findRests 112 = .ok (.iload 5, 2) := by decide +kernel
theorem dX0_findRests_114 : decode cX0_findRests 114 = .ok (.iconst 0, 1) := by decide +kernel
theorem dX0_findRests_115 : decode cX0_findRests 115 = .ok (.invokestatic 59, 3) := by decide +kernel
theorem dX0_findRests_118 : decode cX0_findRests 118 = .ok (.istore 7, 2) := by decide +kernel
theorem dX0_findRests_120 : decode cX0_findRests 120 = .ok (.iload 5, 2) := by decide +kernel
theorem dX0_findRests_122 : decode cX0_findRests 122 = .ok (.iload 7, 2) := by decide +kernel
theorem dX0_findRests_124 : decode cX0_findRests 124 = .ok (.iload_n 3, 1) := by decide +kernel
theorem dX0_findRests_125 : decode cX0_findRests 125 = .ok (.imul, 1) := by decide +kernel
theorem dX0_findRests_126 : decode cX0_findRests 126 = .ok (.if_icmp .ne 16, 3) := by decide +kernel
theorem dX0_findRests_129 : decode cX0_findRests 129 = .ok (.aload_n 0, 1) := by decide +kernel
theorem dX0_findRests_130 : decode cX0_findRests 130 = .ok (.dup, 1) := by decide +kernel
theorem dX0_findRests_131 : decode cX0_findRests 131 = .ok (.getfield 21, 3) := by decide +kernel
theorem dX0_findRests_134 : decode cX0_findRests 134 = .ok (.iconst 1, 1) := by decide +kernel
theorem dX0_findRests_135 : decode cX0_findRests 135 = .ok (.iload 7, 2) := by decide +kernel
theorem dX0_findRests_137 : decode cX0_findRests 137 = .ok (.ishl, 1) := by decide +kernel
theorem dX0_findRests_138 : decode cX0_findRests 138 = .ok (.ior, 1) := by decide +kernel
theorem dX0_findRests_139 : decode cX0_findRests 139 = .ok (.putfield 21, 3) := by decide +kernel
theorem dX0_findRests_142 : decode cX0_findRests 142 = .ok (.aload_n 0, 1) := by decide +kernel
theorem dX0_findRests_143 : decode cX0_findRests 143 = .ok (.dup, 1) := by decide +kernel
theorem dX0_findRests_144 : decode cX0_findRests 144 = .ok (.getfield 9, 3) := by decide +kernel
theorem dX0_findRests_147 : decode cX0_findRests 147 = .ok (.iconst 1, 1) := by decide +kernel
theorem dX0_findRests_148 : decode cX0_findRests 148 = .ok (.iadd, 1) := by decide +kernel
theorem dX0_findRests_149 : decode cX0_findRests 149 = .ok (.putfield 9, 3) := by decide +kernel
theorem dX0_findRests_152 : decode cX0_findRests 152 = .ok (.iinc 5 1, 3) := by decide +kernel
theorem dX0_findRests_155 : decode cX0_findRests 155 = .ok (.goto (-109), 3) := by decide +kernel
theorem dX0_findRests_158 : decode cX0_findRests 158 = .ok (.return_, 1) := by decide +kernel
set_option maxRecDepth 20000 in
theorem ggX0_fillMeans_X0_mean : GoodIn wsX0_fillMeans wsX0_mean := goodIn_r _ [11, 12, 13, 14, 15, 16, 17, 18, 19, 20, 21, 22, 23, 24, 25, 10, 26, 27, 28, 29, 30, 5, 31, 32, 33, 34, 35, 36, 37, 38, 39, 40, 41, 42, 43, 44, 4, 6, 45, 46, 47, 48, 49, 50, 51, 52, 53, 54, 55, 56, 57, 58, 59, 60, 61, 62, 63] rfl (by decide +kernel)
set_option maxRecDepth 20000 in
theorem gX0_fillMeans_X0_mean : GoodIn wsX0_fillMeans (va_wsS RX0 66 yX0_mean wsX0_mean) := goodIn_app (goodIn_of _ (by decide +kernel)) ggX0_fillMeans_X0_mean
theorem dX0_fillMeans_0 : decode cX0_fillMeans 0 = .ok (.iconst 0, 1) := by decide +kernel
theorem dX0_fillMeans_1 : decode cX0_fillMeans 1 = .ok (.istore_n 2, 1) := by decide +kernel
theorem dX0_fillMeans_2 : decode cX0_fillMeans 2 = .ok (.iload_n 2, 1) := by decide +kernel
theorem dX0_fillMeans_3 : decode cX0_fillMeans 3 = .ok (.aload_n 1, 1) := by decide +kernel
theorem dX0_fillMeans_4 : decode cX0_fillMeans 4 = .ok (.getfield 50, 3) := by decide +kernel
theorem dX0_fillMeans_7 : decode cX0_fillMeans 7 = .ok (.if_icmp .ge 100, 3) := by decide +kernel
theorem dX0_fillMeans_10 : decode cX0_fillMeans 10 = .ok (.iconst 0, 1) := by decide +kernel
theorem dX0_fillMeans_11 : decode cX0_fillMeans 11 = .ok (.istore_n 3, 1) := by decide +kernel
theorem dX0_fillMeans_12 : decode cX0_fillMeans 12 = .ok (.iload_n 3, 1) := by decide +kernel
theorem dX0_fillMeans_13 : decode cX0_fillMeans 13 = .ok (.bipush 16, 2) := by decide +kernel
theorem dX0_fillMeans_15 : decode cX0_fillMeans 15 = .ok (.if_icmp .ge 86, 3) := by decide +kernel
theorem dX0_fillMeans_18 : decode cX0_fillMeans 18 = .ok (.iconst 0, 1) := by decide +kernel
theorem dX0_fillMeans_19 : decode cX0_fillMeans 19 = .ok (.istore 4, 2) := by decide +kernel
theorem dX0_fillMeans_21 : decode cX0_fillMeans 21 = .ok (.iconst 0, 1) := by decide +kernel
theorem dX0_fillMeans_22 : decode cX0_fillMeans 22 = .ok (.istore 5, 2) := by decide +kernel
theorem dX0_fillMeans_24 : decode cX0_fillMeans 24 = .ok (.iload 5, 2) := by decide +kernel
theorem dX0_fillMeans_26 : decode cX0_fillMeans 26 = .ok (.iconst 4, 1) := by decide +kernel
theorem dX0_fillMeans_27 : decode cX0_fillMeans 27 = .ok (.if_icmp .ge 58, 3) := by decide +kernel
theorem dX0_fillMeans_30 : decode cX0_fillMeans 30 = .ok (.aload_n 1, 1) := by decide +kernel
theorem dX0_fillMeans_31 : decode cX0_fillMeans 31 = .ok (.iload_n 2, 1) := by decide +kernel
theorem dX0_fillMeans_32 : decode cX0_fillMeans 32 = .ok (.iload_n 3, 1) := by decide +kernel
theorem dX0_fillMeans_33 : decode cX0_fillMeans 33 = .ok (.iconst 4, 1) := by decide +kernel
theorem dX0_fillMeans_34 : decode cX0_fillMeans 34 = .ok (.idiv, 1) := by decide +kernel
theorem dX0_fillMeans_35 : decode cX0_fillMeans 35 = .ok (.iload 5, 2) := by decide +kernel
theorem dX0_fillMeans_37 : decode cX0_fillMeans 37 = .ok (.iload_n 3, 1) := by decide +kernel
theorem dX0_fillMeans_38 : decode cX0_fillMeans 38 = .ok (.iconst 4, 1) := by decide +kernel
theorem dX0_fillMeans_39 : decode cX0_fillMeans 39 = .ok (.irem, 1) := by decide +kernel
theorem dX0_fillMeans_40 : decode cX0_fillMeans 40 = .ok (.invokestatic 66, 3) := by decide +kernel
theorem dX0_fillMeans_43 : decode cX0_fillMeans 43 = .ok (.istore 6, 2) := by decide +kernel
theorem dX0_fillMeans_45 : decode cX0_fillMeans 45 = .ok (.aload_n 0, 1) := by decide +kernel
theorem dX0_fillMeans_46 : decode cX0_fillMeans 46 = .ok (.getfield 32, 3) := by decide +kernel
theorem dX0_fillMeans_49 : decode cX0_fillMeans 49 = .ok (.iload_n 2, 1) := by decide +kernel
theorem dX0_fillMeans_50 : decode cX0_fillMeans 50 = .ok (.aaload, 1) := by decide +kernel
theorem dX0_fillMeans_51 : decode cX0_fillMeans 51 = .ok (.iconst 4, 1) := by decide +kernel
theorem dX0_fillMeans_52 : decode cX0_fillMeans 52 = .ok (.iload_n 3, 1) := by decide +kernel
theorem dX0_fillMeans_53 : decode cX0_fillMeans 53 = .ok (.imul, 1) := by decide +kernel
theorem dX0_fillMeans_54 : decode cX0_fillMeans 54 = .ok (.iload 5, 2) := by decide +kernel
theorem dX0_fillMeans_56 : decode cX0_fillMeans 56 = .ok (.iadd, 1) := by decide +kernel
theorem dX0_fillMeans_57 : decode cX0_fillMeans 57 = .ok (.iload 6, 2) := by decide +kernel
theorem dX0_fillMeans_59 : decode cX0_fillMeans 59 = .ok (.iastore, 1) := by decide +kernel
theorem dX0_fillMeans_60 : decode cX0_fillMeans 60 = .ok (.iload 5, 2) := by decide +kernel
theorem dX0_fillMeans_62 : decode cX0_fillMeans 62 = .ok (.ifCond .ne 8, 3) := by decide +kernel
theorem dX0_fillMeans_65 : decode cX0_fillMeans 65 = .ok (.iload 6, 2) := by decide +kernel
theorem dX0_fillMeans_67 : decode cX0_fillMeans 67 = .ok (.goto 10, 3) := by decide +kernel
theorem dX0_fillMeans_70 : decode cX0_fillMeans 70 = .ok (.iload 4, 2) := by decide +kernel
theorem dX0_fillMeans_72 : decode cX0_fillMeans 72 = .ok (.iload 6, 2) := by decide +kernel
theorem dX0_fillMeans_74 : decode cX0_fillMeans 74 = .ok (.invokestatic 119, 3) := by decide +kernel
theorem dX0_fillMeans_77 : decode cX0_fillMeans 77 = .ok (.istore 4, 2) := by decide +kernel
theorem dX0_fillMeans_79 : decode cX0_fillMeans 79 = .ok (.iinc 5 1, 3) := by decide +kernel
theorem dX0_fillMeans_82 : decode cX0_fillMeans 82 = .ok (.goto (-58), 3) := by decide +kernel
theorem dX0_fillMeans_85 : decode cX0_fillMeans 85 = .ok (.aload_n 0, 1) := by decide +kernel
theorem dX0_fillMeans_86 : decode cX0_fillMeans 86 = .ok (.getfield 35, 3) := by decide +kernel
theorem dX0_fillMeans_89 : decode cX0_fillMeans 89 = .ok (.iload_n 2, 1) := by decide +kernel
theorem dX0_fillMeans_90 : decode cX0_fillMeans 90 = .ok (.aaload, 1) := by decide +kernel
theorem dX0_fillMeans_91 : decode cX0_fillMeans 91 = .ok (.iload_n 3, 1) := by decide +kernel
theorem dX0_fillMeans_92 : decode cX0_fillMeans 92 = .ok (.iload 4, 2) := by decide +kernel
theorem dX0_fillMeans_94 : decode cX0_fillMeans 94 = .ok (.iastore, 1) := by decide +kernel
theorem dX0_fillMeans_95 : decode cX0_fillMeans 95 = .ok (.iinc 3 1, 3) := by decide +kernel
theorem dX0_fillMeans_98 : decode cX0_fillMeans 98 = .ok (.goto (-86), 3) := by decide +kernel
theorem dX0_fillMeans_101 : decode cX0_fillMeans 101 = .ok (.iinc 2 1, 3) := by decide +kernel
theorem dX0_fillMeans_104 : decode cX0_fillMeans 104 = .ok (.goto (-102), 3) := by decide +kernel
theorem dX0_fillMeans_107 : decode cX0_fillMeans 107 = .ok (.return_, 1) := by decide +kernel
set_option maxRecDepth 20000 in
theorem ggX0_around_X4_leftOf : GoodIn wsX0_around wsX4_leftOf := goodIn_r _ [5, 6, 16, 17, 18, 19, 20, 21, 22, 23, 24, 25, 26, 27] rfl (by decide +kernel)
set_option maxRecDepth 20000 in
theorem gX0_around_X4_leftOf : GoodIn wsX0_around (wsV RX0 55 RX4 yX4_leftOf wsX4_leftOf) := goodIn_app (goodIn_of _ (by decide +kernel)) ggX0_around_X4_leftOf
set_option maxRecDepth 20000 in
theorem ggX0_around_X0_digit : GoodIn wsX0_around wsX0_digit := goodIn_r _ [10, 11, 16, 17, 18, 19, 20, 21, 22, 23, 24, 25, 26, 27] rfl (by decide +kernel)
set_option maxRecDepth 20000 in
theorem gX0_around_X0_digit : GoodIn wsX0_around (va_wsS RX0 59 yX0_digit wsX0_digit) := goodIn_app (goodIn_of _ (by decide +kernel)) ggX0_around_X0_digit
set_option maxRecDepth 20000 in
theorem ggX0_around_X4_rightOf : GoodIn wsX0_around wsX4_rightOf := goodIn_r _ [15, 6, 16, 17, 18, 19, 20, 21, 22, 23, 24, 25, 26, 27] rfl (by decide +kernel)
set_option maxRecDepth 20000 in
theorem gX0_around_X4_rightOf : GoodIn wsX0_around (wsV RX0 63 RX4 yX4_rightOf wsX4_rightOf) := goodIn_app (goodIn_of _ (by decide +kernel)) ggX0_around_X4_rightOf
theorem dX0_around_0 : decode cX0_around 0 = .ok (.iconst 4, 1) := by decide +kernel
theorem dX0_around_1 : decode cX0_around 1 = .ok (.aload_n 0, 1) := by decide +kernel
theorem dX0_around_2 : decode cX0_around 2 = .ok (.iload_n 1, 1) := by decide +kernel
theorem dX0_around_3 : decode cX0_around 3 = .ok (.aload_n 0, 1) := by decide +kernel
theorem dX0_around_4 : decode cX0_around 4 = .ok (.iload_n 2, 1) := by decide +kernel
theorem dX0_around_5 : decode cX0_around 5 = .ok (.invokevirtual 55, 3) := by decide +kernel
theorem dX0_around_8 : decode cX0_around 8 = .ok (.invokestatic 59, 3) := by decide +kernel
theorem dX0_around_11 : decode cX0_around 11 = .ok (.imul, 1) := by decide +kernel
theorem dX0_around_12 : decode cX0_around 12 = .ok (.aload_n 0, 1) := by decide +kernel
theorem dX0_around_13 : decode cX0_around 13 = .ok (.iload_n 1, 1) := by decide +kernel
theorem dX0_around_14 : decode cX0_around 14 = .ok (.aload_n 0, 1) := by decide +kernel
theorem dX0_around_15 : decode cX0_around 15 = .ok (.iload_n 2, 1) := by decide +kernel
theorem dX0_around_16 : decode cX0_around 16 = .ok (.invokevirtual 63, 3) := by decide +kernel
theorem dX0_around_19 : decode cX0_around 19 = .ok (.invokestatic 59, 3) := by decide +kernel
theorem dX0_around_22 : decode cX0_around 22 = .ok (.iadd, 1) := by decide +kernel
theorem dX0_around_23 : decode cX0_around 23 = .ok (.ireturn, 1) := by decide +kernel
set_option maxRecDepth 20000 in
theorem ggX0_nobodyWouldRather_X0_around : GoodIn wsX0_nobodyWouldRather wsX0_around := goodIn_r _ [7, 8, 9, 10, 11, 12, 13, 14, 15, 6, 16, 1, 17, 18, 19, 20, 21, 22, 23, 24, 25, 26, 27, 28, 29, 30, 31, 32] rfl (by decide +kernel)
set_option maxRecDepth 20000 in
theorem gX0_nobodyWouldRather_X0_around : GoodIn wsX0_nobodyWouldRather (va_wsS RX0 122 yX0_around wsX0_around) := goodIn_app (goodIn_of _ (by decide +kernel)) ggX0_nobodyWouldRather_X0_around
set_option maxRecDepth 20000 in
theorem ggX0_nobodyWouldRather_X0_digit : GoodIn wsX0_nobodyWouldRather wsX0_digit := goodIn_r _ [16, 1, 21, 22, 23, 24, 25, 26, 27, 28, 29, 30, 31, 32] rfl (by decide +kernel)
set_option maxRecDepth 20000 in
theorem gX0_nobodyWouldRather_X0_digit : GoodIn wsX0_nobodyWouldRather (va_wsS RX0 59 yX0_digit wsX0_digit) := goodIn_app (goodIn_of _ (by decide +kernel)) ggX0_nobodyWouldRather_X0_digit
theorem dX0_nobodyWouldRather_0 : decode cX0_nobodyWouldRather 0 = .ok (.iconst 0, 1) := by decide +kernel
theorem dX0_nobodyWouldRather_1 : decode cX0_nobodyWouldRather 1 = .ok (.istore_n 3, 1) := by decide +kernel
theorem dX0_nobodyWouldRather_2 : decode cX0_nobodyWouldRather 2 = .ok (.iload_n 3, 1) := by decide +kernel
theorem dX0_nobodyWouldRather_3 : decode cX0_nobodyWouldRather 3 = .ok (.aload_n 1, 1) := by decide +kernel
theorem dX0_nobodyWouldRather_4 : decode cX0_nobodyWouldRather 4 = .ok (.getfield 50, 3) := by decide +kernel
theorem dX0_nobodyWouldRather_7 : decode cX0_nobodyWouldRather 7 = .ok (.if_icmp .ge 49, 3) := by decide +kernel
theorem dX0_nobodyWouldRather_10 : decode cX0_nobodyWouldRather 10 = .ok (.aload_n 1, 1) := by decide +kernel
theorem dX0_nobodyWouldRather_11 : decode cX0_nobodyWouldRather 11 = .ok (.iload_n 2, 1) := by decide +kernel
theorem dX0_nobodyWouldRather_12 : decode cX0_nobodyWouldRather 12 = .ok (.iload_n 3, 1) := by decide +kernel
theorem dX0_nobodyWouldRather_13 : decode cX0_nobodyWouldRather 13 = .ok (.invokestatic 122, 3) := by decide +kernel
theorem dX0_nobodyWouldRather_16 : decode cX0_nobodyWouldRather 16 = .ok (.istore 4, 2) := by decide +kernel
theorem dX0_nobodyWouldRather_18 : decode cX0_nobodyWouldRather 18 = .ok (.aload_n 0, 1) := by decide +kernel
theorem dX0_nobodyWouldRather_19 : decode cX0_nobodyWouldRather 19 = .ok (.getfield 32, 3) := by decide +kernel
theorem dX0_nobodyWouldRather_22 : decode cX0_nobodyWouldRather 22 = .ok (.iload_n 3, 1) := by decide +kernel
theorem dX0_nobodyWouldRather_23 : decode cX0_nobodyWouldRather 23 = .ok (.aaload, 1) := by decide +kernel
theorem dX0_nobodyWouldRather_24 : decode cX0_nobodyWouldRather 24 = .ok (.iconst 4, 1) := by decide +kernel
theorem dX0_nobodyWouldRather_25 : decode cX0_nobodyWouldRather 25 = .ok (.iload 4, 2) := by decide +kernel
theorem dX0_nobodyWouldRather_27 : decode cX0_nobodyWouldRather 27 = .ok (.imul, 1) := by decide +kernel
theorem dX0_nobodyWouldRather_28 : decode cX0_nobodyWouldRather 28 = .ok (.aload_n 1, 1) := by decide +kernel
theorem dX0_nobodyWouldRather_29 : decode cX0_nobodyWouldRather 29 = .ok (.iload_n 2, 1) := by decide +kernel
theorem dX0_nobodyWouldRather_30 : decode cX0_nobodyWouldRather 30 = .ok (.iload_n 3, 1) := by decide +kernel
theorem dX0_nobodyWouldRather_31 : decode cX0_nobodyWouldRather 31 = .ok (.invokestatic 59, 3) := by decide +kernel
theorem dX0_nobodyWouldRather_34 : decode cX0_nobodyWouldRather 34 = .ok (.iadd, 1) := by decide +kernel
theorem dX0_nobodyWouldRather_35 : decode cX0_nobodyWouldRather 35 = .ok (.iaload, 1) := by decide +kernel
theorem dX0_nobodyWouldRather_36 : decode cX0_nobodyWouldRather 36 = .ok (.aload_n 0, 1) := by decide +kernel
theorem dX0_nobodyWouldRather_37 : decode cX0_nobodyWouldRather 37 = .ok (.getfield 35, 3) := by decide +kernel
theorem dX0_nobodyWouldRather_40 : decode cX0_nobodyWouldRather 40 = .ok (.iload_n 3, 1) := by decide +kernel
theorem dX0_nobodyWouldRather_41 : decode cX0_nobodyWouldRather 41 = .ok (.aaload, 1) := by decide +kernel
theorem dX0_nobodyWouldRather_42 : decode cX0_nobodyWouldRather 42 = .ok (.iload 4, 2) := by decide +kernel
theorem dX0_nobodyWouldRather_44 : decode cX0_nobodyWouldRather 44 = .ok (.iaload, 1) := by decide +kernel
theorem dX0_nobodyWouldRather_45 : decode cX0_nobodyWouldRather 45 = .ok (.if_icmp .ge 5, 3) := by decide +kernel
theorem dX0_nobodyWouldRather_48 : decode cX0_nobodyWouldRather 48 = .ok (.iconst 0, 1) := by decide +kernel
theorem dX0_nobodyWouldRather_49 : decode cX0_nobodyWouldRather 49 = .ok (.ireturn, 1) := by decide +kernel
theorem dX0_nobodyWouldRather_50 : decode cX0_nobodyWouldRather 50 = .ok (.iinc 3 1, 3) := by decide +kernel
theorem dX0_nobodyWouldRather_53 : decode cX0_nobodyWouldRather 53 = .ok (.goto (-51), 3) := by decide +kernel
theorem dX0_nobodyWouldRather_56 : decode cX0_nobodyWouldRather 56 = .ok (.iconst 1, 1) := by decide +kernel
theorem dX0_nobodyWouldRather_57 : decode cX0_nobodyWouldRather 57 = .ok (.ireturn, 1) := by decide +kernel
set_option maxRecDepth 20000 in
theorem ggX0_meansAdded_X0_around : GoodIn wsX0_meansAdded wsX0_around := goodIn_r _ [6, 7, 8, 9, 10, 11, 12, 13, 14, 5, 15, 1, 16, 17, 18, 19, 20, 21, 22, 23, 24, 25, 26, 27, 28, 29, 30, 31] rfl (by decide +kernel)
set_option maxRecDepth 20000 in
theorem gX0_meansAdded_X0_around : GoodIn wsX0_meansAdded (va_wsS RX0 122 yX0_around wsX0_around) := goodIn_app (goodIn_of _ (by decide +kernel)) ggX0_meansAdded_X0_around
set_option maxRecDepth 20000 in
theorem ggX0_meansAdded_X0_digit : GoodIn wsX0_meansAdded wsX0_digit := goodIn_r _ [15, 1, 20, 21, 22, 23, 24, 25, 26, 27, 28, 29, 30, 31] rfl (by decide +kernel)
set_option maxRecDepth 20000 in
theorem gX0_meansAdded_X0_digit : GoodIn wsX0_meansAdded (va_wsS RX0 59 yX0_digit wsX0_digit) := goodIn_app (goodIn_of _ (by decide +kernel)) ggX0_meansAdded_X0_digit
theorem dX0_meansAdded_0 : decode cX0_meansAdded 0 = .ok (.iconst 0, 1) := by decide +kernel
theorem dX0_meansAdded_1 : decode cX0_meansAdded 1 = .ok (.istore_n 3, 1) := by decide +kernel
theorem dX0_meansAdded_2 : decode cX0_meansAdded 2 = .ok (.iconst 0, 1) := by decide +kernel
theorem dX0_meansAdded_3 : decode cX0_meansAdded 3 = .ok (.istore 4, 2) := by decide +kernel
theorem dX0_meansAdded_5 : decode cX0_meansAdded 5 = .ok (.iload 4, 2) := by decide +kernel
theorem dX0_meansAdded_7 : decode cX0_meansAdded 7 = .ok (.aload_n 1, 1) := by decide +kernel
theorem dX0_meansAdded_8 : decode cX0_meansAdded 8 = .ok (.getfield 50, 3) := by decide +kernel
theorem dX0_meansAdded_11 : decode cX0_meansAdded 11 = .ok (.if_icmp .ge 37, 3) := by decide +kernel
theorem dX0_meansAdded_14 : decode cX0_meansAdded 14 = .ok (.iload_n 3, 1) := by decide +kernel
theorem dX0_meansAdded_15 : decode cX0_meansAdded 15 = .ok (.aload_n 0, 1) := by decide +kernel
theorem dX0_meansAdded_16 : decode cX0_meansAdded 16 = .ok (.getfield 32, 3) := by decide +kernel
theorem dX0_meansAdded_19 : decode cX0_meansAdded 19 = .ok (.iload 4, 2) := by decide +kernel
theorem dX0_meansAdded_21 : decode cX0_meansAdded 21 = .ok (.aaload, 1) := by decide +kernel
theorem dX0_meansAdded_22 : decode cX0_meansAdded 22 = .ok (.iconst 4, 1) := by decide +kernel
theorem dX0_meansAdded_23 : decode cX0_meansAdded 23 = .ok (.aload_n 1, 1) := by decide +kernel
theorem dX0_meansAdded_24 : decode cX0_meansAdded 24 = .ok (.iload_n 2, 1) := by decide +kernel
theorem dX0_meansAdded_25 : decode cX0_meansAdded 25 = .ok (.iload 4, 2) := by decide +kernel
theorem dX0_meansAdded_27 : decode cX0_meansAdded 27 = .ok (.invokestatic 122, 3) := by decide +kernel
theorem dX0_meansAdded_30 : decode cX0_meansAdded 30 = .ok (.imul, 1) := by decide +kernel
theorem dX0_meansAdded_31 : decode cX0_meansAdded 31 = .ok (.aload_n 1, 1) := by decide +kernel
theorem dX0_meansAdded_32 : decode cX0_meansAdded 32 = .ok (.iload_n 2, 1) := by decide +kernel
theorem dX0_meansAdded_33 : decode cX0_meansAdded 33 = .ok (.iload 4, 2) := by decide +kernel
theorem dX0_meansAdded_35 : decode cX0_meansAdded 35 = .ok (.invokestatic 59, 3) := by decide +kernel
theorem dX0_meansAdded_38 : decode cX0_meansAdded 38 = .ok (.iadd, 1) := by decide +kernel
theorem dX0_meansAdded_39 : decode cX0_meansAdded 39 = .ok (.iaload, 1) := by decide +kernel
theorem dX0_meansAdded_40 : decode cX0_meansAdded 40 = .ok (.iadd, 1) := by decide +kernel
theorem dX0_meansAdded_41 : decode cX0_meansAdded 41 = .ok (.istore_n 3, 1) := by decide +kernel
theorem dX0_meansAdded_42 : decode cX0_meansAdded 42 = .ok (.iinc 4 1, 3) := by decide +kernel
theorem dX0_meansAdded_45 : decode cX0_meansAdded 45 = .ok (.goto (-40), 3) := by decide +kernel
theorem dX0_meansAdded_48 : decode cX0_meansAdded 48 = .ok (.iload_n 3, 1) := by decide +kernel
theorem dX0_meansAdded_49 : decode cX0_meansAdded 49 = .ok (.ireturn, 1) := by decide +kernel
set_option maxRecDepth 20000 in
theorem ggX0_fewestWatchers_X0_fillTempted : GoodIn wsX0_fewestWatchers wsX0_fillTempted := goodIn_r _ [6, 7, 8, 9, 10, 1, 11, 12, 5, 13, 14, 15, 16, 17, 18, 19, 20, 21, 22, 23, 24, 25, 26, 27, 28, 29, 30, 31, 32, 33, 34, 35, 36, 37, 38, 39, 40, 41, 42, 43, 44, 45, 46, 47, 48, 49, 50, 51, 52, 53, 54, 55, 56, 84, 85, 86, 87, 88, 89, 90, 91, 92, 93, 94, 95, 72, 73, 74, 75, 76, 77, 78, 79, 80, 81, 82, 83] rfl (by decide +kernel)
set_option maxRecDepth 20000 in
theorem gX0_fewestWatchers_X0_fillTempted : GoodIn wsX0_fewestWatchers (wsV RX0 125 RX0 yX0_fillTempted wsX0_fillTempted) := goodIn_app (goodIn_of _ (by decide +kernel)) ggX0_fewestWatchers_X0_fillTempted
set_option maxRecDepth 20000 in
theorem ggX0_fewestWatchers_X0_fewestOf : GoodIn wsX0_fewestWatchers wsX0_fewestOf := goodIn_r _ [60, 61, 62, 63, 64, 65, 66, 67, 68, 69, 70, 5, 71, 7, 8, 9, 10, 84, 85, 86, 87, 88, 89, 90, 91, 92, 93, 94, 95] rfl (by decide +kernel)
set_option maxRecDepth 20000 in
theorem gX0_fewestWatchers_X0_fewestOf : GoodIn wsX0_fewestWatchers (wsV RX0 128 RX0 yX0_fewestOf wsX0_fewestOf) := goodIn_app (goodIn_of _ (by decide +kernel)) ggX0_fewestWatchers_X0_fewestOf
theorem dX0_fewestWatchers_0 : decode cX0_fewestWatchers 0 = .ok (.aload_n 0, 1) := by decide +kernel
theorem dX0_fewestWatchers_1 : decode cX0_fewestWatchers 1 = .ok (.aload_n 1, 1) := by decide +kernel
theorem dX0_fewestWatchers_2 : decode cX0_fewestWatchers 2 = .ok (.invokevirtual 125, 3) := by decide +kernel
theorem dX0_fewestWatchers_5 : decode cX0_fewestWatchers 5 = .ok (.aload_n 0, 1) := by decide +kernel
theorem dX0_fewestWatchers_6 : decode cX0_fewestWatchers 6 = .ok (.aload_n 1, 1) := by decide +kernel
theorem dX0_fewestWatchers_7 : decode cX0_fewestWatchers 7 = .ok (.getfield 50, 3) := by decide +kernel
theorem dX0_fewestWatchers_10 : decode cX0_fewestWatchers 10 = .ok (.invokevirtual 128, 3) := by decide +kernel
theorem dX0_fewestWatchers_13 : decode cX0_fewestWatchers 13 = .ok (.ireturn, 1) := by decide +kernel
set_option maxRecDepth 20000 in
theorem ggX0_fewestOf_J6_bitCount_0f7a4 : GoodIn wsX0_fewestOf wsJ6_bitCount_0f7a4 := goodIn_r _ [4, 5, 6, 7] rfl (by decide +kernel)
set_option maxRecDepth 20000 in
theorem gX0_fewestOf_J6_bitCount_0f7a4 : GoodIn wsX0_fewestOf (va_wsS RX0 131 yJ6_bitCount_0f7a4 wsJ6_bitCount_0f7a4) := goodIn_app (goodIn_of _ (by decide +kernel)) ggX0_fewestOf_J6_bitCount_0f7a4
set_option maxRecDepth 20000 in
theorem ggX0_fewestOf_X0_standsStill : GoodIn wsX0_fewestOf wsX0_standsStill := goodIn_r _ [12, 13, 14, 15, 16, 17, 18, 19, 20, 21, 22, 23, 24, 25, 26, 27, 28] rfl (by decide +kernel)
set_option maxRecDepth 20000 in
theorem gX0_fewestOf_X0_standsStill : GoodIn wsX0_fewestOf (wsV RX0 136 RX0 yX0_standsStill wsX0_standsStill) := goodIn_app (goodIn_of _ (by decide +kernel)) ggX0_fewestOf_X0_standsStill
theorem dX0_fewestOf_0 : decode cX0_fewestOf 0 = .ok (.iconst (-1), 1) := by decide +kernel
theorem dX0_fewestOf_1 : decode cX0_fewestOf 1 = .ok (.istore_n 2, 1) := by decide +kernel
theorem dX0_fewestOf_2 : decode cX0_fewestOf 2 = .ok (.iconst 0, 1) := by decide +kernel
theorem dX0_fewestOf_3 : decode cX0_fewestOf 3 = .ok (.istore_n 3, 1) := by decide +kernel
theorem dX0_fewestOf_4 : decode cX0_fewestOf 4 = .ok (.iload_n 3, 1) := by decide +kernel
theorem dX0_fewestOf_5 : decode cX0_fewestOf 5 = .ok (.iconst 1, 1) := by decide +kernel
theorem dX0_fewestOf_6 : decode cX0_fewestOf 6 = .ok (.iload_n 1, 1) := by decide +kernel
theorem dX0_fewestOf_7 : decode cX0_fewestOf 7 = .ok (.ishl, 1) := by decide +kernel
theorem dX0_fewestOf_8 : decode cX0_fewestOf 8 = .ok (.if_icmp .ge 36, 3) := by decide +kernel
theorem dX0_fewestOf_11 : decode cX0_fewestOf 11 = .ok (.iload_n 2, 1) := by decide +kernel
theorem dX0_fewestOf_12 : decode cX0_fewestOf 12 = .ok (.iconst (-1), 1) := by decide +kernel
theorem dX0_fewestOf_13 : decode cX0_fewestOf 13 = .ok (.if_icmp .eq 14, 3) := by decide +kernel
theorem dX0_fewestOf_16 : decode cX0_fewestOf 16 = .ok (.iload_n 3, 1) := by decide +kernel
theorem dX0_fewestOf_17 : decode cX0_fewestOf 17 = .ok (.invokestatic 131, 3) := by decide +kernel
theorem dX0_fewestOf_20 : decode cX0_fewestOf 20 = .ok (.iload_n 2, 1) := by decide +kernel
theorem dX0_fewestOf_21 : decode cX0_fewestOf 21 = .ok (.invokestatic 131, 3) := by decide +kernel
theorem dX0_fewestOf_24 : decode cX0_fewestOf 24 = .ok (.if_icmp .ge 14, 3) := by decide +kernel
theorem dX0_fewestOf_27 : decode cX0_fewestOf 27 = .ok (.aload_n 0, 1) := by decide +kernel
theorem dX0_fewestOf_28 : decode cX0_fewestOf 28 = .ok (.iload_n 1, 1) := by decide +kernel
theorem dX0_fewestOf_29 : decode cX0_fewestOf 29 = .ok (.iload_n 3, 1) := by decide +kernel
theorem dX0_fewestOf_30 : decode cX0_fewestOf 30 = .ok (.invokevirtual 136, 3) := by decide +kernel
theorem dX0_fewestOf_33 : decode cX0_fewestOf 33 = .ok (.ifCond .eq 5, 3) := by decide +kernel
theorem dX0_fewestOf_36 : decode cX0_fewestOf 36 = .ok (.iload_n 3, 1) := by decide +kernel
theorem dX0_fewestOf_37 : decode cX0_fewestOf 37 = .ok (.istore_n 2, 1) := by decide +kernel
theorem dX0_fewestOf_38 : decode cX0_fewestOf 38 = .ok (.iinc 3 1, 3) := by decide +kernel
theorem dX0_fewestOf_41 : decode cX0_fewestOf 41 = .ok (.goto (-37), 3) := by decide +kernel
theorem dX0_fewestOf_44 : decode cX0_fewestOf 44 = .ok (.iload_n 2, 1) := by decide +kernel
theorem dX0_fewestOf_45 : decode cX0_fewestOf 45 = .ok (.ireturn, 1) := by decide +kernel
set_option maxRecDepth 20000 in
theorem ggX0_fillTempted_X0_mean : GoodIn wsX0_fillTempted wsX0_mean := goodIn_r _ [9, 10, 11, 12, 13, 14, 15, 16, 17, 18, 19, 20, 21, 22, 23, 8, 24, 25, 26, 27, 28, 29, 30, 31, 32, 33, 34, 35, 36, 37, 38, 39, 40, 41, 42, 43, 44, 45, 46, 47, 48, 49, 50, 51, 52, 65, 66, 67, 68, 69, 70, 71, 72, 73, 74, 75, 76] rfl (by decide +kernel)
set_option maxRecDepth 20000 in
theorem gX0_fillTempted_X0_mean : GoodIn wsX0_fillTempted (va_wsS RX0 66 yX0_mean wsX0_mean) := goodIn_app (goodIn_of _ (by decide +kernel)) ggX0_fillTempted_X0_mean
theorem dX0_fillTempted_0 : decode cX0_fillTempted 0 = .ok (.aload_n 0, 1) := by decide +kernel
theorem dX0_fillTempted_1 : decode cX0_fillTempted 1 = .ok (.iconst 0, 1) := by decide +kernel
theorem dX0_fillTempted_2 : decode cX0_fillTempted 2 = .ok (.putfield 38, 3) := by decide +kernel
theorem dX0_fillTempted_5 : decode cX0_fillTempted 5 = .ok (.aload_n 0, 1) := by decide +kernel
theorem dX0_fillTempted_6 : decode cX0_fillTempted 6 = .ok (.iconst 0, 1) := by decide +kernel
theorem dX0_fillTempted_7 : decode cX0_fillTempted 7 = .ok (.putfield 41, 3) := by decide +kernel
theorem dX0_fillTempted_10 : decode cX0_fillTempted 10 = .ok (.aload_n 0, 1) := by decide +kernel
theorem dX0_fillTempted_11 : decode cX0_fillTempted 11 = .ok (.iconst 0, 1) := by decide +kernel
theorem dX0_fillTempted_12 : decode cX0_fillTempted 12 = .ok (.putfield 44, 3) := by decide +kernel
theorem dX0_fillTempted_15 : decode cX0_fillTempted 15 = .ok (.aload_n 0, 1) := by decide +kernel
theorem dX0_fillTempted_16 : decode cX0_fillTempted 16 = .ok (.iconst 0, 1) := by decide +kernel
theorem dX0_fillTempted_17 : decode cX0_fillTempted 17 = .ok (.putfield 47, 3) := by decide +kernel
theorem dX0_fillTempted_20 : decode cX0_fillTempted 20 = .ok (.iconst 0, 1) := by decide +kernel
theorem dX0_fillTempted_21 : decode cX0_fillTempted 21 = .ok (.istore_n 2, 1) := by decide +kernel
theorem dX0_fillTempted_22 : decode cX0_fillTempted 22 = .ok (.iload_n 2, 1) := by decide +kernel
theorem dX0_fillTempted_23 : decode cX0_fillTempted 23 = .ok (.aload_n 1, 1) := by decide +kernel
theorem dX0_fillTempted_24 : decode cX0_fillTempted 24 = .ok (.getfield 50, 3) := by decide +kernel
theorem dX0_fillTempted_27 : decode cX0_fillTempted 27 = .ok (.if_icmp .ge 130, 3) := by decide +kernel
theorem dX0_fillTempted_30 : decode cX0_fillTempted 30 = .ok (.aload_n 1, 1) := by decide +kernel
theorem dX0_fillTempted_31 : decode cX0_fillTempted 31 = .ok (.iload_n 2, 1) := by decide +kernel
theorem dX0_fillTempted_32 : decode cX0_fillTempted 32 = .ok (.iconst 0, 1) := by decide +kernel
theorem dX0_fillTempted_33 : decode cX0_fillTempted 33 = .ok (.iconst 0, 1) := by decide +kernel
theorem dX0_fillTempted_34 : decode cX0_fillTempted 34 = .ok (.iconst 0, 1) := by decide +kernel
theorem dX0_fillTempted_35 : decode cX0_fillTempted 35 = .ok (.invokestatic 66, 3) := by decide +kernel
theorem dX0_fillTempted_38 : decode cX0_fillTempted 38 = .ok (.istore_n 3, 1) := by decide +kernel
theorem dX0_fillTempted_39 : decode cX0_fillTempted 39 = .ok (.aload_n 0, 1) := by decide +kernel
theorem dX0_fillTempted_40 : decode cX0_fillTempted 40 = .ok (.dup, 1) := by decide +kernel
theorem dX0_fillTempted_41 : decode cX0_fillTempted 41 = .ok (.getfield 38, 3) := by decide +kernel
theorem dX0_fillTempted_44 : decode cX0_fillTempted 44 = .ok (.aload_n 1, 1) := by decide +kernel
theorem dX0_fillTempted_45 : decode cX0_fillTempted 45 = .ok (.iload_n 2, 1) := by decide +kernel
theorem dX0_fillTempted_46 : decode cX0_fillTempted 46 = .ok (.iconst 0, 1) := by decide +kernel
theorem dX0_fillTempted_47 : decode cX0_fillTempted 47 = .ok (.iconst 2, 1) := by decide +kernel
theorem dX0_fillTempted_48 : decode cX0_fillTempted 48 = .ok (.iconst 0, 1) := by decide +kernel
theorem dX0_fillTempted_49 : decode cX0_fillTempted 49 = .ok (.invokestatic 66, 3) := by decide +kernel
theorem dX0_fillTempted_52 : decode cX0_fillTempted 52 = .ok (.iload_n 3, 1) := by decide +kernel
theorem dX0_fillTempted_53 : decode cX0_fillTempted 53 = .ok (.if_icmp .le 9, 3) := by decide +kernel
theorem dX0_fillTempted_56 : decode cX0_fillTempted 56 = .ok (.iconst 1, 1) := by decide +kernel
theorem dX0_fillTempted_57 : decode cX0_fillTempted 57 = .ok (.iload_n 2, 1) := by decide +kernel
theorem dX0_fillTempted_58 : decode cX0_fillTempted 58 = .ok (.ishl, 1) := by decide +kernel
theorem dX0_fillTempted_59 : decode cX0_fillTempted 59 = .ok (.goto 4, 3) := by decide +kernel
theorem dX0_fillTempted_62 : decode cX0_fillTempted 62 = .ok (.iconst 0, 1) := by decide +kernel
theorem dX0_fillTempted_63 : decode cX0_fillTempted 63 = .ok (.ior, 1) := by decide +kernel
theorem dX0_fillTempted_64 : decode cX0_fillTempted 64 = .ok (.putfield 38, 3) := by decide +kernel
theorem dX0_fillTempted_67 : decode cX0_fillTempted 67 = .ok (.aload_n 0, 1) := by decide +kernel
theorem dX0_fillTempted_68 : decode cX0_fillTempted 68 = .ok (.dup, 1) := by decide +kernel
theorem dX0_fillTempted_69 : decode cX0_fillTempted 69 = .ok (.getfield 41, 3) := by decide +kernel
theorem dX0_fillTempted_72 : decode cX0_fillTempted 72 = .ok (.aload_n 1, 1) := by decide +kernel
theorem dX0_fillTempted_73 : decode cX0_fillTempted 73 = .ok (.iload_n 2, 1) := by decide +kernel
theorem dX0_fillTempted_74 : decode cX0_fillTempted 74 = .ok (.iconst 1, 1) := by decide +kernel
theorem dX0_fillTempted_75 : decode cX0_fillTempted 75 = .ok (.iconst 2, 1) := by decide +kernel
theorem dX0_fillTempted_76 : decode cX0_fillTempted 76 = .ok (.iconst 1, 1) := by decide +kernel
theorem dX0_fillTempted_77 : decode cX0_fillTempted 77 = .ok (.invokestatic 66, 3) := by decide +kernel
theorem dX0_fillTempted_80 : decode cX0_fillTempted 80 = .ok (.iload_n 3, 1) := by decide +kernel
theorem dX0_fillTempted_81 : decode cX0_fillTempted 81 = .ok (.if_icmp .le 9, 3) := by decide +kernel
theorem dX0_fillTempted_84 : decode cX0_fillTempted 84 = .ok (.iconst 1, 1) := by decide +kernel
theorem dX0_fillTempted_85 : decode cX0_fillTempted 85 = .ok (.iload_n 2, 1) := by decide +kernel
theorem dX0_fillTempted_86 : decode cX0_fillTempted 86 = .ok (.ishl, 1) := by decide +kernel
theorem dX0_fillTempted_87 : decode cX0_fillTempted 87 = .ok (.goto 4, 3) := by decide +kernel
theorem dX0_fillTempted_90 : decode cX0_fillTempted 90 = .ok (.iconst 0, 1) := by decide +kernel
theorem dX0_fillTempted_91 : decode cX0_fillTempted 91 = .ok (.ior, 1) := by decide +kernel
theorem dX0_fillTempted_92 : decode cX0_fillTempted 92 = .ok (.putfield 41, 3) := by decide +kernel
theorem dX0_fillTempted_95 : decode cX0_fillTempted 95 = .ok (.aload_n 0, 1) := by decide +kernel
theorem dX0_fillTempted_96 : decode cX0_fillTempted 96 = .ok (.dup, 1) := by decide +kernel
theorem dX0_fillTempted_97 : decode cX0_fillTempted 97 = .ok (.getfield 44, 3) := by decide +kernel
theorem dX0_fillTempted_100 : decode cX0_fillTempted 100 = .ok (.aload_n 1, 1) := by decide +kernel
theorem dX0_fillTempted_101 : decode cX0_fillTempted 101 = .ok (.iload_n 2, 1) := by decide +kernel
theorem dX0_fillTempted_102 : decode cX0_fillTempted 102 = .ok (.iconst 0, 1) := by decide +kernel
theorem dX0_fillTempted_103 : decode cX0_fillTempted 103 = .ok (.iconst 3, 1) := by decide +kernel
theorem dX0_fillTempted_104 : decode cX0_fillTempted 104 = .ok (.iconst 0, 1) := by decide +kernel
theorem dX0_fillTempted_105 : decode cX0_fillTempted 105 = .ok (.invokestatic 66, 3) := by decide +kernel
theorem dX0_fillTempted_108 : decode cX0_fillTempted 108 = .ok (.iload_n 3, 1) := by decide +kernel
theorem dX0_fillTempted_109 : decode cX0_fillTempted 109 = .ok (.if_icmp .le 9, 3) := by decide +kernel
theorem dX0_fillTempted_112 : decode cX0_fillTempted 112 = .ok (.iconst 1, 1) := by decide +kernel
theorem dX0_fillTempted_113 : decode cX0_fillTempted 113 = .ok (.iload_n 2, 1) := by decide +kernel
theorem dX0_fillTempted_114 : decode cX0_fillTempted 114 = .ok (.ishl, 1) := by decide +kernel
theorem dX0_fillTempted_115 : decode cX0_fillTempted 115 = .ok (.goto 4, 3) := by decide +kernel
theorem dX0_fillTempted_118 : decode cX0_fillTempted 118 = .ok (.iconst 0, 1) := by decide +kernel
theorem dX0_fillTempted_119 : decode cX0_fillTempted 119 = .ok (.ior, 1) := by decide +kernel
theorem dX0_fillTempted_120 : decode cX0_fillTempted 120 = .ok (.putfield 44, 3) := by decide +kernel
theorem dX0_fillTempted_123 : decode cX0_fillTempted 123 = .ok (.aload_n 0, 1) := by decide +kernel
theorem dX0_fillTempted_124 : decode cX0_fillTempted 124 = .ok (.dup, 1) := by decide +kernel
theorem dX0_fillTempted_125 : decode cX0_fillTempted 125 = .ok (.getfield 47, 3) := by decide +kernel
theorem dX0_fillTempted_128 : decode cX0_fillTempted 128 = .ok (.aload_n 1, 1) := by decide +kernel
theorem dX0_fillTempted_129 : decode cX0_fillTempted 129 = .ok (.iload_n 2, 1) := by decide +kernel
theorem dX0_fillTempted_130 : decode cX0_fillTempted 130 = .ok (.iconst 1, 1) := by decide +kernel
theorem dX0_fillTempted_131 : decode cX0_fillTempted 131 = .ok (.iconst 3, 1) := by decide +kernel
theorem dX0_fillTempted_132 : decode cX0_fillTempted 132 = .ok (.iconst 1, 1) := by decide +kernel
theorem dX0_fillTempted_133 : decode cX0_fillTempted 133 = .ok (.invokestatic 66, 3) := by decide +kernel
theorem dX0_fillTempted_136 : decode cX0_fillTempted 136 = .ok (.iload_n 3, 1) := by decide +kernel
theorem dX0_fillTempted_137 : decode cX0_fillTempted 137 = .ok (.if_icmp .le 9, 3) := by decide +kernel
theorem dX0_fillTempted_140 : decode cX0_fillTempted 140 = .ok (.iconst 1, 1) := by decide +kernel
theorem dX0_fillTempted_141 : decode cX0_fillTempted 141 = .ok (.iload_n 2, 1) := by decide +kernel
theorem dX0_fillTempted_142 : decode cX0_fillTempted 142 = .ok (.ishl, 1) := by decide +kernel
theorem dX0_fillTempted_143 : decode cX0_fillTempted 143 = .ok (.goto 4, 3) := by decide +kernel
theorem dX0_fillTempted_146 : decode cX0_fillTempted 146 = .ok (.iconst 0, 1) := by decide +kernel
theorem dX0_fillTempted_147 : decode cX0_fillTempted 147 = .ok (.ior, 1) := by decide +kernel
theorem dX0_fillTempted_148 : decode cX0_fillTempted 148 = .ok (.putfield 47, 3) := by decide +kernel
theorem dX0_fillTempted_151 : decode cX0_fillTempted 151 = .ok (.iinc 2 1, 3) := by decide +kernel
theorem dX0_fillTempted_154 : decode cX0_fillTempted 154 = .ok (.goto (-132), 3) := by decide +kernel
theorem dX0_fillTempted_157 : decode cX0_fillTempted 157 = .ok (.return_, 1) := by decide +kernel
theorem dX0_standsStill_0 : decode cX0_standsStill 0 = .ok (.iload_n 2, 1) := by decide +kernel
theorem dX0_standsStill_1 : decode cX0_standsStill 1 = .ok (.iconst 1, 1) := by decide +kernel
theorem dX0_standsStill_2 : decode cX0_standsStill 2 = .ok (.ishl, 1) := by decide +kernel
theorem dX0_standsStill_3 : decode cX0_standsStill 3 = .ok (.iload_n 2, 1) := by decide +kernel
theorem dX0_standsStill_4 : decode cX0_standsStill 4 = .ok (.iload_n 1, 1) := by decide +kernel
theorem dX0_standsStill_5 : decode cX0_standsStill 5 = .ok (.iconst 1, 1) := by decide +kernel
theorem dX0_standsStill_6 : decode cX0_standsStill 6 = .ok (.isub, 1) := by decide +kernel
theorem dX0_standsStill_7 : decode cX0_standsStill 7 = .ok (.ishr, 1) := by decide +kernel
theorem dX0_standsStill_8 : decode cX0_standsStill 8 = .ok (.ior, 1) := by decide +kernel
theorem dX0_standsStill_9 : decode cX0_standsStill 9 = .ok (.istore_n 3, 1) := by decide +kernel
theorem dX0_standsStill_10 : decode cX0_standsStill 10 = .ok (.iload_n 2, 1) := by decide +kernel
theorem dX0_standsStill_11 : decode cX0_standsStill 11 = .ok (.iconst 1, 1) := by decide +kernel
theorem dX0_standsStill_12 : decode cX0_standsStill 12 = .ok (.ishr, 1) := by decide +kernel
theorem dX0_standsStill_13 : decode cX0_standsStill 13 = .ok (.iload_n 2, 1) := by decide +kernel
theorem dX0_standsStill_14 : decode cX0_standsStill 14 = .ok (.iload_n 1, 1) := by decide +kernel
theorem dX0_standsStill_15 : decode cX0_standsStill 15 = .ok (.iconst 1, 1) := by decide +kernel
theorem dX0_standsStill_16 : decode cX0_standsStill 16 = .ok (.isub, 1) := by decide +kernel
theorem dX0_standsStill_17 : decode cX0_standsStill 17 = .ok (.ishl, 1) := by decide +kernel
theorem dX0_standsStill_18 : decode cX0_standsStill 18 = .ok (.ior, 1) := by decide +kernel
theorem dX0_standsStill_19 : decode cX0_standsStill 19 = .ok (.istore 4, 2) := by decide +kernel
theorem dX0_standsStill_21 : decode cX0_standsStill 21 = .ok (.aload_n 0, 1) := by decide +kernel
theorem dX0_standsStill_22 : decode cX0_standsStill 22 = .ok (.getfield 38, 3) := by decide +kernel
theorem dX0_standsStill_25 : decode cX0_standsStill 25 = .ok (.iload_n 3, 1) := by decide +kernel
theorem dX0_standsStill_26 : decode cX0_standsStill 26 = .ok (.iconst (-1), 1) := by decide +kernel
theorem dX0_standsStill_27 : decode cX0_standsStill 27 = .ok (.ixor, 1) := by decide +kernel
theorem dX0_standsStill_28 : decode cX0_standsStill 28 = .ok (.iand, 1) := by decide +kernel
theorem dX0_standsStill_29 : decode cX0_standsStill 29 = .ok (.aload_n 0, 1) := by decide +kernel
theorem dX0_standsStill_30 : decode cX0_standsStill 30 = .ok (.getfield 41, 3) := by decide +kernel
theorem dX0_standsStill_33 : decode cX0_standsStill 33 = .ok (.iload_n 3, 1) := by decide +kernel
theorem dX0_standsStill_34 : decode cX0_standsStill 34 = .ok (.iand, 1) := by decide +kernel
theorem dX0_standsStill_35 : decode cX0_standsStill 35 = .ok (.ior, 1) := by decide +kernel
theorem dX0_standsStill_36 : decode cX0_standsStill 36 = .ok (.aload_n 0, 1) := by decide +kernel
theorem dX0_standsStill_37 : decode cX0_standsStill 37 = .ok (.getfield 44, 3) := by decide +kernel
theorem dX0_standsStill_40 : decode cX0_standsStill 40 = .ok (.iload 4, 2) := by decide +kernel
theorem dX0_standsStill_42 : decode cX0_standsStill 42 = .ok (.iconst (-1), 1) := by decide +kernel
theorem dX0_standsStill_43 : decode cX0_standsStill 43 = .ok (.ixor, 1) := by decide +kernel
theorem dX0_standsStill_44 : decode cX0_standsStill 44 = .ok (.iand, 1) := by decide +kernel
theorem dX0_standsStill_45 : decode cX0_standsStill 45 = .ok (.ior, 1) := by decide +kernel
theorem dX0_standsStill_46 : decode cX0_standsStill 46 = .ok (.aload_n 0, 1) := by decide +kernel
theorem dX0_standsStill_47 : decode cX0_standsStill 47 = .ok (.getfield 47, 3) := by decide +kernel
theorem dX0_standsStill_50 : decode cX0_standsStill 50 = .ok (.iload 4, 2) := by decide +kernel
theorem dX0_standsStill_52 : decode cX0_standsStill 52 = .ok (.iand, 1) := by decide +kernel
theorem dX0_standsStill_53 : decode cX0_standsStill 53 = .ok (.ior, 1) := by decide +kernel
theorem dX0_standsStill_54 : decode cX0_standsStill 54 = .ok (.istore 5, 2) := by decide +kernel
theorem dX0_standsStill_56 : decode cX0_standsStill 56 = .ok (.iload 5, 2) := by decide +kernel
theorem dX0_standsStill_58 : decode cX0_standsStill 58 = .ok (.iload_n 2, 1) := by decide +kernel
theorem dX0_standsStill_59 : decode cX0_standsStill 59 = .ok (.iconst (-1), 1) := by decide +kernel
theorem dX0_standsStill_60 : decode cX0_standsStill 60 = .ok (.ixor, 1) := by decide +kernel
theorem dX0_standsStill_61 : decode cX0_standsStill 61 = .ok (.iand, 1) := by decide +kernel
theorem dX0_standsStill_62 : decode cX0_standsStill 62 = .ok (.ifCond .ne 7, 3) := by decide +kernel
theorem dX0_standsStill_65 : decode cX0_standsStill 65 = .ok (.iconst 1, 1) := by decide +kernel
theorem dX0_standsStill_66 : decode cX0_standsStill 66 = .ok (.goto 4, 3) := by decide +kernel
theorem dX0_standsStill_69 : decode cX0_standsStill 69 = .ok (.iconst 0, 1) := by decide +kernel
theorem dX0_standsStill_70 : decode cX0_standsStill 70 = .ok (.ireturn, 1) := by decide +kernel
set_option maxRecDepth 20000 in
theorem ggX0_findWalls_J6_bitCount_0f7a4 : GoodIn wsX0_findWalls wsJ6_bitCount_0f7a4 := goodIn_r _ [8, 9, 10, 11] rfl (by decide +kernel)
set_option maxRecDepth 20000 in
theorem gX0_findWalls_J6_bitCount_0f7a4 : GoodIn wsX0_findWalls (va_wsS RX0 131 yJ6_bitCount_0f7a4 wsJ6_bitCount_0f7a4) := goodIn_app (goodIn_of _ (by decide +kernel)) ggX0_findWalls_J6_bitCount_0f7a4
set_option maxRecDepth 20000 in
theorem ggX0_findWalls_X0_build : GoodIn wsX0_findWalls wsX0_build := goodIn_r _ [15, 1, 2, 77, 78, 79, 80, 81, 82, 83, 84, 85, 86, 87, 88] rfl (by decide +kernel)
set_option maxRecDepth 20000 in
theorem gX0_findWalls_X0_build : GoodIn wsX0_findWalls (va_wsS RX0 140 yX0_build wsX0_build) := goodIn_app (goodIn_of _ (by decide +kernel)) ggX0_findWalls_X0_build
set_option maxRecDepth 20000 in
theorem ggX0_findWalls_X0_fillTempted : GoodIn wsX0_findWalls wsX0_fillTempted := goodIn_r _ [19, 20, 21, 22, 23, 1, 24, 25, 14, 26, 27, 28, 29, 30, 31, 32, 33, 34, 35, 36, 37, 38, 39, 40, 41, 42, 43, 44, 45, 46, 47, 48, 49, 50, 2, 51, 52, 53, 54, 55, 56, 57, 58, 59, 60, 61, 62, 63, 64, 65, 66, 67, 68, 89, 90, 91, 92, 93, 94, 95, 96, 97, 98, 99, 100, 77, 78, 79, 80, 81, 82, 83, 84, 85, 86, 87, 88] rfl (by decide +kernel)
set_option maxRecDepth 20000 in
theorem gX0_findWalls_X0_fillTempted : GoodIn wsX0_findWalls (wsV RX0 125 RX0 yX0_fillTempted wsX0_fillTempted) := goodIn_app (goodIn_of _ (by decide +kernel)) ggX0_findWalls_X0_fillTempted
set_option maxRecDepth 20000 in
theorem ggX0_findWalls_X0_fewestOf : GoodIn wsX0_findWalls wsX0_fewestOf := goodIn_r _ [72, 5, 6, 7, 8, 9, 10, 11, 73, 74, 75, 14, 76, 20, 21, 22, 23, 89, 90, 91, 92, 93, 94, 95, 96, 97, 98, 99, 100] rfl (by decide +kernel)
set_option maxRecDepth 20000 in
theorem gX0_findWalls_X0_fewestOf : GoodIn wsX0_findWalls (wsV RX0 128 RX0 yX0_fewestOf wsX0_fewestOf) := goodIn_app (goodIn_of _ (by decide +kernel)) ggX0_findWalls_X0_fewestOf
theorem dX0_findWalls_0 : decode cX0_findWalls 0 = .ok (.iconst 0, 1) := by decide +kernel
theorem dX0_findWalls_1 : decode cX0_findWalls 1 = .ok (.istore_n 3, 1) := by decide +kernel
theorem dX0_findWalls_2 : decode cX0_findWalls 2 = .ok (.iconst 0, 1) := by decide +kernel
theorem dX0_findWalls_3 : decode cX0_findWalls 3 = .ok (.istore 4, 2) := by decide +kernel
theorem dX0_findWalls_5 : decode cX0_findWalls 5 = .ok (.iload 4, 2) := by decide +kernel
theorem dX0_findWalls_7 : decode cX0_findWalls 7 = .ok (.aload_n 1, 1) := by decide +kernel
theorem dX0_findWalls_8 : decode cX0_findWalls 8 = .ok (.getfield 50, 3) := by decide +kernel
theorem dX0_findWalls_11 : decode cX0_findWalls 11 = .ok (.if_icmp .ge 24, 3) := by decide +kernel
theorem dX0_findWalls_14 : decode cX0_findWalls 14 = .ok (.iload_n 3, 1) := by decide +kernel
theorem dX0_findWalls_15 : decode cX0_findWalls 15 = .ok (.aload_n 1, 1) := by decide +kernel
theorem dX0_findWalls_16 : decode cX0_findWalls 16 = .ok (.getfield 104, 3) := by decide +kernel
theorem dX0_findWalls_19 : decode cX0_findWalls 19 = .ok (.iload 4, 2) := by decide +kernel
theorem dX0_findWalls_21 : decode cX0_findWalls 21 = .ok (.aaload, 1) := by decide +kernel
theorem dX0_findWalls_22 : decode cX0_findWalls 22 = .ok (.iconst 0, 1) := by decide +kernel
theorem dX0_findWalls_23 : decode cX0_findWalls 23 = .ok (.iaload, 1) := by decide +kernel
theorem dX0_findWalls_24 : decode cX0_findWalls 24 = .ok (.iload 4, 2) := by decide +kernel
theorem dX0_findWalls_26 : decode cX0_findWalls 26 = .ok (.ishl, 1) := by decide +kernel
theorem dX0_findWalls_27 : decode cX0_findWalls 27 = .ok (.ior, 1) := by decide +kernel
theorem dX0_findWalls_28 : decode cX0_findWalls 28 = .ok (.istore_n 3, 1) := by decide +kernel
theorem dX0_findWalls_29 : decode cX0_findWalls 29 = .ok (.iinc 4 1, 3) := by decide +kernel
theorem dX0_findWalls_32 : decode cX0_findWalls 32 = .ok (.goto (-27), 3) := by decide +kernel
theorem dX0_findWalls_35 : decode cX0_findWalls 35 = .ok (.iconst 0, 1) := by decide +kernel
theorem dX0_findWalls_36 : decode cX0_findWalls 36 = .ok (.istore 4, 2) := by decide +kernel
theorem dX0_findWalls_38 : decode cX0_findWalls 38 = .ok (.iconst 0, 1) := by decide +kernel
theorem dX0_findWalls_39 : decode cX0_findWalls 39 = .ok (.istore 5, 2) := by decide +kernel
theorem dX0_findWalls_41 : decode cX0_findWalls 41 = .ok (.iload 5, 2) := by decide +kernel
theorem dX0_findWalls_43 : decode cX0_findWalls 43 = .ok (.iconst 1, 1) := by decide +kernel
theorem dX0_findWalls_44 : decode cX0_findWalls 44 = .ok (.aload_n 1, 1) := by decide +kernel
theorem dX0_findWalls_45 : decode cX0_findWalls 45 = .ok (.getfield 50, 3) := by decide +kernel
theorem dX0_findWalls_48 : decode cX0_findWalls 48 = .ok (.ishl, 1) := by decide +kernel
theorem dX0_findWalls_49 : decode cX0_findWalls 49 = .ok (.if_icmp .ge 123, 3) := by decide +kernel
theorem dX0_findWalls_52 : decode cX0_findWalls 52 = .ok (.iload 5, 2) := by decide +kernel
theorem dX0_findWalls_54 : decode cX0_findWalls 54 = .ok (.invokestatic 131, 3) := by decide +kernel
theorem dX0_findWalls_57 : decode cX0_findWalls 57 = .ok (.istore 6, 2) := by decide +kernel
theorem dX0_findWalls_59 : decode cX0_findWalls 59 = .ok (.iload 6, 2) := by decide +kernel
theorem dX0_findWalls_61 : decode cX0_findWalls 61 = .ok (.iload_n 2, 1) := by decide +kernel
theorem dX0_findWalls_62 : decode cX0_findWalls 62 = .ok (.if_icmp .gt 104, 3) := by decide +kernel
theorem dX0_findWalls_65 : decode cX0_findWalls 65 = .ok (.iload 5, 2) := by decide +kernel
theorem dX0_findWalls_67 : decode cX0_findWalls 67 = .ok (.iload_n 3, 1) := by decide +kernel
theorem dX0_findWalls_68 : decode cX0_findWalls 68 = .ok (.iand, 1) := by decide +kernel
theorem dX0_findWalls_69 : decode cX0_findWalls 69 = .ok (.ifCond .eq 6, 3) := by decide +kernel
theorem dX0_findWalls_72 : decode cX0_findWalls 72 = .ok (.goto 94, 3) := by decide +kernel
theorem dX0_findWalls_75 : decode cX0_findWalls 75 = .ok (.aload_n 1, 1) := by decide +kernel
theorem dX0_findWalls_76 : decode cX0_findWalls 76 = .ok (.iload_n 3, 1) := by decide +kernel
theorem dX0_findWalls_77 : decode cX0_findWalls 77 = .ok (.iload 5, 2) := by decide +kernel
theorem dX0_findWalls_79 : decode cX0_findWalls 79 = .ok (.ior, 1) := by decide +kernel
theorem dX0_findWalls_80 : decode cX0_findWalls 80 = .ok (.invokestatic 140, 3) := by decide +kernel
theorem dX0_findWalls_83 : decode cX0_findWalls 83 = .ok (.aload_n 0, 1) := by decide +kernel
theorem dX0_findWalls_84 : decode cX0_findWalls 84 = .ok (.aload_n 1, 1) := by decide +kernel
theorem dX0_findWalls_85 : decode cX0_findWalls 85 = .ok (.invokevirtual 125, 3) := by decide +kernel
theorem dX0_findWalls_88 : decode cX0_findWalls 88 = .ok (.aload_n 0, 1) := by decide +kernel
theorem dX0_findWalls_89 : decode cX0_findWalls 89 = .ok (.aload_n 1, 1) := by decide +kernel
theorem dX0_findWalls_90 : decode cX0_findWalls 90 = .ok (.getfield 50, 3) := by decide +kernel
theorem dX0_findWalls_93 : decode cX0_findWalls 93 = .ok (.invokevirtual 128, 3) := by decide +kernel
theorem dX0_findWalls_96 : decode cX0_findWalls 96 = .ok (.istore 7, 2) := by decide +kernel
theorem dX0_findWalls_98 : decode cX0_findWalls 98 = .ok (.iload 7, 2) := by decide +kernel
theorem dX0_findWalls_100 : decode cX0_findWalls 100 = .ok (.iconst (-1), 1) := by decide +kernel
theorem dX0_findWalls_101 : decode cX0_findWalls 101 = .ok (.if_icmp .ne 8, 3) := by decide +kernel
theorem dX0_findWalls_104 : decode cX0_findWalls 104 = .ok (.bipush 99, 2) := by decide +kernel
theorem dX0_findWalls_106 : decode cX0_findWalls 106 = .ok (.goto 8, 3) := by decide +kernel
theorem dX0_findWalls_109 : decode cX0_findWalls 109 = .ok (.iload 7, 2) := by decide +kernel
theorem dX0_findWalls_111 : decode cX0_findWalls 111 = .ok (.invokestatic 131, 3) := by decide +kernel
theorem dX0_findWalls_114 : decode cX0_findWalls 114 = .ok (.istore 8, 2) := by decide +kernel
theorem dX0_findWalls_116 : decode cX0_findWalls 116 = .ok (.iload 4, 2) := by decide +kernel
theorem dX0_findWalls_118 : decode cX0_findWalls 118 = .ok (.ifCond .eq 33, 3) := by decide +kernel
theorem dX0_findWalls_121 : decode cX0_findWalls 121 = .ok (.iload 8, 2) := by decide +kernel
theorem dX0_findWalls_123 : decode cX0_findWalls 123 = .ok (.aload_n 0, 1) := by decide +kernel
theorem dX0_findWalls_124 : decode cX0_findWalls 124 = .ok (.getfield 27, 3) := by decide +kernel
theorem dX0_findWalls_127 : decode cX0_findWalls 127 = .ok (.if_icmp .lt 24, 3) := by decide +kernel
theorem dX0_findWalls_130 : decode cX0_findWalls 130 = .ok (.iload 8, 2) := by decide +kernel
theorem dX0_findWalls_132 : decode cX0_findWalls 132 = .ok (.aload_n 0, 1) := by decide +kernel
theorem dX0_findWalls_133 : decode cX0_findWalls 133 = .ok (.getfield 27, 3) := by decide +kernel
theorem dX0_findWalls_136 : decode cX0_findWalls 136 = .ok (.if_icmp .ne 30, 3) := by decide +kernel
theorem dX0_findWalls_139 : decode cX0_findWalls 139 = .ok (.iload 6, 2) := by decide +kernel
theorem dX0_findWalls_141 : decode cX0_findWalls 141 = .ok (.aload_n 0, 1) := by decide +kernel
theorem dX0_findWalls_142 : decode cX0_findWalls 142 = .ok (.getfield 24, 3) := by decide +kernel
theorem dX0_findWalls_145 : decode cX0_findWalls 145 = .ok (.invokestatic 131, 3) := by decide +kernel
theorem dX0_findWalls_148 : decode cX0_findWalls 148 = .ok (.if_icmp .ge 18, 3) := by decide +kernel
theorem dX0_findWalls_151 : decode cX0_findWalls 151 = .ok (.iconst 1, 1) := by decide +kernel
theorem dX0_findWalls_152 : decode cX0_findWalls 152 = .ok (.istore 4, 2) := by decide +kernel
theorem dX0_findWalls_154 : decode cX0_findWalls 154 = .ok (.aload_n 0, 1) := by decide +kernel
theorem dX0_findWalls_155 : decode cX0_findWalls 155 = .ok (.iload 5, 2) := by decide +kernel
theorem dX0_findWalls_157 : decode cX0_findWalls 157 = .ok (.putfield 24, 3) := by decide +kernel
theorem dX0_findWalls_160 : decode cX0_findWalls 160 = .ok (.aload_n 0, 1) := by decide +kernel
theorem dX0_findWalls_161 : decode cX0_findWalls 161 = .ok (.iload 8, 2) := by decide +kernel
theorem dX0_findWalls_163 : decode cX0_findWalls 163 = .ok (.putfield 27, 3) := by decide +kernel
theorem dX0_findWalls_166 : decode cX0_findWalls 166 = .ok (.iinc 5 1, 3) := by decide +kernel
theorem dX0_findWalls_169 : decode cX0_findWalls 169 = .ok (.goto (-128), 3) := by decide +kernel
theorem dX0_findWalls_172 : decode cX0_findWalls 172 = .ok (.return_, 1) := by decide +kernel
theorem dX0_build_0 : decode cX0_build 0 = .ok (.iconst 0, 1) := by decide +kernel
theorem dX0_build_1 : decode cX0_build 1 = .ok (.istore_n 2, 1) := by decide +kernel
theorem dX0_build_2 : decode cX0_build 2 = .ok (.iload_n 2, 1) := by decide +kernel
theorem dX0_build_3 : decode cX0_build 3 = .ok (.aload_n 0, 1) := by decide +kernel
theorem dX0_build_4 : decode cX0_build 4 = .ok (.getfield 50, 3) := by decide +kernel
theorem dX0_build_7 : decode cX0_build 7 = .ok (.if_icmp .ge 22, 3) := by decide +kernel
theorem dX0_build_10 : decode cX0_build 10 = .ok (.aload_n 0, 1) := by decide +kernel
theorem dX0_build_11 : decode cX0_build 11 = .ok (.getfield 104, 3) := by decide +kernel
theorem dX0_build_14 : decode cX0_build 14 = .ok (.iload_n 2, 1) := by decide +kernel
theorem dX0_build_15 : decode cX0_build 15 = .ok (.aaload, 1) := by decide +kernel
theorem dX0_build_16 : decode cX0_build 16 = .ok (.iconst 0, 1) := by decide +kernel
theorem dX0_build_17 : decode cX0_build 17 = .ok (.iload_n 1, 1) := by decide +kernel
theorem dX0_build_18 : decode cX0_build 18 = .ok (.iload_n 2, 1) := by decide +kernel
theorem dX0_build_19 : decode cX0_build 19 = .ok (.ishr, 1) := by decide +kernel
theorem dX0_build_20 : decode cX0_build 20 = .ok (.iconst 1, 1) := by decide +kernel
theorem dX0_build_21 : decode cX0_build 21 = .ok (.iand, 1) := by decide +kernel
theorem dX0_build_22 : decode cX0_build 22 = .ok (.iastore, 1) := by decide +kernel
theorem dX0_build_23 : decode cX0_build 23 = .ok (.iinc 2 1, 3) := by decide +kernel
theorem dX0_build_26 : decode cX0_build 26 = .ok (.goto (-24), 3) := by decide +kernel
theorem dX0_build_29 : decode cX0_build 29 = .ok (.return_, 1) := by decide +kernel
set_option maxRecDepth 20000 in
theorem ggX0_pactHolds_X0_mean : GoodIn wsX0_pactHolds wsX0_mean := goodIn_r _ [4, 5, 6, 7, 8, 9, 10, 11, 12, 13, 14, 15, 16, 17, 18, 3, 19, 20, 21, 22, 23, 24, 25, 26, 27, 28, 29, 30, 31, 32, 33, 34, 35, 36, 37, 38, 39, 40, 41, 42, 43, 44, 45, 46, 47, 48, 49, 50, 51, 52, 53, 54, 55, 56, 57, 58, 59] rfl (by decide +kernel)
set_option maxRecDepth 20000 in
theorem gX0_pactHolds_X0_mean : GoodIn wsX0_pactHolds (va_wsS RX0 66 yX0_mean wsX0_mean) := goodIn_app (goodIn_of _ (by decide +kernel)) ggX0_pactHolds_X0_mean
theorem dX0_pactHolds_0 : decode cX0_pactHolds 0 = .ok (.aload_n 0, 1) := by decide +kernel
theorem dX0_pactHolds_1 : decode cX0_pactHolds 1 = .ok (.iload_n 1, 1) := by decide +kernel
theorem dX0_pactHolds_2 : decode cX0_pactHolds 2 = .ok (.iconst 0, 1) := by decide +kernel
theorem dX0_pactHolds_3 : decode cX0_pactHolds 3 = .ok (.iconst 0, 1) := by decide +kernel
theorem dX0_pactHolds_4 : decode cX0_pactHolds 4 = .ok (.iconst 0, 1) := by decide +kernel
theorem dX0_pactHolds_5 : decode cX0_pactHolds 5 = .ok (.invokestatic 66, 3) := by decide +kernel
theorem dX0_pactHolds_8 : decode cX0_pactHolds 8 = .ok (.istore_n 3, 1) := by decide +kernel
theorem dX0_pactHolds_9 : decode cX0_pactHolds 9 = .ok (.aload_n 0, 1) := by decide +kernel
theorem dX0_pactHolds_10 : decode cX0_pactHolds 10 = .ok (.iload_n 1, 1) := by decide +kernel
theorem dX0_pactHolds_11 : decode cX0_pactHolds 11 = .ok (.iconst 0, 1) := by decide +kernel
theorem dX0_pactHolds_12 : decode cX0_pactHolds 12 = .ok (.iconst 3, 1) := by decide +kernel
theorem dX0_pactHolds_13 : decode cX0_pactHolds 13 = .ok (.iconst 0, 1) := by decide +kernel
theorem dX0_pactHolds_14 : decode cX0_pactHolds 14 = .ok (.invokestatic 66, 3) := by decide +kernel
theorem dX0_pactHolds_17 : decode cX0_pactHolds 17 = .ok (.iload_n 3, 1) := by decide +kernel
theorem dX0_pactHolds_18 : decode cX0_pactHolds 18 = .ok (.isub, 1) := by decide +kernel
theorem dX0_pactHolds_19 : decode cX0_pactHolds 19 = .ok (.istore 4, 2) := by decide +kernel
theorem dX0_pactHolds_21 : decode cX0_pactHolds 21 = .ok (.iload_n 3, 1) := by decide +kernel
theorem dX0_pactHolds_22 : decode cX0_pactHolds 22 = .ok (.aload_n 0, 1) := by decide +kernel
theorem dX0_pactHolds_23 : decode cX0_pactHolds 23 = .ok (.iload_n 1, 1) := by decide +kernel
theorem dX0_pactHolds_24 : decode cX0_pactHolds 24 = .ok (.iconst 0, 1) := by decide +kernel
theorem dX0_pactHolds_25 : decode cX0_pactHolds 25 = .ok (.iconst 3, 1) := by decide +kernel
theorem dX0_pactHolds_26 : decode cX0_pactHolds 26 = .ok (.iconst 2, 1) := by decide +kernel
theorem dX0_pactHolds_27 : decode cX0_pactHolds 27 = .ok (.invokestatic 66, 3) := by decide +kernel
theorem dX0_pactHolds_30 : decode cX0_pactHolds 30 = .ok (.isub, 1) := by decide +kernel
theorem dX0_pactHolds_31 : decode cX0_pactHolds 31 = .ok (.istore 5, 2) := by decide +kernel
theorem dX0_pactHolds_33 : decode cX0_pactHolds 33 = .ok (.iload 4, 2) := by decide +kernel
theorem dX0_pactHolds_35 : decode cX0_pactHolds 35 = .ok (.i2l, 1) := by decide +kernel
theorem dX0_pactHolds_36 : decode cX0_pactHolds 36 = .ok (.sipush 1000, 3) := by decide +kernel
theorem dX0_pactHolds_39 : decode cX0_pactHolds 39 = .ok (.iload_n 2, 1) := by decide +kernel
theorem dX0_pactHolds_40 : decode cX0_pactHolds 40 = .ok (.isub, 1) := by decide +kernel
theorem dX0_pactHolds_41 : decode cX0_pactHolds 41 = .ok (.i2l, 1) := by decide +kernel
theorem dX0_pactHolds_42 : decode cX0_pactHolds 42 = .ok (.lmul, 1) := by decide +kernel
theorem dX0_pactHolds_43 : decode cX0_pactHolds 43 = .ok (.iload_n 2, 1) := by decide +kernel
theorem dX0_pactHolds_44 : decode cX0_pactHolds 44 = .ok (.i2l, 1) := by decide +kernel
theorem dX0_pactHolds_45 : decode cX0_pactHolds 45 = .ok (.iload 5, 2) := by decide +kernel
theorem dX0_pactHolds_47 : decode cX0_pactHolds 47 = .ok (.i2l, 1) := by decide +kernel
theorem dX0_pactHolds_48 : decode cX0_pactHolds 48 = .ok (.lmul, 1) := by decide +kernel
theorem dX0_pactHolds_49 : decode cX0_pactHolds 49 = .ok (.lcmp, 1) := by decide +kernel
theorem dX0_pactHolds_50 : decode cX0_pactHolds 50 = .ok (.ifCond .gt 7, 3) := by decide +kernel
theorem dX0_pactHolds_53 : decode cX0_pactHolds 53 = .ok (.iconst 1, 1) := by decide +kernel
theorem dX0_pactHolds_54 : decode cX0_pactHolds 54 = .ok (.goto 4, 3) := by decide +kernel
theorem dX0_pactHolds_57 : decode cX0_pactHolds 57 = .ok (.iconst 0, 1) := by decide +kernel
theorem dX0_pactHolds_58 : decode cX0_pactHolds 58 = .ok (.ireturn, 1) := by decide +kernel
set_option maxRecDepth 20000 in
theorem ggX0_leastPatience_X0_pactHolds : GoodIn wsX0_leastPatience wsX0_pactHolds := goodIn_r _ [4, 5, 6, 3, 7, 8, 9, 10, 11, 12, 13, 14, 15, 16, 17, 18, 19, 20, 21, 22, 23, 24, 25, 26, 27, 28, 29, 30, 31, 32, 33, 34, 35, 36, 37, 38, 39, 40, 41, 42, 43, 44, 45, 46, 47, 48, 49, 50, 51, 52, 53, 54, 55, 56, 57, 58, 59, 60, 61, 62] rfl (by decide +kernel)
set_option maxRecDepth 20000 in
theorem gX0_leastPatience_X0_pactHolds : GoodIn wsX0_leastPatience (va_wsS RX0 144 yX0_pactHolds wsX0_pactHolds) := goodIn_app (goodIn_of _ (by decide +kernel)) ggX0_leastPatience_X0_pactHolds
theorem dX0_leastPatience_0 : decode cX0_leastPatience 0 = .ok (.iconst 0, 1) := by decide +kernel
theorem dX0_leastPatience_1 : decode cX0_leastPatience 1 = .ok (.istore_n 2, 1) := by decide +kernel
theorem dX0_leastPatience_2 : decode cX0_leastPatience 2 = .ok (.iload_n 2, 1) := by decide +kernel
theorem dX0_leastPatience_3 : decode cX0_leastPatience 3 = .ok (.sipush 1000, 3) := by decide +kernel
theorem dX0_leastPatience_6 : decode cX0_leastPatience 6 = .ok (.if_icmp .ge 20, 3) := by decide +kernel
theorem dX0_leastPatience_9 : decode cX0_leastPatience 9 = .ok (.aload_n 0, 1) := by decide +kernel
theorem dX0_leastPatience_10 : decode cX0_leastPatience 10 = .ok (.iload_n 1, 1) := by decide +kernel
theorem dX0_leastPatience_11 : decode cX0_leastPatience 11 = .ok (.iload_n 2, 1) := by decide +kernel
theorem dX0_leastPatience_12 : decode cX0_leastPatience 12 = .ok (.invokestatic 144, 3) := by decide +kernel
theorem dX0_leastPatience_15 : decode cX0_leastPatience 15 = .ok (.ifCond .eq 5, 3) := by decide +kernel
theorem dX0_leastPatience_18 : decode cX0_leastPatience 18 = .ok (.iload_n 2, 1) := by decide +kernel
theorem dX0_leastPatience_19 : decode cX0_leastPatience 19 = .ok (.ireturn, 1) := by decide +kernel
theorem dX0_leastPatience_20 : decode cX0_leastPatience 20 = .ok (.iinc 2 1, 3) := by decide +kernel
theorem dX0_leastPatience_23 : decode cX0_leastPatience 23 = .ok (.goto (-21), 3) := by decide +kernel
theorem dX0_leastPatience_26 : decode cX0_leastPatience 26 = .ok (.iconst (-1), 1) := by decide +kernel
theorem dX0_leastPatience_27 : decode cX0_leastPatience 27 = .ok (.ireturn, 1) := by decide +kernel
theorem dX1_init_0 : decode cX1_init 0 = .ok (.aload_n 0, 1) := by decide +kernel
theorem dX1_init_1 : decode cX1_init 1 = .ok (.invokespecial 3, 3) := by decide +kernel
theorem dX1_init_4 : decode cX1_init 4 = .ok (.aload_n 0, 1) := by decide +kernel
theorem dX1_init_5 : decode cX1_init 5 = .ok (.bipush 61, 2) := by decide +kernel
theorem dX1_init_7 : decode cX1_init 7 = .ok (.newarray .long, 2) := by decide +kernel
theorem dX1_init_9 : decode cX1_init 9 = .ok (.putfield 9, 3) := by decide +kernel
theorem dX1_init_12 : decode cX1_init 12 = .ok (.aload_n 0, 1) := by decide +kernel
theorem dX1_init_13 : decode cX1_init 13 = .ok (.bipush 61, 2) := by decide +kernel
theorem dX1_init_15 : decode cX1_init 15 = .ok (.newarray .int, 2) := by decide +kernel
theorem dX1_init_17 : decode cX1_init 17 = .ok (.putfield 15, 3) := by decide +kernel
theorem dX1_init_20 : decode cX1_init 20 = .ok (.aload_n 0, 1) := by decide +kernel
theorem dX1_init_21 : decode cX1_init 21 = .ok (.bipush 61, 2) := by decide +kernel
theorem dX1_init_23 : decode cX1_init 23 = .ok (.newarray .long, 2) := by decide +kernel
theorem dX1_init_25 : decode cX1_init 25 = .ok (.putfield 19, 3) := by decide +kernel
theorem dX1_init_28 : decode cX1_init 28 = .ok (.aload_n 0, 1) := by decide +kernel
theorem dX1_init_29 : decode cX1_init 29 = .ok (.getstatic 22, 3) := by decide +kernel
theorem dX1_init_32 : decode cX1_init 32 = .ok (.arraylength, 1) := by decide +kernel
theorem dX1_init_33 : decode cX1_init 33 = .ok (.bipush 61, 2) := by decide +kernel
theorem dX1_init_35 : decode cX1_init 35 = .ok (.multianewarray 25 2, 4) := by decide +kernel
theorem dX1_init_39 : decode cX1_init 39 = .ok (.putfield 27, 3) := by decide +kernel
theorem dX1_init_42 : decode cX1_init 42 = .ok (.aload_n 0, 1) := by decide +kernel
theorem dX1_init_43 : decode cX1_init 43 = .ok (.getstatic 22, 3) := by decide +kernel
theorem dX1_init_46 : decode cX1_init 46 = .ok (.arraylength, 1) := by decide +kernel
theorem dX1_init_47 : decode cX1_init 47 = .ok (.bipush 61, 2) := by decide +kernel
theorem dX1_init_49 : decode cX1_init 49 = .ok (.multianewarray 25 2, 4) := by decide +kernel
theorem dX1_init_53 : decode cX1_init 53 = .ok (.putfield 30, 3) := by decide +kernel
theorem dX1_init_56 : decode cX1_init 56 = .ok (.aload_n 0, 1) := by decide +kernel
theorem dX1_init_57 : decode cX1_init 57 = .ok (.getstatic 22, 3) := by decide +kernel
theorem dX1_init_60 : decode cX1_init 60 = .ok (.arraylength, 1) := by decide +kernel
theorem dX1_init_61 : decode cX1_init 61 = .ok (.bipush 61, 2) := by decide +kernel
theorem dX1_init_63 : decode cX1_init 63 = .ok (.multianewarray 25 2, 4) := by decide +kernel
theorem dX1_init_67 : decode cX1_init 67 = .ok (.putfield 33, 3) := by decide +kernel
theorem dX1_init_70 : decode cX1_init 70 = .ok (.aload_n 0, 1) := by decide +kernel
theorem dX1_init_71 : decode cX1_init 71 = .ok (.iconst 0, 1) := by decide +kernel
theorem dX1_init_72 : decode cX1_init 72 = .ok (.putfield 36, 3) := by decide +kernel
theorem dX1_init_75 : decode cX1_init 75 = .ok (.aload_n 0, 1) := by decide +kernel
theorem dX1_init_76 : decode cX1_init 76 = .ok (.iconst 0, 1) := by decide +kernel
theorem dX1_init_77 : decode cX1_init 77 = .ok (.putfield 40, 3) := by decide +kernel
theorem dX1_init_80 : decode cX1_init 80 = .ok (.return_, 1) := by decide +kernel
set_option maxRecDepth 20000 in
theorem ggX1_prepare_X4_does : GoodIn wsX1_prepare wsX4_does := goodIn_r _ [14, 15, 16, 17, 18, 19, 20, 21, 22, 13, 23, 24, 25, 26, 27, 28, 29, 30, 31, 32, 33, 34, 35, 36, 37, 38, 39, 40, 41, 42, 43, 44, 45, 46, 47, 48, 49, 50, 51, 52, 53, 54, 55, 56, 57, 58, 59, 60, 61, 62, 63, 101, 102, 103, 104, 105, 106, 107, 108, 109, 110, 111, 112, 113, 114] rfl (by decide +kernel)
set_option maxRecDepth 20000 in
theorem gX1_prepare_X4_does : GoodIn wsX1_prepare (wsV RX1 54 RX4 yX4_does wsX4_does) := goodIn_app (goodIn_of _ (by decide +kernel)) ggX1_prepare_X4_does
set_option maxRecDepth 20000 in
theorem ggX1_prepare_X0_canMove : GoodIn wsX1_prepare wsX0_canMove := goodIn_r _ [67, 68, 69, 70, 101, 102, 103, 104, 105, 106, 107, 108, 109, 110, 111, 112] rfl (by decide +kernel)
set_option maxRecDepth 20000 in
theorem gX1_prepare_X0_canMove : GoodIn wsX1_prepare (va_wsS RX1 58 yX0_canMove wsX0_canMove) := goodIn_app (goodIn_of _ (by decide +kernel)) ggX1_prepare_X0_canMove
set_option maxRecDepth 20000 in
theorem ggX1_prepare_X0_mean : GoodIn wsX1_prepare wsX0_mean := goodIn_r _ [73, 74, 75, 76, 13, 77, 15, 36, 78, 44, 45, 46, 47, 79, 80, 66, 81, 70, 69, 82, 57, 39, 58, 83, 65, 67, 68, 84, 85, 86, 87, 53, 54, 55, 56, 37, 38, 40, 88, 49, 50, 51, 89, 90, 91, 101, 102, 103, 104, 105, 106, 107, 108, 109, 110, 111, 112] rfl (by decide +kernel)
set_option maxRecDepth 20000 in
theorem gX1_prepare_X0_mean : GoodIn wsX1_prepare (va_wsS RX1 64 yX0_mean wsX0_mean) := goodIn_app (goodIn_of _ (by decide +kernel)) ggX1_prepare_X0_mean
set_option maxRecDepth 20000 in
theorem ggX1_prepare_X0_chance : GoodIn wsX1_prepare wsX0_chance := goodIn_r _ [86, 69, 70, 68, 101, 102, 103, 104, 105, 106, 107, 108, 109, 110, 111, 112] rfl (by decide +kernel)
set_option maxRecDepth 20000 in
theorem gX1_prepare_X0_chance : GoodIn wsX1_prepare (va_wsS RX1 68 yX0_chance wsX0_chance) := goodIn_app (goodIn_of _ (by decide +kernel)) ggX1_prepare_X0_chance
theorem dX1_prepare_0 : decode cX1_prepare 0 = .ok (.aload_n 0, 1) := by decide +kernel
theorem dX1_prepare_1 : decode cX1_prepare 1 = .ok (.iload_n 2, 1) := by decide +kernel
theorem dX1_prepare_2 : decode cX1_prepare 2 = .ok (.putfield 36, 3) := by decide +kernel
theorem dX1_prepare_5 : decode cX1_prepare 5 = .ok (.aload_n 0, 1) := by decide +kernel
theorem dX1_prepare_6 : decode cX1_prepare 6 = .ok (.aload_n 1, 1) := by decide +kernel
theorem dX1_prepare_7 : decode cX1_prepare 7 = .ok (.getfield 43, 3) := by decide +kernel
theorem dX1_prepare_10 : decode cX1_prepare 10 = .ok (.bipush 9, 2) := by decide +kernel
theorem dX1_prepare_12 : decode cX1_prepare 12 = .ok (.iaload, 1) := by decide +kernel
theorem dX1_prepare_13 : decode cX1_prepare 13 = .ok (.putfield 40, 3) := by decide +kernel
theorem dX1_prepare_16 : decode cX1_prepare 16 = .ok (.aload_n 1, 1) := by decide +kernel
theorem dX1_prepare_17 : decode cX1_prepare 17 = .ok (.getfield 48, 3) := by decide +kernel
theorem dX1_prepare_20 : decode cX1_prepare 20 = .ok (.iconst 1, 1) := by decide +kernel
theorem dX1_prepare_21 : decode cX1_prepare 21 = .ok (.aaload, 1) := by decide +kernel
theorem dX1_prepare_22 : decode cX1_prepare 22 = .ok (.iconst 0, 1) := by decide +kernel
theorem dX1_prepare_23 : decode cX1_prepare 23 = .ok (.iconst 1, 1) := by decide +kernel
theorem dX1_prepare_24 : decode cX1_prepare 24 = .ok (.iastore, 1) := by decide +kernel
theorem dX1_prepare_25 : decode cX1_prepare 25 = .ok (.iconst 0, 1) := by decide +kernel
theorem dX1_prepare_26 : decode cX1_prepare 26 = .ok (.istore_n 3, 1) := by decide +kernel
theorem dX1_prepare_27 : decode cX1_prepare 27 = .ok (.iload_n 3, 1) := by decide +kernel
theorem dX1_prepare_28 : decode cX1_prepare 28 = .ok (.aload_n 0, 1) := by decide +kernel
theorem dX1_prepare_29 : decode cX1_prepare 29 = .ok (.getfield 36, 3) := by decide +kernel
theorem dX1_prepare_32 : decode cX1_prepare 32 = .ok (.if_icmp .gt 176, 3) := by decide +kernel
theorem dX1_prepare_35 : decode cX1_prepare 35 = .ok (.aload_n 1, 1) := by decide +kernel
theorem dX1_prepare_36 : decode cX1_prepare 36 = .ok (.getfield 51, 3) := by decide +kernel
theorem dX1_prepare_39 : decode cX1_prepare 39 = .ok (.iconst 0, 1) := by decide +kernel
theorem dX1_prepare_40 : decode cX1_prepare 40 = .ok (.aaload, 1) := by decide +kernel
theorem dX1_prepare_41 : decode cX1_prepare 41 = .ok (.iconst 0, 1) := by decide +kernel
theorem dX1_prepare_42 : decode cX1_prepare 42 = .ok (.iload_n 3, 1) := by decide +kernel
theorem dX1_prepare_43 : decode cX1_prepare 43 = .ok (.iastore, 1) := by decide +kernel
theorem dX1_prepare_44 : decode cX1_prepare 44 = .ok (.aload_n 1, 1) := by decide +kernel
theorem dX1_prepare_45 : decode cX1_prepare 45 = .ok (.getfield 51, 3) := by decide +kernel
theorem dX1_prepare_48 : decode cX1_prepare 48 = .ok (.iconst 1, 1) := by decide +kernel
theorem dX1_prepare_49 : decode cX1_prepare 49 = .ok (.aaload, 1) := by decide +kernel
theorem dX1_prepare_50 : decode cX1_prepare 50 = .ok (.iconst 0, 1) := by decide +kernel
theorem dX1_prepare_51 : decode cX1_prepare 51 = .ok (.aload_n 0, 1) := by decide +kernel
theorem dX1_prepare_52 : decode cX1_prepare 52 = .ok (.getfield 36, 3) := by decide +kernel
theorem dX1_prepare_55 : decode cX1_prepare 55 = .ok (.iload_n 3, 1) := by decide +kernel
theorem dX1_prepare_56 : decode cX1_prepare 56 = .ok (.isub, 1) := by decide +kernel
theorem dX1_prepare_57 : decode cX1_prepare 57 = .ok (.iastore, 1) := by decide +kernel
theorem dX1_prepare_58 : decode cX1_prepare 58 = .ok (.aload_n 1, 1) := by decide +kernel
theorem dX1_prepare_59 : decode cX1_prepare 59 = .ok (.iconst 1, 1) := by decide +kernel
theorem dX1_prepare_60 : decode cX1_prepare 60 = .ok (.invokevirtual 54, 3) := by decide +kernel
theorem dX1_prepare_63 : decode cX1_prepare 63 = .ok (.istore 4, 2) := by decide +kernel
theorem dX1_prepare_65 : decode cX1_prepare 65 = .ok (.aload_n 1, 1) := by decide +kernel
theorem dX1_prepare_66 : decode cX1_prepare 66 = .ok (.iconst 0, 1) := by decide +kernel
theorem dX1_prepare_67 : decode cX1_prepare 67 = .ok (.iconst 0, 1) := by decide +kernel
theorem dX1_prepare_68 : decode cX1_prepare 68 = .ok (.iconst 1, 1) := by decide +kernel
theorem dX1_prepare_69 : decode cX1_prepare 69 = .ok (.invokestatic 58, 3) := by decide +kernel
theorem dX1_prepare_72 : decode cX1_prepare 72 = .ok (.istore 5, 2) := by decide +kernel
theorem dX1_prepare_74 : decode cX1_prepare 74 = .ok (.iconst 0, 1) := by decide +kernel
theorem dX1_prepare_75 : decode cX1_prepare 75 = .ok (.istore 6, 2) := by decide +kernel
theorem dX1_prepare_77 : decode cX1_prepare 77 = .ok (.iload 6, 2) := by decide +kernel
theorem dX1_prepare_79 : decode cX1_prepare 79 = .ok (.getstatic 22, 3) := by decide +kernel
theorem dX1_prepare_82 : decode cX1_prepare 82 = .ok (.arraylength, 1) := by decide +kernel
theorem dX1_prepare_83 : decode cX1_prepare 83 = .ok (.if_icmp .ge 119, 3) := by decide +kernel
theorem dX1_prepare_86 : decode cX1_prepare 86 = .ok (.getstatic 22, 3) := by decide +kernel
theorem dX1_prepare_89 : decode cX1_prepare 89 = .ok (.iload 6, 2) := by decide +kernel
theorem dX1_prepare_91 : decode cX1_prepare 91 = .ok (.iaload, 1) := by decide +kernel
theorem dX1_prepare_92 : decode cX1_prepare 92 = .ok (.istore 7, 2) := by decide +kernel
theorem dX1_prepare_94 : decode cX1_prepare 94 = .ok (.aload_n 0, 1) := by decide +kernel
theorem dX1_prepare_95 : decode cX1_prepare 95 = .ok (.getfield 27, 3) := by decide +kernel
theorem dX1_prepare_98 : decode cX1_prepare 98 = .ok (.iload 6, 2) := by decide +kernel
theorem dX1_prepare_100 : decode cX1_prepare 100 = .ok (.aaload, 1) := by decide +kernel
theorem dX1_prepare_101 : decode cX1_prepare 101 = .ok (.iload_n 3, 1) := by decide +kernel
theorem dX1_prepare_102 : decode cX1_prepare 102 = .ok (.aload_n 1, 1) := by decide +kernel
theorem dX1_prepare_103 : decode cX1_prepare 103 = .ok (.iconst 0, 1) := by decide +kernel
theorem dX1_prepare_104 : decode cX1_prepare 104 = .ok (.iload 4, 2) := by decide +kernel
theorem dX1_prepare_106 : decode cX1_prepare 106 = .ok (.iload 7, 2) := by decide +kernel
theorem dX1_prepare_108 : decode cX1_prepare 108 = .ok (.iload 4, 2) := by decide +kernel
theorem dX1_prepare_110 : decode cX1_prepare 110 = .ok (.invokestatic 64, 3) := by decide +kernel
theorem dX1_prepare_113 : decode cX1_prepare 113 = .ok (.iastore, 1) := by decide +kernel
theorem dX1_prepare_114 : decode cX1_prepare 114 = .ok (.aload_n 0, 1) := by decide +kernel
theorem dX1_prepare_115 : decode cX1_prepare 115 = .ok (.getfield 30, 3) := by decide +kernel
theorem dX1_prepare_118 : decode cX1_prepare 118 = .ok (.iload 6, 2) := by decide +kernel
theorem dX1_prepare_120 : decode cX1_prepare 120 = .ok (.aaload, 1) := by decide +kernel
theorem dX1_prepare_121 : decode cX1_prepare 121 = .ok (.iload_n 3, 1) := by decide +kernel
theorem dX1_prepare_122 : decode cX1_prepare 122 = .ok (.iload 5, 2) := by decide +kernel
theorem dX1_prepare_124 : decode cX1_prepare 124 = .ok (.ifCond .eq 29, 3) := by decide +kernel
theorem dX1_prepare_127 : decode cX1_prepare 127 = .ok (.iload 7, 2) := by decide +kernel
theorem dX1_prepare_129 : decode cX1_prepare 129 = .ok (.iconst 3, 1) := by decide +kernel
theorem dX1_prepare_130 : decode cX1_prepare 130 = .ok (.if_icmp .ne 23, 3) := by decide +kernel
theorem dX1_prepare_133 : decode cX1_prepare 133 = .ok (.aload_n 1, 1) := by decide +kernel
theorem dX1_prepare_134 : decode cX1_prepare 134 = .ok (.iconst 0, 1) := by decide +kernel
theorem dX1_prepare_135 : decode cX1_prepare 135 = .ok (.iconst 1, 1) := by decide +kernel
theorem dX1_prepare_136 : decode cX1_prepare 136 = .ok (.iload 4, 2) := by decide +kernel
theorem dX1_prepare_138 : decode cX1_prepare 138 = .ok (.iconst 1, 1) := by decide +kernel
theorem dX1_prepare_139 : decode cX1_prepare 139 = .ok (.if_icmp .ne 7, 3) := by decide +kernel
theorem dX1_prepare_142 : decode cX1_prepare 142 = .ok (.iconst 1, 1) := by decide +kernel
theorem dX1_prepare_143 : decode cX1_prepare 143 = .ok (.goto 4, 3) := by decide +kernel
theorem dX1_prepare_146 : decode cX1_prepare 146 = .ok (.iconst 0, 1) := by decide +kernel
theorem dX1_prepare_147 : decode cX1_prepare 147 = .ok (.invokestatic 68, 3) := by decide +kernel
theorem dX1_prepare_150 : decode cX1_prepare 150 = .ok (.goto 4, 3) := by decide +kernel
theorem dX1_prepare_153 : decode cX1_prepare 153 = .ok (.iconst 0, 1) := by decide +kernel
theorem dX1_prepare_154 : decode cX1_prepare 154 = .ok (.iastore, 1) := by decide +kernel
theorem dX1_prepare_155 : decode cX1_prepare 155 = .ok (.aload_n 0, 1) := by decide +kernel
theorem dX1_prepare_156 : decode cX1_prepare 156 = .ok (.getfield 33, 3) := by decide +kernel
theorem dX1_prepare_159 : decode cX1_prepare 159 = .ok (.iload 6, 2) := by decide +kernel
theorem dX1_prepare_161 : decode cX1_prepare 161 = .ok (.aaload, 1) := by decide +kernel
theorem dX1_prepare_162 : decode cX1_prepare 162 = .ok (.iload_n 3, 1) := by decide +kernel
theorem dX1_prepare_163 : decode cX1_prepare 163 = .ok (.iload 5, 2) := by decide +kernel
theorem dX1_prepare_165 : decode cX1_prepare 165 = .ok (.ifCond .eq 29, 3) := by decide +kernel
theorem dX1_prepare_168 : decode cX1_prepare 168 = .ok (.iload 4, 2) := by decide +kernel
theorem dX1_prepare_170 : decode cX1_prepare 170 = .ok (.iconst 2, 1) := by decide +kernel
theorem dX1_prepare_171 : decode cX1_prepare 171 = .ok (.if_icmp .ne 23, 3) := by decide +kernel
theorem dX1_prepare_174 : decode cX1_prepare 174 = .ok (.aload_n 1, 1) := by decide +kernel
theorem dX1_prepare_175 : decode cX1_prepare 175 = .ok (.iconst 0, 1) := by decide +kernel
theorem dX1_prepare_176 : decode cX1_prepare 176 = .ok (.iconst 0, 1) := by decide +kernel
theorem dX1_prepare_177 : decode cX1_prepare 177 = .ok (.iload 7, 2) := by decide +kernel
theorem dX1_prepare_179 : decode cX1_prepare 179 = .ok (.iconst 1, 1) := by decide +kernel
theorem dX1_prepare_180 : decode cX1_prepare 180 = .ok (.if_icmp .ne 7, 3) := by decide +kernel
theorem dX1_prepare_183 : decode cX1_prepare 183 = .ok (.iconst 1, 1) := by decide +kernel
theorem dX1_prepare_184 : decode cX1_prepare 184 = .ok (.goto 4, 3) := by decide +kernel
theorem dX1_prepare_187 : decode cX1_prepare 187 = .ok (.iconst 0, 1) := by decide +kernel
theorem dX1_prepare_188 : decode cX1_prepare 188 = .ok (.invokestatic 68, 3) := by decide +kernel
theorem dX1_prepare_191 : decode cX1_prepare 191 = .ok (.goto 4, 3) := by decide +kernel
theorem dX1_prepare_194 : decode cX1_prepare 194 = .ok (.iconst 0, 1) := by decide +kernel
theorem dX1_prepare_195 : decode cX1_prepare 195 = .ok (.iastore, 1) := by decide +kernel
theorem dX1_prepare_196 : decode cX1_prepare 196 = .ok (.iinc 6 1, 3) := by decide +kernel
theorem dX1_prepare_199 : decode cX1_prepare 199 = .ok (.goto (-122), 3) := by decide +kernel
theorem dX1_prepare_202 : decode cX1_prepare 202 = .ok (.iinc 3 1, 3) := by decide +kernel
theorem dX1_prepare_205 : decode cX1_prepare 205 = .ok (.goto (-178), 3) := by decide +kernel
theorem dX1_prepare_208 : decode cX1_prepare 208 = .ok (.return_, 1) := by decide +kernel
set_option maxRecDepth 20000 in
theorem ggX1_play_J7_fill_d0a16 : GoodIn wsX1_play wsJ7_fill_d0a16 := goodIn_r _ [11] rfl (by decide +kernel)
set_option maxRecDepth 20000 in
theorem gX1_play_J7_fill_d0a16 : GoodIn wsX1_play (va_wsS RX1 72 yJ7_fill_d0a16 wsJ7_fill_d0a16) := goodIn_app (goodIn_of _ (by decide +kernel)) ggX1_play_J7_fill_d0a16
set_option maxRecDepth 20000 in
theorem ggX1_play_X1_choose : GoodIn wsX1_play wsX1_choose := goodIn_r _ [16, 17, 18, 19, 3, 20, 21, 22, 23, 15, 24, 25, 26, 27, 2, 28, 29, 30, 31, 1, 32, 33, 34, 35, 36, 37, 38, 39, 40, 41, 42, 43, 44] rfl (by decide +kernel)
set_option maxRecDepth 20000 in
theorem gX1_play_X1_choose : GoodIn wsX1_play (wsV RX1 78 RX1 yX1_choose wsX1_choose) := goodIn_app (goodIn_of _ (by decide +kernel)) ggX1_play_X1_choose
theorem dX1_play_0 : decode cX1_play 0 = .ok (.aload_n 0, 1) := by decide +kernel
theorem dX1_play_1 : decode cX1_play 1 = .ok (.getfield 9, 3) := by decide +kernel
theorem dX1_play_4 : decode cX1_play 4 = .ok (.lconst 0, 1) := by decide +kernel
theorem dX1_play_5 : decode cX1_play 5 = .ok (.invokestatic 72, 3) := by decide +kernel
theorem dX1_play_8 : decode cX1_play 8 = .ok (.iconst 0, 1) := by decide +kernel
theorem dX1_play_9 : decode cX1_play 9 = .ok (.istore_n 3, 1) := by decide +kernel
theorem dX1_play_10 : decode cX1_play 10 = .ok (.iload_n 3, 1) := by decide +kernel
theorem dX1_play_11 : decode cX1_play 11 = .ok (.iload_n 1, 1) := by decide +kernel
theorem dX1_play_12 : decode cX1_play 12 = .ok (.if_icmp .ge 53, 3) := by decide +kernel
theorem dX1_play_15 : decode cX1_play 15 = .ok (.iconst 0, 1) := by decide +kernel
theorem dX1_play_16 : decode cX1_play 16 = .ok (.istore 4, 2) := by decide +kernel
theorem dX1_play_18 : decode cX1_play 18 = .ok (.iload 4, 2) := by decide +kernel
theorem dX1_play_20 : decode cX1_play 20 = .ok (.aload_n 0, 1) := by decide +kernel
theorem dX1_play_21 : decode cX1_play 21 = .ok (.getfield 36, 3) := by decide +kernel
theorem dX1_play_24 : decode cX1_play 24 = .ok (.if_icmp .gt 16, 3) := by decide +kernel
theorem dX1_play_27 : decode cX1_play 27 = .ok (.aload_n 0, 1) := by decide +kernel
theorem dX1_play_28 : decode cX1_play 28 = .ok (.iload 4, 2) := by decide +kernel
theorem dX1_play_30 : decode cX1_play 30 = .ok (.iload_n 2, 1) := by decide +kernel
theorem dX1_play_31 : decode cX1_play 31 = .ok (.invokevirtual 78, 3) := by decide +kernel
theorem dX1_play_34 : decode cX1_play 34 = .ok (.iinc 4 1, 3) := by decide +kernel
theorem dX1_play_37 : decode cX1_play 37 = .ok (.goto (-19), 3) := by decide +kernel
theorem dX1_play_40 : decode cX1_play 40 = .ok (.aload_n 0, 1) := by decide +kernel
theorem dX1_play_41 : decode cX1_play 41 = .ok (.getfield 19, 3) := by decide +kernel
theorem dX1_play_44 : decode cX1_play 44 = .ok (.iconst 0, 1) := by decide +kernel
theorem dX1_play_45 : decode cX1_play 45 = .ok (.aload_n 0, 1) := by decide +kernel
theorem dX1_play_46 : decode cX1_play 46 = .ok (.getfield 9, 3) := by decide +kernel
theorem dX1_play_49 : decode cX1_play 49 = .ok (.iconst 0, 1) := by decide +kernel
theorem dX1_play_50 : decode cX1_play 50 = .ok (.aload_n 0, 1) := by decide +kernel
theorem dX1_play_51 : decode cX1_play 51 = .ok (.getfield 36, 3) := by decide +kernel
theorem dX1_play_54 : decode cX1_play 54 = .ok (.iconst 1, 1) := by decide +kernel
theorem dX1_play_55 : decode cX1_play 55 = .ok (.iadd, 1) := by decide +kernel
theorem dX1_play_56 : decode cX1_play 56 = .ok (.invokestatic 82, 3) := by decide +kernel
theorem dX1_play_59 : decode cX1_play 59 = .ok (.iinc 3 1, 3) := by decide +kernel
theorem dX1_play_62 : decode cX1_play 62 = .ok (.goto (-52), 3) := by decide +kernel
theorem dX1_play_65 : decode cX1_play 65 = .ok (.return_, 1) := by decide +kernel
set_option maxRecDepth 20000 in
theorem ggX1_choose_X1_comesNext : GoodIn wsX1_choose wsX1_comesNext := goodIn_r _ [10, 11, 12, 13, 14, 15, 16, 17, 18, 19, 2, 20, 21, 22, 23, 24, 25, 26, 27, 28, 29, 30, 31, 32] rfl (by decide +kernel)
set_option maxRecDepth 20000 in
theorem gX1_choose_X1_comesNext : GoodIn wsX1_choose (wsV RX1 90 RX1 yX1_comesNext wsX1_comesNext) := goodIn_app (goodIn_of _ (by decide +kernel)) ggX1_choose_X1_comesNext
set_option maxRecDepth 20000 in
theorem ggX1_choose_J9_floorDiv_f86c9 : GoodIn wsX1_choose wsJ9_floorDiv_f86c9 := goodIn_r _ [24] rfl (by decide +kernel)
set_option maxRecDepth 20000 in
theorem gX1_choose_J9_floorDiv_f86c9 : GoodIn wsX1_choose (va_wsS RX1 94 yJ9_floorDiv_f86c9 wsJ9_floorDiv_f86c9) := goodIn_app (goodIn_of _ (by decide +kernel)) ggX1_choose_J9_floorDiv_f86c9
theorem dX1_choose_0 : decode cX1_choose 0 = .ok (.iconst 0, 1) := by decide +kernel
theorem dX1_choose_1 : decode cX1_choose 1 = .ok (.istore_n 3, 1) := by decide +kernel
theorem dX1_choose_2 : decode cX1_choose 2 = .ok (.iload_n 3, 1) := by decide +kernel
theorem dX1_choose_3 : decode cX1_choose 3 = .ok (.getstatic 22, 3) := by decide +kernel
theorem dX1_choose_6 : decode cX1_choose 6 = .ok (.arraylength, 1) := by decide +kernel
theorem dX1_choose_7 : decode cX1_choose 7 = .ok (.if_icmp .ge 75, 3) := by decide +kernel
theorem dX1_choose_10 : decode cX1_choose 10 = .ok (.ldc2_w 88, 3) := by decide +kernel
theorem dX1_choose_13 : decode cX1_choose 13 = .ok (.aload_n 0, 1) := by decide +kernel
theorem dX1_choose_14 : decode cX1_choose 14 = .ok (.getfield 27, 3) := by decide +kernel
theorem dX1_choose_17 : decode cX1_choose 17 = .ok (.iload_n 3, 1) := by decide +kernel
theorem dX1_choose_18 : decode cX1_choose 18 = .ok (.aaload, 1) := by decide +kernel
theorem dX1_choose_19 : decode cX1_choose 19 = .ok (.iload_n 1, 1) := by decide +kernel
theorem dX1_choose_20 : decode cX1_choose 20 = .ok (.iaload, 1) := by decide +kernel
theorem dX1_choose_21 : decode cX1_choose 21 = .ok (.i2l, 1) := by decide +kernel
theorem dX1_choose_22 : decode cX1_choose 22 = .ok (.lmul, 1) := by decide +kernel
theorem dX1_choose_23 : decode cX1_choose 23 = .ok (.iload_n 2, 1) := by decide +kernel
theorem dX1_choose_24 : decode cX1_choose 24 = .ok (.i2l, 1) := by decide +kernel
theorem dX1_choose_25 : decode cX1_choose 25 = .ok (.aload_n 0, 1) := by decide +kernel
theorem dX1_choose_26 : decode cX1_choose 26 = .ok (.iload_n 3, 1) := by decide +kernel
theorem dX1_choose_27 : decode cX1_choose 27 = .ok (.iload_n 1, 1) := by decide +kernel
theorem dX1_choose_28 : decode cX1_choose 28 = .ok (.invokevirtual 90, 3) := by decide +kernel
theorem dX1_choose_31 : decode cX1_choose 31 = .ok (.lmul, 1) := by decide +kernel
theorem dX1_choose_32 : decode cX1_choose 32 = .ok (.ldc2_w 88, 3) := by decide +kernel
theorem dX1_choose_35 : decode cX1_choose 35 = .ok (.invokestatic 94, 3) := by decide +kernel
theorem dX1_choose_38 : decode cX1_choose 38 = .ok (.ladd, 1) := by decide +kernel
theorem dX1_choose_39 : decode cX1_choose 39 = .ok (.lstore 4, 2) := by decide +kernel
theorem dX1_choose_41 : decode cX1_choose 41 = .ok (.iload_n 3, 1) := by decide +kernel
theorem dX1_choose_42 : decode cX1_choose 42 = .ok (.ifCond .eq 15, 3) := by decide +kernel
theorem dX1_choose_45 : decode cX1_choose 45 = .ok (.lload 4, 2) := by decide +kernel
theorem dX1_choose_47 : decode cX1_choose 47 = .ok (.aload_n 0, 1) := by decide +kernel
theorem dX1_choose_48 : decode cX1_choose 48 = .ok (.getfield 19, 3) := by decide +kernel
theorem dX1_choose_51 : decode cX1_choose 51 = .ok (.iload_n 1, 1) := by decide +kernel
theorem dX1_choose_52 : decode cX1_choose 52 = .ok (.laload, 1) := by decide +kernel
theorem dX1_choose_53 : decode cX1_choose 53 = .ok (.lcmp, 1) := by decide +kernel
theorem dX1_choose_54 : decode cX1_choose 54 = .ok (.ifCond .le 22, 3) := by decide +kernel
theorem dX1_choose_57 : decode cX1_choose 57 = .ok (.aload_n 0, 1) := by decide +kernel
theorem dX1_choose_58 : decode cX1_choose 58 = .ok (.getfield 19, 3) := by decide +kernel
theorem dX1_choose_61 : decode cX1_choose 61 = .ok (.iload_n 1, 1) := by decide +kernel
theorem dX1_choose_62 : decode cX1_choose 62 = .ok (.lload 4, 2) := by decide +kernel
theorem dX1_choose_64 : decode cX1_choose 64 = .ok (.lastore, 1) := by decide +kernel
theorem dX1_choose_65 : decode cX1_choose 65 = .ok (.aload_n 0, 1) := by decide +kernel
theorem dX1_choose_66 : decode cX1_choose 66 = .ok (.getfield 15, 3) := by decide +kernel
theorem dX1_choose_69 : decode cX1_choose 69 = .ok (.iload_n 1, 1) := by decide +kernel
theorem dX1_choose_70 : decode cX1_choose 70 = .ok (.getstatic 22, 3) := by decide +kernel
theorem dX1_choose_73 : decode cX1_choose 73 = .ok (.iload_n 3, 1) := by decide +kernel
theorem dX1_choose_74 : decode cX1_choose 74 = .ok (.iaload, 1) := by decide +kernel
theorem dX1_choose_75 : decode cX1_choose 75 = .ok (.iastore, 1) := by decide +kernel
theorem dX1_choose_76 : decode cX1_choose 76 = .ok (.iinc 3 1, 3) := by decide +kernel
theorem dX1_choose_79 : decode cX1_choose 79 = .ok (.goto (-77), 3) := by decide +kernel
theorem dX1_choose_82 : decode cX1_choose 82 = .ok (.return_, 1) := by decide +kernel
set_option maxRecDepth 20000 in
theorem ggX1_comesNext_J9_floorDiv_f86c9 : GoodIn wsX1_comesNext wsJ9_floorDiv_f86c9 := goodIn_r _ [15] rfl (by decide +kernel)
set_option maxRecDepth 20000 in
theorem gX1_comesNext_J9_floorDiv_f86c9 : GoodIn wsX1_comesNext (va_wsS RX1 94 yJ9_floorDiv_f86c9 wsJ9_floorDiv_f86c9) := goodIn_app (goodIn_of _ (by decide +kernel)) ggX1_comesNext_J9_floorDiv_f86c9
theorem dX1_comesNext_0 : decode cX1_comesNext 0 = .ok (.aload_n 0, 1) := by decide +kernel
theorem dX1_comesNext_1 : decode cX1_comesNext 1 = .ok (.getfield 30, 3) := by decide +kernel
theorem dX1_comesNext_4 : decode cX1_comesNext 4 = .ok (.iload_n 1, 1) := by decide +kernel
theorem dX1_comesNext_5 : decode cX1_comesNext 5 = .ok (.aaload, 1) := by decide +kernel
theorem dX1_comesNext_6 : decode cX1_comesNext 6 = .ok (.iload_n 2, 1) := by decide +kernel
theorem dX1_comesNext_7 : decode cX1_comesNext 7 = .ok (.iaload, 1) := by decide +kernel
theorem dX1_comesNext_8 : decode cX1_comesNext 8 = .ok (.i2l, 1) := by decide +kernel
theorem dX1_comesNext_9 : decode cX1_comesNext 9 = .ok (.lstore_n 3, 1) := by decide +kernel
theorem dX1_comesNext_10 : decode cX1_comesNext 10 = .ok (.aload_n 0, 1) := by decide +kernel
theorem dX1_comesNext_11 : decode cX1_comesNext 11 = .ok (.getfield 33, 3) := by decide +kernel
theorem dX1_comesNext_14 : decode cX1_comesNext 14 = .ok (.iload_n 1, 1) := by decide +kernel
theorem dX1_comesNext_15 : decode cX1_comesNext 15 = .ok (.aaload, 1) := by decide +kernel
theorem dX1_comesNext_16 : decode cX1_comesNext 16 = .ok (.iload_n 2, 1) := by decide +kernel
theorem dX1_comesNext_17 : decode cX1_comesNext 17 = .ok (.iaload, 1) := by decide +kernel
theorem dX1_comesNext_18 : decode cX1_comesNext 18 = .ok (.i2l, 1) := by decide +kernel
theorem dX1_comesNext_19 : decode cX1_comesNext 19 = .ok (.lstore 5, 2) := by decide +kernel
theorem dX1_comesNext_21 : decode cX1_comesNext 21 = .ok (.aload_n 0, 1) := by decide +kernel
theorem dX1_comesNext_22 : decode cX1_comesNext 22 = .ok (.getfield 40, 3) := by decide +kernel
theorem dX1_comesNext_25 : decode cX1_comesNext 25 = .ok (.aload_n 0, 1) := by decide +kernel
theorem dX1_comesNext_26 : decode cX1_comesNext 26 = .ok (.getfield 36, 3) := by decide +kernel
theorem dX1_comesNext_29 : decode cX1_comesNext 29 = .ok (.iload_n 2, 1) := by decide +kernel
theorem dX1_comesNext_30 : decode cX1_comesNext 30 = .ok (.isub, 1) := by decide +kernel
theorem dX1_comesNext_31 : decode cX1_comesNext 31 = .ok (.invokestatic 100, 3) := by decide +kernel
theorem dX1_comesNext_34 : decode cX1_comesNext 34 = .ok (.istore 7, 2) := by decide +kernel
theorem dX1_comesNext_36 : decode cX1_comesNext 36 = .ok (.aload_n 0, 1) := by decide +kernel
theorem dX1_comesNext_37 : decode cX1_comesNext 37 = .ok (.getfield 40, 3) := by decide +kernel
theorem dX1_comesNext_40 : decode cX1_comesNext 40 = .ok (.iload_n 2, 1) := by decide +kernel
theorem dX1_comesNext_41 : decode cX1_comesNext 41 = .ok (.invokestatic 100, 3) := by decide +kernel
theorem dX1_comesNext_44 : decode cX1_comesNext 44 = .ok (.istore 8, 2) := by decide +kernel
theorem dX1_comesNext_46 : decode cX1_comesNext 46 = .ok (.lload_n 3, 1) := by decide +kernel
theorem dX1_comesNext_47 : decode cX1_comesNext 47 = .ok (.lload 5, 2) := by decide +kernel
theorem dX1_comesNext_49 : decode cX1_comesNext 49 = .ok (.lmul, 1) := by decide +kernel
theorem dX1_comesNext_50 : decode cX1_comesNext 50 = .ok (.aload_n 0, 1) := by decide +kernel
theorem dX1_comesNext_51 : decode cX1_comesNext 51 = .ok (.getfield 9, 3) := by decide +kernel
theorem dX1_comesNext_54 : decode cX1_comesNext 54 = .ok (.iload_n 2, 1) := by decide +kernel
theorem dX1_comesNext_55 : decode cX1_comesNext 55 = .ok (.iload 7, 2) := by decide +kernel
theorem dX1_comesNext_57 : decode cX1_comesNext 57 = .ok (.iadd, 1) := by decide +kernel
theorem dX1_comesNext_58 : decode cX1_comesNext 58 = .ok (.iload 8, 2) := by decide +kernel
theorem dX1_comesNext_60 : decode cX1_comesNext 60 = .ok (.isub, 1) := by decide +kernel
theorem dX1_comesNext_61 : decode cX1_comesNext 61 = .ok (.laload, 1) := by decide +kernel
theorem dX1_comesNext_62 : decode cX1_comesNext 62 = .ok (.lmul, 1) := by decide +kernel
theorem dX1_comesNext_63 : decode cX1_comesNext 63 = .ok (.lload_n 3, 1) := by decide +kernel
theorem dX1_comesNext_64 : decode cX1_comesNext 64 = .ok (.ldc2_w 88, 3) := by decide +kernel
theorem dX1_comesNext_67 : decode cX1_comesNext 67 = .ok (.lload 5, 2) := by decide +kernel
theorem dX1_comesNext_69 : decode cX1_comesNext 69 = .ok (.lsub, 1) := by decide +kernel
theorem dX1_comesNext_70 : decode cX1_comesNext 70 = .ok (.lmul, 1) := by decide +kernel
theorem dX1_comesNext_71 : decode cX1_comesNext 71 = .ok (.aload_n 0, 1) := by decide +kernel
theorem dX1_comesNext_72 : decode cX1_comesNext 72 = .ok (.getfield 9, 3) := by decide +kernel
theorem dX1_comesNext_75 : decode cX1_comesNext 75 = .ok (.iload_n 2, 1) := by decide +kernel
theorem dX1_comesNext_76 : decode cX1_comesNext 76 = .ok (.iload 7, 2) := by decide +kernel
theorem dX1_comesNext_78 : decode cX1_comesNext 78 = .ok (.iadd, 1) := by decide +kernel
theorem dX1_comesNext_79 : decode cX1_comesNext 79 = .ok (.laload, 1) := by decide +kernel
theorem dX1_comesNext_80 : decode cX1_comesNext 80 = .ok (.lmul, 1) := by decide +kernel
theorem dX1_comesNext_81 : decode cX1_comesNext 81 = .ok (.ladd, 1) := by decide +kernel
theorem dX1_comesNext_82 : decode cX1_comesNext 82 = .ok (.ldc2_w 88, 3) := by decide +kernel
theorem dX1_comesNext_85 : decode cX1_comesNext 85 = .ok (.lload_n 3, 1) := by decide +kernel
theorem dX1_comesNext_86 : decode cX1_comesNext 86 = .ok (.lsub, 1) := by decide +kernel
theorem dX1_comesNext_87 : decode cX1_comesNext 87 = .ok (.lload 5, 2) := by decide +kernel
theorem dX1_comesNext_89 : decode cX1_comesNext 89 = .ok (.lmul, 1) := by decide +kernel
theorem dX1_comesNext_90 : decode cX1_comesNext 90 = .ok (.aload_n 0, 1) := by decide +kernel
theorem dX1_comesNext_91 : decode cX1_comesNext 91 = .ok (.getfield 9, 3) := by decide +kernel
theorem dX1_comesNext_94 : decode cX1_comesNext 94 = .ok (.iload_n 2, 1) := by decide +kernel
theorem dX1_comesNext_95 : decode cX1_comesNext 95 = .ok (.iload 8, 2) := by decide +kernel
theorem dX1_comesNext_97 : decode cX1_comesNext 97 = .ok (.isub, 1) := by decide +kernel
theorem dX1_comesNext_98 : decode cX1_comesNext 98 = .ok (.laload, 1) := by decide +kernel
theorem dX1_comesNext_99 : decode cX1_comesNext 99 = .ok (.lmul, 1) := by decide +kernel
theorem dX1_comesNext_100 : decode cX1_comesNext 100 = .ok (.ladd, 1) := by decide +kernel
theorem dX1_comesNext_101 : decode cX1_comesNext 101 = .ok (.ldc2_w 88, 3) := by decide +kernel
theorem dX1_comesNext_104 : decode cX1_comesNext 104 = .ok (.lload_n 3, 1) := by decide +kernel
theorem dX1_comesNext_105 : decode cX1_comesNext 105 = .ok (.lsub, 1) := by decide +kernel
theorem dX1_comesNext_106 : decode cX1_comesNext 106 = .ok (.ldc2_w 88, 3) := by decide +kernel
theorem dX1_comesNext_109 : decode cX1_comesNext 109 = .ok (.lload 5, 2) := by decide +kernel
theorem dX1_comesNext_111 : decode cX1_comesNext 111 = .ok (.lsub, 1) := by decide +kernel
theorem dX1_comesNext_112 : decode cX1_comesNext 112 = .ok (.lmul, 1) := by decide +kernel
theorem dX1_comesNext_113 : decode cX1_comesNext 113 = .ok (.aload_n 0, 1) := by decide +kernel
theorem dX1_comesNext_114 : decode cX1_comesNext 114 = .ok (.getfield 9, 3) := by decide +kernel
theorem dX1_comesNext_117 : decode cX1_comesNext 117 = .ok (.iload_n 2, 1) := by decide +kernel
theorem dX1_comesNext_118 : decode cX1_comesNext 118 = .ok (.laload, 1) := by decide +kernel
theorem dX1_comesNext_119 : decode cX1_comesNext 119 = .ok (.lmul, 1) := by decide +kernel
theorem dX1_comesNext_120 : decode cX1_comesNext 120 = .ok (.ladd, 1) := by decide +kernel
theorem dX1_comesNext_121 : decode cX1_comesNext 121 = .ok (.lstore 9, 2) := by decide +kernel
theorem dX1_comesNext_123 : decode cX1_comesNext 123 = .ok (.lload 9, 2) := by decide +kernel
theorem dX1_comesNext_125 : decode cX1_comesNext 125 = .ok (.ldc2_w 104, 3) := by decide +kernel
theorem dX1_comesNext_128 : decode cX1_comesNext 128 = .ok (.invokestatic 94, 3) := by decide +kernel
theorem dX1_comesNext_131 : decode cX1_comesNext 131 = .ok (.lreturn, 1) := by decide +kernel
theorem dX2_init_0 : decode cX2_init 0 = .ok (.aload_n 0, 1) := by decide +kernel
theorem dX2_init_1 : decode cX2_init 1 = .ok (.invokespecial 3, 3) := by decide +kernel
theorem dX2_init_4 : decode cX2_init 4 = .ok (.aload_n 0, 1) := by decide +kernel
theorem dX2_init_5 : decode cX2_init 5 = .ok (.sipush 400, 3) := by decide +kernel
theorem dX2_init_8 : decode cX2_init 8 = .ok (.newarray .int, 2) := by decide +kernel
theorem dX2_init_10 : decode cX2_init 10 = .ok (.putfield 9, 3) := by decide +kernel
theorem dX2_init_13 : decode cX2_init 13 = .ok (.aload_n 0, 1) := by decide +kernel
theorem dX2_init_14 : decode cX2_init 14 = .ok (.iconst 0, 1) := by decide +kernel
theorem dX2_init_15 : decode cX2_init 15 = .ok (.putfield 15, 3) := by decide +kernel
theorem dX2_init_18 : decode cX2_init 18 = .ok (.return_, 1) := by decide +kernel
theorem dX2_take_0 : decode cX2_take 0 = .ok (.aload_n 1, 1) := by decide +kernel
theorem dX2_take_1 : decode cX2_take 1 = .ok (.iconst 0, 1) := by decide +kernel
theorem dX2_take_2 : decode cX2_take 2 = .ok (.aload_n 0, 1) := by decide +kernel
theorem dX2_take_3 : decode cX2_take 3 = .ok (.getfield 9, 3) := by decide +kernel
theorem dX2_take_6 : decode cX2_take 6 = .ok (.iconst 0, 1) := by decide +kernel
theorem dX2_take_7 : decode cX2_take 7 = .ok (.iload_n 2, 1) := by decide +kernel
theorem dX2_take_8 : decode cX2_take 8 = .ok (.invokestatic 19, 3) := by decide +kernel
theorem dX2_take_11 : decode cX2_take 11 = .ok (.aload_n 0, 1) := by decide +kernel
theorem dX2_take_12 : decode cX2_take 12 = .ok (.iload_n 2, 1) := by decide +kernel
theorem dX2_take_13 : decode cX2_take 13 = .ok (.putfield 15, 3) := by decide +kernel
theorem dX2_take_16 : decode cX2_take 16 = .ok (.return_, 1) := by decide +kernel
theorem dX2_joined_0 : decode cX2_joined 0 = .ok (.iload_n 0, 1) := by decide +kernel
theorem dX2_joined_1 : decode cX2_joined 1 = .ok (.lookupswitch 136 #[(42, 83), (43, 75), (45, 79), (47, 87), (60, 99), (61, 110), (62, 121), (203, 132)], 75) := by decide +kernel
theorem dX2_joined_76 : decode cX2_joined 76 = .ok (.iload_n 1, 1) := by decide +kernel
theorem dX2_joined_77 : decode cX2_joined 77 = .ok (.iload_n 2, 1) := by decide +kernel
theorem dX2_joined_78 : decode cX2_joined 78 = .ok (.iadd, 1) := by decide +kernel
theorem dX2_joined_79 : decode cX2_joined 79 = .ok (.ireturn, 1) := by decide +kernel
theorem dX2_joined_80 : decode cX2_joined 80 = .ok (.iload_n 1, 1) := by decide +kernel
theorem dX2_joined_81 : decode cX2_joined 81 = .ok (.iload_n 2, 1) := by decide +kernel
theorem dX2_joined_82 : decode cX2_joined 82 = .ok (.isub, 1) := by decide +kernel
theorem dX2_joined_83 : decode cX2_joined 83 = .ok (.ireturn, 1) := by decide +kernel
theorem dX2_joined_84 : decode cX2_joined 84 = .ok (.iload_n 1, 1) := by decide +kernel
theorem dX2_joined_85 : decode cX2_joined 85 = .ok (.iload_n 2, 1) := by decide +kernel
theorem dX2_joined_86 : decode cX2_joined 86 = .ok (.imul, 1) := by decide +kernel
theorem dX2_joined_87 : decode cX2_joined 87 = .ok (.ireturn, 1) := by decide +kernel
theorem dX2_joined_88 : decode cX2_joined 88 = .ok (.iload_n 2, 1) := by decide +kernel
theorem dX2_joined_89 : decode cX2_joined 89 = .ok (.ifCond .ne 7, 3) := by decide +kernel
theorem dX2_joined_92 : decode cX2_joined 92 = .ok (.iconst 0, 1) := by decide +kernel
theorem dX2_joined_93 : decode cX2_joined 93 = .ok (.goto 6, 3) := by decide +kernel
theorem dX2_joined_96 : decode cX2_joined 96 = .ok (.iload_n 1, 1) := by decide +kernel
theorem dX2_joined_97 : decode cX2_joined 97 = .ok (.iload_n 2, 1) := by decide +kernel
theorem dX2_joined_98 : decode cX2_joined 98 = .ok (.idiv, 1) := by decide +kernel
theorem dX2_joined_99 : decode cX2_joined 99 = .ok (.ireturn, 1) := by decide +kernel
theorem dX2_joined_100 : decode cX2_joined 100 = .ok (.iload_n 1, 1) := by decide +kernel
theorem dX2_joined_101 : decode cX2_joined 101 = .ok (.iload_n 2, 1) := by decide +kernel
theorem dX2_joined_102 : decode cX2_joined 102 = .ok (.if_icmp .ge 7, 3) := by decide +kernel
theorem dX2_joined_105 : decode cX2_joined 105 = .ok (.iconst 1, 1) := by decide +kernel
theorem dX2_joined_106 : decode cX2_joined 106 = .ok (.goto 4, 3) := by decide +kernel
theorem dX2_joined_109 : decode cX2_joined 109 = .ok (.iconst 0, 1) := by decide +kernel
theorem dX2_joined_110 : decode cX2_joined 110 = .ok (.ireturn, 1) := by decide +kernel
theorem dX2_joined_111 : decode cX2_joined 111 = .ok (.iload_n 1, 1) := by decide +kernel
theorem dX2_joined_112 : decode cX2_joined 112 = .ok (.iload_n 2, 1) := by decide +kernel
theorem dX2_joined_113 : decode cX2_joined 113 = .ok (.if_icmp .ne 7, 3) := by decide +kernel
theorem dX2_joined_116 : decode cX2_joined 116 = .ok (.iconst 1, 1) := by decide +kernel
theorem dX2_joined_117 : decode cX2_joined 117 = .ok (.goto 4, 3) := by decide +kernel
theorem dX2_joined_120 : decode cX2_joined 120 = .ok (.iconst 0, 1) := by decide +kernel
theorem dX2_joined_121 : decode cX2_joined 121 = .ok (.ireturn, 1) := by decide +kernel
theorem dX2_joined_122 : decode cX2_joined 122 = .ok (.iload_n 1, 1) := by decide +kernel
theorem dX2_joined_123 : decode cX2_joined 123 = .ok (.iload_n 2, 1) := by decide +kernel
theorem dX2_joined_124 : decode cX2_joined 124 = .ok (.if_icmp .le 7, 3) := by decide +kernel
theorem dX2_joined_127 : decode cX2_joined 127 = .ok (.iconst 1, 1) := by decide +kernel
theorem dX2_joined_128 : decode cX2_joined 128 = .ok (.goto 4, 3) := by decide +kernel
theorem dX2_joined_131 : decode cX2_joined 131 = .ok (.iconst 0, 1) := by decide +kernel
theorem dX2_joined_132 : decode cX2_joined 132 = .ok (.ireturn, 1) := by decide +kernel
theorem dX2_joined_133 : decode cX2_joined 133 = .ok (.iload_n 1, 1) := by decide +kernel
theorem dX2_joined_134 : decode cX2_joined 134 = .ok (.iload_n 2, 1) := by decide +kernel
theorem dX2_joined_135 : decode cX2_joined 135 = .ok (.iand, 1) := by decide +kernel
theorem dX2_joined_136 : decode cX2_joined 136 = .ok (.ireturn, 1) := by decide +kernel
theorem dX2_joined_137 : decode cX2_joined 137 = .ok (.iload_n 1, 1) := by decide +kernel
theorem dX2_joined_138 : decode cX2_joined 138 = .ok (.iload_n 2, 1) := by decide +kernel
theorem dX2_joined_139 : decode cX2_joined 139 = .ok (.ior, 1) := by decide +kernel
theorem dX2_joined_140 : decode cX2_joined 140 = .ok (.ireturn, 1) := by decide +kernel
theorem dX3_init_0 : decode cX3_init 0 = .ok (.aload_n 0, 1) := by decide +kernel
theorem dX3_init_1 : decode cX3_init 1 = .ok (.invokespecial 3, 3) := by decide +kernel
theorem dX3_init_4 : decode cX3_init 4 = .ok (.aload_n 0, 1) := by decide +kernel
theorem dX3_init_5 : decode cX3_init 5 = .ok (.sipush 400, 3) := by decide +kernel
theorem dX3_init_8 : decode cX3_init 8 = .ok (.newarray .int, 2) := by decide +kernel
theorem dX3_init_10 : decode cX3_init 10 = .ok (.putfield 9, 3) := by decide +kernel
theorem dX3_init_13 : decode cX3_init 13 = .ok (.aload_n 0, 1) := by decide +kernel
theorem dX3_init_14 : decode cX3_init 14 = .ok (.iconst 0, 1) := by decide +kernel
theorem dX3_init_15 : decode cX3_init 15 = .ok (.putfield 15, 3) := by decide +kernel
theorem dX3_init_18 : decode cX3_init 18 = .ok (.aload_n 0, 1) := by decide +kernel
theorem dX3_init_19 : decode cX3_init 19 = .ok (.iconst 0, 1) := by decide +kernel
theorem dX3_init_20 : decode cX3_init 20 = .ok (.putfield 19, 3) := by decide +kernel
theorem dX3_init_23 : decode cX3_init 23 = .ok (.aload_n 0, 1) := by decide +kernel
theorem dX3_init_24 : decode cX3_init 24 = .ok (.iconst 0, 1) := by decide +kernel
theorem dX3_init_25 : decode cX3_init 25 = .ok (.putfield 22, 3) := by decide +kernel
theorem dX3_init_28 : decode cX3_init 28 = .ok (.aload_n 0, 1) := by decide +kernel
theorem dX3_init_29 : decode cX3_init 29 = .ok (.iconst (-1), 1) := by decide +kernel
theorem dX3_init_30 : decode cX3_init 30 = .ok (.putfield 25, 3) := by decide +kernel
theorem dX3_init_33 : decode cX3_init 33 = .ok (.aload_n 0, 1) := by decide +kernel
theorem dX3_init_34 : decode cX3_init 34 = .ok (.sipush 400, 3) := by decide +kernel
theorem dX3_init_37 : decode cX3_init 37 = .ok (.newarray .int, 2) := by decide +kernel
theorem dX3_init_39 : decode cX3_init 39 = .ok (.putfield 28, 3) := by decide +kernel
theorem dX3_init_42 : decode cX3_init 42 = .ok (.aload_n 0, 1) := by decide +kernel
theorem dX3_init_43 : decode cX3_init 43 = .ok (.iconst 0, 1) := by decide +kernel
theorem dX3_init_44 : decode cX3_init 44 = .ok (.putfield 31, 3) := by decide +kernel
theorem dX3_init_47 : decode cX3_init 47 = .ok (.aload_n 0, 1) := by decide +kernel
theorem dX3_init_48 : decode cX3_init 48 = .ok (.iconst 0, 1) := by decide +kernel
theorem dX3_init_49 : decode cX3_init 49 = .ok (.putfield 34, 3) := by decide +kernel
theorem dX3_init_52 : decode cX3_init 52 = .ok (.aload_n 0, 1) := by decide +kernel
theorem dX3_init_53 : decode cX3_init 53 = .ok (.iconst 0, 1) := by decide +kernel
theorem dX3_init_54 : decode cX3_init 54 = .ok (.putfield 37, 3) := by decide +kernel
theorem dX3_init_57 : decode cX3_init 57 = .ok (.aload_n 0, 1) := by decide +kernel
theorem dX3_init_58 : decode cX3_init 58 = .ok (.iconst 0, 1) := by decide +kernel
theorem dX3_init_59 : decode cX3_init 59 = .ok (.putfield 40, 3) := by decide +kernel
theorem dX3_init_62 : decode cX3_init 62 = .ok (.aload_n 0, 1) := by decide +kernel
theorem dX3_init_63 : decode cX3_init 63 = .ok (.iconst 0, 1) := by decide +kernel
theorem dX3_init_64 : decode cX3_init 64 = .ok (.putfield 43, 3) := by decide +kernel
theorem dX3_init_67 : decode cX3_init 67 = .ok (.aload_n 0, 1) := by decide +kernel
theorem dX3_init_68 : decode cX3_init 68 = .ok (.iconst 0, 1) := by decide +kernel
theorem dX3_init_69 : decode cX3_init 69 = .ok (.putfield 46, 3) := by decide +kernel
theorem dX3_init_72 : decode cX3_init 72 = .ok (.aload_n 0, 1) := by decide +kernel
theorem dX3_init_73 : decode cX3_init 73 = .ok (.iconst 0, 1) := by decide +kernel
theorem dX3_init_74 : decode cX3_init 74 = .ok (.putfield 49, 3) := by decide +kernel
theorem dX3_init_77 : decode cX3_init 77 = .ok (.aload_n 0, 1) := by decide +kernel
theorem dX3_init_78 : decode cX3_init 78 = .ok (.iconst 0, 1) := by decide +kernel
theorem dX3_init_79 : decode cX3_init 79 = .ok (.putfield 52, 3) := by decide +kernel
theorem dX3_init_82 : decode cX3_init 82 = .ok (.aload_n 0, 1) := by decide +kernel
theorem dX3_init_83 : decode cX3_init 83 = .ok (.sipush 400, 3) := by decide +kernel
theorem dX3_init_86 : decode cX3_init 86 = .ok (.newarray .int, 2) := by decide +kernel
theorem dX3_init_88 : decode cX3_init 88 = .ok (.putfield 56, 3) := by decide +kernel
theorem dX3_init_91 : decode cX3_init 91 = .ok (.aload_n 0, 1) := by decide +kernel
theorem dX3_init_92 : decode cX3_init 92 = .ok (.iconst 0, 1) := by decide +kernel
theorem dX3_init_93 : decode cX3_init 93 = .ok (.putfield 59, 3) := by decide +kernel
theorem dX3_init_96 : decode cX3_init 96 = .ok (.aload_n 0, 1) := by decide +kernel
theorem dX3_init_97 : decode cX3_init 97 = .ok (.iconst 0, 1) := by decide +kernel
theorem dX3_init_98 : decode cX3_init 98 = .ok (.putfield 62, 3) := by decide +kernel
theorem dX3_init_101 : decode cX3_init 101 = .ok (.return_, 1) := by decide +kernel
set_option maxRecDepth 20000 in
theorem ggX3_accepts_X3_advance : GoodIn wsX3_accepts wsX3_advance := goodIn_r _ [20, 7, 21, 6, 1, 15, 22, 23, 19, 24, 25, 26, 27, 28, 29, 30, 31, 32, 33, 34, 35, 36, 37, 38, 39, 40, 41, 42, 43, 44, 45, 46, 47, 48, 49, 50, 51, 52, 53, 54, 55, 56, 57, 58, 59, 60, 61, 62, 63, 64, 65, 66, 67, 68, 69, 70, 71, 72, 73, 74, 75, 76, 77, 78, 79, 80, 81, 82, 83, 84, 85, 86, 87, 88, 89, 90, 91, 92, 93, 94, 95, 96, 160, 161, 162, 163, 164, 165, 166, 167, 168, 169, 170, 171, 172, 173, 174, 175, 176] rfl (by decide +kernel)
set_option maxRecDepth 20000 in
theorem gX3_accepts_X3_advance : GoodIn wsX3_accepts (wsV RX3 71 RX3 yX3_advance wsX3_advance) := goodIn_app (goodIn_of _ (by decide +kernel)) ggX3_accepts_X3_advance
set_option maxRecDepth 20000 in
theorem ggX3_accepts_X3_readsToken : GoodIn wsX3_accepts wsX3_readsToken := goodIn_r _ [100, 12, 101, 102, 103, 19, 104, 15, 9, 105, 106, 107, 108, 10, 21, 11, 109, 110, 111, 112, 113, 114, 115, 116, 93, 117, 118, 119, 120, 121, 122, 123, 124, 125, 8, 126, 127, 128, 129, 130, 131, 14, 132, 133, 134, 135, 136, 137, 138, 139, 13, 140, 141, 142, 143, 144, 145, 146, 147, 148, 149, 150, 151, 152, 153, 154, 155, 156, 157, 158, 159, 160, 161, 162, 163, 164, 165, 166, 167, 168, 169, 170, 171, 172, 173, 174, 175, 176] rfl (by decide +kernel)
set_option maxRecDepth 20000 in
theorem gX3_accepts_X3_readsToken : GoodIn wsX3_accepts (wsV RX3 74 RX3 yX3_readsToken wsX3_readsToken) := goodIn_app (goodIn_of _ (by decide +kernel)) ggX3_accepts_X3_readsToken
set_option maxRecDepth 20000 in
theorem ggX3_accepts_X3_refuse : GoodIn wsX3_accepts wsX3_refuse := goodIn_r _ [108, 10, 21, 11, 160, 161, 162, 163, 164, 165, 166, 167, 168, 169, 170, 171, 172, 173, 174, 175, 176] rfl (by decide +kernel)
set_option maxRecDepth 20000 in
theorem gX3_accepts_X3_refuse : GoodIn wsX3_accepts (wsV RX3 78 RX3 yX3_refuse wsX3_refuse) := goodIn_app (goodIn_of _ (by decide +kernel)) ggX3_accepts_X3_refuse
theorem dX3_accepts_0 : decode cX3_accepts 0 = .ok (.aload_n 1, 1) := by decide +kernel
theorem dX3_accepts_1 : decode cX3_accepts 1 = .ok (.iconst 0, 1) := by decide +kernel
theorem dX3_accepts_2 : decode cX3_accepts 2 = .ok (.aload_n 0, 1) := by decide +kernel
theorem dX3_accepts_3 : decode cX3_accepts 3 = .ok (.getfield 28, 3) := by decide +kernel
theorem dX3_accepts_6 : decode cX3_accepts 6 = .ok (.iconst 0, 1) := by decide +kernel
theorem dX3_accepts_7 : decode cX3_accepts 7 = .ok (.iload_n 2, 1) := by decide +kernel
theorem dX3_accepts_8 : decode cX3_accepts 8 = .ok (.invokestatic 65, 3) := by decide +kernel
theorem dX3_accepts_11 : decode cX3_accepts 11 = .ok (.aload_n 0, 1) := by decide +kernel
theorem dX3_accepts_12 : decode cX3_accepts 12 = .ok (.iload_n 2, 1) := by decide +kernel
theorem dX3_accepts_13 : decode cX3_accepts 13 = .ok (.putfield 31, 3) := by decide +kernel
theorem dX3_accepts_16 : decode cX3_accepts 16 = .ok (.aload_n 0, 1) := by decide +kernel
theorem dX3_accepts_17 : decode cX3_accepts 17 = .ok (.iconst 0, 1) := by decide +kernel
theorem dX3_accepts_18 : decode cX3_accepts 18 = .ok (.putfield 37, 3) := by decide +kernel
theorem dX3_accepts_21 : decode cX3_accepts 21 = .ok (.aload_n 0, 1) := by decide +kernel
theorem dX3_accepts_22 : decode cX3_accepts 22 = .ok (.iconst 0, 1) := by decide +kernel
theorem dX3_accepts_23 : decode cX3_accepts 23 = .ok (.putfield 15, 3) := by decide +kernel
theorem dX3_accepts_26 : decode cX3_accepts 26 = .ok (.aload_n 0, 1) := by decide +kernel
theorem dX3_accepts_27 : decode cX3_accepts 27 = .ok (.iconst 0, 1) := by decide +kernel
theorem dX3_accepts_28 : decode cX3_accepts 28 = .ok (.putfield 19, 3) := by decide +kernel
theorem dX3_accepts_31 : decode cX3_accepts 31 = .ok (.aload_n 0, 1) := by decide +kernel
theorem dX3_accepts_32 : decode cX3_accepts 32 = .ok (.iconst 0, 1) := by decide +kernel
theorem dX3_accepts_33 : decode cX3_accepts 33 = .ok (.putfield 22, 3) := by decide +kernel
theorem dX3_accepts_36 : decode cX3_accepts 36 = .ok (.aload_n 0, 1) := by decide +kernel
theorem dX3_accepts_37 : decode cX3_accepts 37 = .ok (.iconst (-1), 1) := by decide +kernel
theorem dX3_accepts_38 : decode cX3_accepts 38 = .ok (.putfield 25, 3) := by decide +kernel
theorem dX3_accepts_41 : decode cX3_accepts 41 = .ok (.aload_n 0, 1) := by decide +kernel
theorem dX3_accepts_42 : decode cX3_accepts 42 = .ok (.iconst 0, 1) := by decide +kernel
theorem dX3_accepts_43 : decode cX3_accepts 43 = .ok (.putfield 46, 3) := by decide +kernel
theorem dX3_accepts_46 : decode cX3_accepts 46 = .ok (.aload_n 0, 1) := by decide +kernel
theorem dX3_accepts_47 : decode cX3_accepts 47 = .ok (.iconst 0, 1) := by decide +kernel
theorem dX3_accepts_48 : decode cX3_accepts 48 = .ok (.putfield 59, 3) := by decide +kernel
theorem dX3_accepts_51 : decode cX3_accepts 51 = .ok (.aload_n 0, 1) := by decide +kernel
theorem dX3_accepts_52 : decode cX3_accepts 52 = .ok (.iconst 0, 1) := by decide +kernel
theorem dX3_accepts_53 : decode cX3_accepts 53 = .ok (.putfield 62, 3) := by decide +kernel
theorem dX3_accepts_56 : decode cX3_accepts 56 = .ok (.aload_n 0, 1) := by decide +kernel
theorem dX3_accepts_57 : decode cX3_accepts 57 = .ok (.invokevirtual 71, 3) := by decide +kernel
theorem dX3_accepts_60 : decode cX3_accepts 60 = .ok (.iconst 0, 1) := by decide +kernel
theorem dX3_accepts_61 : decode cX3_accepts 61 = .ok (.istore_n 3, 1) := by decide +kernel
theorem dX3_accepts_62 : decode cX3_accepts 62 = .ok (.iload_n 3, 1) := by decide +kernel
theorem dX3_accepts_63 : decode cX3_accepts 63 = .ok (.aload_n 0, 1) := by decide +kernel
theorem dX3_accepts_64 : decode cX3_accepts 64 = .ok (.getfield 31, 3) := by decide +kernel
theorem dX3_accepts_67 : decode cX3_accepts 67 = .ok (.if_icmp .ge 29, 3) := by decide +kernel
theorem dX3_accepts_70 : decode cX3_accepts 70 = .ok (.aload_n 0, 1) := by decide +kernel
theorem dX3_accepts_71 : decode cX3_accepts 71 = .ok (.getfield 40, 3) := by decide +kernel
theorem dX3_accepts_74 : decode cX3_accepts 74 = .ok (.ifCond .eq 22, 3) := by decide +kernel
theorem dX3_accepts_77 : decode cX3_accepts 77 = .ok (.aload_n 0, 1) := by decide +kernel
theorem dX3_accepts_78 : decode cX3_accepts 78 = .ok (.invokevirtual 74, 3) := by decide +kernel
theorem dX3_accepts_81 : decode cX3_accepts 81 = .ok (.ifCond .ne 5, 3) := by decide +kernel
theorem dX3_accepts_84 : decode cX3_accepts 84 = .ok (.iconst 0, 1) := by decide +kernel
theorem dX3_accepts_85 : decode cX3_accepts 85 = .ok (.ireturn, 1) := by decide +kernel
theorem dX3_accepts_86 : decode cX3_accepts 86 = .ok (.aload_n 0, 1) := by decide +kernel
theorem dX3_accepts_87 : decode cX3_accepts 87 = .ok (.invokevirtual 71, 3) := by decide +kernel
theorem dX3_accepts_90 : decode cX3_accepts 90 = .ok (.iinc 3 1, 3) := by decide +kernel
theorem dX3_accepts_93 : decode cX3_accepts 93 = .ok (.goto (-31), 3) := by decide +kernel
theorem dX3_accepts_96 : decode cX3_accepts 96 = .ok (.aload_n 0, 1) := by decide +kernel
theorem dX3_accepts_97 : decode cX3_accepts 97 = .ok (.getfield 46, 3) := by decide +kernel
theorem dX3_accepts_100 : decode cX3_accepts 100 = .ok (.ifCond .eq 11, 3) := by decide +kernel
theorem dX3_accepts_103 : decode cX3_accepts 103 = .ok (.aload_n 0, 1) := by decide +kernel
theorem dX3_accepts_104 : decode cX3_accepts 104 = .ok (.iconst 1, 1) := by decide +kernel
theorem dX3_accepts_105 : decode cX3_accepts 105 = .ok (.invokevirtual 78, 3) := by decide +kernel
theorem dX3_accepts_108 : decode cX3_accepts 108 = .ok (.ifCond .eq 7, 3) := by decide +kernel
theorem dX3_accepts_111 : decode cX3_accepts 111 = .ok (.iconst 1, 1) := by decide +kernel
theorem dX3_accepts_112 : decode cX3_accepts 112 = .ok (.goto 4, 3) := by decide +kernel
theorem dX3_accepts_115 : decode cX3_accepts 115 = .ok (.iconst 0, 1) := by decide +kernel
theorem dX3_accepts_116 : decode cX3_accepts 116 = .ok (.ireturn, 1) := by decide +kernel
theorem dX3_refuse_0 : decode cX3_refuse 0 = .ok (.aload_n 0, 1) := by decide +kernel
theorem dX3_refuse_1 : decode cX3_refuse 1 = .ok (.iload_n 1, 1) := by decide +kernel
theorem dX3_refuse_2 : decode cX3_refuse 2 = .ok (.putfield 22, 3) := by decide +kernel
theorem dX3_refuse_5 : decode cX3_refuse 5 = .ok (.aload_n 0, 1) := by decide +kernel
theorem dX3_refuse_6 : decode cX3_refuse 6 = .ok (.aload_n 0, 1) := by decide +kernel
theorem dX3_refuse_7 : decode cX3_refuse 7 = .ok (.getfield 34, 3) := by decide +kernel
theorem dX3_refuse_10 : decode cX3_refuse 10 = .ok (.putfield 25, 3) := by decide +kernel
theorem dX3_refuse_13 : decode cX3_refuse 13 = .ok (.iconst 0, 1) := by decide +kernel
theorem dX3_refuse_14 : decode cX3_refuse 14 = .ok (.ireturn, 1) := by decide +kernel
theorem dX3_expect_0 : decode cX3_expect 0 = .ok (.aload_n 0, 1) := by decide +kernel
theorem dX3_expect_1 : decode cX3_expect 1 = .ok (.iload_n 1, 1) := by decide +kernel
theorem dX3_expect_2 : decode cX3_expect 2 = .ok (.putfield 46, 3) := by decide +kernel
theorem dX3_expect_5 : decode cX3_expect 5 = .ok (.iconst 1, 1) := by decide +kernel
theorem dX3_expect_6 : decode cX3_expect 6 = .ok (.ireturn, 1) := by decide +kernel
theorem dX3_emit_0 : decode cX3_emit 0 = .ok (.aload_n 0, 1) := by decide +kernel
theorem dX3_emit_1 : decode cX3_emit 1 = .ok (.getfield 15, 3) := by decide +kernel
theorem dX3_emit_4 : decode cX3_emit 4 = .ok (.aload_n 0, 1) := by decide +kernel
theorem dX3_emit_5 : decode cX3_emit 5 = .ok (.getfield 9, 3) := by decide +kernel
theorem dX3_emit_8 : decode cX3_emit 8 = .ok (.arraylength, 1) := by decide +kernel
theorem dX3_emit_9 : decode cX3_emit 9 = .ok (.if_icmp .ge 23, 3) := by decide +kernel
theorem dX3_emit_12 : decode cX3_emit 12 = .ok (.aload_n 0, 1) := by decide +kernel
theorem dX3_emit_13 : decode cX3_emit 13 = .ok (.getfield 9, 3) := by decide +kernel
theorem dX3_emit_16 : decode cX3_emit 16 = .ok (.aload_n 0, 1) := by decide +kernel
theorem dX3_emit_17 : decode cX3_emit 17 = .ok (.getfield 15, 3) := by decide +kernel
theorem dX3_emit_20 : decode cX3_emit 20 = .ok (.iload_n 1, 1) := by decide +kernel
theorem dX3_emit_21 : decode cX3_emit 21 = .ok (.iastore, 1) := by decide +kernel
theorem dX3_emit_22 : decode cX3_emit 22 = .ok (.aload_n 0, 1) := by decide +kernel
theorem dX3_emit_23 : decode cX3_emit 23 = .ok (.dup, 1) := by decide +kernel
theorem dX3_emit_24 : decode cX3_emit 24 = .ok (.getfield 15, 3) := by decide +kernel
theorem dX3_emit_27 : decode cX3_emit 27 = .ok (.iconst 1, 1) := by decide +kernel
theorem dX3_emit_28 : decode cX3_emit 28 = .ok (.iadd, 1) := by decide +kernel
theorem dX3_emit_29 : decode cX3_emit 29 = .ok (.putfield 15, 3) := by decide +kernel
theorem dX3_emit_32 : decode cX3_emit 32 = .ok (.return_, 1) := by decide +kernel
set_option maxRecDepth 20000 in
theorem ggX3_readsToken_X3_readsDo : GoodIn wsX3_readsToken wsX3_readsDo := goodIn_r _ [6, 7, 8, 9, 10, 11, 5, 12, 13, 14, 15, 16, 17, 18, 19, 1, 71, 72, 73, 74, 75, 76, 77, 78, 79, 80, 81, 82, 83, 84, 85, 86, 87] rfl (by decide +kernel)
set_option maxRecDepth 20000 in
theorem gX3_readsToken_X3_readsDo : GoodIn wsX3_readsToken (wsV RX3 82 RX3 yX3_readsDo wsX3_readsDo) := goodIn_app (goodIn_of _ (by decide +kernel)) ggX3_readsToken_X3_readsDo
set_option maxRecDepth 20000 in
theorem ggX3_readsToken_X3_readsDoing : GoodIn wsX3_readsToken wsX3_readsDoing := goodIn_r _ [23, 7, 24, 25, 9, 10, 11, 5, 12, 13, 14, 15, 16, 17, 18, 19, 1, 71, 72, 73, 74, 75, 76, 77, 78, 79, 80, 81, 82, 83, 84, 85, 86, 87] rfl (by decide +kernel)
set_option maxRecDepth 20000 in
theorem gX3_readsToken_X3_readsDoing : GoodIn wsX3_readsToken (wsV RX3 85 RX3 yX3_readsDoing wsX3_readsDoing) := goodIn_app (goodIn_of _ (by decide +kernel)) ggX3_readsToken_X3_readsDoing
set_option maxRecDepth 20000 in
theorem ggX3_readsToken_X3_readsWhen : GoodIn wsX3_readsToken wsX3_readsWhen := goodIn_r _ [29, 7, 25, 16, 17, 18, 5, 19, 1, 9, 10, 11, 12, 13, 14, 15, 30, 31, 32, 33, 34, 35, 71, 72, 73, 74, 75, 76, 77, 78, 79, 80, 81, 82, 83, 84, 85, 86, 87] rfl (by decide +kernel)
set_option maxRecDepth 20000 in
theorem gX3_readsToken_X3_readsWhen : GoodIn wsX3_readsToken (wsV RX3 88 RX3 yX3_readsWhen wsX3_readsWhen) := goodIn_app (goodIn_of _ (by decide +kernel)) ggX3_readsToken_X3_readsWhen
set_option maxRecDepth 20000 in
theorem ggX3_readsToken_X3_readsCondition : GoodIn wsX3_readsToken wsX3_readsCondition := goodIn_r _ [39, 7, 40, 41, 42, 43, 44, 5, 45, 24, 30, 31, 32, 33, 34, 35, 9, 10, 11, 12, 13, 14, 15, 16, 17, 18, 19, 1, 46, 47, 48, 49, 50, 51, 71, 72, 73, 74, 75, 76, 77, 78, 79, 80, 81, 82, 83, 84, 85, 86, 87] rfl (by decide +kernel)
set_option maxRecDepth 20000 in
theorem gX3_readsToken_X3_readsCondition : GoodIn wsX3_readsToken (wsV RX3 91 RX3 yX3_readsCondition wsX3_readsCondition) := goodIn_app (goodIn_of _ (by decide +kernel)) ggX3_readsToken_X3_readsCondition
set_option maxRecDepth 20000 in
theorem ggX3_readsToken_X3_readsUnit : GoodIn wsX3_readsToken wsX3_readsUnit := goodIn_r _ [45, 7, 24, 30, 31, 32, 5, 33, 34, 35, 9, 10, 11, 12, 13, 14, 15, 16, 17, 18, 19, 1, 71, 72, 73, 74, 75, 76, 77, 78, 79, 80, 81, 82, 83, 84, 85, 86, 87] rfl (by decide +kernel)
set_option maxRecDepth 20000 in
theorem gX3_readsToken_X3_readsUnit : GoodIn wsX3_readsToken (wsV RX3 94 RX3 yX3_readsUnit wsX3_readsUnit) := goodIn_app (goodIn_of _ (by decide +kernel)) ggX3_readsToken_X3_readsUnit
set_option maxRecDepth 20000 in
theorem ggX3_readsToken_X3_readsPart : GoodIn wsX3_readsToken wsX3_readsPart := goodIn_r _ [55, 7, 24, 9, 10, 11, 5, 12, 13, 14, 15, 42, 43, 44, 45, 30, 31, 32, 33, 34, 35, 16, 17, 18, 19, 1, 71, 72, 73, 74, 75, 76, 77, 78, 79, 80, 81, 82, 83, 84, 85, 86, 87] rfl (by decide +kernel)
set_option maxRecDepth 20000 in
theorem gX3_readsToken_X3_readsPart : GoodIn wsX3_readsToken (wsV RX3 97 RX3 yX3_readsPart wsX3_readsPart) := goodIn_app (goodIn_of _ (by decide +kernel)) ggX3_readsToken_X3_readsPart
set_option maxRecDepth 20000 in
theorem ggX3_readsToken_X3_readsBehindUnit : GoodIn wsX3_readsToken wsX3_readsBehindUnit := goodIn_r _ [59, 7, 40, 60, 61, 5, 62, 63, 64, 65, 66, 50, 51, 41, 30, 31, 32, 33, 34, 35, 46, 47, 48, 49, 16, 17, 18, 19, 1, 67, 68, 69, 70, 25, 9, 10, 11, 12, 13, 14, 15, 71, 72, 73, 74, 75, 76, 77, 78, 79, 80, 81, 82, 83, 84, 85, 86, 87] rfl (by decide +kernel)
set_option maxRecDepth 20000 in
theorem gX3_readsToken_X3_readsBehindUnit : GoodIn wsX3_readsToken (wsV RX3 100 RX3 yX3_readsBehindUnit wsX3_readsBehindUnit) := goodIn_app (goodIn_of _ (by decide +kernel)) ggX3_readsToken_X3_readsBehindUnit
set_option maxRecDepth 20000 in
theorem ggX3_readsToken_X3_readsBehindCondition : GoodIn wsX3_readsToken wsX3_readsBehindCondition := goodIn_r _ [70, 7, 50, 41, 25, 60, 61, 5, 62, 63, 64, 65, 66, 51, 30, 31, 32, 33, 34, 35, 46, 47, 48, 49, 16, 17, 18, 19, 1, 9, 10, 11, 12, 13, 14, 15, 71, 72, 73, 74, 75, 76, 77, 78, 79, 80, 81, 82, 83, 84, 85, 86, 87] rfl (by decide +kernel)
set_option maxRecDepth 20000 in
theorem gX3_readsToken_X3_readsBehindCondition : GoodIn wsX3_readsToken (wsV RX3 103 RX3 yX3_readsBehindCondition wsX3_readsBehindCondition) := goodIn_app (goodIn_of _ (by decide +kernel)) ggX3_readsToken_X3_readsBehindCondition
theorem dX3_readsToken_0 : decode cX3_readsToken 0 = .ok (.aload_n 0, 1) := by decide +kernel
theorem dX3_readsToken_1 : decode cX3_readsToken 1 = .ok (.getfield 46, 3) := by decide +kernel
theorem dX3_readsToken_4 : decode cX3_readsToken 4 = .ok (.tableswitch 79 0 6 #[44, 49, 54, 59, 64, 69, 74], 44) := by decide +kernel
theorem dX3_readsToken_48 : decode cX3_readsToken 48 = .ok (.aload_n 0, 1) := by decide +kernel
theorem dX3_readsToken_49 : decode cX3_readsToken 49 = .ok (.invokevirtual 82, 3) := by decide +kernel
theorem dX3_readsToken_52 : decode cX3_readsToken 52 = .ok (.ireturn, 1) := by decide +kernel
theorem dX3_readsToken_53 : decode cX3_readsToken 53 = .ok (.aload_n 0, 1) := by decide +kernel
theorem dX3_readsToken_54 : decode cX3_readsToken 54 = .ok (.invokevirtual 85, 3) := by decide +kernel
theorem dX3_readsToken_57 : decode cX3_readsToken 57 = .ok (.ireturn, 1) := by decide +kernel
theorem dX3_readsToken_58 : decode cX3_readsToken 58 = .ok (.aload_n 0, 1) := by decide +kernel
theorem dX3_readsToken_59 : decode cX3_readsToken 59 = .ok (.invokevirtual 88, 3) := by decide +kernel
theorem dX3_readsToken_62 : decode cX3_readsToken 62 = .ok (.ireturn, 1) := by decide +kernel
theorem dX3_readsToken_63 : decode cX3_readsToken 63 = .ok (.aload_n 0, 1) := by decide +kernel
theorem dX3_readsToken_64 : decode cX3_readsToken 64 = .ok (.invokevirtual 91, 3) := by decide +kernel
theorem dX3_readsToken_67 : decode cX3_readsToken 67 = .ok (.ireturn, 1) := by decide +kernel
theorem dX3_readsToken_68 : decode cX3_readsToken 68 = .ok (.aload_n 0, 1) := by decide +kernel
theorem dX3_readsToken_69 : decode cX3_readsToken 69 = .ok (.invokevirtual 94, 3) := by decide +kernel
theorem dX3_readsToken_72 : decode cX3_readsToken 72 = .ok (.ireturn, 1) := by decide +kernel
theorem dX3_readsToken_73 : decode cX3_readsToken 73 = .ok (.aload_n 0, 1) := by decide +kernel
theorem dX3_readsToken_74 : decode cX3_readsToken 74 = .ok (.invokevirtual 97, 3) := by decide +kernel
theorem dX3_readsToken_77 : decode cX3_readsToken 77 = .ok (.ireturn, 1) := by decide +kernel
theorem dX3_readsToken_78 : decode cX3_readsToken 78 = .ok (.aload_n 0, 1) := by decide +kernel
theorem dX3_readsToken_79 : decode cX3_readsToken 79 = .ok (.invokevirtual 100, 3) := by decide +kernel
theorem dX3_readsToken_82 : decode cX3_readsToken 82 = .ok (.ireturn, 1) := by decide +kernel
theorem dX3_readsToken_83 : decode cX3_readsToken 83 = .ok (.aload_n 0, 1) := by decide +kernel
theorem dX3_readsToken_84 : decode cX3_readsToken 84 = .ok (.invokevirtual 103, 3) := by decide +kernel
theorem dX3_readsToken_87 : decode cX3_readsToken 87 = .ok (.ireturn, 1) := by decide +kernel
set_option maxRecDepth 20000 in
theorem ggX3_readsDo_X3_refuse : GoodIn wsX3_readsDo wsX3_refuse := goodIn_r _ [7, 8, 9, 10, 16, 17, 18, 19, 20, 21, 22, 23, 24, 25, 26, 27, 28, 29, 30, 31, 32] rfl (by decide +kernel)
set_option maxRecDepth 20000 in
theorem gX3_readsDo_X3_refuse : GoodIn wsX3_readsDo (wsV RX3 78 RX3 yX3_refuse wsX3_refuse) := goodIn_app (goodIn_of _ (by decide +kernel)) ggX3_readsDo_X3_refuse
set_option maxRecDepth 20000 in
theorem ggX3_readsDo_X3_expect : GoodIn wsX3_readsDo wsX3_expect := goodIn_r _ [14, 15, 16, 17, 18, 19, 20, 21, 22, 23, 24, 25, 26, 27, 28, 29, 30, 31, 32] rfl (by decide +kernel)
set_option maxRecDepth 20000 in
theorem gX3_readsDo_X3_expect : GoodIn wsX3_readsDo (wsV RX3 106 RX3 yX3_expect wsX3_expect) := goodIn_app (goodIn_of _ (by decide +kernel)) ggX3_readsDo_X3_expect
theorem dX3_readsDo_0 : decode cX3_readsDo 0 = .ok (.aload_n 0, 1) := by decide +kernel
theorem dX3_readsDo_1 : decode cX3_readsDo 1 = .ok (.getfield 40, 3) := by decide +kernel
theorem dX3_readsDo_4 : decode cX3_readsDo 4 = .ok (.sipush 200, 3) := by decide +kernel
theorem dX3_readsDo_7 : decode cX3_readsDo 7 = .ok (.if_icmp .eq 9, 3) := by decide +kernel
theorem dX3_readsDo_10 : decode cX3_readsDo 10 = .ok (.aload_n 0, 1) := by decide +kernel
theorem dX3_readsDo_11 : decode cX3_readsDo 11 = .ok (.iconst 1, 1) := by decide +kernel
theorem dX3_readsDo_12 : decode cX3_readsDo 12 = .ok (.invokevirtual 78, 3) := by decide +kernel
theorem dX3_readsDo_15 : decode cX3_readsDo 15 = .ok (.ireturn, 1) := by decide +kernel
theorem dX3_readsDo_16 : decode cX3_readsDo 16 = .ok (.aload_n 0, 1) := by decide +kernel
theorem dX3_readsDo_17 : decode cX3_readsDo 17 = .ok (.getfield 19, 3) := by decide +kernel
theorem dX3_readsDo_20 : decode cX3_readsDo 20 = .ok (.bipush 16, 2) := by decide +kernel
theorem dX3_readsDo_22 : decode cX3_readsDo 22 = .ok (.if_icmp .lt 9, 3) := by decide +kernel
theorem dX3_readsDo_25 : decode cX3_readsDo 25 = .ok (.aload_n 0, 1) := by decide +kernel
theorem dX3_readsDo_26 : decode cX3_readsDo 26 = .ok (.iconst 3, 1) := by decide +kernel
theorem dX3_readsDo_27 : decode cX3_readsDo 27 = .ok (.invokevirtual 78, 3) := by decide +kernel
theorem dX3_readsDo_30 : decode cX3_readsDo 30 = .ok (.ireturn, 1) := by decide +kernel
theorem dX3_readsDo_31 : decode cX3_readsDo 31 = .ok (.aload_n 0, 1) := by decide +kernel
theorem dX3_readsDo_32 : decode cX3_readsDo 32 = .ok (.dup, 1) := by decide +kernel
theorem dX3_readsDo_33 : decode cX3_readsDo 33 = .ok (.getfield 19, 3) := by decide +kernel
theorem dX3_readsDo_36 : decode cX3_readsDo 36 = .ok (.iconst 1, 1) := by decide +kernel
theorem dX3_readsDo_37 : decode cX3_readsDo 37 = .ok (.iadd, 1) := by decide +kernel
theorem dX3_readsDo_38 : decode cX3_readsDo 38 = .ok (.putfield 19, 3) := by decide +kernel
theorem dX3_readsDo_41 : decode cX3_readsDo 41 = .ok (.aload_n 0, 1) := by decide +kernel
theorem dX3_readsDo_42 : decode cX3_readsDo 42 = .ok (.iconst 1, 1) := by decide +kernel
theorem dX3_readsDo_43 : decode cX3_readsDo 43 = .ok (.invokevirtual 106, 3) := by decide +kernel
theorem dX3_readsDo_46 : decode cX3_readsDo 46 = .ok (.ireturn, 1) := by decide +kernel
set_option maxRecDepth 20000 in
theorem ggX3_readsDoing_X3_refuse : GoodIn wsX3_readsDoing wsX3_refuse := goodIn_r _ [8, 9, 10, 11, 17, 18, 19, 20, 21, 22, 23, 24, 25, 26, 27, 28, 29, 30, 31, 32, 33] rfl (by decide +kernel)
set_option maxRecDepth 20000 in
theorem gX3_readsDoing_X3_refuse : GoodIn wsX3_readsDoing (wsV RX3 78 RX3 yX3_refuse wsX3_refuse) := goodIn_app (goodIn_of _ (by decide +kernel)) ggX3_readsDoing_X3_refuse
set_option maxRecDepth 20000 in
theorem ggX3_readsDoing_X3_expect : GoodIn wsX3_readsDoing wsX3_expect := goodIn_r _ [15, 16, 17, 18, 19, 20, 21, 22, 23, 24, 25, 26, 27, 28, 29, 30, 31, 32, 33] rfl (by decide +kernel)
set_option maxRecDepth 20000 in
theorem gX3_readsDoing_X3_expect : GoodIn wsX3_readsDoing (wsV RX3 106 RX3 yX3_expect wsX3_expect) := goodIn_app (goodIn_of _ (by decide +kernel)) ggX3_readsDoing_X3_expect
theorem dX3_readsDoing_0 : decode cX3_readsDoing 0 = .ok (.aload_n 0, 1) := by decide +kernel
theorem dX3_readsDoing_1 : decode cX3_readsDoing 1 = .ok (.getfield 40, 3) := by decide +kernel
theorem dX3_readsDoing_4 : decode cX3_readsDoing 4 = .ok (.iconst 1, 1) := by decide +kernel
theorem dX3_readsDoing_5 : decode cX3_readsDoing 5 = .ok (.if_icmp .eq 9, 3) := by decide +kernel
theorem dX3_readsDoing_8 : decode cX3_readsDoing 8 = .ok (.aload_n 0, 1) := by decide +kernel
theorem dX3_readsDoing_9 : decode cX3_readsDoing 9 = .ok (.iconst 1, 1) := by decide +kernel
theorem dX3_readsDoing_10 : decode cX3_readsDoing 10 = .ok (.invokevirtual 78, 3) := by decide +kernel
theorem dX3_readsDoing_13 : decode cX3_readsDoing 13 = .ok (.ireturn, 1) := by decide +kernel
theorem dX3_readsDoing_14 : decode cX3_readsDoing 14 = .ok (.aload_n 0, 1) := by decide +kernel
theorem dX3_readsDoing_15 : decode cX3_readsDoing 15 = .ok (.getfield 43, 3) := by decide +kernel
theorem dX3_readsDoing_18 : decode cX3_readsDoing 18 = .ok (.iconst 4, 1) := by decide +kernel
theorem dX3_readsDoing_19 : decode cX3_readsDoing 19 = .ok (.if_icmp .lt 9, 3) := by decide +kernel
theorem dX3_readsDoing_22 : decode cX3_readsDoing 22 = .ok (.aload_n 0, 1) := by decide +kernel
theorem dX3_readsDoing_23 : decode cX3_readsDoing 23 = .ok (.iconst 2, 1) := by decide +kernel
theorem dX3_readsDoing_24 : decode cX3_readsDoing 24 = .ok (.invokevirtual 78, 3) := by decide +kernel
theorem dX3_readsDoing_27 : decode cX3_readsDoing 27 = .ok (.ireturn, 1) := by decide +kernel
theorem dX3_readsDoing_28 : decode cX3_readsDoing 28 = .ok (.aload_n 0, 1) := by decide +kernel
theorem dX3_readsDoing_29 : decode cX3_readsDoing 29 = .ok (.aload_n 0, 1) := by decide +kernel
theorem dX3_readsDoing_30 : decode cX3_readsDoing 30 = .ok (.getfield 43, 3) := by decide +kernel
theorem dX3_readsDoing_33 : decode cX3_readsDoing 33 = .ok (.putfield 49, 3) := by decide +kernel
theorem dX3_readsDoing_36 : decode cX3_readsDoing 36 = .ok (.aload_n 0, 1) := by decide +kernel
theorem dX3_readsDoing_37 : decode cX3_readsDoing 37 = .ok (.iconst 2, 1) := by decide +kernel
theorem dX3_readsDoing_38 : decode cX3_readsDoing 38 = .ok (.invokevirtual 106, 3) := by decide +kernel
theorem dX3_readsDoing_41 : decode cX3_readsDoing 41 = .ok (.ireturn, 1) := by decide +kernel
set_option maxRecDepth 20000 in
theorem ggX3_readsWhen_X3_expect : GoodIn wsX3_readsWhen wsX3_expect := goodIn_r _ [7, 8, 22, 23, 24, 25, 26, 27, 28, 29, 30, 31, 32, 33, 34, 35, 36, 37, 38] rfl (by decide +kernel)
set_option maxRecDepth 20000 in
theorem gX3_readsWhen_X3_expect : GoodIn wsX3_readsWhen (wsV RX3 106 RX3 yX3_expect wsX3_expect) := goodIn_app (goodIn_of _ (by decide +kernel)) ggX3_readsWhen_X3_expect
set_option maxRecDepth 20000 in
theorem ggX3_readsWhen_X3_refuse : GoodIn wsX3_readsWhen wsX3_refuse := goodIn_r _ [12, 13, 14, 15, 22, 23, 24, 25, 26, 27, 28, 29, 30, 31, 32, 33, 34, 35, 36, 37, 38] rfl (by decide +kernel)
set_option maxRecDepth 20000 in
theorem gX3_readsWhen_X3_refuse : GoodIn wsX3_readsWhen (wsV RX3 78 RX3 yX3_refuse wsX3_refuse) := goodIn_app (goodIn_of _ (by decide +kernel)) ggX3_readsWhen_X3_refuse
set_option maxRecDepth 20000 in
theorem ggX3_readsWhen_X3_emit : GoodIn wsX3_readsWhen wsX3_emit := goodIn_r _ [19, 20, 21, 22, 23, 24, 25, 26, 27, 28, 29, 30, 31, 32, 33, 34, 35, 36, 37, 38] rfl (by decide +kernel)
set_option maxRecDepth 20000 in
theorem gX3_readsWhen_X3_emit : GoodIn wsX3_readsWhen (wsV RX3 109 RX3 yX3_emit wsX3_emit) := goodIn_app (goodIn_of _ (by decide +kernel)) ggX3_readsWhen_X3_emit
theorem dX3_readsWhen_0 : decode cX3_readsWhen 0 = .ok (.aload_n 0, 1) := by decide +kernel
theorem dX3_readsWhen_1 : decode cX3_readsWhen 1 = .ok (.getfield 40, 3) := by decide +kernel
theorem dX3_readsWhen_4 : decode cX3_readsWhen 4 = .ok (.sipush 201, 3) := by decide +kernel
theorem dX3_readsWhen_7 : decode cX3_readsWhen 7 = .ok (.if_icmp .ne 9, 3) := by decide +kernel
theorem dX3_readsWhen_10 : decode cX3_readsWhen 10 = .ok (.aload_n 0, 1) := by decide +kernel
theorem dX3_readsWhen_11 : decode cX3_readsWhen 11 = .ok (.iconst 3, 1) := by decide +kernel
theorem dX3_readsWhen_12 : decode cX3_readsWhen 12 = .ok (.invokevirtual 106, 3) := by decide +kernel
theorem dX3_readsWhen_15 : decode cX3_readsWhen 15 = .ok (.ireturn, 1) := by decide +kernel
theorem dX3_readsWhen_16 : decode cX3_readsWhen 16 = .ok (.aload_n 0, 1) := by decide +kernel
theorem dX3_readsWhen_17 : decode cX3_readsWhen 17 = .ok (.getfield 40, 3) := by decide +kernel
theorem dX3_readsWhen_20 : decode cX3_readsWhen 20 = .ok (.bipush 59, 2) := by decide +kernel
theorem dX3_readsWhen_22 : decode cX3_readsWhen 22 = .ok (.if_icmp .eq 9, 3) := by decide +kernel
theorem dX3_readsWhen_25 : decode cX3_readsWhen 25 = .ok (.aload_n 0, 1) := by decide +kernel
theorem dX3_readsWhen_26 : decode cX3_readsWhen 26 = .ok (.iconst 1, 1) := by decide +kernel
theorem dX3_readsWhen_27 : decode cX3_readsWhen 27 = .ok (.invokevirtual 78, 3) := by decide +kernel
theorem dX3_readsWhen_30 : decode cX3_readsWhen 30 = .ok (.ireturn, 1) := by decide +kernel
theorem dX3_readsWhen_31 : decode cX3_readsWhen 31 = .ok (.aload_n 0, 1) := by decide +kernel
theorem dX3_readsWhen_32 : decode cX3_readsWhen 32 = .ok (.iconst 1, 1) := by decide +kernel
theorem dX3_readsWhen_33 : decode cX3_readsWhen 33 = .ok (.invokevirtual 109, 3) := by decide +kernel
theorem dX3_readsWhen_36 : decode cX3_readsWhen 36 = .ok (.aload_n 0, 1) := by decide +kernel
theorem dX3_readsWhen_37 : decode cX3_readsWhen 37 = .ok (.sipush 10400, 3) := by decide +kernel
theorem dX3_readsWhen_40 : decode cX3_readsWhen 40 = .ok (.aload_n 0, 1) := by decide +kernel
theorem dX3_readsWhen_41 : decode cX3_readsWhen 41 = .ok (.getfield 49, 3) := by decide +kernel
theorem dX3_readsWhen_44 : decode cX3_readsWhen 44 = .ok (.iadd, 1) := by decide +kernel
theorem dX3_readsWhen_45 : decode cX3_readsWhen 45 = .ok (.invokevirtual 109, 3) := by decide +kernel
theorem dX3_readsWhen_48 : decode cX3_readsWhen 48 = .ok (.aload_n 0, 1) := by decide +kernel
theorem dX3_readsWhen_49 : decode cX3_readsWhen 49 = .ok (.iconst 0, 1) := by decide +kernel
theorem dX3_readsWhen_50 : decode cX3_readsWhen 50 = .ok (.invokevirtual 106, 3) := by decide +kernel
theorem dX3_readsWhen_53 : decode cX3_readsWhen 53 = .ok (.ireturn, 1) := by decide +kernel
set_option maxRecDepth 20000 in
theorem ggX3_readsCondition_X3_readsUnit : GoodIn wsX3_readsCondition wsX3_readsUnit := goodIn_r _ [8, 1, 9, 10, 11, 12, 7, 13, 14, 15, 16, 17, 18, 19, 20, 21, 22, 23, 24, 25, 26, 27, 34, 35, 36, 37, 38, 39, 40, 41, 42, 43, 44, 45, 46, 47, 48, 49, 50] rfl (by decide +kernel)
set_option maxRecDepth 20000 in
theorem gX3_readsCondition_X3_readsUnit : GoodIn wsX3_readsCondition (wsV RX3 94 RX3 yX3_readsUnit wsX3_readsUnit) := goodIn_app (goodIn_of _ (by decide +kernel)) ggX3_readsCondition_X3_readsUnit
set_option maxRecDepth 20000 in
theorem ggX3_readsCondition_X3_refuse : GoodIn wsX3_readsCondition wsX3_refuse := goodIn_r _ [19, 20, 21, 22, 34, 35, 36, 37, 38, 39, 40, 41, 42, 43, 44, 45, 46, 47, 48, 49, 50] rfl (by decide +kernel)
set_option maxRecDepth 20000 in
theorem gX3_readsCondition_X3_refuse : GoodIn wsX3_readsCondition (wsV RX3 78 RX3 yX3_refuse wsX3_refuse) := goodIn_app (goodIn_of _ (by decide +kernel)) ggX3_readsCondition_X3_refuse
set_option maxRecDepth 20000 in
theorem ggX3_readsCondition_X3_putSign : GoodIn wsX3_readsCondition wsX3_putSign := goodIn_r _ [31, 32, 33, 1, 23, 24, 25, 7, 26, 27, 34, 35, 36, 37, 38, 39, 40, 41, 42, 43, 44, 45, 46, 47, 48, 49, 50] rfl (by decide +kernel)
set_option maxRecDepth 20000 in
theorem gX3_readsCondition_X3_putSign : GoodIn wsX3_readsCondition (wsV RX3 115 RX3 yX3_putSign wsX3_putSign) := goodIn_app (goodIn_of _ (by decide +kernel)) ggX3_readsCondition_X3_putSign
theorem dX3_readsCondition_0 : decode cX3_readsCondition 0 = .ok (.aload_n 0, 1) := by decide +kernel
theorem dX3_readsCondition_1 : decode cX3_readsCondition 1 = .ok (.getfield 40, 3) := by decide +kernel
theorem dX3_readsCondition_4 : decode cX3_readsCondition 4 = .ok (.sipush 204, 3) := by decide +kernel
theorem dX3_readsCondition_7 : decode cX3_readsCondition 7 = .ok (.if_icmp .eq 22, 3) := by decide +kernel
theorem dX3_readsCondition_10 : decode cX3_readsCondition 10 = .ok (.aload_n 0, 1) := by decide +kernel
theorem dX3_readsCondition_11 : decode cX3_readsCondition 11 = .ok (.getfield 40, 3) := by decide +kernel
theorem dX3_readsCondition_14 : decode cX3_readsCondition 14 = .ok (.bipush 40, 2) := by decide +kernel
theorem dX3_readsCondition_16 : decode cX3_readsCondition 16 = .ok (.if_icmp .eq 13, 3) := by decide +kernel
theorem dX3_readsCondition_19 : decode cX3_readsCondition 19 = .ok (.aload_n 0, 1) := by decide +kernel
theorem dX3_readsCondition_20 : decode cX3_readsCondition 20 = .ok (.iconst 0, 1) := by decide +kernel
theorem dX3_readsCondition_21 : decode cX3_readsCondition 21 = .ok (.putfield 52, 3) := by decide +kernel
theorem dX3_readsCondition_24 : decode cX3_readsCondition 24 = .ok (.aload_n 0, 1) := by decide +kernel
theorem dX3_readsCondition_25 : decode cX3_readsCondition 25 = .ok (.invokevirtual 94, 3) := by decide +kernel
theorem dX3_readsCondition_28 : decode cX3_readsCondition 28 = .ok (.ireturn, 1) := by decide +kernel
theorem dX3_readsCondition_29 : decode cX3_readsCondition 29 = .ok (.aload_n 0, 1) := by decide +kernel
theorem dX3_readsCondition_30 : decode cX3_readsCondition 30 = .ok (.getfield 62, 3) := by decide +kernel
theorem dX3_readsCondition_33 : decode cX3_readsCondition 33 = .ok (.bipush 8, 2) := by decide +kernel
theorem dX3_readsCondition_35 : decode cX3_readsCondition 35 = .ok (.if_icmp .lt 9, 3) := by decide +kernel
theorem dX3_readsCondition_38 : decode cX3_readsCondition 38 = .ok (.aload_n 0, 1) := by decide +kernel
theorem dX3_readsCondition_39 : decode cX3_readsCondition 39 = .ok (.iconst 3, 1) := by decide +kernel
theorem dX3_readsCondition_40 : decode cX3_readsCondition 40 = .ok (.invokevirtual 78, 3) := by decide +kernel
theorem dX3_readsCondition_43 : decode cX3_readsCondition 43 = .ok (.ireturn, 1) := by decide +kernel
theorem dX3_readsCondition_44 : decode cX3_readsCondition 44 = .ok (.aload_n 0, 1) := by decide +kernel
theorem dX3_readsCondition_45 : decode cX3_readsCondition 45 = .ok (.dup, 1) := by decide +kernel
theorem dX3_readsCondition_46 : decode cX3_readsCondition 46 = .ok (.getfield 62, 3) := by decide +kernel
theorem dX3_readsCondition_49 : decode cX3_readsCondition 49 = .ok (.iconst 1, 1) := by decide +kernel
theorem dX3_readsCondition_50 : decode cX3_readsCondition 50 = .ok (.iadd, 1) := by decide +kernel
theorem dX3_readsCondition_51 : decode cX3_readsCondition 51 = .ok (.putfield 62, 3) := by decide +kernel
theorem dX3_readsCondition_54 : decode cX3_readsCondition 54 = .ok (.aload_n 0, 1) := by decide +kernel
theorem dX3_readsCondition_55 : decode cX3_readsCondition 55 = .ok (.iconst 3, 1) := by decide +kernel
theorem dX3_readsCondition_56 : decode cX3_readsCondition 56 = .ok (.invokevirtual 115, 3) := by decide +kernel
theorem dX3_readsCondition_59 : decode cX3_readsCondition 59 = .ok (.ireturn, 1) := by decide +kernel
set_option maxRecDepth 20000 in
theorem ggX3_readsUnit_X3_emit : GoodIn wsX3_readsUnit wsX3_emit := goodIn_r _ [7, 8, 9, 22, 23, 24, 25, 26, 27, 28, 29, 30, 31, 32, 33, 34, 35, 36, 37, 38] rfl (by decide +kernel)
set_option maxRecDepth 20000 in
theorem gX3_readsUnit_X3_emit : GoodIn wsX3_readsUnit (wsV RX3 109 RX3 yX3_emit wsX3_emit) := goodIn_app (goodIn_of _ (by decide +kernel)) ggX3_readsUnit_X3_emit
set_option maxRecDepth 20000 in
theorem ggX3_readsUnit_X3_refuse : GoodIn wsX3_readsUnit wsX3_refuse := goodIn_r _ [13, 14, 15, 16, 22, 23, 24, 25, 26, 27, 28, 29, 30, 31, 32, 33, 34, 35, 36, 37, 38] rfl (by decide +kernel)
set_option maxRecDepth 20000 in
theorem gX3_readsUnit_X3_refuse : GoodIn wsX3_readsUnit (wsV RX3 78 RX3 yX3_refuse wsX3_refuse) := goodIn_app (goodIn_of _ (by decide +kernel)) ggX3_readsUnit_X3_refuse
set_option maxRecDepth 20000 in
theorem ggX3_readsUnit_X3_expect : GoodIn wsX3_readsUnit wsX3_expect := goodIn_r _ [20, 21, 22, 23, 24, 25, 26, 27, 28, 29, 30, 31, 32, 33, 34, 35, 36, 37, 38] rfl (by decide +kernel)
set_option maxRecDepth 20000 in
theorem gX3_readsUnit_X3_expect : GoodIn wsX3_readsUnit (wsV RX3 106 RX3 yX3_expect wsX3_expect) := goodIn_app (goodIn_of _ (by decide +kernel)) ggX3_readsUnit_X3_expect
theorem dX3_readsUnit_0 : decode cX3_readsUnit 0 = .ok (.aload_n 0, 1) := by decide +kernel
theorem dX3_readsUnit_1 : decode cX3_readsUnit 1 = .ok (.getfield 40, 3) := by decide +kernel
theorem dX3_readsUnit_4 : decode cX3_readsUnit 4 = .ok (.iconst 1, 1) := by decide +kernel
theorem dX3_readsUnit_5 : decode cX3_readsUnit 5 = .ok (.if_icmp .ne 14, 3) := by decide +kernel
theorem dX3_readsUnit_8 : decode cX3_readsUnit 8 = .ok (.aload_n 0, 1) := by decide +kernel
theorem dX3_readsUnit_9 : decode cX3_readsUnit 9 = .ok (.aload_n 0, 1) := by decide +kernel
theorem dX3_readsUnit_10 : decode cX3_readsUnit 10 = .ok (.getfield 43, 3) := by decide +kernel
theorem dX3_readsUnit_13 : decode cX3_readsUnit 13 = .ok (.invokevirtual 109, 3) := by decide +kernel
theorem dX3_readsUnit_16 : decode cX3_readsUnit 16 = .ok (.goto 38, 3) := by decide +kernel
theorem dX3_readsUnit_19 : decode cX3_readsUnit 19 = .ok (.aload_n 0, 1) := by decide +kernel
theorem dX3_readsUnit_20 : decode cX3_readsUnit 20 = .ok (.getfield 40, 3) := by decide +kernel
theorem dX3_readsUnit_23 : decode cX3_readsUnit 23 = .ok (.sipush 205, 3) := by decide +kernel
theorem dX3_readsUnit_26 : decode cX3_readsUnit 26 = .ok (.if_icmp .lt 22, 3) := by decide +kernel
theorem dX3_readsUnit_29 : decode cX3_readsUnit 29 = .ok (.aload_n 0, 1) := by decide +kernel
theorem dX3_readsUnit_30 : decode cX3_readsUnit 30 = .ok (.sipush 10000, 3) := by decide +kernel
theorem dX3_readsUnit_33 : decode cX3_readsUnit 33 = .ok (.aload_n 0, 1) := by decide +kernel
theorem dX3_readsUnit_34 : decode cX3_readsUnit 34 = .ok (.getfield 40, 3) := by decide +kernel
theorem dX3_readsUnit_37 : decode cX3_readsUnit 37 = .ok (.iadd, 1) := by decide +kernel
theorem dX3_readsUnit_38 : decode cX3_readsUnit 38 = .ok (.sipush 205, 3) := by decide +kernel
theorem dX3_readsUnit_41 : decode cX3_readsUnit 41 = .ok (.isub, 1) := by decide +kernel
theorem dX3_readsUnit_42 : decode cX3_readsUnit 42 = .ok (.invokevirtual 109, 3) := by decide +kernel
theorem dX3_readsUnit_45 : decode cX3_readsUnit 45 = .ok (.goto 9, 3) := by decide +kernel
theorem dX3_readsUnit_48 : decode cX3_readsUnit 48 = .ok (.aload_n 0, 1) := by decide +kernel
theorem dX3_readsUnit_49 : decode cX3_readsUnit 49 = .ok (.iconst 1, 1) := by decide +kernel
theorem dX3_readsUnit_50 : decode cX3_readsUnit 50 = .ok (.invokevirtual 78, 3) := by decide +kernel
theorem dX3_readsUnit_53 : decode cX3_readsUnit 53 = .ok (.ireturn, 1) := by decide +kernel
theorem dX3_readsUnit_54 : decode cX3_readsUnit 54 = .ok (.aload_n 0, 1) := by decide +kernel
theorem dX3_readsUnit_55 : decode cX3_readsUnit 55 = .ok (.bipush 6, 2) := by decide +kernel
theorem dX3_readsUnit_57 : decode cX3_readsUnit 57 = .ok (.invokevirtual 106, 3) := by decide +kernel
theorem dX3_readsUnit_60 : decode cX3_readsUnit 60 = .ok (.ireturn, 1) := by decide +kernel
set_option maxRecDepth 20000 in
theorem ggX3_readsPart_X3_refuse : GoodIn wsX3_readsPart wsX3_refuse := goodIn_r _ [7, 8, 9, 10, 26, 27, 28, 29, 30, 31, 32, 33, 34, 35, 36, 37, 38, 39, 40, 41, 42] rfl (by decide +kernel)
set_option maxRecDepth 20000 in
theorem gX3_readsPart_X3_refuse : GoodIn wsX3_readsPart (wsV RX3 78 RX3 yX3_refuse wsX3_refuse) := goodIn_app (goodIn_of _ (by decide +kernel)) ggX3_readsPart_X3_refuse
set_option maxRecDepth 20000 in
theorem ggX3_readsPart_X3_readsUnit : GoodIn wsX3_readsPart wsX3_readsUnit := goodIn_r _ [14, 1, 2, 15, 16, 17, 6, 18, 19, 20, 3, 4, 5, 7, 8, 9, 10, 21, 22, 23, 24, 25, 26, 27, 28, 29, 30, 31, 32, 33, 34, 35, 36, 37, 38, 39, 40, 41, 42] rfl (by decide +kernel)
set_option maxRecDepth 20000 in
theorem gX3_readsPart_X3_readsUnit : GoodIn wsX3_readsPart (wsV RX3 94 RX3 yX3_readsUnit wsX3_readsUnit) := goodIn_app (goodIn_of _ (by decide +kernel)) ggX3_readsPart_X3_readsUnit
theorem dX3_readsPart_0 : decode cX3_readsPart 0 = .ok (.aload_n 0, 1) := by decide +kernel
theorem dX3_readsPart_1 : decode cX3_readsPart 1 = .ok (.getfield 40, 3) := by decide +kernel
theorem dX3_readsPart_4 : decode cX3_readsPart 4 = .ok (.iconst 1, 1) := by decide +kernel
theorem dX3_readsPart_5 : decode cX3_readsPart 5 = .ok (.if_icmp .eq 9, 3) := by decide +kernel
theorem dX3_readsPart_8 : decode cX3_readsPart 8 = .ok (.aload_n 0, 1) := by decide +kernel
theorem dX3_readsPart_9 : decode cX3_readsPart 9 = .ok (.iconst 1, 1) := by decide +kernel
theorem dX3_readsPart_10 : decode cX3_readsPart 10 = .ok (.invokevirtual 78, 3) := by decide +kernel
theorem dX3_readsPart_13 : decode cX3_readsPart 13 = .ok (.ireturn, 1) := by decide +kernel
theorem dX3_readsPart_14 : decode cX3_readsPart 14 = .ok (.aload_n 0, 1) := by decide +kernel
theorem dX3_readsPart_15 : decode cX3_readsPart 15 = .ok (.getfield 43, 3) := by decide +kernel
theorem dX3_readsPart_18 : decode cX3_readsPart 18 = .ok (.ifCond .ne 11, 3) := by decide +kernel
theorem dX3_readsPart_21 : decode cX3_readsPart 21 = .ok (.aload_n 0, 1) := by decide +kernel
theorem dX3_readsPart_22 : decode cX3_readsPart 22 = .ok (.iconst 2, 1) := by decide +kernel
theorem dX3_readsPart_23 : decode cX3_readsPart 23 = .ok (.invokevirtual 78, 3) := by decide +kernel
theorem dX3_readsPart_26 : decode cX3_readsPart 26 = .ok (.goto 7, 3) := by decide +kernel
theorem dX3_readsPart_29 : decode cX3_readsPart 29 = .ok (.aload_n 0, 1) := by decide +kernel
theorem dX3_readsPart_30 : decode cX3_readsPart 30 = .ok (.invokevirtual 94, 3) := by decide +kernel
theorem dX3_readsPart_33 : decode cX3_readsPart 33 = .ok (.ireturn, 1) := by decide +kernel
set_option maxRecDepth 20000 in
theorem ggX3_readsBehindUnit_X3_rankOf : GoodIn wsX3_readsBehindUnit wsX3_rankOf := goodIn_r _ [6] rfl (by decide +kernel)
set_option maxRecDepth 20000 in
theorem gX3_readsBehindUnit_X3_rankOf : GoodIn wsX3_readsBehindUnit (va_wsS RX3 118 yX3_rankOf wsX3_rankOf) := goodIn_app (goodIn_of _ (by decide +kernel)) ggX3_readsBehindUnit_X3_rankOf
set_option maxRecDepth 20000 in
theorem ggX3_readsBehindUnit_X3_settleSigns : GoodIn wsX3_readsBehindUnit wsX3_settleSigns := goodIn_r _ [10, 11, 12, 13, 3, 4, 5, 6, 14, 15, 16, 17, 18, 19, 41, 42, 43, 44, 45, 46, 47, 48, 49, 50, 51, 52, 53, 54, 55, 56, 57] rfl (by decide +kernel)
set_option maxRecDepth 20000 in
theorem gX3_readsBehindUnit_X3_settleSigns : GoodIn wsX3_readsBehindUnit (wsV RX3 122 RX3 yX3_settleSigns wsX3_settleSigns) := goodIn_app (goodIn_of _ (by decide +kernel)) ggX3_readsBehindUnit_X3_settleSigns
set_option maxRecDepth 20000 in
theorem ggX3_readsBehindUnit_X3_putSign : GoodIn wsX3_readsBehindUnit wsX3_putSign := goodIn_r _ [23, 11, 12, 1, 24, 25, 26, 5, 27, 28, 41, 42, 43, 44, 45, 46, 47, 48, 49, 50, 51, 52, 53, 54, 55, 56, 57] rfl (by decide +kernel)
set_option maxRecDepth 20000 in
theorem gX3_readsBehindUnit_X3_putSign : GoodIn wsX3_readsBehindUnit (wsV RX3 115 RX3 yX3_putSign wsX3_putSign) := goodIn_app (goodIn_of _ (by decide +kernel)) ggX3_readsBehindUnit_X3_putSign
set_option maxRecDepth 20000 in
theorem ggX3_readsBehindUnit_X3_readsBehindCondition : GoodIn wsX3_readsBehindUnit wsX3_readsBehindCondition := goodIn_r _ [32, 1, 11, 13, 33, 3, 4, 5, 6, 7, 8, 9, 10, 12, 14, 15, 16, 17, 18, 19, 20, 21, 22, 23, 24, 25, 26, 27, 28, 34, 35, 36, 37, 38, 39, 40, 41, 42, 43, 44, 45, 46, 47, 48, 49, 50, 51, 52, 53, 54, 55, 56, 57] rfl (by decide +kernel)
set_option maxRecDepth 20000 in
theorem gX3_readsBehindUnit_X3_readsBehindCondition : GoodIn wsX3_readsBehindUnit (wsV RX3 103 RX3 yX3_readsBehindCondition wsX3_readsBehindCondition) := goodIn_app (goodIn_of _ (by decide +kernel)) ggX3_readsBehindUnit_X3_readsBehindCondition
set_option maxRecDepth 20000 in
theorem ggX3_readsBehindUnit_X3_refuse : GoodIn wsX3_readsBehindUnit wsX3_refuse := goodIn_r _ [37, 38, 39, 40, 41, 42, 43, 44, 45, 46, 47, 48, 49, 50, 51, 52, 53, 54, 55, 56, 57] rfl (by decide +kernel)
set_option maxRecDepth 20000 in
theorem gX3_readsBehindUnit_X3_refuse : GoodIn wsX3_readsBehindUnit (wsV RX3 78 RX3 yX3_refuse wsX3_refuse) := goodIn_app (goodIn_of _ (by decide +kernel)) ggX3_readsBehindUnit_X3_refuse
theorem dX3_readsBehindUnit_0 : decode cX3_readsBehindUnit 0 = .ok (.aload_n 0, 1) := by decide +kernel
theorem dX3_readsBehindUnit_1 : decode cX3_readsBehindUnit 1 = .ok (.getfield 40, 3) := by decide +kernel
theorem dX3_readsBehindUnit_4 : decode cX3_readsBehindUnit 4 = .ok (.invokestatic 118, 3) := by decide +kernel
theorem dX3_readsBehindUnit_7 : decode cX3_readsBehindUnit 7 = .ok (.bipush 60, 2) := by decide +kernel
theorem dX3_readsBehindUnit_9 : decode cX3_readsBehindUnit 9 = .ok (.invokestatic 118, 3) := by decide +kernel
theorem dX3_readsBehindUnit_12 : decode cX3_readsBehindUnit 12 = .ok (.if_icmp .le 33, 3) := by decide +kernel
theorem dX3_readsBehindUnit_15 : decode cX3_readsBehindUnit 15 = .ok (.aload_n 0, 1) := by decide +kernel
theorem dX3_readsBehindUnit_16 : decode cX3_readsBehindUnit 16 = .ok (.aload_n 0, 1) := by decide +kernel
theorem dX3_readsBehindUnit_17 : decode cX3_readsBehindUnit 17 = .ok (.getfield 40, 3) := by decide +kernel
theorem dX3_readsBehindUnit_20 : decode cX3_readsBehindUnit 20 = .ok (.invokestatic 118, 3) := by decide +kernel
theorem dX3_readsBehindUnit_23 : decode cX3_readsBehindUnit 23 = .ok (.invokevirtual 122, 3) := by decide +kernel
theorem dX3_readsBehindUnit_26 : decode cX3_readsBehindUnit 26 = .ok (.aload_n 0, 1) := by decide +kernel
theorem dX3_readsBehindUnit_27 : decode cX3_readsBehindUnit 27 = .ok (.aload_n 0, 1) := by decide +kernel
theorem dX3_readsBehindUnit_28 : decode cX3_readsBehindUnit 28 = .ok (.getfield 40, 3) := by decide +kernel
theorem dX3_readsBehindUnit_31 : decode cX3_readsBehindUnit 31 = .ok (.bipush 47, 2) := by decide +kernel
theorem dX3_readsBehindUnit_33 : decode cX3_readsBehindUnit 33 = .ok (.if_icmp .ne 7, 3) := by decide +kernel
theorem dX3_readsBehindUnit_36 : decode cX3_readsBehindUnit 36 = .ok (.iconst 5, 1) := by decide +kernel
theorem dX3_readsBehindUnit_37 : decode cX3_readsBehindUnit 37 = .ok (.goto 4, 3) := by decide +kernel
theorem dX3_readsBehindUnit_40 : decode cX3_readsBehindUnit 40 = .ok (.iconst 4, 1) := by decide +kernel
theorem dX3_readsBehindUnit_41 : decode cX3_readsBehindUnit 41 = .ok (.invokevirtual 115, 3) := by decide +kernel
theorem dX3_readsBehindUnit_44 : decode cX3_readsBehindUnit 44 = .ok (.ireturn, 1) := by decide +kernel
theorem dX3_readsBehindUnit_45 : decode cX3_readsBehindUnit 45 = .ok (.aload_n 0, 1) := by decide +kernel
theorem dX3_readsBehindUnit_46 : decode cX3_readsBehindUnit 46 = .ok (.getfield 52, 3) := by decide +kernel
theorem dX3_readsBehindUnit_49 : decode cX3_readsBehindUnit 49 = .ok (.ifCond .eq 8, 3) := by decide +kernel
theorem dX3_readsBehindUnit_52 : decode cX3_readsBehindUnit 52 = .ok (.aload_n 0, 1) := by decide +kernel
theorem dX3_readsBehindUnit_53 : decode cX3_readsBehindUnit 53 = .ok (.invokevirtual 103, 3) := by decide +kernel
theorem dX3_readsBehindUnit_56 : decode cX3_readsBehindUnit 56 = .ok (.ireturn, 1) := by decide +kernel
theorem dX3_readsBehindUnit_57 : decode cX3_readsBehindUnit 57 = .ok (.aload_n 0, 1) := by decide +kernel
theorem dX3_readsBehindUnit_58 : decode cX3_readsBehindUnit 58 = .ok (.getfield 40, 3) := by decide +kernel
theorem dX3_readsBehindUnit_61 : decode cX3_readsBehindUnit 61 = .ok (.invokestatic 118, 3) := by decide +kernel
theorem dX3_readsBehindUnit_64 : decode cX3_readsBehindUnit 64 = .ok (.bipush 60, 2) := by decide +kernel
theorem dX3_readsBehindUnit_66 : decode cX3_readsBehindUnit 66 = .ok (.invokestatic 118, 3) := by decide +kernel
theorem dX3_readsBehindUnit_69 : decode cX3_readsBehindUnit 69 = .ok (.if_icmp .ge 9, 3) := by decide +kernel
theorem dX3_readsBehindUnit_72 : decode cX3_readsBehindUnit 72 = .ok (.aload_n 0, 1) := by decide +kernel
theorem dX3_readsBehindUnit_73 : decode cX3_readsBehindUnit 73 = .ok (.iconst 1, 1) := by decide +kernel
theorem dX3_readsBehindUnit_74 : decode cX3_readsBehindUnit 74 = .ok (.invokevirtual 78, 3) := by decide +kernel
theorem dX3_readsBehindUnit_77 : decode cX3_readsBehindUnit 77 = .ok (.ireturn, 1) := by decide +kernel
theorem dX3_readsBehindUnit_78 : decode cX3_readsBehindUnit 78 = .ok (.aload_n 0, 1) := by decide +kernel
theorem dX3_readsBehindUnit_79 : decode cX3_readsBehindUnit 79 = .ok (.iconst 1, 1) := by decide +kernel
theorem dX3_readsBehindUnit_80 : decode cX3_readsBehindUnit 80 = .ok (.putfield 52, 3) := by decide +kernel
theorem dX3_readsBehindUnit_83 : decode cX3_readsBehindUnit 83 = .ok (.aload_n 0, 1) := by decide +kernel
theorem dX3_readsBehindUnit_84 : decode cX3_readsBehindUnit 84 = .ok (.aload_n 0, 1) := by decide +kernel
theorem dX3_readsBehindUnit_85 : decode cX3_readsBehindUnit 85 = .ok (.getfield 40, 3) := by decide +kernel
theorem dX3_readsBehindUnit_88 : decode cX3_readsBehindUnit 88 = .ok (.invokestatic 118, 3) := by decide +kernel
theorem dX3_readsBehindUnit_91 : decode cX3_readsBehindUnit 91 = .ok (.invokevirtual 122, 3) := by decide +kernel
theorem dX3_readsBehindUnit_94 : decode cX3_readsBehindUnit 94 = .ok (.aload_n 0, 1) := by decide +kernel
theorem dX3_readsBehindUnit_95 : decode cX3_readsBehindUnit 95 = .ok (.iconst 4, 1) := by decide +kernel
theorem dX3_readsBehindUnit_96 : decode cX3_readsBehindUnit 96 = .ok (.invokevirtual 115, 3) := by decide +kernel
theorem dX3_readsBehindUnit_99 : decode cX3_readsBehindUnit 99 = .ok (.ireturn, 1) := by decide +kernel
set_option maxRecDepth 20000 in
theorem ggX3_readsBehindCondition_X3_rankOf : GoodIn wsX3_readsBehindCondition wsX3_rankOf := goodIn_r _ [8] rfl (by decide +kernel)
set_option maxRecDepth 20000 in
theorem gX3_readsBehindCondition_X3_rankOf : GoodIn wsX3_readsBehindCondition (va_wsS RX3 118 yX3_rankOf wsX3_rankOf) := goodIn_app (goodIn_of _ (by decide +kernel)) ggX3_readsBehindCondition_X3_rankOf
set_option maxRecDepth 20000 in
theorem ggX3_readsBehindCondition_X3_settleSigns : GoodIn wsX3_readsBehindCondition wsX3_settleSigns := goodIn_r _ [12, 2, 13, 3, 5, 6, 7, 8, 14, 15, 16, 17, 18, 19, 36, 37, 38, 39, 40, 41, 42, 43, 44, 45, 46, 47, 48, 49, 50, 51, 52] rfl (by decide +kernel)
set_option maxRecDepth 20000 in
theorem gX3_readsBehindCondition_X3_settleSigns : GoodIn wsX3_readsBehindCondition (wsV RX3 122 RX3 yX3_settleSigns wsX3_settleSigns) := goodIn_app (goodIn_of _ (by decide +kernel)) ggX3_readsBehindCondition_X3_settleSigns
set_option maxRecDepth 20000 in
theorem ggX3_readsBehindCondition_X3_putSign : GoodIn wsX3_readsBehindCondition wsX3_putSign := goodIn_r _ [23, 2, 13, 1, 24, 25, 26, 7, 27, 28, 36, 37, 38, 39, 40, 41, 42, 43, 44, 45, 46, 47, 48, 49, 50, 51, 52] rfl (by decide +kernel)
set_option maxRecDepth 20000 in
theorem gX3_readsBehindCondition_X3_putSign : GoodIn wsX3_readsBehindCondition (wsV RX3 115 RX3 yX3_putSign wsX3_putSign) := goodIn_app (goodIn_of _ (by decide +kernel)) ggX3_readsBehindCondition_X3_putSign
set_option maxRecDepth 20000 in
theorem ggX3_readsBehindCondition_X3_refuse : GoodIn wsX3_readsBehindCondition wsX3_refuse := goodIn_r _ [32, 33, 34, 35, 36, 37, 38, 39, 40, 41, 42, 43, 44, 45, 46, 47, 48, 49, 50, 51, 52] rfl (by decide +kernel)
set_option maxRecDepth 20000 in
theorem gX3_readsBehindCondition_X3_refuse : GoodIn wsX3_readsBehindCondition (wsV RX3 78 RX3 yX3_refuse wsX3_refuse) := goodIn_app (goodIn_of _ (by decide +kernel)) ggX3_readsBehindCondition_X3_refuse
set_option maxRecDepth 20000 in
theorem ggX3_readsBehindCondition_X3_expect : GoodIn wsX3_readsBehindCondition wsX3_expect := goodIn_r _ [27, 28, 36, 37, 38, 39, 40, 41, 42, 43, 44, 45, 46, 47, 48, 49, 50, 51, 52] rfl (by decide +kernel)
set_option maxRecDepth 20000 in
theorem gX3_readsBehindCondition_X3_expect : GoodIn wsX3_readsBehindCondition (wsV RX3 106 RX3 yX3_expect wsX3_expect) := goodIn_app (goodIn_of _ (by decide +kernel)) ggX3_readsBehindCondition_X3_expect
set_option maxRecDepth 20000 in
theorem ggX3_readsBehindCondition_X3_emit : GoodIn wsX3_readsBehindCondition wsX3_emit := goodIn_r _ [17, 18, 19, 36, 37, 38, 39, 40, 41, 42, 43, 44, 45, 46, 47, 48, 49, 50, 51, 52] rfl (by decide +kernel)
set_option maxRecDepth 20000 in
theorem gX3_readsBehindCondition_X3_emit : GoodIn wsX3_readsBehindCondition (wsV RX3 109 RX3 yX3_emit wsX3_emit) := goodIn_app (goodIn_of _ (by decide +kernel)) ggX3_readsBehindCondition_X3_emit
theorem dX3_readsBehindCondition_0 : decode cX3_readsBehindCondition 0 = .ok (.aload_n 0, 1) := by decide +kernel
theorem dX3_readsBehindCondition_1 : decode cX3_readsBehindCondition 1 = .ok (.getfield 40, 3) := by decide +kernel
theorem dX3_readsBehindCondition_4 : decode cX3_readsBehindCondition 4 = .ok (.sipush 203, 3) := by decide +kernel
theorem dX3_readsBehindCondition_7 : decode cX3_readsBehindCondition 7 = .ok (.if_icmp .eq 13, 3) := by decide +kernel
theorem dX3_readsBehindCondition_10 : decode cX3_readsBehindCondition 10 = .ok (.aload_n 0, 1) := by decide +kernel
theorem dX3_readsBehindCondition_11 : decode cX3_readsBehindCondition 11 = .ok (.getfield 40, 3) := by decide +kernel
theorem dX3_readsBehindCondition_14 : decode cX3_readsBehindCondition 14 = .ok (.sipush 202, 3) := by decide +kernel
theorem dX3_readsBehindCondition_17 : decode cX3_readsBehindCondition 17 = .ok (.if_icmp .ne 20, 3) := by decide +kernel
theorem dX3_readsBehindCondition_20 : decode cX3_readsBehindCondition 20 = .ok (.aload_n 0, 1) := by decide +kernel
theorem dX3_readsBehindCondition_21 : decode cX3_readsBehindCondition 21 = .ok (.aload_n 0, 1) := by decide +kernel
theorem dX3_readsBehindCondition_22 : decode cX3_readsBehindCondition 22 = .ok (.getfield 40, 3) := by decide +kernel
theorem dX3_readsBehindCondition_25 : decode cX3_readsBehindCondition 25 = .ok (.invokestatic 118, 3) := by decide +kernel
theorem dX3_readsBehindCondition_28 : decode cX3_readsBehindCondition 28 = .ok (.invokevirtual 122, 3) := by decide +kernel
theorem dX3_readsBehindCondition_31 : decode cX3_readsBehindCondition 31 = .ok (.aload_n 0, 1) := by decide +kernel
theorem dX3_readsBehindCondition_32 : decode cX3_readsBehindCondition 32 = .ok (.iconst 3, 1) := by decide +kernel
theorem dX3_readsBehindCondition_33 : decode cX3_readsBehindCondition 33 = .ok (.invokevirtual 115, 3) := by decide +kernel
theorem dX3_readsBehindCondition_36 : decode cX3_readsBehindCondition 36 = .ok (.ireturn, 1) := by decide +kernel
theorem dX3_readsBehindCondition_37 : decode cX3_readsBehindCondition 37 = .ok (.aload_n 0, 1) := by decide +kernel
theorem dX3_readsBehindCondition_38 : decode cX3_readsBehindCondition 38 = .ok (.getfield 40, 3) := by decide +kernel
theorem dX3_readsBehindCondition_41 : decode cX3_readsBehindCondition 41 = .ok (.bipush 41, 2) := by decide +kernel
theorem dX3_readsBehindCondition_43 : decode cX3_readsBehindCondition 43 = .ok (.if_icmp .eq 18, 3) := by decide +kernel
theorem dX3_readsBehindCondition_46 : decode cX3_readsBehindCondition 46 = .ok (.aload_n 0, 1) := by decide +kernel
theorem dX3_readsBehindCondition_47 : decode cX3_readsBehindCondition 47 = .ok (.getfield 40, 3) := by decide +kernel
theorem dX3_readsBehindCondition_50 : decode cX3_readsBehindCondition 50 = .ok (.bipush 59, 2) := by decide +kernel
theorem dX3_readsBehindCondition_52 : decode cX3_readsBehindCondition 52 = .ok (.if_icmp .eq 9, 3) := by decide +kernel
theorem dX3_readsBehindCondition_55 : decode cX3_readsBehindCondition 55 = .ok (.aload_n 0, 1) := by decide +kernel
theorem dX3_readsBehindCondition_56 : decode cX3_readsBehindCondition 56 = .ok (.iconst 1, 1) := by decide +kernel
theorem dX3_readsBehindCondition_57 : decode cX3_readsBehindCondition 57 = .ok (.invokevirtual 78, 3) := by decide +kernel
theorem dX3_readsBehindCondition_60 : decode cX3_readsBehindCondition 60 = .ok (.ireturn, 1) := by decide +kernel
theorem dX3_readsBehindCondition_61 : decode cX3_readsBehindCondition 61 = .ok (.aload_n 0, 1) := by decide +kernel
theorem dX3_readsBehindCondition_62 : decode cX3_readsBehindCondition 62 = .ok (.sipush 202, 3) := by decide +kernel
theorem dX3_readsBehindCondition_65 : decode cX3_readsBehindCondition 65 = .ok (.invokestatic 118, 3) := by decide +kernel
theorem dX3_readsBehindCondition_68 : decode cX3_readsBehindCondition 68 = .ok (.invokevirtual 122, 3) := by decide +kernel
theorem dX3_readsBehindCondition_71 : decode cX3_readsBehindCondition 71 = .ok (.aload_n 0, 1) := by decide +kernel
theorem dX3_readsBehindCondition_72 : decode cX3_readsBehindCondition 72 = .ok (.getfield 59, 3) := by decide +kernel
theorem dX3_readsBehindCondition_75 : decode cX3_readsBehindCondition 75 = .ok (.ifCond .le 7, 3) := by decide +kernel
theorem dX3_readsBehindCondition_78 : decode cX3_readsBehindCondition 78 = .ok (.iconst 1, 1) := by decide +kernel
theorem dX3_readsBehindCondition_79 : decode cX3_readsBehindCondition 79 = .ok (.goto 4, 3) := by decide +kernel
theorem dX3_readsBehindCondition_82 : decode cX3_readsBehindCondition 82 = .ok (.iconst 0, 1) := by decide +kernel
theorem dX3_readsBehindCondition_83 : decode cX3_readsBehindCondition 83 = .ok (.istore_n 1, 1) := by decide +kernel
theorem dX3_readsBehindCondition_84 : decode cX3_readsBehindCondition 84 = .ok (.aload_n 0, 1) := by decide +kernel
theorem dX3_readsBehindCondition_85 : decode cX3_readsBehindCondition 85 = .ok (.getfield 40, 3) := by decide +kernel
theorem dX3_readsBehindCondition_88 : decode cX3_readsBehindCondition 88 = .ok (.bipush 41, 2) := by decide +kernel
theorem dX3_readsBehindCondition_90 : decode cX3_readsBehindCondition 90 = .ok (.if_icmp .ne 7, 3) := by decide +kernel
theorem dX3_readsBehindCondition_93 : decode cX3_readsBehindCondition 93 = .ok (.iconst 1, 1) := by decide +kernel
theorem dX3_readsBehindCondition_94 : decode cX3_readsBehindCondition 94 = .ok (.goto 4, 3) := by decide +kernel
theorem dX3_readsBehindCondition_97 : decode cX3_readsBehindCondition 97 = .ok (.iconst 0, 1) := by decide +kernel
theorem dX3_readsBehindCondition_98 : decode cX3_readsBehindCondition 98 = .ok (.istore_n 2, 1) := by decide +kernel
theorem dX3_readsBehindCondition_99 : decode cX3_readsBehindCondition 99 = .ok (.iload_n 1, 1) := by decide +kernel
theorem dX3_readsBehindCondition_100 : decode cX3_readsBehindCondition 100 = .ok (.iload_n 2, 1) := by decide +kernel
theorem dX3_readsBehindCondition_101 : decode cX3_readsBehindCondition 101 = .ok (.if_icmp .eq 9, 3) := by decide +kernel
theorem dX3_readsBehindCondition_104 : decode cX3_readsBehindCondition 104 = .ok (.aload_n 0, 1) := by decide +kernel
theorem dX3_readsBehindCondition_105 : decode cX3_readsBehindCondition 105 = .ok (.iconst 1, 1) := by decide +kernel
theorem dX3_readsBehindCondition_106 : decode cX3_readsBehindCondition 106 = .ok (.invokevirtual 78, 3) := by decide +kernel
theorem dX3_readsBehindCondition_109 : decode cX3_readsBehindCondition 109 = .ok (.ireturn, 1) := by decide +kernel
theorem dX3_readsBehindCondition_110 : decode cX3_readsBehindCondition 110 = .ok (.iload_n 2, 1) := by decide +kernel
theorem dX3_readsBehindCondition_111 : decode cX3_readsBehindCondition 111 = .ok (.ifCond .eq 30, 3) := by decide +kernel
theorem dX3_readsBehindCondition_114 : decode cX3_readsBehindCondition 114 = .ok (.aload_n 0, 1) := by decide +kernel
theorem dX3_readsBehindCondition_115 : decode cX3_readsBehindCondition 115 = .ok (.dup, 1) := by decide +kernel
theorem dX3_readsBehindCondition_116 : decode cX3_readsBehindCondition 116 = .ok (.getfield 59, 3) := by decide +kernel
theorem dX3_readsBehindCondition_119 : decode cX3_readsBehindCondition 119 = .ok (.iconst 1, 1) := by decide +kernel
theorem dX3_readsBehindCondition_120 : decode cX3_readsBehindCondition 120 = .ok (.isub, 1) := by decide +kernel
theorem dX3_readsBehindCondition_121 : decode cX3_readsBehindCondition 121 = .ok (.putfield 59, 3) := by decide +kernel
theorem dX3_readsBehindCondition_124 : decode cX3_readsBehindCondition 124 = .ok (.aload_n 0, 1) := by decide +kernel
theorem dX3_readsBehindCondition_125 : decode cX3_readsBehindCondition 125 = .ok (.dup, 1) := by decide +kernel
theorem dX3_readsBehindCondition_126 : decode cX3_readsBehindCondition 126 = .ok (.getfield 62, 3) := by decide +kernel
theorem dX3_readsBehindCondition_129 : decode cX3_readsBehindCondition 129 = .ok (.iconst 1, 1) := by decide +kernel
theorem dX3_readsBehindCondition_130 : decode cX3_readsBehindCondition 130 = .ok (.isub, 1) := by decide +kernel
theorem dX3_readsBehindCondition_131 : decode cX3_readsBehindCondition 131 = .ok (.putfield 62, 3) := by decide +kernel
theorem dX3_readsBehindCondition_134 : decode cX3_readsBehindCondition 134 = .ok (.aload_n 0, 1) := by decide +kernel
theorem dX3_readsBehindCondition_135 : decode cX3_readsBehindCondition 135 = .ok (.bipush 7, 2) := by decide +kernel
theorem dX3_readsBehindCondition_137 : decode cX3_readsBehindCondition 137 = .ok (.invokevirtual 106, 3) := by decide +kernel
theorem dX3_readsBehindCondition_140 : decode cX3_readsBehindCondition 140 = .ok (.ireturn, 1) := by decide +kernel
theorem dX3_readsBehindCondition_141 : decode cX3_readsBehindCondition 141 = .ok (.aload_n 0, 1) := by decide +kernel
theorem dX3_readsBehindCondition_142 : decode cX3_readsBehindCondition 142 = .ok (.sipush 10400, 3) := by decide +kernel
theorem dX3_readsBehindCondition_145 : decode cX3_readsBehindCondition 145 = .ok (.aload_n 0, 1) := by decide +kernel
theorem dX3_readsBehindCondition_146 : decode cX3_readsBehindCondition 146 = .ok (.getfield 49, 3) := by decide +kernel
theorem dX3_readsBehindCondition_149 : decode cX3_readsBehindCondition 149 = .ok (.iadd, 1) := by decide +kernel
theorem dX3_readsBehindCondition_150 : decode cX3_readsBehindCondition 150 = .ok (.invokevirtual 109, 3) := by decide +kernel
theorem dX3_readsBehindCondition_153 : decode cX3_readsBehindCondition 153 = .ok (.aload_n 0, 1) := by decide +kernel
theorem dX3_readsBehindCondition_154 : decode cX3_readsBehindCondition 154 = .ok (.iconst 0, 1) := by decide +kernel
theorem dX3_readsBehindCondition_155 : decode cX3_readsBehindCondition 155 = .ok (.invokevirtual 106, 3) := by decide +kernel
theorem dX3_readsBehindCondition_158 : decode cX3_readsBehindCondition 158 = .ok (.ireturn, 1) := by decide +kernel
set_option maxRecDepth 20000 in
theorem ggX3_putSign_X3_expect : GoodIn wsX3_putSign wsX3_expect := goodIn_r _ [8, 9, 10, 11, 12, 13, 14, 15, 16, 17, 18, 19, 20, 21, 22, 23, 24, 25, 26] rfl (by decide +kernel)
set_option maxRecDepth 20000 in
theorem gX3_putSign_X3_expect : GoodIn wsX3_putSign (wsV RX3 106 RX3 yX3_expect wsX3_expect) := goodIn_app (goodIn_of _ (by decide +kernel)) ggX3_putSign_X3_expect
theorem dX3_putSign_0 : decode cX3_putSign 0 = .ok (.aload_n 0, 1) := by decide +kernel
theorem dX3_putSign_1 : decode cX3_putSign 1 = .ok (.getfield 59, 3) := by decide +kernel
theorem dX3_putSign_4 : decode cX3_putSign 4 = .ok (.aload_n 0, 1) := by decide +kernel
theorem dX3_putSign_5 : decode cX3_putSign 5 = .ok (.getfield 56, 3) := by decide +kernel
theorem dX3_putSign_8 : decode cX3_putSign 8 = .ok (.arraylength, 1) := by decide +kernel
theorem dX3_putSign_9 : decode cX3_putSign 9 = .ok (.if_icmp .ge 26, 3) := by decide +kernel
theorem dX3_putSign_12 : decode cX3_putSign 12 = .ok (.aload_n 0, 1) := by decide +kernel
theorem dX3_putSign_13 : decode cX3_putSign 13 = .ok (.getfield 56, 3) := by decide +kernel
theorem dX3_putSign_16 : decode cX3_putSign 16 = .ok (.aload_n 0, 1) := by decide +kernel
theorem dX3_putSign_17 : decode cX3_putSign 17 = .ok (.getfield 59, 3) := by decide +kernel
theorem dX3_putSign_20 : decode cX3_putSign 20 = .ok (.aload_n 0, 1) := by decide +kernel
theorem dX3_putSign_21 : decode cX3_putSign 21 = .ok (.getfield 40, 3) := by decide +kernel
theorem dX3_putSign_24 : decode cX3_putSign 24 = .ok (.iastore, 1) := by decide +kernel
theorem dX3_putSign_25 : decode cX3_putSign 25 = .ok (.aload_n 0, 1) := by decide +kernel
theorem dX3_putSign_26 : decode cX3_putSign 26 = .ok (.dup, 1) := by decide +kernel
theorem dX3_putSign_27 : decode cX3_putSign 27 = .ok (.getfield 59, 3) := by decide +kernel
theorem dX3_putSign_30 : decode cX3_putSign 30 = .ok (.iconst 1, 1) := by decide +kernel
theorem dX3_putSign_31 : decode cX3_putSign 31 = .ok (.iadd, 1) := by decide +kernel
theorem dX3_putSign_32 : decode cX3_putSign 32 = .ok (.putfield 59, 3) := by decide +kernel
theorem dX3_putSign_35 : decode cX3_putSign 35 = .ok (.aload_n 0, 1) := by decide +kernel
theorem dX3_putSign_36 : decode cX3_putSign 36 = .ok (.iload_n 1, 1) := by decide +kernel
theorem dX3_putSign_37 : decode cX3_putSign 37 = .ok (.invokevirtual 106, 3) := by decide +kernel
theorem dX3_putSign_40 : decode cX3_putSign 40 = .ok (.ireturn, 1) := by decide +kernel
set_option maxRecDepth 20000 in
theorem ggX3_settleSigns_X3_rankOf : GoodIn wsX3_settleSigns wsX3_rankOf := goodIn_r _ [7] rfl (by decide +kernel)
set_option maxRecDepth 20000 in
theorem gX3_settleSigns_X3_rankOf : GoodIn wsX3_settleSigns (va_wsS RX3 118 yX3_rankOf wsX3_rankOf) := goodIn_app (goodIn_of _ (by decide +kernel)) ggX3_settleSigns_X3_rankOf
set_option maxRecDepth 20000 in
theorem ggX3_settleSigns_X3_emit : GoodIn wsX3_settleSigns wsX3_emit := goodIn_r _ [11, 12, 13, 14, 15, 16, 17, 18, 19, 20, 21, 22, 23, 24, 25, 26, 27, 28, 29, 30] rfl (by decide +kernel)
set_option maxRecDepth 20000 in
theorem gX3_settleSigns_X3_emit : GoodIn wsX3_settleSigns (wsV RX3 109 RX3 yX3_emit wsX3_emit) := goodIn_app (goodIn_of _ (by decide +kernel)) ggX3_settleSigns_X3_emit
theorem dX3_settleSigns_0 : decode cX3_settleSigns 0 = .ok (.aload_n 0, 1) := by decide +kernel
theorem dX3_settleSigns_1 : decode cX3_settleSigns 1 = .ok (.getfield 59, 3) := by decide +kernel
theorem dX3_settleSigns_4 : decode cX3_settleSigns 4 = .ok (.ifCond .le 76, 3) := by decide +kernel
theorem dX3_settleSigns_7 : decode cX3_settleSigns 7 = .ok (.aload_n 0, 1) := by decide +kernel
theorem dX3_settleSigns_8 : decode cX3_settleSigns 8 = .ok (.getfield 56, 3) := by decide +kernel
theorem dX3_settleSigns_11 : decode cX3_settleSigns 11 = .ok (.aload_n 0, 1) := by decide +kernel
theorem dX3_settleSigns_12 : decode cX3_settleSigns 12 = .ok (.getfield 59, 3) := by decide +kernel
theorem dX3_settleSigns_15 : decode cX3_settleSigns 15 = .ok (.iconst 1, 1) := by decide +kernel
theorem dX3_settleSigns_16 : decode cX3_settleSigns 16 = .ok (.isub, 1) := by decide +kernel
theorem dX3_settleSigns_17 : decode cX3_settleSigns 17 = .ok (.iaload, 1) := by decide +kernel
theorem dX3_settleSigns_18 : decode cX3_settleSigns 18 = .ok (.invokestatic 118, 3) := by decide +kernel
theorem dX3_settleSigns_21 : decode cX3_settleSigns 21 = .ok (.iload_n 1, 1) := by decide +kernel
theorem dX3_settleSigns_22 : decode cX3_settleSigns 22 = .ok (.if_icmp .lt 58, 3) := by decide +kernel
theorem dX3_settleSigns_25 : decode cX3_settleSigns 25 = .ok (.aload_n 0, 1) := by decide +kernel
theorem dX3_settleSigns_26 : decode cX3_settleSigns 26 = .ok (.dup, 1) := by decide +kernel
theorem dX3_settleSigns_27 : decode cX3_settleSigns 27 = .ok (.getfield 59, 3) := by decide +kernel
theorem dX3_settleSigns_30 : decode cX3_settleSigns 30 = .ok (.iconst 1, 1) := by decide +kernel
theorem dX3_settleSigns_31 : decode cX3_settleSigns 31 = .ok (.isub, 1) := by decide +kernel
theorem dX3_settleSigns_32 : decode cX3_settleSigns 32 = .ok (.putfield 59, 3) := by decide +kernel
theorem dX3_settleSigns_35 : decode cX3_settleSigns 35 = .ok (.aload_n 0, 1) := by decide +kernel
theorem dX3_settleSigns_36 : decode cX3_settleSigns 36 = .ok (.sipush 10100, 3) := by decide +kernel
theorem dX3_settleSigns_39 : decode cX3_settleSigns 39 = .ok (.aload_n 0, 1) := by decide +kernel
theorem dX3_settleSigns_40 : decode cX3_settleSigns 40 = .ok (.getfield 56, 3) := by decide +kernel
theorem dX3_settleSigns_43 : decode cX3_settleSigns 43 = .ok (.aload_n 0, 1) := by decide +kernel
theorem dX3_settleSigns_44 : decode cX3_settleSigns 44 = .ok (.getfield 59, 3) := by decide +kernel
theorem dX3_settleSigns_47 : decode cX3_settleSigns 47 = .ok (.iaload, 1) := by decide +kernel
theorem dX3_settleSigns_48 : decode cX3_settleSigns 48 = .ok (.iadd, 1) := by decide +kernel
theorem dX3_settleSigns_49 : decode cX3_settleSigns 49 = .ok (.invokevirtual 109, 3) := by decide +kernel
theorem dX3_settleSigns_52 : decode cX3_settleSigns 52 = .ok (.aload_n 0, 1) := by decide +kernel
theorem dX3_settleSigns_53 : decode cX3_settleSigns 53 = .ok (.getfield 56, 3) := by decide +kernel
theorem dX3_settleSigns_56 : decode cX3_settleSigns 56 = .ok (.aload_n 0, 1) := by decide +kernel
theorem dX3_settleSigns_57 : decode cX3_settleSigns 57 = .ok (.getfield 59, 3) := by decide +kernel
theorem dX3_settleSigns_60 : decode cX3_settleSigns 60 = .ok (.iaload, 1) := by decide +kernel
theorem dX3_settleSigns_61 : decode cX3_settleSigns 61 = .ok (.sipush 204, 3) := by decide +kernel
theorem dX3_settleSigns_64 : decode cX3_settleSigns 64 = .ok (.if_icmp .ne (-64), 3) := by decide +kernel
theorem dX3_settleSigns_67 : decode cX3_settleSigns 67 = .ok (.aload_n 0, 1) := by decide +kernel
theorem dX3_settleSigns_68 : decode cX3_settleSigns 68 = .ok (.dup, 1) := by decide +kernel
theorem dX3_settleSigns_69 : decode cX3_settleSigns 69 = .ok (.getfield 62, 3) := by decide +kernel
theorem dX3_settleSigns_72 : decode cX3_settleSigns 72 = .ok (.iconst 1, 1) := by decide +kernel
theorem dX3_settleSigns_73 : decode cX3_settleSigns 73 = .ok (.isub, 1) := by decide +kernel
theorem dX3_settleSigns_74 : decode cX3_settleSigns 74 = .ok (.putfield 62, 3) := by decide +kernel
theorem dX3_settleSigns_77 : decode cX3_settleSigns 77 = .ok (.goto (-77), 3) := by decide +kernel
theorem dX3_settleSigns_80 : decode cX3_settleSigns 80 = .ok (.return_, 1) := by decide +kernel
theorem dX3_rankOf_0 : decode cX3_rankOf 0 = .ok (.iload_n 0, 1) := by decide +kernel
theorem dX3_rankOf_1 : decode cX3_rankOf 1 = .ok (.lookupswitch 104 #[(42, 101), (43, 99), (45, 99), (47, 101), (60, 97), (61, 97), (62, 97), (202, 91), (203, 93), (204, 95)], 91) := by decide +kernel
theorem dX3_rankOf_92 : decode cX3_rankOf 92 = .ok (.iconst 1, 1) := by decide +kernel
theorem dX3_rankOf_93 : decode cX3_rankOf 93 = .ok (.ireturn, 1) := by decide +kernel
theorem dX3_rankOf_94 : decode cX3_rankOf 94 = .ok (.iconst 2, 1) := by decide +kernel
theorem dX3_rankOf_95 : decode cX3_rankOf 95 = .ok (.ireturn, 1) := by decide +kernel
theorem dX3_rankOf_96 : decode cX3_rankOf 96 = .ok (.iconst 3, 1) := by decide +kernel
theorem dX3_rankOf_97 : decode cX3_rankOf 97 = .ok (.ireturn, 1) := by decide +kernel
theorem dX3_rankOf_98 : decode cX3_rankOf 98 = .ok (.iconst 4, 1) := by decide +kernel
theorem dX3_rankOf_99 : decode cX3_rankOf 99 = .ok (.ireturn, 1) := by decide +kernel
theorem dX3_rankOf_100 : decode cX3_rankOf 100 = .ok (.iconst 5, 1) := by decide +kernel
theorem dX3_rankOf_101 : decode cX3_rankOf 101 = .ok (.ireturn, 1) := by decide +kernel
theorem dX3_rankOf_102 : decode cX3_rankOf 102 = .ok (.bipush 6, 2) := by decide +kernel
theorem dX3_rankOf_104 : decode cX3_rankOf 104 = .ok (.ireturn, 1) := by decide +kernel
theorem dX3_rankOf_105 : decode cX3_rankOf 105 = .ok (.iconst 0, 1) := by decide +kernel
theorem dX3_rankOf_106 : decode cX3_rankOf 106 = .ok (.ireturn, 1) := by decide +kernel
set_option maxRecDepth 20000 in
theorem ggX3_advance_X3_isLetter : GoodIn wsX3_advance wsX3_isLetter := goodIn_r _ [9] rfl (by decide +kernel)
set_option maxRecDepth 20000 in
theorem gX3_advance_X3_isLetter : GoodIn wsX3_advance (va_wsS RX3 125 yX3_isLetter wsX3_isLetter) := goodIn_app (goodIn_of _ (by decide +kernel)) ggX3_advance_X3_isLetter
set_option maxRecDepth 20000 in
theorem ggX3_advance_X3_advanceWord : GoodIn wsX3_advance wsX3_advanceWord := goodIn_r _ [13, 1, 3, 4, 5, 6, 7, 8, 9, 14, 15, 16, 17, 2, 18, 19, 20, 21, 22, 23, 24, 25, 26, 27, 28, 29, 30, 31, 32, 33, 34, 35, 36, 37, 38, 39, 40, 41, 42, 43, 44, 45, 46, 47, 48, 49, 50, 51, 52, 53, 54, 55, 56, 57, 58, 59, 60, 61, 62, 63, 64, 65, 66, 67, 68, 69, 70, 82, 83, 84, 85, 86, 87, 88, 89, 90, 91, 92, 93, 94, 95, 96, 97, 98] rfl (by decide +kernel)
set_option maxRecDepth 20000 in
theorem gX3_advance_X3_advanceWord : GoodIn wsX3_advance (wsV RX3 128 RX3 yX3_advanceWord wsX3_advanceWord) := goodIn_app (goodIn_of _ (by decide +kernel)) ggX3_advance_X3_advanceWord
set_option maxRecDepth 20000 in
theorem ggX3_advance_X3_isDigit : GoodIn wsX3_advance wsX3_isDigit := goodIn_r _ [73] rfl (by decide +kernel)
set_option maxRecDepth 20000 in
theorem gX3_advance_X3_isDigit : GoodIn wsX3_advance (va_wsS RX3 131 yX3_isDigit wsX3_isDigit) := goodIn_app (goodIn_of _ (by decide +kernel)) ggX3_advance_X3_isDigit
set_option maxRecDepth 20000 in
theorem ggX3_advance_X3_advanceNumber : GoodIn wsX3_advance wsX3_advanceNumber := goodIn_r _ [77, 78, 1, 3, 4, 2, 5, 71, 72, 8, 73, 82, 83, 84, 85, 86, 87, 88, 89, 90, 91, 92, 93, 94, 95, 96, 97, 98] rfl (by decide +kernel)
set_option maxRecDepth 20000 in
theorem gX3_advance_X3_advanceNumber : GoodIn wsX3_advance (wsV RX3 134 RX3 yX3_advanceNumber wsX3_advanceNumber) := goodIn_app (goodIn_of _ (by decide +kernel)) ggX3_advance_X3_advanceNumber
set_option maxRecDepth 20000 in
theorem ggX3_advance_X3_isSign : GoodIn wsX3_advance wsX3_isSign := goodIn_r _ [81] rfl (by decide +kernel)
set_option maxRecDepth 20000 in
theorem gX3_advance_X3_isSign : GoodIn wsX3_advance (va_wsS RX3 137 yX3_isSign wsX3_isSign) := goodIn_app (goodIn_of _ (by decide +kernel)) ggX3_advance_X3_isSign
theorem dX3_advance_0 : decode cX3_advance 0 = .ok (.aload_n 0, 1) := by decide +kernel
theorem dX3_advance_1 : decode cX3_advance 1 = .ok (.aload_n 0, 1) := by decide +kernel
theorem dX3_advance_2 : decode cX3_advance 2 = .ok (.getfield 37, 3) := by decide +kernel
theorem dX3_advance_5 : decode cX3_advance 5 = .ok (.putfield 34, 3) := by decide +kernel
theorem dX3_advance_8 : decode cX3_advance 8 = .ok (.aload_n 0, 1) := by decide +kernel
theorem dX3_advance_9 : decode cX3_advance 9 = .ok (.getfield 34, 3) := by decide +kernel
theorem dX3_advance_12 : decode cX3_advance 12 = .ok (.aload_n 0, 1) := by decide +kernel
theorem dX3_advance_13 : decode cX3_advance 13 = .ok (.getfield 31, 3) := by decide +kernel
theorem dX3_advance_16 : decode cX3_advance 16 = .ok (.if_icmp .ge 44, 3) := by decide +kernel
theorem dX3_advance_19 : decode cX3_advance 19 = .ok (.aload_n 0, 1) := by decide +kernel
theorem dX3_advance_20 : decode cX3_advance 20 = .ok (.getfield 28, 3) := by decide +kernel
theorem dX3_advance_23 : decode cX3_advance 23 = .ok (.aload_n 0, 1) := by decide +kernel
theorem dX3_advance_24 : decode cX3_advance 24 = .ok (.getfield 34, 3) := by decide +kernel
theorem dX3_advance_27 : decode cX3_advance 27 = .ok (.iaload, 1) := by decide +kernel
theorem dX3_advance_28 : decode cX3_advance 28 = .ok (.bipush 32, 2) := by decide +kernel
theorem dX3_advance_30 : decode cX3_advance 30 = .ok (.if_icmp .eq 17, 3) := by decide +kernel
theorem dX3_advance_33 : decode cX3_advance 33 = .ok (.aload_n 0, 1) := by decide +kernel
theorem dX3_advance_34 : decode cX3_advance 34 = .ok (.getfield 28, 3) := by decide +kernel
theorem dX3_advance_37 : decode cX3_advance 37 = .ok (.aload_n 0, 1) := by decide +kernel
theorem dX3_advance_38 : decode cX3_advance 38 = .ok (.getfield 34, 3) := by decide +kernel
theorem dX3_advance_41 : decode cX3_advance 41 = .ok (.iaload, 1) := by decide +kernel
theorem dX3_advance_42 : decode cX3_advance 42 = .ok (.bipush 10, 2) := by decide +kernel
theorem dX3_advance_44 : decode cX3_advance 44 = .ok (.if_icmp .ne 16, 3) := by decide +kernel
theorem dX3_advance_47 : decode cX3_advance 47 = .ok (.aload_n 0, 1) := by decide +kernel
theorem dX3_advance_48 : decode cX3_advance 48 = .ok (.dup, 1) := by decide +kernel
theorem dX3_advance_49 : decode cX3_advance 49 = .ok (.getfield 34, 3) := by decide +kernel
theorem dX3_advance_52 : decode cX3_advance 52 = .ok (.iconst 1, 1) := by decide +kernel
theorem dX3_advance_53 : decode cX3_advance 53 = .ok (.iadd, 1) := by decide +kernel
theorem dX3_advance_54 : decode cX3_advance 54 = .ok (.putfield 34, 3) := by decide +kernel
theorem dX3_advance_57 : decode cX3_advance 57 = .ok (.goto (-49), 3) := by decide +kernel
theorem dX3_advance_60 : decode cX3_advance 60 = .ok (.aload_n 0, 1) := by decide +kernel
theorem dX3_advance_61 : decode cX3_advance 61 = .ok (.aload_n 0, 1) := by decide +kernel
theorem dX3_advance_62 : decode cX3_advance 62 = .ok (.getfield 34, 3) := by decide +kernel
theorem dX3_advance_65 : decode cX3_advance 65 = .ok (.putfield 37, 3) := by decide +kernel
theorem dX3_advance_68 : decode cX3_advance 68 = .ok (.aload_n 0, 1) := by decide +kernel
theorem dX3_advance_69 : decode cX3_advance 69 = .ok (.getfield 34, 3) := by decide +kernel
theorem dX3_advance_72 : decode cX3_advance 72 = .ok (.aload_n 0, 1) := by decide +kernel
theorem dX3_advance_73 : decode cX3_advance 73 = .ok (.getfield 31, 3) := by decide +kernel
theorem dX3_advance_76 : decode cX3_advance 76 = .ok (.if_icmp .lt 11, 3) := by decide +kernel
theorem dX3_advance_79 : decode cX3_advance 79 = .ok (.aload_n 0, 1) := by decide +kernel
theorem dX3_advance_80 : decode cX3_advance 80 = .ok (.iconst 0, 1) := by decide +kernel
theorem dX3_advance_81 : decode cX3_advance 81 = .ok (.putfield 40, 3) := by decide +kernel
theorem dX3_advance_84 : decode cX3_advance 84 = .ok (.goto 89, 3) := by decide +kernel
theorem dX3_advance_87 : decode cX3_advance 87 = .ok (.aload_n 0, 1) := by decide +kernel
theorem dX3_advance_88 : decode cX3_advance 88 = .ok (.getfield 28, 3) := by decide +kernel
theorem dX3_advance_91 : decode cX3_advance 91 = .ok (.aload_n 0, 1) := by decide +kernel
theorem dX3_advance_92 : decode cX3_advance 92 = .ok (.getfield 34, 3) := by decide +kernel
theorem dX3_advance_95 : decode cX3_advance 95 = .ok (.iaload, 1) := by decide +kernel
theorem dX3_advance_96 : decode cX3_advance 96 = .ok (.invokestatic 125, 3) := by decide +kernel
theorem dX3_advance_99 : decode cX3_advance 99 = .ok (.ifCond .eq 10, 3) := by decide +kernel
theorem dX3_advance_102 : decode cX3_advance 102 = .ok (.aload_n 0, 1) := by decide +kernel
theorem dX3_advance_103 : decode cX3_advance 103 = .ok (.invokevirtual 128, 3) := by decide +kernel
theorem dX3_advance_106 : decode cX3_advance 106 = .ok (.goto 67, 3) := by decide +kernel
theorem dX3_advance_109 : decode cX3_advance 109 = .ok (.aload_n 0, 1) := by decide +kernel
theorem dX3_advance_110 : decode cX3_advance 110 = .ok (.getfield 28, 3) := by decide +kernel
theorem dX3_advance_113 : decode cX3_advance 113 = .ok (.aload_n 0, 1) := by decide +kernel
theorem dX3_advance_114 : decode cX3_advance 114 = .ok (.getfield 34, 3) := by decide +kernel
theorem dX3_advance_117 : decode cX3_advance 117 = .ok (.iaload, 1) := by decide +kernel
theorem dX3_advance_118 : decode cX3_advance 118 = .ok (.invokestatic 131, 3) := by decide +kernel
theorem dX3_advance_121 : decode cX3_advance 121 = .ok (.ifCond .eq 10, 3) := by decide +kernel
theorem dX3_advance_124 : decode cX3_advance 124 = .ok (.aload_n 0, 1) := by decide +kernel
theorem dX3_advance_125 : decode cX3_advance 125 = .ok (.invokevirtual 134, 3) := by decide +kernel
theorem dX3_advance_128 : decode cX3_advance 128 = .ok (.goto 45, 3) := by decide +kernel
theorem dX3_advance_131 : decode cX3_advance 131 = .ok (.aload_n 0, 1) := by decide +kernel
theorem dX3_advance_132 : decode cX3_advance 132 = .ok (.aload_n 0, 1) := by decide +kernel
theorem dX3_advance_133 : decode cX3_advance 133 = .ok (.getfield 34, 3) := by decide +kernel
theorem dX3_advance_136 : decode cX3_advance 136 = .ok (.iconst 1, 1) := by decide +kernel
theorem dX3_advance_137 : decode cX3_advance 137 = .ok (.iadd, 1) := by decide +kernel
theorem dX3_advance_138 : decode cX3_advance 138 = .ok (.putfield 37, 3) := by decide +kernel
theorem dX3_advance_141 : decode cX3_advance 141 = .ok (.aload_n 0, 1) := by decide +kernel
theorem dX3_advance_142 : decode cX3_advance 142 = .ok (.aload_n 0, 1) := by decide +kernel
theorem dX3_advance_143 : decode cX3_advance 143 = .ok (.getfield 28, 3) := by decide +kernel
theorem dX3_advance_146 : decode cX3_advance 146 = .ok (.aload_n 0, 1) := by decide +kernel
theorem dX3_advance_147 : decode cX3_advance 147 = .ok (.getfield 34, 3) := by decide +kernel
theorem dX3_advance_150 : decode cX3_advance 150 = .ok (.iaload, 1) := by decide +kernel
theorem dX3_advance_151 : decode cX3_advance 151 = .ok (.invokestatic 137, 3) := by decide +kernel
theorem dX3_advance_154 : decode cX3_advance 154 = .ok (.ifCond .eq 15, 3) := by decide +kernel
theorem dX3_advance_157 : decode cX3_advance 157 = .ok (.aload_n 0, 1) := by decide +kernel
theorem dX3_advance_158 : decode cX3_advance 158 = .ok (.getfield 28, 3) := by decide +kernel
theorem dX3_advance_161 : decode cX3_advance 161 = .ok (.aload_n 0, 1) := by decide +kernel
theorem dX3_advance_162 : decode cX3_advance 162 = .ok (.getfield 34, 3) := by decide +kernel
theorem dX3_advance_165 : decode cX3_advance 165 = .ok (.iaload, 1) := by decide +kernel
theorem dX3_advance_166 : decode cX3_advance 166 = .ok (.goto 4, 3) := by decide +kernel
theorem dX3_advance_169 : decode cX3_advance 169 = .ok (.iconst 2, 1) := by decide +kernel
theorem dX3_advance_170 : decode cX3_advance 170 = .ok (.putfield 40, 3) := by decide +kernel
theorem dX3_advance_173 : decode cX3_advance 173 = .ok (.return_, 1) := by decide +kernel
set_option maxRecDepth 20000 in
theorem ggX3_advanceWord_X3_isLetter : GoodIn wsX3_advanceWord wsX3_isLetter := goodIn_r _ [8] rfl (by decide +kernel)
set_option maxRecDepth 20000 in
theorem gX3_advanceWord_X3_isLetter : GoodIn wsX3_advanceWord (va_wsS RX3 125 yX3_isLetter wsX3_isLetter) := goodIn_app (goodIn_of _ (by decide +kernel)) ggX3_advanceWord_X3_isLetter
set_option maxRecDepth 20000 in
theorem ggX3_advanceWord_X3_keywordAtHand : GoodIn wsX3_advanceWord wsX3_keywordAtHand := goodIn_r _ [12, 1, 13, 14, 15, 16, 17, 18, 19, 20, 21, 22, 23, 24, 25, 26, 27, 28, 29, 30, 31, 32, 33, 34, 35, 36, 37, 38, 39, 40, 41, 42, 43, 44, 45, 46, 47, 48, 49, 50, 51, 52, 53, 54, 55, 56, 57, 58, 59, 60, 61, 62, 63, 64, 65, 7, 66, 3, 67, 68, 69, 70, 71, 72, 73, 74, 75, 76, 77, 78, 79, 80, 81, 82, 83] rfl (by decide +kernel)
set_option maxRecDepth 20000 in
theorem gX3_advanceWord_X3_keywordAtHand : GoodIn wsX3_advanceWord (wsV RX3 140 RX3 yX3_keywordAtHand wsX3_keywordAtHand) := goodIn_app (goodIn_of _ (by decide +kernel)) ggX3_advanceWord_X3_keywordAtHand
theorem dX3_advanceWord_0 : decode cX3_advanceWord 0 = .ok (.aload_n 0, 1) := by decide +kernel
theorem dX3_advanceWord_1 : decode cX3_advanceWord 1 = .ok (.getfield 37, 3) := by decide +kernel
theorem dX3_advanceWord_4 : decode cX3_advanceWord 4 = .ok (.aload_n 0, 1) := by decide +kernel
theorem dX3_advanceWord_5 : decode cX3_advanceWord 5 = .ok (.getfield 31, 3) := by decide +kernel
theorem dX3_advanceWord_8 : decode cX3_advanceWord 8 = .ok (.if_icmp .ge 31, 3) := by decide +kernel
theorem dX3_advanceWord_11 : decode cX3_advanceWord 11 = .ok (.aload_n 0, 1) := by decide +kernel
theorem dX3_advanceWord_12 : decode cX3_advanceWord 12 = .ok (.getfield 28, 3) := by decide +kernel
theorem dX3_advanceWord_15 : decode cX3_advanceWord 15 = .ok (.aload_n 0, 1) := by decide +kernel
theorem dX3_advanceWord_16 : decode cX3_advanceWord 16 = .ok (.getfield 37, 3) := by decide +kernel
theorem dX3_advanceWord_19 : decode cX3_advanceWord 19 = .ok (.iaload, 1) := by decide +kernel
theorem dX3_advanceWord_20 : decode cX3_advanceWord 20 = .ok (.invokestatic 125, 3) := by decide +kernel
theorem dX3_advanceWord_23 : decode cX3_advanceWord 23 = .ok (.ifCond .eq 16, 3) := by decide +kernel
theorem dX3_advanceWord_26 : decode cX3_advanceWord 26 = .ok (.aload_n 0, 1) := by decide +kernel
theorem dX3_advanceWord_27 : decode cX3_advanceWord 27 = .ok (.dup, 1) := by decide +kernel
theorem dX3_advanceWord_28 : decode cX3_advanceWord 28 = .ok (.getfield 37, 3) := by decide +kernel
theorem dX3_advanceWord_31 : decode cX3_advanceWord 31 = .ok (.iconst 1, 1) := by decide +kernel
theorem dX3_advanceWord_32 : decode cX3_advanceWord 32 = .ok (.iadd, 1) := by decide +kernel
theorem dX3_advanceWord_33 : decode cX3_advanceWord 33 = .ok (.putfield 37, 3) := by decide +kernel
theorem dX3_advanceWord_36 : decode cX3_advanceWord 36 = .ok (.goto (-36), 3) := by decide +kernel
theorem dX3_advanceWord_39 : decode cX3_advanceWord 39 = .ok (.aload_n 0, 1) := by decide +kernel
theorem dX3_advanceWord_40 : decode cX3_advanceWord 40 = .ok (.invokevirtual 140, 3) := by decide +kernel
theorem dX3_advanceWord_43 : decode cX3_advanceWord 43 = .ok (.istore_n 1, 1) := by decide +kernel
theorem dX3_advanceWord_44 : decode cX3_advanceWord 44 = .ok (.aload_n 0, 1) := by decide +kernel
theorem dX3_advanceWord_45 : decode cX3_advanceWord 45 = .ok (.iload_n 1, 1) := by decide +kernel
theorem dX3_advanceWord_46 : decode cX3_advanceWord 46 = .ok (.iconst (-1), 1) := by decide +kernel
theorem dX3_advanceWord_47 : decode cX3_advanceWord 47 = .ok (.if_icmp .ne 7, 3) := by decide +kernel
theorem dX3_advanceWord_50 : decode cX3_advanceWord 50 = .ok (.iconst 2, 1) := by decide +kernel
theorem dX3_advanceWord_51 : decode cX3_advanceWord 51 = .ok (.goto 8, 3) := by decide +kernel
theorem dX3_advanceWord_54 : decode cX3_advanceWord 54 = .ok (.sipush 200, 3) := by decide +kernel
theorem dX3_advanceWord_57 : decode cX3_advanceWord 57 = .ok (.iload_n 1, 1) := by decide +kernel
theorem dX3_advanceWord_58 : decode cX3_advanceWord 58 = .ok (.iadd, 1) := by decide +kernel
theorem dX3_advanceWord_59 : decode cX3_advanceWord 59 = .ok (.putfield 40, 3) := by decide +kernel
theorem dX3_advanceWord_62 : decode cX3_advanceWord 62 = .ok (.return_, 1) := by decide +kernel
set_option maxRecDepth 20000 in
theorem ggX3_advanceNumber_X3_isDigit : GoodIn wsX3_advanceNumber wsX3_isDigit := goodIn_r _ [10] rfl (by decide +kernel)
set_option maxRecDepth 20000 in
theorem gX3_advanceNumber_X3_isDigit : GoodIn wsX3_advanceNumber (va_wsS RX3 131 yX3_isDigit wsX3_isDigit) := goodIn_app (goodIn_of _ (by decide +kernel)) ggX3_advanceNumber_X3_isDigit
theorem dX3_advanceNumber_0 : decode cX3_advanceNumber 0 = .ok (.aload_n 0, 1) := by decide +kernel
theorem dX3_advanceNumber_1 : decode cX3_advanceNumber 1 = .ok (.iconst 0, 1) := by decide +kernel
theorem dX3_advanceNumber_2 : decode cX3_advanceNumber 2 = .ok (.putfield 43, 3) := by decide +kernel
theorem dX3_advanceNumber_5 : decode cX3_advanceNumber 5 = .ok (.aload_n 0, 1) := by decide +kernel
theorem dX3_advanceNumber_6 : decode cX3_advanceNumber 6 = .ok (.getfield 37, 3) := by decide +kernel
theorem dX3_advanceNumber_9 : decode cX3_advanceNumber 9 = .ok (.aload_n 0, 1) := by decide +kernel
theorem dX3_advanceNumber_10 : decode cX3_advanceNumber 10 = .ok (.getfield 31, 3) := by decide +kernel
theorem dX3_advanceNumber_13 : decode cX3_advanceNumber 13 = .ok (.if_icmp .ge 55, 3) := by decide +kernel
theorem dX3_advanceNumber_16 : decode cX3_advanceNumber 16 = .ok (.aload_n 0, 1) := by decide +kernel
theorem dX3_advanceNumber_17 : decode cX3_advanceNumber 17 = .ok (.getfield 28, 3) := by decide +kernel
theorem dX3_advanceNumber_20 : decode cX3_advanceNumber 20 = .ok (.aload_n 0, 1) := by decide +kernel
theorem dX3_advanceNumber_21 : decode cX3_advanceNumber 21 = .ok (.getfield 37, 3) := by decide +kernel
theorem dX3_advanceNumber_24 : decode cX3_advanceNumber 24 = .ok (.iaload, 1) := by decide +kernel
theorem dX3_advanceNumber_25 : decode cX3_advanceNumber 25 = .ok (.invokestatic 131, 3) := by decide +kernel
theorem dX3_advanceNumber_28 : decode cX3_advanceNumber 28 = .ok (.ifCond .eq 40, 3) := by decide +kernel
theorem dX3_advanceNumber_31 : decode cX3_advanceNumber 31 = .ok (.aload_n 0, 1) := by decide +kernel
theorem dX3_advanceNumber_32 : decode cX3_advanceNumber 32 = .ok (.bipush 10, 2) := by decide +kernel
theorem dX3_advanceNumber_34 : decode cX3_advanceNumber 34 = .ok (.aload_n 0, 1) := by decide +kernel
theorem dX3_advanceNumber_35 : decode cX3_advanceNumber 35 = .ok (.getfield 43, 3) := by decide +kernel
theorem dX3_advanceNumber_38 : decode cX3_advanceNumber 38 = .ok (.imul, 1) := by decide +kernel
theorem dX3_advanceNumber_39 : decode cX3_advanceNumber 39 = .ok (.aload_n 0, 1) := by decide +kernel
theorem dX3_advanceNumber_40 : decode cX3_advanceNumber 40 = .ok (.getfield 28, 3) := by decide +kernel
theorem dX3_advanceNumber_43 : decode cX3_advanceNumber 43 = .ok (.aload_n 0, 1) := by decide +kernel
theorem dX3_advanceNumber_44 : decode cX3_advanceNumber 44 = .ok (.getfield 37, 3) := by decide +kernel
theorem dX3_advanceNumber_47 : decode cX3_advanceNumber 47 = .ok (.iaload, 1) := by decide +kernel
theorem dX3_advanceNumber_48 : decode cX3_advanceNumber 48 = .ok (.iadd, 1) := by decide +kernel
theorem dX3_advanceNumber_49 : decode cX3_advanceNumber 49 = .ok (.bipush 48, 2) := by decide +kernel
theorem dX3_advanceNumber_51 : decode cX3_advanceNumber 51 = .ok (.isub, 1) := by decide +kernel
theorem dX3_advanceNumber_52 : decode cX3_advanceNumber 52 = .ok (.putfield 43, 3) := by decide +kernel
theorem dX3_advanceNumber_55 : decode cX3_advanceNumber 55 = .ok (.aload_n 0, 1) := by decide +kernel
theorem dX3_advanceNumber_56 : decode cX3_advanceNumber 56 = .ok (.dup, 1) := by decide +kernel
theorem dX3_advanceNumber_57 : decode cX3_advanceNumber 57 = .ok (.getfield 37, 3) := by decide +kernel
theorem dX3_advanceNumber_60 : decode cX3_advanceNumber 60 = .ok (.iconst 1, 1) := by decide +kernel
theorem dX3_advanceNumber_61 : decode cX3_advanceNumber 61 = .ok (.iadd, 1) := by decide +kernel
theorem dX3_advanceNumber_62 : decode cX3_advanceNumber 62 = .ok (.putfield 37, 3) := by decide +kernel
theorem dX3_advanceNumber_65 : decode cX3_advanceNumber 65 = .ok (.goto (-60), 3) := by decide +kernel
theorem dX3_advanceNumber_68 : decode cX3_advanceNumber 68 = .ok (.aload_n 0, 1) := by decide +kernel
theorem dX3_advanceNumber_69 : decode cX3_advanceNumber 69 = .ok (.aload_n 0, 1) := by decide +kernel
theorem dX3_advanceNumber_70 : decode cX3_advanceNumber 70 = .ok (.getfield 37, 3) := by decide +kernel
theorem dX3_advanceNumber_73 : decode cX3_advanceNumber 73 = .ok (.aload_n 0, 1) := by decide +kernel
theorem dX3_advanceNumber_74 : decode cX3_advanceNumber 74 = .ok (.getfield 34, 3) := by decide +kernel
theorem dX3_advanceNumber_77 : decode cX3_advanceNumber 77 = .ok (.isub, 1) := by decide +kernel
theorem dX3_advanceNumber_78 : decode cX3_advanceNumber 78 = .ok (.iconst 4, 1) := by decide +kernel
theorem dX3_advanceNumber_79 : decode cX3_advanceNumber 79 = .ok (.if_icmp .le 7, 3) := by decide +kernel
theorem dX3_advanceNumber_82 : decode cX3_advanceNumber 82 = .ok (.iconst 2, 1) := by decide +kernel
theorem dX3_advanceNumber_83 : decode cX3_advanceNumber 83 = .ok (.goto 4, 3) := by decide +kernel
theorem dX3_advanceNumber_86 : decode cX3_advanceNumber 86 = .ok (.iconst 1, 1) := by decide +kernel
theorem dX3_advanceNumber_87 : decode cX3_advanceNumber 87 = .ok (.putfield 40, 3) := by decide +kernel
theorem dX3_advanceNumber_90 : decode cX3_advanceNumber 90 = .ok (.return_, 1) := by decide +kernel
set_option maxRecDepth 20000 in
theorem ggX3_keywordAtHand_J0_length_8abf5 : GoodIn wsX3_keywordAtHand wsJ0_length_8abf5 := goodIn_r _ [7, 8, 9, 10, 11, 6, 12, 13, 14] rfl (by decide +kernel)
set_option maxRecDepth 20000 in
theorem gX3_keywordAtHand_J0_length_8abf5 : GoodIn wsX3_keywordAtHand (wsV RX3 146 RJ0 yJ0_length_8abf5 wsJ0_length_8abf5) := goodIn_app (goodIn_of _ (by decide +kernel)) ggX3_keywordAtHand_J0_length_8abf5
set_option maxRecDepth 20000 in
theorem ggX3_keywordAtHand_J0_charAt_5068e : GoodIn wsX3_keywordAtHand wsJ0_charAt_5068e := goodIn_r _ [18, 8, 19, 20, 21, 6, 22, 13, 14, 23, 24, 25, 26, 27, 28, 29, 30, 31, 32, 33, 34, 35, 36, 37, 38, 39, 40, 41, 42, 43, 44, 45, 46, 47, 48, 49, 50, 51] rfl (by decide +kernel)
set_option maxRecDepth 20000 in
theorem gX3_keywordAtHand_J0_charAt_5068e : GoodIn wsX3_keywordAtHand (wsV RX3 150 RJ0 yJ0_charAt_5068e wsJ0_charAt_5068e) := goodIn_app (goodIn_of _ (by decide +kernel)) ggX3_keywordAtHand_J0_charAt_5068e
set_option maxRecDepth 20000 in
theorem ggX3_keywordAtHand_X3_standsAtHand : GoodIn wsX3_keywordAtHand wsX3_standsAtHand := goodIn_r _ [56, 2, 1, 57, 15, 16, 17, 6, 18, 8, 19, 20, 21, 22, 13, 14, 23, 24, 25, 26, 27, 28, 29, 30, 31, 32, 33, 34, 35, 36, 37, 38, 39, 40, 41, 42, 43, 44, 45, 46, 47, 48, 49, 50, 51, 58, 59, 60, 61, 62, 63, 64, 65, 66, 67, 68, 69, 70, 71, 72, 73, 74] rfl (by decide +kernel)
set_option maxRecDepth 20000 in
theorem gX3_keywordAtHand_X3_standsAtHand : GoodIn wsX3_keywordAtHand (wsV RX3 154 RX3 yX3_standsAtHand wsX3_standsAtHand) := goodIn_app (goodIn_of _ (by decide +kernel)) ggX3_keywordAtHand_X3_standsAtHand
theorem dX3_keywordAtHand_0 : decode cX3_keywordAtHand 0 = .ok (.iconst 0, 1) := by decide +kernel
theorem dX3_keywordAtHand_1 : decode cX3_keywordAtHand 1 = .ok (.istore_n 1, 1) := by decide +kernel
theorem dX3_keywordAtHand_2 : decode cX3_keywordAtHand 2 = .ok (.iconst 0, 1) := by decide +kernel
theorem dX3_keywordAtHand_3 : decode cX3_keywordAtHand 3 = .ok (.istore_n 2, 1) := by decide +kernel
theorem dX3_keywordAtHand_4 : decode cX3_keywordAtHand 4 = .ok (.iconst 0, 1) := by decide +kernel
theorem dX3_keywordAtHand_5 : decode cX3_keywordAtHand 5 = .ok (.istore_n 3, 1) := by decide +kernel
theorem dX3_keywordAtHand_6 : decode cX3_keywordAtHand 6 = .ok (.iload_n 3, 1) := by decide +kernel
theorem dX3_keywordAtHand_7 : decode cX3_keywordAtHand 7 = .ok (.ldc 144, 2) := by decide +kernel
theorem dX3_keywordAtHand_9 : decode cX3_keywordAtHand 9 = .ok (.invokevirtual 146, 3) := by decide +kernel
theorem dX3_keywordAtHand_12 : decode cX3_keywordAtHand 12 = .ok (.if_icmp .ge 52, 3) := by decide +kernel
theorem dX3_keywordAtHand_15 : decode cX3_keywordAtHand 15 = .ok (.ldc 144, 2) := by decide +kernel
theorem dX3_keywordAtHand_17 : decode cX3_keywordAtHand 17 = .ok (.iload_n 3, 1) := by decide +kernel
theorem dX3_keywordAtHand_18 : decode cX3_keywordAtHand 18 = .ok (.invokevirtual 150, 3) := by decide +kernel
theorem dX3_keywordAtHand_21 : decode cX3_keywordAtHand 21 = .ok (.bipush 32, 2) := by decide +kernel
theorem dX3_keywordAtHand_23 : decode cX3_keywordAtHand 23 = .ok (.if_icmp .ne 35, 3) := by decide +kernel
theorem dX3_keywordAtHand_26 : decode cX3_keywordAtHand 26 = .ok (.iload_n 3, 1) := by decide +kernel
theorem dX3_keywordAtHand_27 : decode cX3_keywordAtHand 27 = .ok (.iload_n 2, 1) := by decide +kernel
theorem dX3_keywordAtHand_28 : decode cX3_keywordAtHand 28 = .ok (.isub, 1) := by decide +kernel
theorem dX3_keywordAtHand_29 : decode cX3_keywordAtHand 29 = .ok (.aload_n 0, 1) := by decide +kernel
theorem dX3_keywordAtHand_30 : decode cX3_keywordAtHand 30 = .ok (.getfield 37, 3) := by decide +kernel
theorem dX3_keywordAtHand_33 : decode cX3_keywordAtHand 33 = .ok (.aload_n 0, 1) := by decide +kernel
theorem dX3_keywordAtHand_34 : decode cX3_keywordAtHand 34 = .ok (.getfield 34, 3) := by decide +kernel
theorem dX3_keywordAtHand_37 : decode cX3_keywordAtHand 37 = .ok (.isub, 1) := by decide +kernel
theorem dX3_keywordAtHand_38 : decode cX3_keywordAtHand 38 = .ok (.if_icmp .ne 13, 3) := by decide +kernel
theorem dX3_keywordAtHand_41 : decode cX3_keywordAtHand 41 = .ok (.aload_n 0, 1) := by decide +kernel
theorem dX3_keywordAtHand_42 : decode cX3_keywordAtHand 42 = .ok (.iload_n 2, 1) := by decide +kernel
theorem dX3_keywordAtHand_43 : decode cX3_keywordAtHand 43 = .ok (.invokevirtual 154, 3) := by decide +kernel
theorem dX3_keywordAtHand_46 : decode cX3_keywordAtHand 46 = .ok (.ifCond .eq 5, 3) := by decide +kernel
theorem dX3_keywordAtHand_49 : decode cX3_keywordAtHand 49 = .ok (.iload_n 1, 1) := by decide +kernel
theorem dX3_keywordAtHand_50 : decode cX3_keywordAtHand 50 = .ok (.ireturn, 1) := by decide +kernel
theorem dX3_keywordAtHand_51 : decode cX3_keywordAtHand 51 = .ok (.iinc 1 1, 3) := by decide +kernel
theorem dX3_keywordAtHand_54 : decode cX3_keywordAtHand 54 = .ok (.iload_n 3, 1) := by decide +kernel
theorem dX3_keywordAtHand_55 : decode cX3_keywordAtHand 55 = .ok (.iconst 1, 1) := by decide +kernel
theorem dX3_keywordAtHand_56 : decode cX3_keywordAtHand 56 = .ok (.iadd, 1) := by decide +kernel
theorem dX3_keywordAtHand_57 : decode cX3_keywordAtHand 57 = .ok (.istore_n 2, 1) := by decide +kernel
theorem dX3_keywordAtHand_58 : decode cX3_keywordAtHand 58 = .ok (.iinc 3 1, 3) := by decide +kernel
theorem dX3_keywordAtHand_61 : decode cX3_keywordAtHand 61 = .ok (.goto (-55), 3) := by decide +kernel
theorem dX3_keywordAtHand_64 : decode cX3_keywordAtHand 64 = .ok (.iconst (-1), 1) := by decide +kernel
theorem dX3_keywordAtHand_65 : decode cX3_keywordAtHand 65 = .ok (.ireturn, 1) := by decide +kernel
set_option maxRecDepth 20000 in
theorem ggX3_standsAtHand_J0_charAt_5068e : GoodIn wsX3_standsAtHand wsJ0_charAt_5068e := goodIn_r _ [8, 9, 10, 11, 12, 7, 13, 14, 15, 16, 17, 18, 19, 20, 21, 22, 23, 24, 25, 26, 27, 28, 29, 30, 31, 32, 33, 34, 35, 36, 37, 38, 39, 40, 41, 42, 43, 44] rfl (by decide +kernel)
set_option maxRecDepth 20000 in
theorem gX3_standsAtHand_J0_charAt_5068e : GoodIn wsX3_standsAtHand (wsV RX3 150 RJ0 yJ0_charAt_5068e wsJ0_charAt_5068e) := goodIn_app (goodIn_of _ (by decide +kernel)) ggX3_standsAtHand_J0_charAt_5068e
theorem dX3_standsAtHand_0 : decode cX3_standsAtHand 0 = .ok (.aload_n 0, 1) := by decide +kernel
theorem dX3_standsAtHand_1 : decode cX3_standsAtHand 1 = .ok (.getfield 34, 3) := by decide +kernel
theorem dX3_standsAtHand_4 : decode cX3_standsAtHand 4 = .ok (.istore_n 2, 1) := by decide +kernel
theorem dX3_standsAtHand_5 : decode cX3_standsAtHand 5 = .ok (.iload_n 2, 1) := by decide +kernel
theorem dX3_standsAtHand_6 : decode cX3_standsAtHand 6 = .ok (.aload_n 0, 1) := by decide +kernel
theorem dX3_standsAtHand_7 : decode cX3_standsAtHand 7 = .ok (.getfield 37, 3) := by decide +kernel
theorem dX3_standsAtHand_10 : decode cX3_standsAtHand 10 = .ok (.if_icmp .ge 33, 3) := by decide +kernel
theorem dX3_standsAtHand_13 : decode cX3_standsAtHand 13 = .ok (.ldc 144, 2) := by decide +kernel
theorem dX3_standsAtHand_15 : decode cX3_standsAtHand 15 = .ok (.iload_n 1, 1) := by decide +kernel
theorem dX3_standsAtHand_16 : decode cX3_standsAtHand 16 = .ok (.iload_n 2, 1) := by decide +kernel
theorem dX3_standsAtHand_17 : decode cX3_standsAtHand 17 = .ok (.iadd, 1) := by decide +kernel
theorem dX3_standsAtHand_18 : decode cX3_standsAtHand 18 = .ok (.aload_n 0, 1) := by decide +kernel
theorem dX3_standsAtHand_19 : decode cX3_standsAtHand 19 = .ok (.getfield 34, 3) := by decide +kernel
theorem dX3_standsAtHand_22 : decode cX3_standsAtHand 22 = .ok (.isub, 1) := by decide +kernel
theorem dX3_standsAtHand_23 : decode cX3_standsAtHand 23 = .ok (.invokevirtual 150, 3) := by decide +kernel
theorem dX3_standsAtHand_26 : decode cX3_standsAtHand 26 = .ok (.aload_n 0, 1) := by decide +kernel
theorem dX3_standsAtHand_27 : decode cX3_standsAtHand 27 = .ok (.getfield 28, 3) := by decide +kernel
theorem dX3_standsAtHand_30 : decode cX3_standsAtHand 30 = .ok (.iload_n 2, 1) := by decide +kernel
theorem dX3_standsAtHand_31 : decode cX3_standsAtHand 31 = .ok (.iaload, 1) := by decide +kernel
theorem dX3_standsAtHand_32 : decode cX3_standsAtHand 32 = .ok (.if_icmp .eq 5, 3) := by decide +kernel
theorem dX3_standsAtHand_35 : decode cX3_standsAtHand 35 = .ok (.iconst 0, 1) := by decide +kernel
theorem dX3_standsAtHand_36 : decode cX3_standsAtHand 36 = .ok (.ireturn, 1) := by decide +kernel
theorem dX3_standsAtHand_37 : decode cX3_standsAtHand 37 = .ok (.iinc 2 1, 3) := by decide +kernel
theorem dX3_standsAtHand_40 : decode cX3_standsAtHand 40 = .ok (.goto (-35), 3) := by decide +kernel
theorem dX3_standsAtHand_43 : decode cX3_standsAtHand 43 = .ok (.iconst 1, 1) := by decide +kernel
theorem dX3_standsAtHand_44 : decode cX3_standsAtHand 44 = .ok (.ireturn, 1) := by decide +kernel
theorem dX3_isLetter_0 : decode cX3_isLetter 0 = .ok (.iload_n 0, 1) := by decide +kernel
theorem dX3_isLetter_1 : decode cX3_isLetter 1 = .ok (.bipush 97, 2) := by decide +kernel
theorem dX3_isLetter_3 : decode cX3_isLetter 3 = .ok (.if_icmp .lt 9, 3) := by decide +kernel
theorem dX3_isLetter_6 : decode cX3_isLetter 6 = .ok (.iload_n 0, 1) := by decide +kernel
theorem dX3_isLetter_7 : decode cX3_isLetter 7 = .ok (.bipush 122, 2) := by decide +kernel
theorem dX3_isLetter_9 : decode cX3_isLetter 9 = .ok (.if_icmp .le 15, 3) := by decide +kernel
theorem dX3_isLetter_12 : decode cX3_isLetter 12 = .ok (.iload_n 0, 1) := by decide +kernel
theorem dX3_isLetter_13 : decode cX3_isLetter 13 = .ok (.bipush 65, 2) := by decide +kernel
theorem dX3_isLetter_15 : decode cX3_isLetter 15 = .ok (.if_icmp .lt 13, 3) := by decide +kernel
theorem dX3_isLetter_18 : decode cX3_isLetter 18 = .ok (.iload_n 0, 1) := by decide +kernel
theorem dX3_isLetter_19 : decode cX3_isLetter 19 = .ok (.bipush 90, 2) := by decide +kernel
theorem dX3_isLetter_21 : decode cX3_isLetter 21 = .ok (.if_icmp .gt 7, 3) := by decide +kernel
theorem dX3_isLetter_24 : decode cX3_isLetter 24 = .ok (.iconst 1, 1) := by decide +kernel
theorem dX3_isLetter_25 : decode cX3_isLetter 25 = .ok (.goto 4, 3) := by decide +kernel
theorem dX3_isLetter_28 : decode cX3_isLetter 28 = .ok (.iconst 0, 1) := by decide +kernel
theorem dX3_isLetter_29 : decode cX3_isLetter 29 = .ok (.ireturn, 1) := by decide +kernel
theorem dX3_isDigit_0 : decode cX3_isDigit 0 = .ok (.iload_n 0, 1) := by decide +kernel
theorem dX3_isDigit_1 : decode cX3_isDigit 1 = .ok (.bipush 48, 2) := by decide +kernel
theorem dX3_isDigit_3 : decode cX3_isDigit 3 = .ok (.if_icmp .lt 13, 3) := by decide +kernel
theorem dX3_isDigit_6 : decode cX3_isDigit 6 = .ok (.iload_n 0, 1) := by decide +kernel
theorem dX3_isDigit_7 : decode cX3_isDigit 7 = .ok (.bipush 57, 2) := by decide +kernel
theorem dX3_isDigit_9 : decode cX3_isDigit 9 = .ok (.if_icmp .gt 7, 3) := by decide +kernel
theorem dX3_isDigit_12 : decode cX3_isDigit 12 = .ok (.iconst 1, 1) := by decide +kernel
theorem dX3_isDigit_13 : decode cX3_isDigit 13 = .ok (.goto 4, 3) := by decide +kernel
theorem dX3_isDigit_16 : decode cX3_isDigit 16 = .ok (.iconst 0, 1) := by decide +kernel
theorem dX3_isDigit_17 : decode cX3_isDigit 17 = .ok (.ireturn, 1) := by decide +kernel
theorem dX3_isSign_0 : decode cX3_isSign 0 = .ok (.iload_n 0, 1) := by decide +kernel
theorem dX3_isSign_1 : decode cX3_isSign 1 = .ok (.bipush 40, 2) := by decide +kernel
theorem dX3_isSign_3 : decode cX3_isSign 3 = .ok (.if_icmp .lt 9, 3) := by decide +kernel
theorem dX3_isSign_6 : decode cX3_isSign 6 = .ok (.iload_n 0, 1) := by decide +kernel
theorem dX3_isSign_7 : decode cX3_isSign 7 = .ok (.bipush 43, 2) := by decide +kernel
theorem dX3_isSign_9 : decode cX3_isSign 9 = .ok (.if_icmp .le 27, 3) := by decide +kernel
theorem dX3_isSign_12 : decode cX3_isSign 12 = .ok (.iload_n 0, 1) := by decide +kernel
theorem dX3_isSign_13 : decode cX3_isSign 13 = .ok (.bipush 45, 2) := by decide +kernel
theorem dX3_isSign_15 : decode cX3_isSign 15 = .ok (.if_icmp .eq 21, 3) := by decide +kernel
theorem dX3_isSign_18 : decode cX3_isSign 18 = .ok (.iload_n 0, 1) := by decide +kernel
theorem dX3_isSign_19 : decode cX3_isSign 19 = .ok (.bipush 47, 2) := by decide +kernel
theorem dX3_isSign_21 : decode cX3_isSign 21 = .ok (.if_icmp .eq 15, 3) := by decide +kernel
theorem dX3_isSign_24 : decode cX3_isSign 24 = .ok (.iload_n 0, 1) := by decide +kernel
theorem dX3_isSign_25 : decode cX3_isSign 25 = .ok (.bipush 59, 2) := by decide +kernel
theorem dX3_isSign_27 : decode cX3_isSign 27 = .ok (.if_icmp .lt 13, 3) := by decide +kernel
theorem dX3_isSign_30 : decode cX3_isSign 30 = .ok (.iload_n 0, 1) := by decide +kernel
theorem dX3_isSign_31 : decode cX3_isSign 31 = .ok (.bipush 62, 2) := by decide +kernel
theorem dX3_isSign_33 : decode cX3_isSign 33 = .ok (.if_icmp .gt 7, 3) := by decide +kernel
theorem dX3_isSign_36 : decode cX3_isSign 36 = .ok (.iconst 1, 1) := by decide +kernel
theorem dX3_isSign_37 : decode cX3_isSign 37 = .ok (.goto 4, 3) := by decide +kernel
theorem dX3_isSign_40 : decode cX3_isSign 40 = .ok (.iconst 0, 1) := by decide +kernel
theorem dX3_isSign_41 : decode cX3_isSign 41 = .ok (.ireturn, 1) := by decide +kernel
set_option maxRecDepth 20000 in
theorem ggX4_init_X2_init : GoodIn wsX4_init wsX2_init := goodIn_r _ [28, 29, 2, 3, 8, 30, 31, 53, 54] rfl (by decide +kernel)
set_option maxRecDepth 20000 in
theorem gX4_init_X2_init_n65 : GoodIn wsX4_init (wsX2_init) := ggX4_init_X2_init
set_option maxRecDepth 20000 in
theorem ggX4_init_X4_begin : GoodIn wsX4_init wsX4_begin := goodIn_r _ [36, 4, 11, 13, 14, 37, 38, 39, 40, 41, 42, 43, 44, 45, 46, 47, 48, 49, 50, 51, 52] rfl (by decide +kernel)
set_option maxRecDepth 20000 in
theorem gX4_init_X4_begin : GoodIn wsX4_init (wsV RX4 66 RX4 yX4_begin wsX4_begin) := goodIn_app (goodIn_of _ (by decide +kernel)) ggX4_init_X4_begin
theorem dX4_init_0 : decode cX4_init 0 = .ok (.aload_n 0, 1) := by decide +kernel
theorem dX4_init_1 : decode cX4_init 1 = .ok (.invokespecial 3, 3) := by decide +kernel
theorem dX4_init_4 : decode cX4_init 4 = .ok (.aload_n 0, 1) := by decide +kernel
theorem dX4_init_5 : decode cX4_init 5 = .ok (.iconst 0, 1) := by decide +kernel
theorem dX4_init_6 : decode cX4_init 6 = .ok (.putfield 9, 3) := by decide +kernel
theorem dX4_init_9 : decode cX4_init 9 = .ok (.aload_n 0, 1) := by decide +kernel
theorem dX4_init_10 : decode cX4_init 10 = .ok (.iconst 0, 1) := by decide +kernel
theorem dX4_init_11 : decode cX4_init 11 = .ok (.putfield 15, 3) := by decide +kernel
theorem dX4_init_14 : decode cX4_init 14 = .ok (.aload_n 0, 1) := by decide +kernel
theorem dX4_init_15 : decode cX4_init 15 = .ok (.iconst 0, 1) := by decide +kernel
theorem dX4_init_16 : decode cX4_init 16 = .ok (.putfield 18, 3) := by decide +kernel
theorem dX4_init_19 : decode cX4_init 19 = .ok (.aload_n 0, 1) := by decide +kernel
theorem dX4_init_20 : decode cX4_init 20 = .ok (.iconst 0, 1) := by decide +kernel
theorem dX4_init_21 : decode cX4_init 21 = .ok (.putfield 21, 3) := by decide +kernel
theorem dX4_init_24 : decode cX4_init 24 = .ok (.aload_n 0, 1) := by decide +kernel
theorem dX4_init_25 : decode cX4_init 25 = .ok (.bipush 10, 2) := by decide +kernel
theorem dX4_init_27 : decode cX4_init 27 = .ok (.newarray .int, 2) := by decide +kernel
theorem dX4_init_29 : decode cX4_init 29 = .ok (.putfield 24, 3) := by decide +kernel
theorem dX4_init_32 : decode cX4_init 32 = .ok (.aload_n 0, 1) := by decide +kernel
theorem dX4_init_33 : decode cX4_init 33 = .ok (.bipush 10, 2) := by decide +kernel
theorem dX4_init_35 : decode cX4_init 35 = .ok (.bipush 9, 2) := by decide +kernel
theorem dX4_init_37 : decode cX4_init 37 = .ok (.multianewarray 28 2, 4) := by decide +kernel
theorem dX4_init_41 : decode cX4_init 41 = .ok (.putfield 30, 3) := by decide +kernel
theorem dX4_init_44 : decode cX4_init 44 = .ok (.aload_n 0, 1) := by decide +kernel
theorem dX4_init_45 : decode cX4_init 45 = .ok (.bipush 10, 2) := by decide +kernel
theorem dX4_init_47 : decode cX4_init 47 = .ok (.newarray .long, 2) := by decide +kernel
theorem dX4_init_49 : decode cX4_init 49 = .ok (.putfield 33, 3) := by decide +kernel
theorem dX4_init_52 : decode cX4_init 52 = .ok (.aload_n 0, 1) := by decide +kernel
theorem dX4_init_53 : decode cX4_init 53 = .ok (.bipush 10, 2) := by decide +kernel
theorem dX4_init_55 : decode cX4_init 55 = .ok (.iconst 4, 1) := by decide +kernel
theorem dX4_init_56 : decode cX4_init 56 = .ok (.multianewarray 28 2, 4) := by decide +kernel
theorem dX4_init_60 : decode cX4_init 60 = .ok (.putfield 37, 3) := by decide +kernel
theorem dX4_init_63 : decode cX4_init 63 = .ok (.aload_n 0, 1) := by decide +kernel
theorem dX4_init_64 : decode cX4_init 64 = .ok (.iconst 4, 1) := by decide +kernel
theorem dX4_init_65 : decode cX4_init 65 = .ok (.anewarray 40, 3) := by decide +kernel
theorem dX4_init_68 : decode cX4_init 68 = .ok (.putfield 42, 3) := by decide +kernel
theorem dX4_init_71 : decode cX4_init 71 = .ok (.aload_n 0, 1) := by decide +kernel
theorem dX4_init_72 : decode cX4_init 72 = .ok (.bipush 10, 2) := by decide +kernel
theorem dX4_init_74 : decode cX4_init 74 = .ok (.newarray .int, 2) := by decide +kernel
theorem dX4_init_76 : decode cX4_init 76 = .ok (.putfield 46, 3) := by decide +kernel
theorem dX4_init_79 : decode cX4_init 79 = .ok (.aload_n 0, 1) := by decide +kernel
theorem dX4_init_80 : decode cX4_init 80 = .ok (.bipush 10, 2) := by decide +kernel
theorem dX4_init_82 : decode cX4_init 82 = .ok (.newarray .boolean, 2) := by decide +kernel
theorem dX4_init_84 : decode cX4_init 84 = .ok (.putfield 49, 3) := by decide +kernel
theorem dX4_init_87 : decode cX4_init 87 = .ok (.aload_n 0, 1) := by decide +kernel
theorem dX4_init_88 : decode cX4_init 88 = .ok (.sipush 400, 3) := by decide +kernel
theorem dX4_init_91 : decode cX4_init 91 = .ok (.newarray .int, 2) := by decide +kernel
theorem dX4_init_93 : decode cX4_init 93 = .ok (.putfield 53, 3) := by decide +kernel
theorem dX4_init_96 : decode cX4_init 96 = .ok (.getstatic 56, 3) := by decide +kernel
theorem dX4_init_99 : decode cX4_init 99 = .ok (.iconst 0, 1) := by decide +kernel
theorem dX4_init_100 : decode cX4_init 100 = .ok (.aload_n 0, 1) := by decide +kernel
theorem dX4_init_101 : decode cX4_init 101 = .ok (.getfield 24, 3) := by decide +kernel
theorem dX4_init_104 : decode cX4_init 104 = .ok (.iconst 0, 1) := by decide +kernel
theorem dX4_init_105 : decode cX4_init 105 = .ok (.bipush 10, 2) := by decide +kernel
theorem dX4_init_107 : decode cX4_init 107 = .ok (.invokestatic 59, 3) := by decide +kernel
theorem dX4_init_110 : decode cX4_init 110 = .ok (.iconst 0, 1) := by decide +kernel
theorem dX4_init_111 : decode cX4_init 111 = .ok (.istore_n 1, 1) := by decide +kernel
theorem dX4_init_112 : decode cX4_init 112 = .ok (.iload_n 1, 1) := by decide +kernel
theorem dX4_init_113 : decode cX4_init 113 = .ok (.iconst 4, 1) := by decide +kernel
theorem dX4_init_114 : decode cX4_init 114 = .ok (.if_icmp .ge 22, 3) := by decide +kernel
theorem dX4_init_117 : decode cX4_init 117 = .ok (.aload_n 0, 1) := by decide +kernel
theorem dX4_init_118 : decode cX4_init 118 = .ok (.getfield 42, 3) := by decide +kernel
theorem dX4_init_121 : decode cX4_init 121 = .ok (.iload_n 1, 1) := by decide +kernel
theorem dX4_init_122 : decode cX4_init 122 = .ok (.new 40, 3) := by decide +kernel
theorem dX4_init_125 : decode cX4_init 125 = .ok (.dup, 1) := by decide +kernel
theorem dX4_init_126 : decode cX4_init 126 = .ok (.invokespecial 65, 3) := by decide +kernel
theorem dX4_init_129 : decode cX4_init 129 = .ok (.aastore, 1) := by decide +kernel
theorem dX4_init_130 : decode cX4_init 130 = .ok (.iinc 1 1, 3) := by decide +kernel
theorem dX4_init_133 : decode cX4_init 133 = .ok (.goto (-21), 3) := by decide +kernel
theorem dX4_init_136 : decode cX4_init 136 = .ok (.aload_n 0, 1) := by decide +kernel
theorem dX4_init_137 : decode cX4_init 137 = .ok (.iconst 4, 1) := by decide +kernel
theorem dX4_init_138 : decode cX4_init 138 = .ok (.invokevirtual 66, 3) := by decide +kernel
theorem dX4_init_141 : decode cX4_init 141 = .ok (.return_, 1) := by decide +kernel
set_option maxRecDepth 20000 in
theorem ggX4_begin_J7_fill_53178 : GoodIn wsX4_begin wsJ7_fill_53178 := goodIn_r _ [8] rfl (by decide +kernel)
set_option maxRecDepth 20000 in
theorem gX4_begin_J7_fill_53178 : GoodIn wsX4_begin (va_wsS RX4 70 yJ7_fill_53178 wsJ7_fill_53178) := goodIn_app (goodIn_of _ (by decide +kernel)) ggX4_begin_J7_fill_53178
theorem dX4_begin_0 : decode cX4_begin 0 = .ok (.aload_n 0, 1) := by decide +kernel
theorem dX4_begin_1 : decode cX4_begin 1 = .ok (.iload_n 1, 1) := by decide +kernel
theorem dX4_begin_2 : decode cX4_begin 2 = .ok (.putfield 9, 3) := by decide +kernel
theorem dX4_begin_5 : decode cX4_begin 5 = .ok (.iconst 0, 1) := by decide +kernel
theorem dX4_begin_6 : decode cX4_begin 6 = .ok (.istore_n 2, 1) := by decide +kernel
theorem dX4_begin_7 : decode cX4_begin 7 = .ok (.iload_n 2, 1) := by decide +kernel
theorem dX4_begin_8 : decode cX4_begin 8 = .ok (.bipush 10, 2) := by decide +kernel
theorem dX4_begin_10 : decode cX4_begin 10 = .ok (.if_icmp .ge 71, 3) := by decide +kernel
theorem dX4_begin_13 : decode cX4_begin 13 = .ok (.aload_n 0, 1) := by decide +kernel
theorem dX4_begin_14 : decode cX4_begin 14 = .ok (.getfield 30, 3) := by decide +kernel
theorem dX4_begin_17 : decode cX4_begin 17 = .ok (.iload_n 2, 1) := by decide +kernel
theorem dX4_begin_18 : decode cX4_begin 18 = .ok (.aaload, 1) := by decide +kernel
theorem dX4_begin_19 : decode cX4_begin 19 = .ok (.astore_n 3, 1) := by decide +kernel
theorem dX4_begin_20 : decode cX4_begin 20 = .ok (.aload_n 3, 1) := by decide +kernel
theorem dX4_begin_21 : decode cX4_begin 21 = .ok (.iconst 0, 1) := by decide +kernel
theorem dX4_begin_22 : decode cX4_begin 22 = .ok (.invokestatic 70, 3) := by decide +kernel
theorem dX4_begin_25 : decode cX4_begin 25 = .ok (.aload_n 3, 1) := by decide +kernel
theorem dX4_begin_26 : decode cX4_begin 26 = .ok (.iconst 0, 1) := by decide +kernel
theorem dX4_begin_27 : decode cX4_begin 27 = .ok (.bipush 10, 2) := by decide +kernel
theorem dX4_begin_29 : decode cX4_begin 29 = .ok (.iastore, 1) := by decide +kernel
theorem dX4_begin_30 : decode cX4_begin 30 = .ok (.aload_n 3, 1) := by decide +kernel
theorem dX4_begin_31 : decode cX4_begin 31 = .ok (.iconst 2, 1) := by decide +kernel
theorem dX4_begin_32 : decode cX4_begin 32 = .ok (.iload_n 2, 1) := by decide +kernel
theorem dX4_begin_33 : decode cX4_begin 33 = .ok (.iastore, 1) := by decide +kernel
theorem dX4_begin_34 : decode cX4_begin 34 = .ok (.aload_n 3, 1) := by decide +kernel
theorem dX4_begin_35 : decode cX4_begin 35 = .ok (.iconst 5, 1) := by decide +kernel
theorem dX4_begin_36 : decode cX4_begin 36 = .ok (.bipush 99, 2) := by decide +kernel
theorem dX4_begin_38 : decode cX4_begin 38 = .ok (.iastore, 1) := by decide +kernel
theorem dX4_begin_39 : decode cX4_begin 39 = .ok (.aload_n 3, 1) := by decide +kernel
theorem dX4_begin_40 : decode cX4_begin 40 = .ok (.bipush 7, 2) := by decide +kernel
theorem dX4_begin_42 : decode cX4_begin 42 = .ok (.iconst (-1), 1) := by decide +kernel
theorem dX4_begin_43 : decode cX4_begin 43 = .ok (.iastore, 1) := by decide +kernel
theorem dX4_begin_44 : decode cX4_begin 44 = .ok (.aload_n 3, 1) := by decide +kernel
theorem dX4_begin_45 : decode cX4_begin 45 = .ok (.bipush 8, 2) := by decide +kernel
theorem dX4_begin_47 : decode cX4_begin 47 = .ok (.iconst (-1), 1) := by decide +kernel
theorem dX4_begin_48 : decode cX4_begin 48 = .ok (.iastore, 1) := by decide +kernel
theorem dX4_begin_49 : decode cX4_begin 49 = .ok (.aload_n 0, 1) := by decide +kernel
theorem dX4_begin_50 : decode cX4_begin 50 = .ok (.getfield 33, 3) := by decide +kernel
theorem dX4_begin_53 : decode cX4_begin 53 = .ok (.iload_n 2, 1) := by decide +kernel
theorem dX4_begin_54 : decode cX4_begin 54 = .ok (.lconst 0, 1) := by decide +kernel
theorem dX4_begin_55 : decode cX4_begin 55 = .ok (.lastore, 1) := by decide +kernel
theorem dX4_begin_56 : decode cX4_begin 56 = .ok (.aload_n 0, 1) := by decide +kernel
theorem dX4_begin_57 : decode cX4_begin 57 = .ok (.getfield 37, 3) := by decide +kernel
theorem dX4_begin_60 : decode cX4_begin 60 = .ok (.iload_n 2, 1) := by decide +kernel
theorem dX4_begin_61 : decode cX4_begin 61 = .ok (.aaload, 1) := by decide +kernel
theorem dX4_begin_62 : decode cX4_begin 62 = .ok (.iconst 0, 1) := by decide +kernel
theorem dX4_begin_63 : decode cX4_begin 63 = .ok (.invokestatic 70, 3) := by decide +kernel
theorem dX4_begin_66 : decode cX4_begin 66 = .ok (.aload_n 0, 1) := by decide +kernel
theorem dX4_begin_67 : decode cX4_begin 67 = .ok (.getfield 37, 3) := by decide +kernel
theorem dX4_begin_70 : decode cX4_begin 70 = .ok (.iload_n 2, 1) := by decide +kernel
theorem dX4_begin_71 : decode cX4_begin 71 = .ok (.aaload, 1) := by decide +kernel
theorem dX4_begin_72 : decode cX4_begin 72 = .ok (.iconst 3, 1) := by decide +kernel
theorem dX4_begin_73 : decode cX4_begin 73 = .ok (.iconst (-1), 1) := by decide +kernel
theorem dX4_begin_74 : decode cX4_begin 74 = .ok (.iastore, 1) := by decide +kernel
theorem dX4_begin_75 : decode cX4_begin 75 = .ok (.iinc 2 1, 3) := by decide +kernel
theorem dX4_begin_78 : decode cX4_begin 78 = .ok (.goto (-71), 3) := by decide +kernel
theorem dX4_begin_81 : decode cX4_begin 81 = .ok (.return_, 1) := by decide +kernel
set_option maxRecDepth 20000 in
theorem ggX4_copy_X2_take : GoodIn wsX4_copy wsX2_take := goodIn_r _ [20, 21, 22, 7, 8, 9, 23, 36, 37] rfl (by decide +kernel)
set_option maxRecDepth 20000 in
theorem gX4_copy_X2_take : GoodIn wsX4_copy (wsV RX4 82 RX2 yX2_take wsX2_take) := goodIn_app (goodIn_of _ (by decide +kernel)) ggX4_copy_X2_take
theorem dX4_copy_0 : decode cX4_copy 0 = .ok (.aload_n 0, 1) := by decide +kernel
theorem dX4_copy_1 : decode cX4_copy 1 = .ok (.aload_n 1, 1) := by decide +kernel
theorem dX4_copy_2 : decode cX4_copy 2 = .ok (.getfield 9, 3) := by decide +kernel
theorem dX4_copy_5 : decode cX4_copy 5 = .ok (.putfield 9, 3) := by decide +kernel
theorem dX4_copy_8 : decode cX4_copy 8 = .ok (.aload_n 0, 1) := by decide +kernel
theorem dX4_copy_9 : decode cX4_copy 9 = .ok (.aload_n 1, 1) := by decide +kernel
theorem dX4_copy_10 : decode cX4_copy 10 = .ok (.getfield 15, 3) := by decide +kernel
theorem dX4_copy_13 : decode cX4_copy 13 = .ok (.putfield 15, 3) := by decide +kernel
theorem dX4_copy_16 : decode cX4_copy 16 = .ok (.aload_n 0, 1) := by decide +kernel
theorem dX4_copy_17 : decode cX4_copy 17 = .ok (.aload_n 1, 1) := by decide +kernel
theorem dX4_copy_18 : decode cX4_copy 18 = .ok (.getfield 18, 3) := by decide +kernel
theorem dX4_copy_21 : decode cX4_copy 21 = .ok (.putfield 18, 3) := by decide +kernel
theorem dX4_copy_24 : decode cX4_copy 24 = .ok (.aload_n 0, 1) := by decide +kernel
theorem dX4_copy_25 : decode cX4_copy 25 = .ok (.aload_n 1, 1) := by decide +kernel
theorem dX4_copy_26 : decode cX4_copy 26 = .ok (.getfield 21, 3) := by decide +kernel
theorem dX4_copy_29 : decode cX4_copy 29 = .ok (.putfield 21, 3) := by decide +kernel
theorem dX4_copy_32 : decode cX4_copy 32 = .ok (.aload_n 1, 1) := by decide +kernel
theorem dX4_copy_33 : decode cX4_copy 33 = .ok (.getfield 24, 3) := by decide +kernel
theorem dX4_copy_36 : decode cX4_copy 36 = .ok (.iconst 0, 1) := by decide +kernel
theorem dX4_copy_37 : decode cX4_copy 37 = .ok (.aload_n 0, 1) := by decide +kernel
theorem dX4_copy_38 : decode cX4_copy 38 = .ok (.getfield 24, 3) := by decide +kernel
theorem dX4_copy_41 : decode cX4_copy 41 = .ok (.iconst 0, 1) := by decide +kernel
theorem dX4_copy_42 : decode cX4_copy 42 = .ok (.bipush 10, 2) := by decide +kernel
theorem dX4_copy_44 : decode cX4_copy 44 = .ok (.invokestatic 59, 3) := by decide +kernel
theorem dX4_copy_47 : decode cX4_copy 47 = .ok (.aload_n 1, 1) := by decide +kernel
theorem dX4_copy_48 : decode cX4_copy 48 = .ok (.getfield 33, 3) := by decide +kernel
theorem dX4_copy_51 : decode cX4_copy 51 = .ok (.iconst 0, 1) := by decide +kernel
theorem dX4_copy_52 : decode cX4_copy 52 = .ok (.aload_n 0, 1) := by decide +kernel
theorem dX4_copy_53 : decode cX4_copy 53 = .ok (.getfield 33, 3) := by decide +kernel
theorem dX4_copy_56 : decode cX4_copy 56 = .ok (.iconst 0, 1) := by decide +kernel
theorem dX4_copy_57 : decode cX4_copy 57 = .ok (.bipush 10, 2) := by decide +kernel
theorem dX4_copy_59 : decode cX4_copy 59 = .ok (.invokestatic 59, 3) := by decide +kernel
theorem dX4_copy_62 : decode cX4_copy 62 = .ok (.iconst 0, 1) := by decide +kernel
theorem dX4_copy_63 : decode cX4_copy 63 = .ok (.istore_n 2, 1) := by decide +kernel
theorem dX4_copy_64 : decode cX4_copy 64 = .ok (.iload_n 2, 1) := by decide +kernel
theorem dX4_copy_65 : decode cX4_copy 65 = .ok (.bipush 10, 2) := by decide +kernel
theorem dX4_copy_67 : decode cX4_copy 67 = .ok (.if_icmp .ge 46, 3) := by decide +kernel
theorem dX4_copy_70 : decode cX4_copy 70 = .ok (.aload_n 1, 1) := by decide +kernel
theorem dX4_copy_71 : decode cX4_copy 71 = .ok (.getfield 30, 3) := by decide +kernel
theorem dX4_copy_74 : decode cX4_copy 74 = .ok (.iload_n 2, 1) := by decide +kernel
theorem dX4_copy_75 : decode cX4_copy 75 = .ok (.aaload, 1) := by decide +kernel
theorem dX4_copy_76 : decode cX4_copy 76 = .ok (.iconst 0, 1) := by decide +kernel
theorem dX4_copy_77 : decode cX4_copy 77 = .ok (.aload_n 0, 1) := by decide +kernel
theorem dX4_copy_78 : decode cX4_copy 78 = .ok (.getfield 30, 3) := by decide +kernel
theorem dX4_copy_81 : decode cX4_copy 81 = .ok (.iload_n 2, 1) := by decide +kernel
theorem dX4_copy_82 : decode cX4_copy 82 = .ok (.aaload, 1) := by decide +kernel
theorem dX4_copy_83 : decode cX4_copy 83 = .ok (.iconst 0, 1) := by decide +kernel
theorem dX4_copy_84 : decode cX4_copy 84 = .ok (.bipush 9, 2) := by decide +kernel
theorem dX4_copy_86 : decode cX4_copy 86 = .ok (.invokestatic 59, 3) := by decide +kernel
theorem dX4_copy_89 : decode cX4_copy 89 = .ok (.aload_n 1, 1) := by decide +kernel
theorem dX4_copy_90 : decode cX4_copy 90 = .ok (.getfield 37, 3) := by decide +kernel
theorem dX4_copy_93 : decode cX4_copy 93 = .ok (.iload_n 2, 1) := by decide +kernel
theorem dX4_copy_94 : decode cX4_copy 94 = .ok (.aaload, 1) := by decide +kernel
theorem dX4_copy_95 : decode cX4_copy 95 = .ok (.iconst 0, 1) := by decide +kernel
theorem dX4_copy_96 : decode cX4_copy 96 = .ok (.aload_n 0, 1) := by decide +kernel
theorem dX4_copy_97 : decode cX4_copy 97 = .ok (.getfield 37, 3) := by decide +kernel
theorem dX4_copy_100 : decode cX4_copy 100 = .ok (.iload_n 2, 1) := by decide +kernel
theorem dX4_copy_101 : decode cX4_copy 101 = .ok (.aaload, 1) := by decide +kernel
theorem dX4_copy_102 : decode cX4_copy 102 = .ok (.iconst 0, 1) := by decide +kernel
theorem dX4_copy_103 : decode cX4_copy 103 = .ok (.iconst 4, 1) := by decide +kernel
theorem dX4_copy_104 : decode cX4_copy 104 = .ok (.invokestatic 59, 3) := by decide +kernel
theorem dX4_copy_107 : decode cX4_copy 107 = .ok (.iinc 2 1, 3) := by decide +kernel
theorem dX4_copy_110 : decode cX4_copy 110 = .ok (.goto (-46), 3) := by decide +kernel
theorem dX4_copy_113 : decode cX4_copy 113 = .ok (.iconst 0, 1) := by decide +kernel
theorem dX4_copy_114 : decode cX4_copy 114 = .ok (.istore_n 2, 1) := by decide +kernel
theorem dX4_copy_115 : decode cX4_copy 115 = .ok (.iload_n 2, 1) := by decide +kernel
theorem dX4_copy_116 : decode cX4_copy 116 = .ok (.iconst 4, 1) := by decide +kernel
theorem dX4_copy_117 : decode cX4_copy 117 = .ok (.if_icmp .ge 36, 3) := by decide +kernel
theorem dX4_copy_120 : decode cX4_copy 120 = .ok (.aload_n 0, 1) := by decide +kernel
theorem dX4_copy_121 : decode cX4_copy 121 = .ok (.getfield 42, 3) := by decide +kernel
theorem dX4_copy_124 : decode cX4_copy 124 = .ok (.iload_n 2, 1) := by decide +kernel
theorem dX4_copy_125 : decode cX4_copy 125 = .ok (.aaload, 1) := by decide +kernel
theorem dX4_copy_126 : decode cX4_copy 126 = .ok (.aload_n 1, 1) := by decide +kernel
theorem dX4_copy_127 : decode cX4_copy 127 = .ok (.getfield 42, 3) := by decide +kernel
theorem dX4_copy_130 : decode cX4_copy 130 = .ok (.iload_n 2, 1) := by decide +kernel
theorem dX4_copy_131 : decode cX4_copy 131 = .ok (.aaload, 1) := by decide +kernel
theorem dX4_copy_132 : decode cX4_copy 132 = .ok (.getfield 76, 3) := by decide +kernel
theorem dX4_copy_135 : decode cX4_copy 135 = .ok (.aload_n 1, 1) := by decide +kernel
theorem dX4_copy_136 : decode cX4_copy 136 = .ok (.getfield 42, 3) := by decide +kernel
theorem dX4_copy_139 : decode cX4_copy 139 = .ok (.iload_n 2, 1) := by decide +kernel
theorem dX4_copy_140 : decode cX4_copy 140 = .ok (.aaload, 1) := by decide +kernel
theorem dX4_copy_141 : decode cX4_copy 141 = .ok (.getfield 79, 3) := by decide +kernel
theorem dX4_copy_144 : decode cX4_copy 144 = .ok (.invokevirtual 82, 3) := by decide +kernel
theorem dX4_copy_147 : decode cX4_copy 147 = .ok (.iinc 2 1, 3) := by decide +kernel
theorem dX4_copy_150 : decode cX4_copy 150 = .ok (.goto (-35), 3) := by decide +kernel
theorem dX4_copy_153 : decode cX4_copy 153 = .ok (.return_, 1) := by decide +kernel
theorem dX4_has_0 : decode cX4_has 0 = .ok (.iload_n 1, 1) := by decide +kernel
theorem dX4_has_1 : decode cX4_has 1 = .ok (.ifCond .lt 15, 3) := by decide +kernel
theorem dX4_has_4 : decode cX4_has 4 = .ok (.iload_n 1, 1) := by decide +kernel
theorem dX4_has_5 : decode cX4_has 5 = .ok (.aload_n 0, 1) := by decide +kernel
theorem dX4_has_6 : decode cX4_has 6 = .ok (.getfield 9, 3) := by decide +kernel
theorem dX4_has_9 : decode cX4_has 9 = .ok (.if_icmp .ge 7, 3) := by decide +kernel
theorem dX4_has_12 : decode cX4_has 12 = .ok (.iconst 1, 1) := by decide +kernel
theorem dX4_has_13 : decode cX4_has 13 = .ok (.goto 4, 3) := by decide +kernel
theorem dX4_has_16 : decode cX4_has 16 = .ok (.iconst 0, 1) := by decide +kernel
theorem dX4_has_17 : decode cX4_has 17 = .ok (.ireturn, 1) := by decide +kernel
theorem dX4_hasRow_0 : decode cX4_hasRow 0 = .ok (.iload_n 1, 1) := by decide +kernel
theorem dX4_hasRow_1 : decode cX4_hasRow 1 = .ok (.ifCond .lt 19, 3) := by decide +kernel
theorem dX4_hasRow_4 : decode cX4_hasRow 4 = .ok (.iload_n 1, 1) := by decide +kernel
theorem dX4_hasRow_5 : decode cX4_hasRow 5 = .ok (.iconst 1, 1) := by decide +kernel
theorem dX4_hasRow_6 : decode cX4_hasRow 6 = .ok (.iconst 2, 1) := by decide +kernel
theorem dX4_hasRow_7 : decode cX4_hasRow 7 = .ok (.aload_n 0, 1) := by decide +kernel
theorem dX4_hasRow_8 : decode cX4_hasRow 8 = .ok (.getfield 9, 3) := by decide +kernel
theorem dX4_hasRow_11 : decode cX4_hasRow 11 = .ok (.imul, 1) := by decide +kernel
theorem dX4_hasRow_12 : decode cX4_hasRow 12 = .ok (.ishl, 1) := by decide +kernel
theorem dX4_hasRow_13 : decode cX4_hasRow 13 = .ok (.if_icmp .ge 7, 3) := by decide +kernel
theorem dX4_hasRow_16 : decode cX4_hasRow 16 = .ok (.iconst 1, 1) := by decide +kernel
theorem dX4_hasRow_17 : decode cX4_hasRow 17 = .ok (.goto 4, 3) := by decide +kernel
theorem dX4_hasRow_20 : decode cX4_hasRow 20 = .ok (.iconst 0, 1) := by decide +kernel
theorem dX4_hasRow_21 : decode cX4_hasRow 21 = .ok (.ireturn, 1) := by decide +kernel
theorem dX4_leftOf_0 : decode cX4_leftOf 0 = .ok (.iload_n 1, 1) := by decide +kernel
theorem dX4_leftOf_1 : decode cX4_leftOf 1 = .ok (.ifCond .ne 12, 3) := by decide +kernel
theorem dX4_leftOf_4 : decode cX4_leftOf 4 = .ok (.aload_n 0, 1) := by decide +kernel
theorem dX4_leftOf_5 : decode cX4_leftOf 5 = .ok (.getfield 9, 3) := by decide +kernel
theorem dX4_leftOf_8 : decode cX4_leftOf 8 = .ok (.iconst 1, 1) := by decide +kernel
theorem dX4_leftOf_9 : decode cX4_leftOf 9 = .ok (.isub, 1) := by decide +kernel
theorem dX4_leftOf_10 : decode cX4_leftOf 10 = .ok (.goto 6, 3) := by decide +kernel
theorem dX4_leftOf_13 : decode cX4_leftOf 13 = .ok (.iload_n 1, 1) := by decide +kernel
theorem dX4_leftOf_14 : decode cX4_leftOf 14 = .ok (.iconst 1, 1) := by decide +kernel
theorem dX4_leftOf_15 : decode cX4_leftOf 15 = .ok (.isub, 1) := by decide +kernel
theorem dX4_leftOf_16 : decode cX4_leftOf 16 = .ok (.ireturn, 1) := by decide +kernel
theorem dX4_rightOf_0 : decode cX4_rightOf 0 = .ok (.iload_n 1, 1) := by decide +kernel
theorem dX4_rightOf_1 : decode cX4_rightOf 1 = .ok (.aload_n 0, 1) := by decide +kernel
theorem dX4_rightOf_2 : decode cX4_rightOf 2 = .ok (.getfield 9, 3) := by decide +kernel
theorem dX4_rightOf_5 : decode cX4_rightOf 5 = .ok (.iconst 1, 1) := by decide +kernel
theorem dX4_rightOf_6 : decode cX4_rightOf 6 = .ok (.isub, 1) := by decide +kernel
theorem dX4_rightOf_7 : decode cX4_rightOf 7 = .ok (.if_icmp .ne 7, 3) := by decide +kernel
theorem dX4_rightOf_10 : decode cX4_rightOf 10 = .ok (.iconst 0, 1) := by decide +kernel
theorem dX4_rightOf_11 : decode cX4_rightOf 11 = .ok (.goto 6, 3) := by decide +kernel
theorem dX4_rightOf_14 : decode cX4_rightOf 14 = .ok (.iload_n 1, 1) := by decide +kernel
theorem dX4_rightOf_15 : decode cX4_rightOf 15 = .ok (.iconst 1, 1) := by decide +kernel
theorem dX4_rightOf_16 : decode cX4_rightOf 16 = .ok (.iadd, 1) := by decide +kernel
theorem dX4_rightOf_17 : decode cX4_rightOf 17 = .ok (.ireturn, 1) := by decide +kernel
theorem dX4_worthOf_0 : decode cX4_worthOf 0 = .ok (.aload_n 0, 1) := by decide +kernel
theorem dX4_worthOf_1 : decode cX4_worthOf 1 = .ok (.getfield 24, 3) := by decide +kernel
theorem dX4_worthOf_4 : decode cX4_worthOf 4 = .ok (.iconst 0, 1) := by decide +kernel
theorem dX4_worthOf_5 : decode cX4_worthOf 5 = .ok (.iaload, 1) := by decide +kernel
theorem dX4_worthOf_6 : decode cX4_worthOf 6 = .ok (.iload_n 1, 1) := by decide +kernel
theorem dX4_worthOf_7 : decode cX4_worthOf 7 = .ok (.bipush 10, 2) := by decide +kernel
theorem dX4_worthOf_9 : decode cX4_worthOf 9 = .ok (.invokestatic 85, 3) := by decide +kernel
theorem dX4_worthOf_12 : decode cX4_worthOf 12 = .ok (.imul, 1) := by decide +kernel
theorem dX4_worthOf_13 : decode cX4_worthOf 13 = .ok (.aload_n 0, 1) := by decide +kernel
theorem dX4_worthOf_14 : decode cX4_worthOf 14 = .ok (.getfield 24, 3) := by decide +kernel
theorem dX4_worthOf_17 : decode cX4_worthOf 17 = .ok (.iconst 1, 1) := by decide +kernel
theorem dX4_worthOf_18 : decode cX4_worthOf 18 = .ok (.iaload, 1) := by decide +kernel
theorem dX4_worthOf_19 : decode cX4_worthOf 19 = .ok (.iconst 0, 1) := by decide +kernel
theorem dX4_worthOf_20 : decode cX4_worthOf 20 = .ok (.iload_n 1, 1) := by decide +kernel
theorem dX4_worthOf_21 : decode cX4_worthOf 21 = .ok (.bipush 30, 2) := by decide +kernel
theorem dX4_worthOf_23 : decode cX4_worthOf 23 = .ok (.invokestatic 85, 3) := by decide +kernel
theorem dX4_worthOf_26 : decode cX4_worthOf 26 = .ok (.bipush 10, 2) := by decide +kernel
theorem dX4_worthOf_28 : decode cX4_worthOf 28 = .ok (.isub, 1) := by decide +kernel
theorem dX4_worthOf_29 : decode cX4_worthOf 29 = .ok (.invokestatic 91, 3) := by decide +kernel
theorem dX4_worthOf_32 : decode cX4_worthOf 32 = .ok (.imul, 1) := by decide +kernel
theorem dX4_worthOf_33 : decode cX4_worthOf 33 = .ok (.iadd, 1) := by decide +kernel
theorem dX4_worthOf_34 : decode cX4_worthOf 34 = .ok (.aload_n 0, 1) := by decide +kernel
theorem dX4_worthOf_35 : decode cX4_worthOf 35 = .ok (.getfield 24, 3) := by decide +kernel
theorem dX4_worthOf_38 : decode cX4_worthOf 38 = .ok (.iconst 2, 1) := by decide +kernel
theorem dX4_worthOf_39 : decode cX4_worthOf 39 = .ok (.iaload, 1) := by decide +kernel
theorem dX4_worthOf_40 : decode cX4_worthOf 40 = .ok (.iconst 0, 1) := by decide +kernel
theorem dX4_worthOf_41 : decode cX4_worthOf 41 = .ok (.iload_n 1, 1) := by decide +kernel
theorem dX4_worthOf_42 : decode cX4_worthOf 42 = .ok (.bipush 30, 2) := by decide +kernel
theorem dX4_worthOf_44 : decode cX4_worthOf 44 = .ok (.isub, 1) := by decide +kernel
theorem dX4_worthOf_45 : decode cX4_worthOf 45 = .ok (.invokestatic 91, 3) := by decide +kernel
theorem dX4_worthOf_48 : decode cX4_worthOf 48 = .ok (.imul, 1) := by decide +kernel
theorem dX4_worthOf_49 : decode cX4_worthOf 49 = .ok (.iadd, 1) := by decide +kernel
theorem dX4_worthOf_50 : decode cX4_worthOf 50 = .ok (.ireturn, 1) := by decide +kernel
theorem dX4_added_0 : decode cX4_added 0 = .ok (.iconst 0, 1) := by decide +kernel
theorem dX4_added_1 : decode cX4_added 1 = .ok (.istore_n 2, 1) := by decide +kernel
theorem dX4_added_2 : decode cX4_added 2 = .ok (.iconst 0, 1) := by decide +kernel
theorem dX4_added_3 : decode cX4_added 3 = .ok (.istore_n 3, 1) := by decide +kernel
theorem dX4_added_4 : decode cX4_added 4 = .ok (.iload_n 3, 1) := by decide +kernel
theorem dX4_added_5 : decode cX4_added 5 = .ok (.aload_n 0, 1) := by decide +kernel
theorem dX4_added_6 : decode cX4_added 6 = .ok (.getfield 9, 3) := by decide +kernel
theorem dX4_added_9 : decode cX4_added 9 = .ok (.if_icmp .ge 20, 3) := by decide +kernel
theorem dX4_added_12 : decode cX4_added 12 = .ok (.iload_n 2, 1) := by decide +kernel
theorem dX4_added_13 : decode cX4_added 13 = .ok (.aload_n 0, 1) := by decide +kernel
theorem dX4_added_14 : decode cX4_added 14 = .ok (.getfield 30, 3) := by decide +kernel
theorem dX4_added_17 : decode cX4_added 17 = .ok (.iload_n 3, 1) := by decide +kernel
theorem dX4_added_18 : decode cX4_added 18 = .ok (.aaload, 1) := by decide +kernel
theorem dX4_added_19 : decode cX4_added 19 = .ok (.iload_n 1, 1) := by decide +kernel
theorem dX4_added_20 : decode cX4_added 20 = .ok (.iaload, 1) := by decide +kernel
theorem dX4_added_21 : decode cX4_added 21 = .ok (.iadd, 1) := by decide +kernel
theorem dX4_added_22 : decode cX4_added 22 = .ok (.istore_n 2, 1) := by decide +kernel
theorem dX4_added_23 : decode cX4_added 23 = .ok (.iinc 3 1, 3) := by decide +kernel
theorem dX4_added_26 : decode cX4_added 26 = .ok (.goto (-22), 3) := by decide +kernel
theorem dX4_added_29 : decode cX4_added 29 = .ok (.iload_n 2, 1) := by decide +kernel
theorem dX4_added_30 : decode cX4_added 30 = .ok (.ireturn, 1) := by decide +kernel
theorem dX4_allPurses_0 : decode cX4_allPurses 0 = .ok (.lconst 0, 1) := by decide +kernel
theorem dX4_allPurses_1 : decode cX4_allPurses 1 = .ok (.lstore_n 1, 1) := by decide +kernel
theorem dX4_allPurses_2 : decode cX4_allPurses 2 = .ok (.iconst 0, 1) := by decide +kernel
theorem dX4_allPurses_3 : decode cX4_allPurses 3 = .ok (.istore_n 3, 1) := by decide +kernel
theorem dX4_allPurses_4 : decode cX4_allPurses 4 = .ok (.iload_n 3, 1) := by decide +kernel
theorem dX4_allPurses_5 : decode cX4_allPurses 5 = .ok (.aload_n 0, 1) := by decide +kernel
theorem dX4_allPurses_6 : decode cX4_allPurses 6 = .ok (.getfield 9, 3) := by decide +kernel
theorem dX4_allPurses_9 : decode cX4_allPurses 9 = .ok (.if_icmp .ge 18, 3) := by decide +kernel
theorem dX4_allPurses_12 : decode cX4_allPurses 12 = .ok (.lload_n 1, 1) := by decide +kernel
theorem dX4_allPurses_13 : decode cX4_allPurses 13 = .ok (.aload_n 0, 1) := by decide +kernel
theorem dX4_allPurses_14 : decode cX4_allPurses 14 = .ok (.getfield 33, 3) := by decide +kernel
theorem dX4_allPurses_17 : decode cX4_allPurses 17 = .ok (.iload_n 3, 1) := by decide +kernel
theorem dX4_allPurses_18 : decode cX4_allPurses 18 = .ok (.laload, 1) := by decide +kernel
theorem dX4_allPurses_19 : decode cX4_allPurses 19 = .ok (.ladd, 1) := by decide +kernel
theorem dX4_allPurses_20 : decode cX4_allPurses 20 = .ok (.lstore_n 1, 1) := by decide +kernel
theorem dX4_allPurses_21 : decode cX4_allPurses 21 = .ok (.iinc 3 1, 3) := by decide +kernel
theorem dX4_allPurses_24 : decode cX4_allPurses 24 = .ok (.goto (-20), 3) := by decide +kernel
theorem dX4_allPurses_27 : decode cX4_allPurses 27 = .ok (.lload_n 1, 1) := by decide +kernel
theorem dX4_allPurses_28 : decode cX4_allPurses 28 = .ok (.lreturn, 1) := by decide +kernel
theorem dX4_purseAsInt_0 : decode cX4_purseAsInt 0 = .ok (.aload_n 0, 1) := by decide +kernel
theorem dX4_purseAsInt_1 : decode cX4_purseAsInt 1 = .ok (.getfield 33, 3) := by decide +kernel
theorem dX4_purseAsInt_4 : decode cX4_purseAsInt 4 = .ok (.iload_n 1, 1) := by decide +kernel
theorem dX4_purseAsInt_5 : decode cX4_purseAsInt 5 = .ok (.laload, 1) := by decide +kernel
theorem dX4_purseAsInt_6 : decode cX4_purseAsInt 6 = .ok (.l2i, 1) := by decide +kernel
theorem dX4_purseAsInt_7 : decode cX4_purseAsInt 7 = .ok (.ireturn, 1) := by decide +kernel
set_option maxRecDepth 20000 in
theorem ggX4_allWidths_X4_added : GoodIn wsX4_allWidths wsX4_added := goodIn_r _ [5, 6, 7, 8, 9, 10, 11, 12, 13, 14, 15, 16, 17, 18, 19] rfl (by decide +kernel)
set_option maxRecDepth 20000 in
theorem gX4_allWidths_X4_added : GoodIn wsX4_allWidths (wsV RX4 94 RX4 yX4_added wsX4_added) := goodIn_app (goodIn_of _ (by decide +kernel)) ggX4_allWidths_X4_added
theorem dX4_allWidths_0 : decode cX4_allWidths 0 = .ok (.aload_n 0, 1) := by decide +kernel
theorem dX4_allWidths_1 : decode cX4_allWidths 1 = .ok (.iconst 0, 1) := by decide +kernel
theorem dX4_allWidths_2 : decode cX4_allWidths 2 = .ok (.invokevirtual 94, 3) := by decide +kernel
theorem dX4_allWidths_5 : decode cX4_allWidths 5 = .ok (.ireturn, 1) := by decide +kernel
theorem dX4_countEaten_0 : decode cX4_countEaten 0 = .ok (.iconst 0, 1) := by decide +kernel
theorem dX4_countEaten_1 : decode cX4_countEaten 1 = .ok (.istore_n 1, 1) := by decide +kernel
theorem dX4_countEaten_2 : decode cX4_countEaten 2 = .ok (.iconst 0, 1) := by decide +kernel
theorem dX4_countEaten_3 : decode cX4_countEaten 3 = .ok (.istore_n 2, 1) := by decide +kernel
theorem dX4_countEaten_4 : decode cX4_countEaten 4 = .ok (.iload_n 2, 1) := by decide +kernel
theorem dX4_countEaten_5 : decode cX4_countEaten 5 = .ok (.aload_n 0, 1) := by decide +kernel
theorem dX4_countEaten_6 : decode cX4_countEaten 6 = .ok (.getfield 9, 3) := by decide +kernel
theorem dX4_countEaten_9 : decode cX4_countEaten 9 = .ok (.if_icmp .ge 25, 3) := by decide +kernel
theorem dX4_countEaten_12 : decode cX4_countEaten 12 = .ok (.aload_n 0, 1) := by decide +kernel
theorem dX4_countEaten_13 : decode cX4_countEaten 13 = .ok (.getfield 30, 3) := by decide +kernel
theorem dX4_countEaten_16 : decode cX4_countEaten 16 = .ok (.iload_n 2, 1) := by decide +kernel
theorem dX4_countEaten_17 : decode cX4_countEaten 17 = .ok (.aaload, 1) := by decide +kernel
theorem dX4_countEaten_18 : decode cX4_countEaten 18 = .ok (.bipush 7, 2) := by decide +kernel
theorem dX4_countEaten_20 : decode cX4_countEaten 20 = .ok (.iaload, 1) := by decide +kernel
theorem dX4_countEaten_21 : decode cX4_countEaten 21 = .ok (.iconst (-1), 1) := by decide +kernel
theorem dX4_countEaten_22 : decode cX4_countEaten 22 = .ok (.if_icmp .eq 6, 3) := by decide +kernel
theorem dX4_countEaten_25 : decode cX4_countEaten 25 = .ok (.iinc 1 1, 3) := by decide +kernel
theorem dX4_countEaten_28 : decode cX4_countEaten 28 = .ok (.iinc 2 1, 3) := by decide +kernel
theorem dX4_countEaten_31 : decode cX4_countEaten 31 = .ok (.goto (-27), 3) := by decide +kernel
theorem dX4_countEaten_34 : decode cX4_countEaten 34 = .ok (.iload_n 1, 1) := by decide +kernel
theorem dX4_countEaten_35 : decode cX4_countEaten 35 = .ok (.ireturn, 1) := by decide +kernel
set_option maxRecDepth 20000 in
theorem ggX4_does_X4_negate : GoodIn wsX4_does wsX4_negate := goodIn_r _ [10, 5, 51, 52, 53, 54, 55, 56, 57, 58, 59, 60, 61, 62] rfl (by decide +kernel)
set_option maxRecDepth 20000 in
theorem gX4_does_X4_negate : GoodIn wsX4_does (wsV RX4 100 RX4 yX4_negate wsX4_negate) := goodIn_app (goodIn_of _ (by decide +kernel)) ggX4_does_X4_negate
set_option maxRecDepth 20000 in
theorem ggX4_does_X4_join : GoodIn wsX4_does wsX4_join := goodIn_r _ [14, 5, 15, 16, 17, 18, 51, 52, 53, 54, 55, 56, 57, 58, 59, 60, 61, 62] rfl (by decide +kernel)
set_option maxRecDepth 20000 in
theorem gX4_does_X4_join : GoodIn wsX4_does (wsV RX4 103 RX4 yX4_join wsX4_join) := goodIn_app (goodIn_of _ (by decide +kernel)) ggX4_does_X4_join
set_option maxRecDepth 20000 in
theorem ggX4_does_X4_seen : GoodIn wsX4_does wsX4_seen := goodIn_r _ [22, 1, 23, 24, 25, 26, 27, 28, 29, 30, 31, 32, 9, 33, 34, 35, 36, 37, 38, 39, 40, 41, 42, 43, 44, 45, 46, 47, 48, 49, 50, 51, 52, 53, 54, 55, 56, 57, 58, 59, 60, 61, 62] rfl (by decide +kernel)
set_option maxRecDepth 20000 in
theorem gX4_does_X4_seen : GoodIn wsX4_does (wsV RX4 106 RX4 yX4_seen wsX4_seen) := goodIn_app (goodIn_of _ (by decide +kernel)) ggX4_does_X4_seen
theorem dX4_does_0 : decode cX4_does 0 = .ok (.aload_n 0, 1) := by decide +kernel
theorem dX4_does_1 : decode cX4_does 1 = .ok (.getfield 30, 3) := by decide +kernel
theorem dX4_does_4 : decode cX4_does 4 = .ok (.iload_n 1, 1) := by decide +kernel
theorem dX4_does_5 : decode cX4_does 5 = .ok (.aaload, 1) := by decide +kernel
theorem dX4_does_6 : decode cX4_does 6 = .ok (.iconst 0, 1) := by decide +kernel
theorem dX4_does_7 : decode cX4_does 7 = .ok (.iaload, 1) := by decide +kernel
theorem dX4_does_8 : decode cX4_does 8 = .ok (.ifCond .ne 5, 3) := by decide +kernel
theorem dX4_does_11 : decode cX4_does 11 = .ok (.iconst 0, 1) := by decide +kernel
theorem dX4_does_12 : decode cX4_does 12 = .ok (.ireturn, 1) := by decide +kernel
theorem dX4_does_13 : decode cX4_does 13 = .ok (.aload_n 0, 1) := by decide +kernel
theorem dX4_does_14 : decode cX4_does 14 = .ok (.getfield 42, 3) := by decide +kernel
theorem dX4_does_17 : decode cX4_does 17 = .ok (.aload_n 0, 1) := by decide +kernel
theorem dX4_does_18 : decode cX4_does 18 = .ok (.getfield 30, 3) := by decide +kernel
theorem dX4_does_21 : decode cX4_does 21 = .ok (.iload_n 1, 1) := by decide +kernel
theorem dX4_does_22 : decode cX4_does 22 = .ok (.aaload, 1) := by decide +kernel
theorem dX4_does_23 : decode cX4_does 23 = .ok (.iconst 1, 1) := by decide +kernel
theorem dX4_does_24 : decode cX4_does 24 = .ok (.iaload, 1) := by decide +kernel
theorem dX4_does_25 : decode cX4_does 25 = .ok (.aaload, 1) := by decide +kernel
theorem dX4_does_26 : decode cX4_does 26 = .ok (.astore_n 2, 1) := by decide +kernel
theorem dX4_does_27 : decode cX4_does 27 = .ok (.iconst 0, 1) := by decide +kernel
theorem dX4_does_28 : decode cX4_does 28 = .ok (.istore_n 3, 1) := by decide +kernel
theorem dX4_does_29 : decode cX4_does 29 = .ok (.iconst 0, 1) := by decide +kernel
theorem dX4_does_30 : decode cX4_does 30 = .ok (.istore 4, 2) := by decide +kernel
theorem dX4_does_32 : decode cX4_does 32 = .ok (.iload 4, 2) := by decide +kernel
theorem dX4_does_34 : decode cX4_does 34 = .ok (.aload_n 2, 1) := by decide +kernel
theorem dX4_does_35 : decode cX4_does 35 = .ok (.getfield 79, 3) := by decide +kernel
theorem dX4_does_38 : decode cX4_does 38 = .ok (.if_icmp .ge 134, 3) := by decide +kernel
theorem dX4_does_41 : decode cX4_does 41 = .ok (.aload_n 2, 1) := by decide +kernel
theorem dX4_does_42 : decode cX4_does 42 = .ok (.getfield 76, 3) := by decide +kernel
theorem dX4_does_45 : decode cX4_does 45 = .ok (.iload 4, 2) := by decide +kernel
theorem dX4_does_47 : decode cX4_does 47 = .ok (.iaload, 1) := by decide +kernel
theorem dX4_does_48 : decode cX4_does 48 = .ok (.istore 5, 2) := by decide +kernel
theorem dX4_does_50 : decode cX4_does 50 = .ok (.iload 5, 2) := by decide +kernel
theorem dX4_does_52 : decode cX4_does 52 = .ok (.sipush 10400, 3) := by decide +kernel
theorem dX4_does_55 : decode cX4_does 55 = .ok (.if_icmp .lt 30, 3) := by decide +kernel
theorem dX4_does_58 : decode cX4_does 58 = .ok (.iload_n 3, 1) := by decide +kernel
theorem dX4_does_59 : decode cX4_does 59 = .ok (.ifCond .le 21, 3) := by decide +kernel
theorem dX4_does_62 : decode cX4_does 62 = .ok (.aload_n 0, 1) := by decide +kernel
theorem dX4_does_63 : decode cX4_does 63 = .ok (.getfield 53, 3) := by decide +kernel
theorem dX4_does_66 : decode cX4_does 66 = .ok (.iload_n 3, 1) := by decide +kernel
theorem dX4_does_67 : decode cX4_does 67 = .ok (.iconst 1, 1) := by decide +kernel
theorem dX4_does_68 : decode cX4_does 68 = .ok (.isub, 1) := by decide +kernel
theorem dX4_does_69 : decode cX4_does 69 = .ok (.iaload, 1) := by decide +kernel
theorem dX4_does_70 : decode cX4_does 70 = .ok (.ifCond .eq 10, 3) := by decide +kernel
theorem dX4_does_73 : decode cX4_does 73 = .ok (.iload 5, 2) := by decide +kernel
theorem dX4_does_75 : decode cX4_does 75 = .ok (.sipush 10400, 3) := by decide +kernel
theorem dX4_does_78 : decode cX4_does 78 = .ok (.isub, 1) := by decide +kernel
theorem dX4_does_79 : decode cX4_does 79 = .ok (.ireturn, 1) := by decide +kernel
theorem dX4_does_80 : decode cX4_does 80 = .ok (.iconst 0, 1) := by decide +kernel
theorem dX4_does_81 : decode cX4_does 81 = .ok (.istore_n 3, 1) := by decide +kernel
theorem dX4_does_82 : decode cX4_does 82 = .ok (.goto 84, 3) := by decide +kernel
theorem dX4_does_85 : decode cX4_does 85 = .ok (.iload 5, 2) := by decide +kernel
theorem dX4_does_87 : decode cX4_does 87 = .ok (.sipush 10304, 3) := by decide +kernel
theorem dX4_does_90 : decode cX4_does 90 = .ok (.if_icmp .ne 11, 3) := by decide +kernel
theorem dX4_does_93 : decode cX4_does 93 = .ok (.aload_n 0, 1) := by decide +kernel
theorem dX4_does_94 : decode cX4_does 94 = .ok (.iload_n 3, 1) := by decide +kernel
theorem dX4_does_95 : decode cX4_does 95 = .ok (.invokevirtual 100, 3) := by decide +kernel
theorem dX4_does_98 : decode cX4_does 98 = .ok (.goto 68, 3) := by decide +kernel
theorem dX4_does_101 : decode cX4_does 101 = .ok (.iload 5, 2) := by decide +kernel
theorem dX4_does_103 : decode cX4_does 103 = .ok (.sipush 10100, 3) := by decide +kernel
theorem dX4_does_106 : decode cX4_does 106 = .ok (.if_icmp .lt 18, 3) := by decide +kernel
theorem dX4_does_109 : decode cX4_does 109 = .ok (.aload_n 0, 1) := by decide +kernel
theorem dX4_does_110 : decode cX4_does 110 = .ok (.iload 5, 2) := by decide +kernel
theorem dX4_does_112 : decode cX4_does 112 = .ok (.sipush 10100, 3) := by decide +kernel
theorem dX4_does_115 : decode cX4_does 115 = .ok (.isub, 1) := by decide +kernel
theorem dX4_does_116 : decode cX4_does 116 = .ok (.iload_n 3, 1) := by decide +kernel
theorem dX4_does_117 : decode cX4_does 117 = .ok (.invokevirtual 103, 3) := by decide +kernel
theorem dX4_does_120 : decode cX4_does 120 = .ok (.istore_n 3, 1) := by decide +kernel
theorem dX4_does_121 : decode cX4_does 121 = .ok (.goto 45, 3) := by decide +kernel
theorem dX4_does_124 : decode cX4_does 124 = .ok (.iload_n 3, 1) := by decide +kernel
theorem dX4_does_125 : decode cX4_does 125 = .ok (.aload_n 0, 1) := by decide +kernel
theorem dX4_does_126 : decode cX4_does 126 = .ok (.getfield 53, 3) := by decide +kernel
theorem dX4_does_129 : decode cX4_does 129 = .ok (.arraylength, 1) := by decide +kernel
theorem dX4_does_130 : decode cX4_does 130 = .ok (.if_icmp .ge 36, 3) := by decide +kernel
theorem dX4_does_133 : decode cX4_does 133 = .ok (.aload_n 0, 1) := by decide +kernel
theorem dX4_does_134 : decode cX4_does 134 = .ok (.getfield 53, 3) := by decide +kernel
theorem dX4_does_137 : decode cX4_does 137 = .ok (.iload_n 3, 1) := by decide +kernel
theorem dX4_does_138 : decode cX4_does 138 = .ok (.iload 5, 2) := by decide +kernel
theorem dX4_does_140 : decode cX4_does 140 = .ok (.sipush 10000, 3) := by decide +kernel
theorem dX4_does_143 : decode cX4_does 143 = .ok (.if_icmp .lt 17, 3) := by decide +kernel
theorem dX4_does_146 : decode cX4_does 146 = .ok (.aload_n 0, 1) := by decide +kernel
theorem dX4_does_147 : decode cX4_does 147 = .ok (.iload_n 1, 1) := by decide +kernel
theorem dX4_does_148 : decode cX4_does 148 = .ok (.iload 5, 2) := by decide +kernel
theorem dX4_does_150 : decode cX4_does 150 = .ok (.sipush 10000, 3) := by decide +kernel
theorem dX4_does_153 : decode cX4_does 153 = .ok (.isub, 1) := by decide +kernel
theorem dX4_does_154 : decode cX4_does 154 = .ok (.invokevirtual 106, 3) := by decide +kernel
theorem dX4_does_157 : decode cX4_does 157 = .ok (.goto 5, 3) := by decide +kernel
theorem dX4_does_160 : decode cX4_does 160 = .ok (.iload 5, 2) := by decide +kernel
theorem dX4_does_162 : decode cX4_does 162 = .ok (.iastore, 1) := by decide +kernel
theorem dX4_does_163 : decode cX4_does 163 = .ok (.iinc 3 1, 3) := by decide +kernel
theorem dX4_does_166 : decode cX4_does 166 = .ok (.iinc 4 1, 3) := by decide +kernel
theorem dX4_does_169 : decode cX4_does 169 = .ok (.goto (-137), 3) := by decide +kernel
theorem dX4_does_172 : decode cX4_does 172 = .ok (.iconst 0, 1) := by decide +kernel
theorem dX4_does_173 : decode cX4_does 173 = .ok (.ireturn, 1) := by decide +kernel
theorem dX4_negate_0 : decode cX4_negate 0 = .ok (.iload_n 1, 1) := by decide +kernel
theorem dX4_negate_1 : decode cX4_negate 1 = .ok (.ifCond .le 27, 3) := by decide +kernel
theorem dX4_negate_4 : decode cX4_negate 4 = .ok (.aload_n 0, 1) := by decide +kernel
theorem dX4_negate_5 : decode cX4_negate 5 = .ok (.getfield 53, 3) := by decide +kernel
theorem dX4_negate_8 : decode cX4_negate 8 = .ok (.iload_n 1, 1) := by decide +kernel
theorem dX4_negate_9 : decode cX4_negate 9 = .ok (.iconst 1, 1) := by decide +kernel
theorem dX4_negate_10 : decode cX4_negate 10 = .ok (.isub, 1) := by decide +kernel
theorem dX4_negate_11 : decode cX4_negate 11 = .ok (.aload_n 0, 1) := by decide +kernel
theorem dX4_negate_12 : decode cX4_negate 12 = .ok (.getfield 53, 3) := by decide +kernel
theorem dX4_negate_15 : decode cX4_negate 15 = .ok (.iload_n 1, 1) := by decide +kernel
theorem dX4_negate_16 : decode cX4_negate 16 = .ok (.iconst 1, 1) := by decide +kernel
theorem dX4_negate_17 : decode cX4_negate 17 = .ok (.isub, 1) := by decide +kernel
theorem dX4_negate_18 : decode cX4_negate 18 = .ok (.iaload, 1) := by decide +kernel
theorem dX4_negate_19 : decode cX4_negate 19 = .ok (.ifCond .ne 7, 3) := by decide +kernel
theorem dX4_negate_22 : decode cX4_negate 22 = .ok (.iconst 1, 1) := by decide +kernel
theorem dX4_negate_23 : decode cX4_negate 23 = .ok (.goto 4, 3) := by decide +kernel
theorem dX4_negate_26 : decode cX4_negate 26 = .ok (.iconst 0, 1) := by decide +kernel
theorem dX4_negate_27 : decode cX4_negate 27 = .ok (.iastore, 1) := by decide +kernel
theorem dX4_negate_28 : decode cX4_negate 28 = .ok (.return_, 1) := by decide +kernel
set_option maxRecDepth 20000 in
theorem ggX4_join_X2_joined : GoodIn wsX4_join wsX2_joined := goodIn_r _ [5] rfl (by decide +kernel)
set_option maxRecDepth 20000 in
theorem gX4_join_X2_joined : GoodIn wsX4_join (va_wsS RX4 109 yX2_joined wsX2_joined) := goodIn_app (goodIn_of _ (by decide +kernel)) ggX4_join_X2_joined
theorem dX4_join_0 : decode cX4_join 0 = .ok (.iload_n 2, 1) := by decide +kernel
theorem dX4_join_1 : decode cX4_join 1 = .ok (.iconst 2, 1) := by decide +kernel
theorem dX4_join_2 : decode cX4_join 2 = .ok (.if_icmp .ge 5, 3) := by decide +kernel
theorem dX4_join_5 : decode cX4_join 5 = .ok (.iload_n 2, 1) := by decide +kernel
theorem dX4_join_6 : decode cX4_join 6 = .ok (.ireturn, 1) := by decide +kernel
theorem dX4_join_7 : decode cX4_join 7 = .ok (.aload_n 0, 1) := by decide +kernel
theorem dX4_join_8 : decode cX4_join 8 = .ok (.getfield 53, 3) := by decide +kernel
theorem dX4_join_11 : decode cX4_join 11 = .ok (.iload_n 2, 1) := by decide +kernel
theorem dX4_join_12 : decode cX4_join 12 = .ok (.iconst 2, 1) := by decide +kernel
theorem dX4_join_13 : decode cX4_join 13 = .ok (.isub, 1) := by decide +kernel
theorem dX4_join_14 : decode cX4_join 14 = .ok (.iload_n 1, 1) := by decide +kernel
theorem dX4_join_15 : decode cX4_join 15 = .ok (.aload_n 0, 1) := by decide +kernel
theorem dX4_join_16 : decode cX4_join 16 = .ok (.getfield 53, 3) := by decide +kernel
theorem dX4_join_19 : decode cX4_join 19 = .ok (.iload_n 2, 1) := by decide +kernel
theorem dX4_join_20 : decode cX4_join 20 = .ok (.iconst 2, 1) := by decide +kernel
theorem dX4_join_21 : decode cX4_join 21 = .ok (.isub, 1) := by decide +kernel
theorem dX4_join_22 : decode cX4_join 22 = .ok (.iaload, 1) := by decide +kernel
theorem dX4_join_23 : decode cX4_join 23 = .ok (.aload_n 0, 1) := by decide +kernel
theorem dX4_join_24 : decode cX4_join 24 = .ok (.getfield 53, 3) := by decide +kernel
theorem dX4_join_27 : decode cX4_join 27 = .ok (.iload_n 2, 1) := by decide +kernel
theorem dX4_join_28 : decode cX4_join 28 = .ok (.iconst 1, 1) := by decide +kernel
theorem dX4_join_29 : decode cX4_join 29 = .ok (.isub, 1) := by decide +kernel
theorem dX4_join_30 : decode cX4_join 30 = .ok (.iaload, 1) := by decide +kernel
theorem dX4_join_31 : decode cX4_join 31 = .ok (.invokestatic 109, 3) := by decide +kernel
theorem dX4_join_34 : decode cX4_join 34 = .ok (.iastore, 1) := by decide +kernel
theorem dX4_join_35 : decode cX4_join 35 = .ok (.iload_n 2, 1) := by decide +kernel
theorem dX4_join_36 : decode cX4_join 36 = .ok (.iconst 1, 1) := by decide +kernel
theorem dX4_join_37 : decode cX4_join 37 = .ok (.isub, 1) := by decide +kernel
theorem dX4_join_38 : decode cX4_join 38 = .ok (.ireturn, 1) := by decide +kernel
set_option maxRecDepth 20000 in
theorem ggX4_seen_X4_leftOf : GoodIn wsX4_seen wsX4_leftOf := goodIn_r _ [13, 14, 31, 32, 33, 34, 35, 36, 37, 38, 39, 40, 41, 42] rfl (by decide +kernel)
set_option maxRecDepth 20000 in
theorem gX4_seen_X4_leftOf : GoodIn wsX4_seen (wsV RX4 113 RX4 yX4_leftOf wsX4_leftOf) := goodIn_app (goodIn_of _ (by decide +kernel)) ggX4_seen_X4_leftOf
set_option maxRecDepth 20000 in
theorem ggX4_seen_X4_rightOf : GoodIn wsX4_seen wsX4_rightOf := goodIn_r _ [18, 14, 31, 32, 33, 34, 35, 36, 37, 38, 39, 40, 41, 42] rfl (by decide +kernel)
set_option maxRecDepth 20000 in
theorem gX4_seen_X4_rightOf : GoodIn wsX4_seen (wsV RX4 116 RX4 yX4_rightOf wsX4_rightOf) := goodIn_app (goodIn_of _ (by decide +kernel)) ggX4_seen_X4_rightOf
set_option maxRecDepth 20000 in
theorem ggX4_seen_X4_worthOf : GoodIn wsX4_seen wsX4_worthOf := goodIn_r _ [22, 2, 23, 24, 5, 25, 3, 4, 6, 31, 32, 33, 34, 35, 36, 37, 38, 39, 40, 41, 42] rfl (by decide +kernel)
set_option maxRecDepth 20000 in
theorem gX4_seen_X4_worthOf : GoodIn wsX4_seen (wsV RX4 119 RX4 yX4_worthOf wsX4_worthOf) := goodIn_app (goodIn_of _ (by decide +kernel)) ggX4_seen_X4_worthOf
set_option maxRecDepth 20000 in
theorem ggX4_seen_X4_purseAsInt : GoodIn wsX4_seen wsX4_purseAsInt := goodIn_r _ [29, 30, 31, 32, 33, 34, 35, 36, 37, 38, 39, 40, 41, 42] rfl (by decide +kernel)
set_option maxRecDepth 20000 in
theorem gX4_seen_X4_purseAsInt : GoodIn wsX4_seen (wsV RX4 122 RX4 yX4_purseAsInt wsX4_purseAsInt) := goodIn_app (goodIn_of _ (by decide +kernel)) ggX4_seen_X4_purseAsInt
theorem dX4_seen_0 : decode cX4_seen 0 = .ok (.aload_n 0, 1) := by decide +kernel
theorem dX4_seen_1 : decode cX4_seen 1 = .ok (.getfield 30, 3) := by decide +kernel
theorem dX4_seen_4 : decode cX4_seen 4 = .ok (.iload_n 1, 1) := by decide +kernel
theorem dX4_seen_5 : decode cX4_seen 5 = .ok (.aaload, 1) := by decide +kernel
theorem dX4_seen_6 : decode cX4_seen 6 = .ok (.astore_n 3, 1) := by decide +kernel
theorem dX4_seen_7 : decode cX4_seen 7 = .ok (.aload_n 0, 1) := by decide +kernel
theorem dX4_seen_8 : decode cX4_seen 8 = .ok (.iload_n 1, 1) := by decide +kernel
theorem dX4_seen_9 : decode cX4_seen 9 = .ok (.invokevirtual 113, 3) := by decide +kernel
theorem dX4_seen_12 : decode cX4_seen 12 = .ok (.istore 4, 2) := by decide +kernel
theorem dX4_seen_14 : decode cX4_seen 14 = .ok (.aload_n 0, 1) := by decide +kernel
theorem dX4_seen_15 : decode cX4_seen 15 = .ok (.iload_n 1, 1) := by decide +kernel
theorem dX4_seen_16 : decode cX4_seen 16 = .ok (.invokevirtual 116, 3) := by decide +kernel
theorem dX4_seen_19 : decode cX4_seen 19 = .ok (.istore 5, 2) := by decide +kernel
theorem dX4_seen_21 : decode cX4_seen 21 = .ok (.aload_n 3, 1) := by decide +kernel
theorem dX4_seen_22 : decode cX4_seen 22 = .ok (.iconst 0, 1) := by decide +kernel
theorem dX4_seen_23 : decode cX4_seen 23 = .ok (.iaload, 1) := by decide +kernel
theorem dX4_seen_24 : decode cX4_seen 24 = .ok (.istore 6, 2) := by decide +kernel
theorem dX4_seen_26 : decode cX4_seen 26 = .ok (.iload_n 2, 1) := by decide +kernel
theorem dX4_seen_27 : decode cX4_seen 27 = .ok (.tableswitch 234 0 13 #[69, 72, 82, 92, 114, 140, 145, 149, 153, 163, 173, 194, 215, 225], 69) := by decide +kernel
theorem dX4_seen_96 : decode cX4_seen 96 = .ok (.iload 6, 2) := by decide +kernel
theorem dX4_seen_98 : decode cX4_seen 98 = .ok (.ireturn, 1) := by decide +kernel
theorem dX4_seen_99 : decode cX4_seen 99 = .ok (.aload_n 0, 1) := by decide +kernel
theorem dX4_seen_100 : decode cX4_seen 100 = .ok (.getfield 30, 3) := by decide +kernel
theorem dX4_seen_103 : decode cX4_seen 103 = .ok (.iload 4, 2) := by decide +kernel
theorem dX4_seen_105 : decode cX4_seen 105 = .ok (.aaload, 1) := by decide +kernel
theorem dX4_seen_106 : decode cX4_seen 106 = .ok (.iconst 0, 1) := by decide +kernel
theorem dX4_seen_107 : decode cX4_seen 107 = .ok (.iaload, 1) := by decide +kernel
theorem dX4_seen_108 : decode cX4_seen 108 = .ok (.ireturn, 1) := by decide +kernel
theorem dX4_seen_109 : decode cX4_seen 109 = .ok (.aload_n 0, 1) := by decide +kernel
theorem dX4_seen_110 : decode cX4_seen 110 = .ok (.getfield 30, 3) := by decide +kernel
theorem dX4_seen_113 : decode cX4_seen 113 = .ok (.iload 5, 2) := by decide +kernel
theorem dX4_seen_115 : decode cX4_seen 115 = .ok (.aaload, 1) := by decide +kernel
theorem dX4_seen_116 : decode cX4_seen 116 = .ok (.iconst 0, 1) := by decide +kernel
theorem dX4_seen_117 : decode cX4_seen 117 = .ok (.iaload, 1) := by decide +kernel
theorem dX4_seen_118 : decode cX4_seen 118 = .ok (.ireturn, 1) := by decide +kernel
theorem dX4_seen_119 : decode cX4_seen 119 = .ok (.aload_n 0, 1) := by decide +kernel
theorem dX4_seen_120 : decode cX4_seen 120 = .ok (.iload 6, 2) := by decide +kernel
theorem dX4_seen_122 : decode cX4_seen 122 = .ok (.aload_n 0, 1) := by decide +kernel
theorem dX4_seen_123 : decode cX4_seen 123 = .ok (.getfield 24, 3) := by decide +kernel
theorem dX4_seen_126 : decode cX4_seen 126 = .ok (.bipush 9, 2) := by decide +kernel
theorem dX4_seen_128 : decode cX4_seen 128 = .ok (.iaload, 1) := by decide +kernel
theorem dX4_seen_129 : decode cX4_seen 129 = .ok (.iadd, 1) := by decide +kernel
theorem dX4_seen_130 : decode cX4_seen 130 = .ok (.invokevirtual 119, 3) := by decide +kernel
theorem dX4_seen_133 : decode cX4_seen 133 = .ok (.aload_n 0, 1) := by decide +kernel
theorem dX4_seen_134 : decode cX4_seen 134 = .ok (.iload 6, 2) := by decide +kernel
theorem dX4_seen_136 : decode cX4_seen 136 = .ok (.invokevirtual 119, 3) := by decide +kernel
theorem dX4_seen_139 : decode cX4_seen 139 = .ok (.isub, 1) := by decide +kernel
theorem dX4_seen_140 : decode cX4_seen 140 = .ok (.ireturn, 1) := by decide +kernel
theorem dX4_seen_141 : decode cX4_seen 141 = .ok (.aload_n 0, 1) := by decide +kernel
theorem dX4_seen_142 : decode cX4_seen 142 = .ok (.iload 6, 2) := by decide +kernel
theorem dX4_seen_144 : decode cX4_seen 144 = .ok (.invokevirtual 119, 3) := by decide +kernel
theorem dX4_seen_147 : decode cX4_seen 147 = .ok (.aload_n 0, 1) := by decide +kernel
theorem dX4_seen_148 : decode cX4_seen 148 = .ok (.iconst 0, 1) := by decide +kernel
theorem dX4_seen_149 : decode cX4_seen 149 = .ok (.iload 6, 2) := by decide +kernel
theorem dX4_seen_151 : decode cX4_seen 151 = .ok (.aload_n 0, 1) := by decide +kernel
theorem dX4_seen_152 : decode cX4_seen 152 = .ok (.getfield 24, 3) := by decide +kernel
theorem dX4_seen_155 : decode cX4_seen 155 = .ok (.bipush 9, 2) := by decide +kernel
theorem dX4_seen_157 : decode cX4_seen 157 = .ok (.iaload, 1) := by decide +kernel
theorem dX4_seen_158 : decode cX4_seen 158 = .ok (.isub, 1) := by decide +kernel
theorem dX4_seen_159 : decode cX4_seen 159 = .ok (.invokestatic 91, 3) := by decide +kernel
theorem dX4_seen_162 : decode cX4_seen 162 = .ok (.invokevirtual 119, 3) := by decide +kernel
theorem dX4_seen_165 : decode cX4_seen 165 = .ok (.isub, 1) := by decide +kernel
theorem dX4_seen_166 : decode cX4_seen 166 = .ok (.ireturn, 1) := by decide +kernel
theorem dX4_seen_167 : decode cX4_seen 167 = .ok (.aload_n 0, 1) := by decide +kernel
theorem dX4_seen_168 : decode cX4_seen 168 = .ok (.getfield 18, 3) := by decide +kernel
theorem dX4_seen_171 : decode cX4_seen 171 = .ok (.ireturn, 1) := by decide +kernel
theorem dX4_seen_172 : decode cX4_seen 172 = .ok (.aload_n 3, 1) := by decide +kernel
theorem dX4_seen_173 : decode cX4_seen 173 = .ok (.iconst 5, 1) := by decide +kernel
theorem dX4_seen_174 : decode cX4_seen 174 = .ok (.iaload, 1) := by decide +kernel
theorem dX4_seen_175 : decode cX4_seen 175 = .ok (.ireturn, 1) := by decide +kernel
theorem dX4_seen_176 : decode cX4_seen 176 = .ok (.aload_n 3, 1) := by decide +kernel
theorem dX4_seen_177 : decode cX4_seen 177 = .ok (.iconst 3, 1) := by decide +kernel
theorem dX4_seen_178 : decode cX4_seen 178 = .ok (.iaload, 1) := by decide +kernel
theorem dX4_seen_179 : decode cX4_seen 179 = .ok (.ireturn, 1) := by decide +kernel
theorem dX4_seen_180 : decode cX4_seen 180 = .ok (.aload_n 0, 1) := by decide +kernel
theorem dX4_seen_181 : decode cX4_seen 181 = .ok (.getfield 30, 3) := by decide +kernel
theorem dX4_seen_184 : decode cX4_seen 184 = .ok (.iload 4, 2) := by decide +kernel
theorem dX4_seen_186 : decode cX4_seen 186 = .ok (.aaload, 1) := by decide +kernel
theorem dX4_seen_187 : decode cX4_seen 187 = .ok (.iconst 3, 1) := by decide +kernel
theorem dX4_seen_188 : decode cX4_seen 188 = .ok (.iaload, 1) := by decide +kernel
theorem dX4_seen_189 : decode cX4_seen 189 = .ok (.ireturn, 1) := by decide +kernel
theorem dX4_seen_190 : decode cX4_seen 190 = .ok (.aload_n 0, 1) := by decide +kernel
theorem dX4_seen_191 : decode cX4_seen 191 = .ok (.getfield 30, 3) := by decide +kernel
theorem dX4_seen_194 : decode cX4_seen 194 = .ok (.iload 5, 2) := by decide +kernel
theorem dX4_seen_196 : decode cX4_seen 196 = .ok (.aaload, 1) := by decide +kernel
theorem dX4_seen_197 : decode cX4_seen 197 = .ok (.iconst 3, 1) := by decide +kernel
theorem dX4_seen_198 : decode cX4_seen 198 = .ok (.iaload, 1) := by decide +kernel
theorem dX4_seen_199 : decode cX4_seen 199 = .ok (.ireturn, 1) := by decide +kernel
theorem dX4_seen_200 : decode cX4_seen 200 = .ok (.aload_n 0, 1) := by decide +kernel
theorem dX4_seen_201 : decode cX4_seen 201 = .ok (.getfield 30, 3) := by decide +kernel
theorem dX4_seen_204 : decode cX4_seen 204 = .ok (.iload 4, 2) := by decide +kernel
theorem dX4_seen_206 : decode cX4_seen 206 = .ok (.aaload, 1) := by decide +kernel
theorem dX4_seen_207 : decode cX4_seen 207 = .ok (.iconst 2, 1) := by decide +kernel
theorem dX4_seen_208 : decode cX4_seen 208 = .ok (.iaload, 1) := by decide +kernel
theorem dX4_seen_209 : decode cX4_seen 209 = .ok (.aload_n 3, 1) := by decide +kernel
theorem dX4_seen_210 : decode cX4_seen 210 = .ok (.iconst 2, 1) := by decide +kernel
theorem dX4_seen_211 : decode cX4_seen 211 = .ok (.iaload, 1) := by decide +kernel
theorem dX4_seen_212 : decode cX4_seen 212 = .ok (.if_icmp .ne 7, 3) := by decide +kernel
theorem dX4_seen_215 : decode cX4_seen 215 = .ok (.iconst 1, 1) := by decide +kernel
theorem dX4_seen_216 : decode cX4_seen 216 = .ok (.goto 4, 3) := by decide +kernel
theorem dX4_seen_219 : decode cX4_seen 219 = .ok (.iconst 0, 1) := by decide +kernel
theorem dX4_seen_220 : decode cX4_seen 220 = .ok (.ireturn, 1) := by decide +kernel
theorem dX4_seen_221 : decode cX4_seen 221 = .ok (.aload_n 0, 1) := by decide +kernel
theorem dX4_seen_222 : decode cX4_seen 222 = .ok (.getfield 30, 3) := by decide +kernel
theorem dX4_seen_225 : decode cX4_seen 225 = .ok (.iload 5, 2) := by decide +kernel
theorem dX4_seen_227 : decode cX4_seen 227 = .ok (.aaload, 1) := by decide +kernel
theorem dX4_seen_228 : decode cX4_seen 228 = .ok (.iconst 2, 1) := by decide +kernel
theorem dX4_seen_229 : decode cX4_seen 229 = .ok (.iaload, 1) := by decide +kernel
theorem dX4_seen_230 : decode cX4_seen 230 = .ok (.aload_n 3, 1) := by decide +kernel
theorem dX4_seen_231 : decode cX4_seen 231 = .ok (.iconst 2, 1) := by decide +kernel
theorem dX4_seen_232 : decode cX4_seen 232 = .ok (.iaload, 1) := by decide +kernel
theorem dX4_seen_233 : decode cX4_seen 233 = .ok (.if_icmp .ne 7, 3) := by decide +kernel
theorem dX4_seen_236 : decode cX4_seen 236 = .ok (.iconst 1, 1) := by decide +kernel
theorem dX4_seen_237 : decode cX4_seen 237 = .ok (.goto 4, 3) := by decide +kernel
theorem dX4_seen_240 : decode cX4_seen 240 = .ok (.iconst 0, 1) := by decide +kernel
theorem dX4_seen_241 : decode cX4_seen 241 = .ok (.ireturn, 1) := by decide +kernel
theorem dX4_seen_242 : decode cX4_seen 242 = .ok (.aload_n 0, 1) := by decide +kernel
theorem dX4_seen_243 : decode cX4_seen 243 = .ok (.getfield 37, 3) := by decide +kernel
theorem dX4_seen_246 : decode cX4_seen 246 = .ok (.iload 4, 2) := by decide +kernel
theorem dX4_seen_248 : decode cX4_seen 248 = .ok (.aaload, 1) := by decide +kernel
theorem dX4_seen_249 : decode cX4_seen 249 = .ok (.iconst 0, 1) := by decide +kernel
theorem dX4_seen_250 : decode cX4_seen 250 = .ok (.iaload, 1) := by decide +kernel
theorem dX4_seen_251 : decode cX4_seen 251 = .ok (.ireturn, 1) := by decide +kernel
theorem dX4_seen_252 : decode cX4_seen 252 = .ok (.aload_n 0, 1) := by decide +kernel
theorem dX4_seen_253 : decode cX4_seen 253 = .ok (.getfield 37, 3) := by decide +kernel
theorem dX4_seen_256 : decode cX4_seen 256 = .ok (.iload_n 1, 1) := by decide +kernel
theorem dX4_seen_257 : decode cX4_seen 257 = .ok (.aaload, 1) := by decide +kernel
theorem dX4_seen_258 : decode cX4_seen 258 = .ok (.iconst 0, 1) := by decide +kernel
theorem dX4_seen_259 : decode cX4_seen 259 = .ok (.iaload, 1) := by decide +kernel
theorem dX4_seen_260 : decode cX4_seen 260 = .ok (.ireturn, 1) := by decide +kernel
theorem dX4_seen_261 : decode cX4_seen 261 = .ok (.aload_n 0, 1) := by decide +kernel
theorem dX4_seen_262 : decode cX4_seen 262 = .ok (.iload_n 1, 1) := by decide +kernel
theorem dX4_seen_263 : decode cX4_seen 263 = .ok (.invokevirtual 122, 3) := by decide +kernel
theorem dX4_seen_266 : decode cX4_seen 266 = .ok (.ireturn, 1) := by decide +kernel
set_option maxRecDepth 20000 in
theorem ggX4_pass_X4_does : GoodIn wsX4_pass wsX4_does := goodIn_r _ [9, 10, 11, 12, 13, 14, 15, 16, 17, 8, 18, 19, 20, 21, 22, 23, 24, 25, 26, 27, 28, 29, 30, 31, 32, 33, 34, 35, 4, 36, 37, 38, 39, 40, 1, 41, 42, 43, 44, 45, 46, 47, 48, 49, 50, 51, 52, 53, 54, 55, 56, 81, 82, 83, 84, 85, 86, 87, 88, 89, 90, 91, 92, 93, 94] rfl (by decide +kernel)
set_option maxRecDepth 20000 in
theorem gX4_pass_X4_does : GoodIn wsX4_pass (wsV RX4 125 RX4 yX4_does wsX4_does) := goodIn_app (goodIn_of _ (by decide +kernel)) ggX4_pass_X4_does
set_option maxRecDepth 20000 in
theorem ggX4_pass_X4_creep : GoodIn wsX4_pass wsX4_creep := goodIn_r _ [60, 2, 36, 10, 31, 56, 49, 50, 34, 51, 61, 3, 37, 38, 39, 8, 40, 1, 41, 42, 43, 44, 62, 63, 64, 65, 66, 67, 68, 69, 70, 71, 72, 81, 82, 83, 84, 85, 86, 87, 88, 89, 90, 91, 92] rfl (by decide +kernel)
set_option maxRecDepth 20000 in
theorem gX4_pass_X4_creep : GoodIn wsX4_pass (wsV RX4 128 RX4 yX4_creep wsX4_creep) := goodIn_app (goodIn_of _ (by decide +kernel)) ggX4_pass_X4_creep
set_option maxRecDepth 20000 in
theorem ggX4_pass_X4_settle : GoodIn wsX4_pass wsX4_settle := goodIn_r _ [76, 10, 56, 2, 3, 49, 50, 34, 51, 4, 45, 46, 47, 8, 48, 31, 32, 33, 35, 77, 78, 79, 80, 81, 82, 83, 84, 85, 86, 87, 88, 89, 90, 91, 92] rfl (by decide +kernel)
set_option maxRecDepth 20000 in
theorem gX4_pass_X4_settle : GoodIn wsX4_pass (wsV RX4 131 RX4 yX4_settle wsX4_settle) := goodIn_app (goodIn_of _ (by decide +kernel)) ggX4_pass_X4_settle
theorem dX4_pass_0 : decode cX4_pass 0 = .ok (.iconst 0, 1) := by decide +kernel
theorem dX4_pass_1 : decode cX4_pass 1 = .ok (.istore_n 2, 1) := by decide +kernel
theorem dX4_pass_2 : decode cX4_pass 2 = .ok (.iload_n 2, 1) := by decide +kernel
theorem dX4_pass_3 : decode cX4_pass 3 = .ok (.iload_n 1, 1) := by decide +kernel
theorem dX4_pass_4 : decode cX4_pass 4 = .ok (.if_icmp .ge 115, 3) := by decide +kernel
theorem dX4_pass_7 : decode cX4_pass 7 = .ok (.iconst 0, 1) := by decide +kernel
theorem dX4_pass_8 : decode cX4_pass 8 = .ok (.istore_n 3, 1) := by decide +kernel
theorem dX4_pass_9 : decode cX4_pass 9 = .ok (.iload_n 3, 1) := by decide +kernel
theorem dX4_pass_10 : decode cX4_pass 10 = .ok (.aload_n 0, 1) := by decide +kernel
theorem dX4_pass_11 : decode cX4_pass 11 = .ok (.getfield 9, 3) := by decide +kernel
theorem dX4_pass_14 : decode cX4_pass 14 = .ok (.if_icmp .ge 27, 3) := by decide +kernel
theorem dX4_pass_17 : decode cX4_pass 17 = .ok (.aload_n 0, 1) := by decide +kernel
theorem dX4_pass_18 : decode cX4_pass 18 = .ok (.getfield 46, 3) := by decide +kernel
theorem dX4_pass_21 : decode cX4_pass 21 = .ok (.iload_n 3, 1) := by decide +kernel
theorem dX4_pass_22 : decode cX4_pass 22 = .ok (.aload_n 0, 1) := by decide +kernel
theorem dX4_pass_23 : decode cX4_pass 23 = .ok (.iload_n 3, 1) := by decide +kernel
theorem dX4_pass_24 : decode cX4_pass 24 = .ok (.invokevirtual 125, 3) := by decide +kernel
theorem dX4_pass_27 : decode cX4_pass 27 = .ok (.iastore, 1) := by decide +kernel
theorem dX4_pass_28 : decode cX4_pass 28 = .ok (.aload_n 0, 1) := by decide +kernel
theorem dX4_pass_29 : decode cX4_pass 29 = .ok (.getfield 49, 3) := by decide +kernel
theorem dX4_pass_32 : decode cX4_pass 32 = .ok (.iload_n 3, 1) := by decide +kernel
theorem dX4_pass_33 : decode cX4_pass 33 = .ok (.iconst 0, 1) := by decide +kernel
theorem dX4_pass_34 : decode cX4_pass 34 = .ok (.bastore, 1) := by decide +kernel
theorem dX4_pass_35 : decode cX4_pass 35 = .ok (.iinc 3 1, 3) := by decide +kernel
theorem dX4_pass_38 : decode cX4_pass 38 = .ok (.goto (-29), 3) := by decide +kernel
theorem dX4_pass_41 : decode cX4_pass 41 = .ok (.iconst 0, 1) := by decide +kernel
theorem dX4_pass_42 : decode cX4_pass 42 = .ok (.istore_n 3, 1) := by decide +kernel
theorem dX4_pass_43 : decode cX4_pass 43 = .ok (.iload_n 3, 1) := by decide +kernel
theorem dX4_pass_44 : decode cX4_pass 44 = .ok (.aload_n 0, 1) := by decide +kernel
theorem dX4_pass_45 : decode cX4_pass 45 = .ok (.getfield 9, 3) := by decide +kernel
theorem dX4_pass_48 : decode cX4_pass 48 = .ok (.if_icmp .ge 34, 3) := by decide +kernel
theorem dX4_pass_51 : decode cX4_pass 51 = .ok (.aload_n 0, 1) := by decide +kernel
theorem dX4_pass_52 : decode cX4_pass 52 = .ok (.getfield 46, 3) := by decide +kernel
theorem dX4_pass_55 : decode cX4_pass 55 = .ok (.iload_n 3, 1) := by decide +kernel
theorem dX4_pass_56 : decode cX4_pass 56 = .ok (.iaload, 1) := by decide +kernel
theorem dX4_pass_57 : decode cX4_pass 57 = .ok (.iconst 2, 1) := by decide +kernel
theorem dX4_pass_58 : decode cX4_pass 58 = .ok (.if_icmp .eq 13, 3) := by decide +kernel
theorem dX4_pass_61 : decode cX4_pass 61 = .ok (.aload_n 0, 1) := by decide +kernel
theorem dX4_pass_62 : decode cX4_pass 62 = .ok (.getfield 46, 3) := by decide +kernel
theorem dX4_pass_65 : decode cX4_pass 65 = .ok (.iload_n 3, 1) := by decide +kernel
theorem dX4_pass_66 : decode cX4_pass 66 = .ok (.iaload, 1) := by decide +kernel
theorem dX4_pass_67 : decode cX4_pass 67 = .ok (.iconst 3, 1) := by decide +kernel
theorem dX4_pass_68 : decode cX4_pass 68 = .ok (.if_icmp .ne 8, 3) := by decide +kernel
theorem dX4_pass_71 : decode cX4_pass 71 = .ok (.aload_n 0, 1) := by decide +kernel
theorem dX4_pass_72 : decode cX4_pass 72 = .ok (.iload_n 3, 1) := by decide +kernel
theorem dX4_pass_73 : decode cX4_pass 73 = .ok (.invokevirtual 128, 3) := by decide +kernel
theorem dX4_pass_76 : decode cX4_pass 76 = .ok (.iinc 3 1, 3) := by decide +kernel
theorem dX4_pass_79 : decode cX4_pass 79 = .ok (.goto (-36), 3) := by decide +kernel
theorem dX4_pass_82 : decode cX4_pass 82 = .ok (.iconst 0, 1) := by decide +kernel
theorem dX4_pass_83 : decode cX4_pass 83 = .ok (.istore_n 3, 1) := by decide +kernel
theorem dX4_pass_84 : decode cX4_pass 84 = .ok (.iload_n 3, 1) := by decide +kernel
theorem dX4_pass_85 : decode cX4_pass 85 = .ok (.aload_n 0, 1) := by decide +kernel
theorem dX4_pass_86 : decode cX4_pass 86 = .ok (.getfield 9, 3) := by decide +kernel
theorem dX4_pass_89 : decode cX4_pass 89 = .ok (.if_icmp .ge 14, 3) := by decide +kernel
theorem dX4_pass_92 : decode cX4_pass 92 = .ok (.aload_n 0, 1) := by decide +kernel
theorem dX4_pass_93 : decode cX4_pass 93 = .ok (.iload_n 3, 1) := by decide +kernel
theorem dX4_pass_94 : decode cX4_pass 94 = .ok (.invokevirtual 131, 3) := by decide +kernel
theorem dX4_pass_97 : decode cX4_pass 97 = .ok (.iinc 3 1, 3) := by decide +kernel
theorem dX4_pass_100 : decode cX4_pass 100 = .ok (.goto (-16), 3) := by decide +kernel
theorem dX4_pass_103 : decode cX4_pass 103 = .ok (.aload_n 0, 1) := by decide +kernel
theorem dX4_pass_104 : decode cX4_pass 104 = .ok (.dup, 1) := by decide +kernel
theorem dX4_pass_105 : decode cX4_pass 105 = .ok (.getfield 18, 3) := by decide +kernel
theorem dX4_pass_108 : decode cX4_pass 108 = .ok (.iconst 1, 1) := by decide +kernel
theorem dX4_pass_109 : decode cX4_pass 109 = .ok (.iadd, 1) := by decide +kernel
theorem dX4_pass_110 : decode cX4_pass 110 = .ok (.putfield 18, 3) := by decide +kernel
theorem dX4_pass_113 : decode cX4_pass 113 = .ok (.iinc 2 1, 3) := by decide +kernel
theorem dX4_pass_116 : decode cX4_pass 116 = .ok (.goto (-114), 3) := by decide +kernel
theorem dX4_pass_119 : decode cX4_pass 119 = .ok (.return_, 1) := by decide +kernel
set_option maxRecDepth 20000 in
theorem ggX4_creep_X4_leftOf : GoodIn wsX4_creep wsX4_leftOf := goodIn_r _ [16, 17, 33, 34, 35, 36, 37, 38, 39, 40, 41, 42, 43, 44] rfl (by decide +kernel)
set_option maxRecDepth 20000 in
theorem gX4_creep_X4_leftOf : GoodIn wsX4_creep (wsV RX4 113 RX4 yX4_leftOf wsX4_leftOf) := goodIn_app (goodIn_of _ (by decide +kernel)) ggX4_creep_X4_leftOf
set_option maxRecDepth 20000 in
theorem ggX4_creep_X4_rightOf : GoodIn wsX4_creep wsX4_rightOf := goodIn_r _ [21, 17, 33, 34, 35, 36, 37, 38, 39, 40, 41, 42, 43, 44] rfl (by decide +kernel)
set_option maxRecDepth 20000 in
theorem gX4_creep_X4_rightOf : GoodIn wsX4_creep (wsV RX4 116 RX4 yX4_rightOf wsX4_rightOf) := goodIn_app (goodIn_of _ (by decide +kernel)) ggX4_creep_X4_rightOf
set_option maxRecDepth 20000 in
theorem ggX4_creep_X4_stopsOne : GoodIn wsX4_creep wsX4_stopsOne := goodIn_r _ [25, 1, 4, 3, 26, 27, 28, 15, 29, 30, 31, 32, 33, 34, 35, 36, 37, 38, 39, 40, 41, 42, 43, 44] rfl (by decide +kernel)
set_option maxRecDepth 20000 in
theorem gX4_creep_X4_stopsOne : GoodIn wsX4_creep (wsV RX4 134 RX4 yX4_stopsOne wsX4_stopsOne) := goodIn_app (goodIn_of _ (by decide +kernel)) ggX4_creep_X4_stopsOne
theorem dX4_creep_0 : decode cX4_creep 0 = .ok (.aload_n 0, 1) := by decide +kernel
theorem dX4_creep_1 : decode cX4_creep 1 = .ok (.getfield 46, 3) := by decide +kernel
theorem dX4_creep_4 : decode cX4_creep 4 = .ok (.iload_n 1, 1) := by decide +kernel
theorem dX4_creep_5 : decode cX4_creep 5 = .ok (.iaload, 1) := by decide +kernel
theorem dX4_creep_6 : decode cX4_creep 6 = .ok (.iconst 2, 1) := by decide +kernel
theorem dX4_creep_7 : decode cX4_creep 7 = .ok (.if_icmp .ne 11, 3) := by decide +kernel
theorem dX4_creep_10 : decode cX4_creep 10 = .ok (.aload_n 0, 1) := by decide +kernel
theorem dX4_creep_11 : decode cX4_creep 11 = .ok (.iload_n 1, 1) := by decide +kernel
theorem dX4_creep_12 : decode cX4_creep 12 = .ok (.invokevirtual 113, 3) := by decide +kernel
theorem dX4_creep_15 : decode cX4_creep 15 = .ok (.goto 8, 3) := by decide +kernel
theorem dX4_creep_18 : decode cX4_creep 18 = .ok (.aload_n 0, 1) := by decide +kernel
theorem dX4_creep_19 : decode cX4_creep 19 = .ok (.iload_n 1, 1) := by decide +kernel
theorem dX4_creep_20 : decode cX4_creep 20 = .ok (.invokevirtual 116, 3) := by decide +kernel
theorem dX4_creep_23 : decode cX4_creep 23 = .ok (.istore_n 2, 1) := by decide +kernel
theorem dX4_creep_24 : decode cX4_creep 24 = .ok (.aload_n 0, 1) := by decide +kernel
theorem dX4_creep_25 : decode cX4_creep 25 = .ok (.getfield 37, 3) := by decide +kernel
theorem dX4_creep_28 : decode cX4_creep 28 = .ok (.aload_n 0, 1) := by decide +kernel
theorem dX4_creep_29 : decode cX4_creep 29 = .ok (.getfield 46, 3) := by decide +kernel
theorem dX4_creep_32 : decode cX4_creep 32 = .ok (.iload_n 1, 1) := by decide +kernel
theorem dX4_creep_33 : decode cX4_creep 33 = .ok (.iaload, 1) := by decide +kernel
theorem dX4_creep_34 : decode cX4_creep 34 = .ok (.iconst 2, 1) := by decide +kernel
theorem dX4_creep_35 : decode cX4_creep 35 = .ok (.if_icmp .ne 7, 3) := by decide +kernel
theorem dX4_creep_38 : decode cX4_creep 38 = .ok (.iload_n 2, 1) := by decide +kernel
theorem dX4_creep_39 : decode cX4_creep 39 = .ok (.goto 4, 3) := by decide +kernel
theorem dX4_creep_42 : decode cX4_creep 42 = .ok (.iload_n 1, 1) := by decide +kernel
theorem dX4_creep_43 : decode cX4_creep 43 = .ok (.aaload, 1) := by decide +kernel
theorem dX4_creep_44 : decode cX4_creep 44 = .ok (.astore_n 3, 1) := by decide +kernel
theorem dX4_creep_45 : decode cX4_creep 45 = .ok (.aload_n 0, 1) := by decide +kernel
theorem dX4_creep_46 : decode cX4_creep 46 = .ok (.getfield 30, 3) := by decide +kernel
theorem dX4_creep_49 : decode cX4_creep 49 = .ok (.iload_n 1, 1) := by decide +kernel
theorem dX4_creep_50 : decode cX4_creep 50 = .ok (.aaload, 1) := by decide +kernel
theorem dX4_creep_51 : decode cX4_creep 51 = .ok (.astore 4, 2) := by decide +kernel
theorem dX4_creep_53 : decode cX4_creep 53 = .ok (.aload_n 3, 1) := by decide +kernel
theorem dX4_creep_54 : decode cX4_creep 54 = .ok (.iconst 0, 1) := by decide +kernel
theorem dX4_creep_55 : decode cX4_creep 55 = .ok (.iaload, 1) := by decide +kernel
theorem dX4_creep_56 : decode cX4_creep 56 = .ok (.ifCond .ne 24, 3) := by decide +kernel
theorem dX4_creep_59 : decode cX4_creep 59 = .ok (.aload_n 0, 1) := by decide +kernel
theorem dX4_creep_60 : decode cX4_creep 60 = .ok (.getfield 24, 3) := by decide +kernel
theorem dX4_creep_63 : decode cX4_creep 63 = .ok (.bipush 9, 2) := by decide +kernel
theorem dX4_creep_65 : decode cX4_creep 65 = .ok (.iaload, 1) := by decide +kernel
theorem dX4_creep_66 : decode cX4_creep 66 = .ok (.ifCond .eq 14, 3) := by decide +kernel
theorem dX4_creep_69 : decode cX4_creep 69 = .ok (.aload_n 0, 1) := by decide +kernel
theorem dX4_creep_70 : decode cX4_creep 70 = .ok (.getfield 30, 3) := by decide +kernel
theorem dX4_creep_73 : decode cX4_creep 73 = .ok (.iload_n 2, 1) := by decide +kernel
theorem dX4_creep_74 : decode cX4_creep 74 = .ok (.aaload, 1) := by decide +kernel
theorem dX4_creep_75 : decode cX4_creep 75 = .ok (.iconst 0, 1) := by decide +kernel
theorem dX4_creep_76 : decode cX4_creep 76 = .ok (.iaload, 1) := by decide +kernel
theorem dX4_creep_77 : decode cX4_creep 77 = .ok (.ifCond .ne 4, 3) := by decide +kernel
theorem dX4_creep_80 : decode cX4_creep 80 = .ok (.return_, 1) := by decide +kernel
theorem dX4_creep_81 : decode cX4_creep 81 = .ok (.aload_n 0, 1) := by decide +kernel
theorem dX4_creep_82 : decode cX4_creep 82 = .ok (.iload_n 2, 1) := by decide +kernel
theorem dX4_creep_83 : decode cX4_creep 83 = .ok (.invokevirtual 134, 3) := by decide +kernel
theorem dX4_creep_86 : decode cX4_creep 86 = .ok (.ifCond .eq 34, 3) := by decide +kernel
theorem dX4_creep_89 : decode cX4_creep 89 = .ok (.aload 4, 2) := by decide +kernel
theorem dX4_creep_91 : decode cX4_creep 91 = .ok (.bipush 6, 2) := by decide +kernel
theorem dX4_creep_93 : decode cX4_creep 93 = .ok (.dup2, 1) := by decide +kernel
theorem dX4_creep_94 : decode cX4_creep 94 = .ok (.iaload, 1) := by decide +kernel
theorem dX4_creep_95 : decode cX4_creep 95 = .ok (.iconst 1, 1) := by decide +kernel
theorem dX4_creep_96 : decode cX4_creep 96 = .ok (.iadd, 1) := by decide +kernel
theorem dX4_creep_97 : decode cX4_creep 97 = .ok (.iastore, 1) := by decide +kernel
theorem dX4_creep_98 : decode cX4_creep 98 = .ok (.aload_n 0, 1) := by decide +kernel
theorem dX4_creep_99 : decode cX4_creep 99 = .ok (.getfield 33, 3) := by decide +kernel
theorem dX4_creep_102 : decode cX4_creep 102 = .ok (.iload_n 1, 1) := by decide +kernel
theorem dX4_creep_103 : decode cX4_creep 103 = .ok (.dup2, 1) := by decide +kernel
theorem dX4_creep_104 : decode cX4_creep 104 = .ok (.laload, 1) := by decide +kernel
theorem dX4_creep_105 : decode cX4_creep 105 = .ok (.aload_n 0, 1) := by decide +kernel
theorem dX4_creep_106 : decode cX4_creep 106 = .ok (.getfield 24, 3) := by decide +kernel
theorem dX4_creep_109 : decode cX4_creep 109 = .ok (.bipush 6, 2) := by decide +kernel
theorem dX4_creep_111 : decode cX4_creep 111 = .ok (.iaload, 1) := by decide +kernel
theorem dX4_creep_112 : decode cX4_creep 112 = .ok (.i2l, 1) := by decide +kernel
theorem dX4_creep_113 : decode cX4_creep 113 = .ok (.lsub, 1) := by decide +kernel
theorem dX4_creep_114 : decode cX4_creep 114 = .ok (.lastore, 1) := by decide +kernel
theorem dX4_creep_115 : decode cX4_creep 115 = .ok (.aload_n 3, 1) := by decide +kernel
theorem dX4_creep_116 : decode cX4_creep 116 = .ok (.iconst 2, 1) := by decide +kernel
theorem dX4_creep_117 : decode cX4_creep 117 = .ok (.iconst 0, 1) := by decide +kernel
theorem dX4_creep_118 : decode cX4_creep 118 = .ok (.iastore, 1) := by decide +kernel
theorem dX4_creep_119 : decode cX4_creep 119 = .ok (.return_, 1) := by decide +kernel
theorem dX4_creep_120 : decode cX4_creep 120 = .ok (.aload_n 3, 1) := by decide +kernel
theorem dX4_creep_121 : decode cX4_creep 121 = .ok (.iconst 2, 1) := by decide +kernel
theorem dX4_creep_122 : decode cX4_creep 122 = .ok (.aload_n 3, 1) := by decide +kernel
theorem dX4_creep_123 : decode cX4_creep 123 = .ok (.iconst 3, 1) := by decide +kernel
theorem dX4_creep_124 : decode cX4_creep 124 = .ok (.iaload, 1) := by decide +kernel
theorem dX4_creep_125 : decode cX4_creep 125 = .ok (.iload_n 1, 1) := by decide +kernel
theorem dX4_creep_126 : decode cX4_creep 126 = .ok (.if_icmp .ne 11, 3) := by decide +kernel
theorem dX4_creep_129 : decode cX4_creep 129 = .ok (.aload_n 3, 1) := by decide +kernel
theorem dX4_creep_130 : decode cX4_creep 130 = .ok (.iconst 2, 1) := by decide +kernel
theorem dX4_creep_131 : decode cX4_creep 131 = .ok (.iaload, 1) := by decide +kernel
theorem dX4_creep_132 : decode cX4_creep 132 = .ok (.iconst 1, 1) := by decide +kernel
theorem dX4_creep_133 : decode cX4_creep 133 = .ok (.iadd, 1) := by decide +kernel
theorem dX4_creep_134 : decode cX4_creep 134 = .ok (.goto 4, 3) := by decide +kernel
theorem dX4_creep_137 : decode cX4_creep 137 = .ok (.iconst 1, 1) := by decide +kernel
theorem dX4_creep_138 : decode cX4_creep 138 = .ok (.iastore, 1) := by decide +kernel
theorem dX4_creep_139 : decode cX4_creep 139 = .ok (.aload_n 3, 1) := by decide +kernel
theorem dX4_creep_140 : decode cX4_creep 140 = .ok (.iconst 3, 1) := by decide +kernel
theorem dX4_creep_141 : decode cX4_creep 141 = .ok (.iload_n 1, 1) := by decide +kernel
theorem dX4_creep_142 : decode cX4_creep 142 = .ok (.iastore, 1) := by decide +kernel
theorem dX4_creep_143 : decode cX4_creep 143 = .ok (.aload_n 3, 1) := by decide +kernel
theorem dX4_creep_144 : decode cX4_creep 144 = .ok (.iconst 2, 1) := by decide +kernel
theorem dX4_creep_145 : decode cX4_creep 145 = .ok (.iaload, 1) := by decide +kernel
theorem dX4_creep_146 : decode cX4_creep 146 = .ok (.aload_n 3, 1) := by decide +kernel
theorem dX4_creep_147 : decode cX4_creep 147 = .ok (.iconst 1, 1) := by decide +kernel
theorem dX4_creep_148 : decode cX4_creep 148 = .ok (.iaload, 1) := by decide +kernel
theorem dX4_creep_149 : decode cX4_creep 149 = .ok (.if_icmp .le 67, 3) := by decide +kernel
theorem dX4_creep_152 : decode cX4_creep 152 = .ok (.aload_n 3, 1) := by decide +kernel
theorem dX4_creep_153 : decode cX4_creep 153 = .ok (.iconst 2, 1) := by decide +kernel
theorem dX4_creep_154 : decode cX4_creep 154 = .ok (.iconst 0, 1) := by decide +kernel
theorem dX4_creep_155 : decode cX4_creep 155 = .ok (.iastore, 1) := by decide +kernel
theorem dX4_creep_156 : decode cX4_creep 156 = .ok (.aload_n 0, 1) := by decide +kernel
theorem dX4_creep_157 : decode cX4_creep 157 = .ok (.getfield 24, 3) := by decide +kernel
theorem dX4_creep_160 : decode cX4_creep 160 = .ok (.bipush 9, 2) := by decide +kernel
theorem dX4_creep_162 : decode cX4_creep 162 = .ok (.iaload, 1) := by decide +kernel
theorem dX4_creep_163 : decode cX4_creep 163 = .ok (.aload_n 0, 1) := by decide +kernel
theorem dX4_creep_164 : decode cX4_creep 164 = .ok (.getfield 30, 3) := by decide +kernel
theorem dX4_creep_167 : decode cX4_creep 167 = .ok (.iload_n 2, 1) := by decide +kernel
theorem dX4_creep_168 : decode cX4_creep 168 = .ok (.aaload, 1) := by decide +kernel
theorem dX4_creep_169 : decode cX4_creep 169 = .ok (.iconst 0, 1) := by decide +kernel
theorem dX4_creep_170 : decode cX4_creep 170 = .ok (.iaload, 1) := by decide +kernel
theorem dX4_creep_171 : decode cX4_creep 171 = .ok (.invokestatic 85, 3) := by decide +kernel
theorem dX4_creep_174 : decode cX4_creep 174 = .ok (.istore 5, 2) := by decide +kernel
theorem dX4_creep_176 : decode cX4_creep 176 = .ok (.aload_n 0, 1) := by decide +kernel
theorem dX4_creep_177 : decode cX4_creep 177 = .ok (.getfield 30, 3) := by decide +kernel
theorem dX4_creep_180 : decode cX4_creep 180 = .ok (.iload_n 2, 1) := by decide +kernel
theorem dX4_creep_181 : decode cX4_creep 181 = .ok (.aaload, 1) := by decide +kernel
theorem dX4_creep_182 : decode cX4_creep 182 = .ok (.iconst 0, 1) := by decide +kernel
theorem dX4_creep_183 : decode cX4_creep 183 = .ok (.dup2, 1) := by decide +kernel
theorem dX4_creep_184 : decode cX4_creep 184 = .ok (.iaload, 1) := by decide +kernel
theorem dX4_creep_185 : decode cX4_creep 185 = .ok (.iload 5, 2) := by decide +kernel
theorem dX4_creep_187 : decode cX4_creep 187 = .ok (.isub, 1) := by decide +kernel
theorem dX4_creep_188 : decode cX4_creep 188 = .ok (.iastore, 1) := by decide +kernel
theorem dX4_creep_189 : decode cX4_creep 189 = .ok (.aload 4, 2) := by decide +kernel
theorem dX4_creep_191 : decode cX4_creep 191 = .ok (.iconst 0, 1) := by decide +kernel
theorem dX4_creep_192 : decode cX4_creep 192 = .ok (.dup2, 1) := by decide +kernel
theorem dX4_creep_193 : decode cX4_creep 193 = .ok (.iaload, 1) := by decide +kernel
theorem dX4_creep_194 : decode cX4_creep 194 = .ok (.iload 5, 2) := by decide +kernel
theorem dX4_creep_196 : decode cX4_creep 196 = .ok (.iadd, 1) := by decide +kernel
theorem dX4_creep_197 : decode cX4_creep 197 = .ok (.iastore, 1) := by decide +kernel
theorem dX4_creep_198 : decode cX4_creep 198 = .ok (.aload_n 0, 1) := by decide +kernel
theorem dX4_creep_199 : decode cX4_creep 199 = .ok (.dup, 1) := by decide +kernel
theorem dX4_creep_200 : decode cX4_creep 200 = .ok (.getfield 21, 3) := by decide +kernel
theorem dX4_creep_203 : decode cX4_creep 203 = .ok (.iload 5, 2) := by decide +kernel
theorem dX4_creep_205 : decode cX4_creep 205 = .ok (.iadd, 1) := by decide +kernel
theorem dX4_creep_206 : decode cX4_creep 206 = .ok (.putfield 21, 3) := by decide +kernel
theorem dX4_creep_209 : decode cX4_creep 209 = .ok (.aload_n 0, 1) := by decide +kernel
theorem dX4_creep_210 : decode cX4_creep 210 = .ok (.getfield 49, 3) := by decide +kernel
theorem dX4_creep_213 : decode cX4_creep 213 = .ok (.iload_n 2, 1) := by decide +kernel
theorem dX4_creep_214 : decode cX4_creep 214 = .ok (.iconst 1, 1) := by decide +kernel
theorem dX4_creep_215 : decode cX4_creep 215 = .ok (.bastore, 1) := by decide +kernel
theorem dX4_creep_216 : decode cX4_creep 216 = .ok (.return_, 1) := by decide +kernel
set_option maxRecDepth 20000 in
theorem ggX4_stopsOne_X4_draw : GoodIn wsX4_stopsOne wsX4_draw := goodIn_r _ [8, 9, 10, 11, 12, 13, 14, 15, 16, 17, 18, 19, 20, 21, 22, 23] rfl (by decide +kernel)
set_option maxRecDepth 20000 in
theorem gX4_stopsOne_X4_draw : GoodIn wsX4_stopsOne (wsV RX4 138 RX4 yX4_draw wsX4_draw) := goodIn_app (goodIn_of _ (by decide +kernel)) ggX4_stopsOne_X4_draw
theorem dX4_stopsOne_0 : decode cX4_stopsOne 0 = .ok (.aload_n 0, 1) := by decide +kernel
theorem dX4_stopsOne_1 : decode cX4_stopsOne 1 = .ok (.getfield 46, 3) := by decide +kernel
theorem dX4_stopsOne_4 : decode cX4_stopsOne 4 = .ok (.iload_n 1, 1) := by decide +kernel
theorem dX4_stopsOne_5 : decode cX4_stopsOne 5 = .ok (.iaload, 1) := by decide +kernel
theorem dX4_stopsOne_6 : decode cX4_stopsOne 6 = .ok (.iconst 1, 1) := by decide +kernel
theorem dX4_stopsOne_7 : decode cX4_stopsOne 7 = .ok (.if_icmp .ne 23, 3) := by decide +kernel
theorem dX4_stopsOne_10 : decode cX4_stopsOne 10 = .ok (.aload_n 0, 1) := by decide +kernel
theorem dX4_stopsOne_11 : decode cX4_stopsOne 11 = .ok (.invokevirtual 138, 3) := by decide +kernel
theorem dX4_stopsOne_14 : decode cX4_stopsOne 14 = .ok (.aload_n 0, 1) := by decide +kernel
theorem dX4_stopsOne_15 : decode cX4_stopsOne 15 = .ok (.getfield 24, 3) := by decide +kernel
theorem dX4_stopsOne_18 : decode cX4_stopsOne 18 = .ok (.bipush 7, 2) := by decide +kernel
theorem dX4_stopsOne_20 : decode cX4_stopsOne 20 = .ok (.iaload, 1) := by decide +kernel
theorem dX4_stopsOne_21 : decode cX4_stopsOne 21 = .ok (.if_icmp .ge 7, 3) := by decide +kernel
theorem dX4_stopsOne_24 : decode cX4_stopsOne 24 = .ok (.iconst 1, 1) := by decide +kernel
theorem dX4_stopsOne_25 : decode cX4_stopsOne 25 = .ok (.goto 4, 3) := by decide +kernel
theorem dX4_stopsOne_28 : decode cX4_stopsOne 28 = .ok (.iconst 0, 1) := by decide +kernel
theorem dX4_stopsOne_29 : decode cX4_stopsOne 29 = .ok (.ireturn, 1) := by decide +kernel
theorem dX4_stopsOne_30 : decode cX4_stopsOne 30 = .ok (.aload_n 0, 1) := by decide +kernel
theorem dX4_stopsOne_31 : decode cX4_stopsOne 31 = .ok (.getfield 30, 3) := by decide +kernel
theorem dX4_stopsOne_34 : decode cX4_stopsOne 34 = .ok (.iload_n 1, 1) := by decide +kernel
theorem dX4_stopsOne_35 : decode cX4_stopsOne 35 = .ok (.aaload, 1) := by decide +kernel
theorem dX4_stopsOne_36 : decode cX4_stopsOne 36 = .ok (.iconst 3, 1) := by decide +kernel
theorem dX4_stopsOne_37 : decode cX4_stopsOne 37 = .ok (.iaload, 1) := by decide +kernel
theorem dX4_stopsOne_38 : decode cX4_stopsOne 38 = .ok (.ifCond .eq 21, 3) := by decide +kernel
theorem dX4_stopsOne_41 : decode cX4_stopsOne 41 = .ok (.aload_n 0, 1) := by decide +kernel
theorem dX4_stopsOne_42 : decode cX4_stopsOne 42 = .ok (.invokevirtual 138, 3) := by decide +kernel
theorem dX4_stopsOne_45 : decode cX4_stopsOne 45 = .ok (.aload_n 0, 1) := by decide +kernel
theorem dX4_stopsOne_46 : decode cX4_stopsOne 46 = .ok (.getfield 24, 3) := by decide +kernel
theorem dX4_stopsOne_49 : decode cX4_stopsOne 49 = .ok (.bipush 8, 2) := by decide +kernel
theorem dX4_stopsOne_51 : decode cX4_stopsOne 51 = .ok (.iaload, 1) := by decide +kernel
theorem dX4_stopsOne_52 : decode cX4_stopsOne 52 = .ok (.if_icmp .ge 7, 3) := by decide +kernel
theorem dX4_stopsOne_55 : decode cX4_stopsOne 55 = .ok (.iconst 1, 1) := by decide +kernel
theorem dX4_stopsOne_56 : decode cX4_stopsOne 56 = .ok (.goto 4, 3) := by decide +kernel
theorem dX4_stopsOne_59 : decode cX4_stopsOne 59 = .ok (.iconst 0, 1) := by decide +kernel
theorem dX4_stopsOne_60 : decode cX4_stopsOne 60 = .ok (.ireturn, 1) := by decide +kernel
theorem dX4_draw_0 : decode cX4_draw 0 = .ok (.aload_n 0, 1) := by decide +kernel
theorem dX4_draw_1 : decode cX4_draw 1 = .ok (.ldc 142, 2) := by decide +kernel
theorem dX4_draw_3 : decode cX4_draw 3 = .ok (.aload_n 0, 1) := by decide +kernel
theorem dX4_draw_4 : decode cX4_draw 4 = .ok (.getfield 15, 3) := by decide +kernel
theorem dX4_draw_7 : decode cX4_draw 7 = .ok (.imul, 1) := by decide +kernel
theorem dX4_draw_8 : decode cX4_draw 8 = .ok (.ldc 143, 2) := by decide +kernel
theorem dX4_draw_10 : decode cX4_draw 10 = .ok (.iadd, 1) := by decide +kernel
theorem dX4_draw_11 : decode cX4_draw 11 = .ok (.putfield 15, 3) := by decide +kernel
theorem dX4_draw_14 : decode cX4_draw 14 = .ok (.aload_n 0, 1) := by decide +kernel
theorem dX4_draw_15 : decode cX4_draw 15 = .ok (.getfield 15, 3) := by decide +kernel
theorem dX4_draw_18 : decode cX4_draw 18 = .ok (.bipush 8, 2) := by decide +kernel
theorem dX4_draw_20 : decode cX4_draw 20 = .ok (.iushr, 1) := by decide +kernel
theorem dX4_draw_21 : decode cX4_draw 21 = .ok (.sipush 1000, 3) := by decide +kernel
theorem dX4_draw_24 : decode cX4_draw 24 = .ok (.irem, 1) := by decide +kernel
theorem dX4_draw_25 : decode cX4_draw 25 = .ok (.ireturn, 1) := by decide +kernel
set_option maxRecDepth 20000 in
theorem ggX4_settle_X4_worthOf : GoodIn wsX4_settle wsX4_worthOf := goodIn_r _ [14, 15, 5, 6, 7, 8, 16, 17, 18, 23, 24, 25, 26, 27, 28, 29, 30, 31, 32, 33, 34] rfl (by decide +kernel)
set_option maxRecDepth 20000 in
theorem gX4_settle_X4_worthOf : GoodIn wsX4_settle (wsV RX4 119 RX4 yX4_worthOf wsX4_worthOf) := goodIn_app (goodIn_of _ (by decide +kernel)) ggX4_settle_X4_worthOf
set_option maxRecDepth 20000 in
theorem ggX4_settle_X4_costOf : GoodIn wsX4_settle wsX4_costOf := goodIn_r _ [22, 1, 15, 23, 24, 25, 26, 27, 28, 29, 30, 31, 32, 33, 34] rfl (by decide +kernel)
set_option maxRecDepth 20000 in
theorem gX4_settle_X4_costOf : GoodIn wsX4_settle (wsV RX4 144 RX4 yX4_costOf wsX4_costOf) := goodIn_app (goodIn_of _ (by decide +kernel)) ggX4_settle_X4_costOf
theorem dX4_settle_0 : decode cX4_settle 0 = .ok (.aload_n 0, 1) := by decide +kernel
theorem dX4_settle_1 : decode cX4_settle 1 = .ok (.getfield 30, 3) := by decide +kernel
theorem dX4_settle_4 : decode cX4_settle 4 = .ok (.iload_n 1, 1) := by decide +kernel
theorem dX4_settle_5 : decode cX4_settle 5 = .ok (.aaload, 1) := by decide +kernel
theorem dX4_settle_6 : decode cX4_settle 6 = .ok (.astore_n 2, 1) := by decide +kernel
theorem dX4_settle_7 : decode cX4_settle 7 = .ok (.aload_n 0, 1) := by decide +kernel
theorem dX4_settle_8 : decode cX4_settle 8 = .ok (.getfield 33, 3) := by decide +kernel
theorem dX4_settle_11 : decode cX4_settle 11 = .ok (.iload_n 1, 1) := by decide +kernel
theorem dX4_settle_12 : decode cX4_settle 12 = .ok (.dup2, 1) := by decide +kernel
theorem dX4_settle_13 : decode cX4_settle 13 = .ok (.laload, 1) := by decide +kernel
theorem dX4_settle_14 : decode cX4_settle 14 = .ok (.aload_n 0, 1) := by decide +kernel
theorem dX4_settle_15 : decode cX4_settle 15 = .ok (.aload_n 2, 1) := by decide +kernel
theorem dX4_settle_16 : decode cX4_settle 16 = .ok (.iconst 0, 1) := by decide +kernel
theorem dX4_settle_17 : decode cX4_settle 17 = .ok (.iaload, 1) := by decide +kernel
theorem dX4_settle_18 : decode cX4_settle 18 = .ok (.invokevirtual 119, 3) := by decide +kernel
theorem dX4_settle_21 : decode cX4_settle 21 = .ok (.aload_n 0, 1) := by decide +kernel
theorem dX4_settle_22 : decode cX4_settle 22 = .ok (.iload_n 1, 1) := by decide +kernel
theorem dX4_settle_23 : decode cX4_settle 23 = .ok (.aload_n 0, 1) := by decide +kernel
theorem dX4_settle_24 : decode cX4_settle 24 = .ok (.getfield 46, 3) := by decide +kernel
theorem dX4_settle_27 : decode cX4_settle 27 = .ok (.iload_n 1, 1) := by decide +kernel
theorem dX4_settle_28 : decode cX4_settle 28 = .ok (.iaload, 1) := by decide +kernel
theorem dX4_settle_29 : decode cX4_settle 29 = .ok (.invokevirtual 144, 3) := by decide +kernel
theorem dX4_settle_32 : decode cX4_settle 32 = .ok (.isub, 1) := by decide +kernel
theorem dX4_settle_33 : decode cX4_settle 33 = .ok (.i2l, 1) := by decide +kernel
theorem dX4_settle_34 : decode cX4_settle 34 = .ok (.ladd, 1) := by decide +kernel
theorem dX4_settle_35 : decode cX4_settle 35 = .ok (.lastore, 1) := by decide +kernel
theorem dX4_settle_36 : decode cX4_settle 36 = .ok (.aload_n 2, 1) := by decide +kernel
theorem dX4_settle_37 : decode cX4_settle 37 = .ok (.iconst 5, 1) := by decide +kernel
theorem dX4_settle_38 : decode cX4_settle 38 = .ok (.aload_n 0, 1) := by decide +kernel
theorem dX4_settle_39 : decode cX4_settle 39 = .ok (.getfield 49, 3) := by decide +kernel
theorem dX4_settle_42 : decode cX4_settle 42 = .ok (.iload_n 1, 1) := by decide +kernel
theorem dX4_settle_43 : decode cX4_settle 43 = .ok (.baload, 1) := by decide +kernel
theorem dX4_settle_44 : decode cX4_settle 44 = .ok (.ifCond .eq 7, 3) := by decide +kernel
theorem dX4_settle_47 : decode cX4_settle 47 = .ok (.iconst 0, 1) := by decide +kernel
theorem dX4_settle_48 : decode cX4_settle 48 = .ok (.goto 13, 3) := by decide +kernel
theorem dX4_settle_51 : decode cX4_settle 51 = .ok (.bipush 99, 2) := by decide +kernel
theorem dX4_settle_53 : decode cX4_settle 53 = .ok (.aload_n 2, 1) := by decide +kernel
theorem dX4_settle_54 : decode cX4_settle 54 = .ok (.iconst 5, 1) := by decide +kernel
theorem dX4_settle_55 : decode cX4_settle 55 = .ok (.iaload, 1) := by decide +kernel
theorem dX4_settle_56 : decode cX4_settle 56 = .ok (.iconst 1, 1) := by decide +kernel
theorem dX4_settle_57 : decode cX4_settle 57 = .ok (.iadd, 1) := by decide +kernel
theorem dX4_settle_58 : decode cX4_settle 58 = .ok (.invokestatic 85, 3) := by decide +kernel
theorem dX4_settle_61 : decode cX4_settle 61 = .ok (.iastore, 1) := by decide +kernel
theorem dX4_settle_62 : decode cX4_settle 62 = .ok (.aload_n 2, 1) := by decide +kernel
theorem dX4_settle_63 : decode cX4_settle 63 = .ok (.iconst 0, 1) := by decide +kernel
theorem dX4_settle_64 : decode cX4_settle 64 = .ok (.iaload, 1) := by decide +kernel
theorem dX4_settle_65 : decode cX4_settle 65 = .ok (.ifCond .ne 19, 3) := by decide +kernel
theorem dX4_settle_68 : decode cX4_settle 68 = .ok (.aload_n 2, 1) := by decide +kernel
theorem dX4_settle_69 : decode cX4_settle 69 = .ok (.bipush 7, 2) := by decide +kernel
theorem dX4_settle_71 : decode cX4_settle 71 = .ok (.iaload, 1) := by decide +kernel
theorem dX4_settle_72 : decode cX4_settle 72 = .ok (.iconst (-1), 1) := by decide +kernel
theorem dX4_settle_73 : decode cX4_settle 73 = .ok (.if_icmp .ne 11, 3) := by decide +kernel
theorem dX4_settle_76 : decode cX4_settle 76 = .ok (.aload_n 2, 1) := by decide +kernel
theorem dX4_settle_77 : decode cX4_settle 77 = .ok (.bipush 7, 2) := by decide +kernel
theorem dX4_settle_79 : decode cX4_settle 79 = .ok (.aload_n 0, 1) := by decide +kernel
theorem dX4_settle_80 : decode cX4_settle 80 = .ok (.getfield 18, 3) := by decide +kernel
theorem dX4_settle_83 : decode cX4_settle 83 = .ok (.iastore, 1) := by decide +kernel
theorem dX4_settle_84 : decode cX4_settle 84 = .ok (.return_, 1) := by decide +kernel
theorem dX4_costOf_0 : decode cX4_costOf 0 = .ok (.aload_n 0, 1) := by decide +kernel
theorem dX4_costOf_1 : decode cX4_costOf 1 = .ok (.getfield 30, 3) := by decide +kernel
theorem dX4_costOf_4 : decode cX4_costOf 4 = .ok (.iload_n 1, 1) := by decide +kernel
theorem dX4_costOf_5 : decode cX4_costOf 5 = .ok (.aaload, 1) := by decide +kernel
theorem dX4_costOf_6 : decode cX4_costOf 6 = .ok (.iconst 3, 1) := by decide +kernel
theorem dX4_costOf_7 : decode cX4_costOf 7 = .ok (.iaload, 1) := by decide +kernel
theorem dX4_costOf_8 : decode cX4_costOf 8 = .ok (.ifCond .eq 12, 3) := by decide +kernel
theorem dX4_costOf_11 : decode cX4_costOf 11 = .ok (.aload_n 0, 1) := by decide +kernel
theorem dX4_costOf_12 : decode cX4_costOf 12 = .ok (.getfield 24, 3) := by decide +kernel
theorem dX4_costOf_15 : decode cX4_costOf 15 = .ok (.iconst 5, 1) := by decide +kernel
theorem dX4_costOf_16 : decode cX4_costOf 16 = .ok (.iaload, 1) := by decide +kernel
theorem dX4_costOf_17 : decode cX4_costOf 17 = .ok (.goto 4, 3) := by decide +kernel
theorem dX4_costOf_20 : decode cX4_costOf 20 = .ok (.iconst 0, 1) := by decide +kernel
theorem dX4_costOf_21 : decode cX4_costOf 21 = .ok (.istore_n 3, 1) := by decide +kernel
theorem dX4_costOf_22 : decode cX4_costOf 22 = .ok (.iload_n 2, 1) := by decide +kernel
theorem dX4_costOf_23 : decode cX4_costOf 23 = .ok (.iconst 1, 1) := by decide +kernel
theorem dX4_costOf_24 : decode cX4_costOf 24 = .ok (.if_icmp .ne 15, 3) := by decide +kernel
theorem dX4_costOf_27 : decode cX4_costOf 27 = .ok (.iload_n 3, 1) := by decide +kernel
theorem dX4_costOf_28 : decode cX4_costOf 28 = .ok (.aload_n 0, 1) := by decide +kernel
theorem dX4_costOf_29 : decode cX4_costOf 29 = .ok (.getfield 24, 3) := by decide +kernel
theorem dX4_costOf_32 : decode cX4_costOf 32 = .ok (.iconst 4, 1) := by decide +kernel
theorem dX4_costOf_33 : decode cX4_costOf 33 = .ok (.iaload, 1) := by decide +kernel
theorem dX4_costOf_34 : decode cX4_costOf 34 = .ok (.iadd, 1) := by decide +kernel
theorem dX4_costOf_35 : decode cX4_costOf 35 = .ok (.istore_n 3, 1) := by decide +kernel
theorem dX4_costOf_36 : decode cX4_costOf 36 = .ok (.goto 16, 3) := by decide +kernel
theorem dX4_costOf_39 : decode cX4_costOf 39 = .ok (.iload_n 2, 1) := by decide +kernel
theorem dX4_costOf_40 : decode cX4_costOf 40 = .ok (.ifCond .eq 12, 3) := by decide +kernel
theorem dX4_costOf_43 : decode cX4_costOf 43 = .ok (.iload_n 3, 1) := by decide +kernel
theorem dX4_costOf_44 : decode cX4_costOf 44 = .ok (.aload_n 0, 1) := by decide +kernel
theorem dX4_costOf_45 : decode cX4_costOf 45 = .ok (.getfield 24, 3) := by decide +kernel
theorem dX4_costOf_48 : decode cX4_costOf 48 = .ok (.iconst 3, 1) := by decide +kernel
theorem dX4_costOf_49 : decode cX4_costOf 49 = .ok (.iaload, 1) := by decide +kernel
theorem dX4_costOf_50 : decode cX4_costOf 50 = .ok (.iadd, 1) := by decide +kernel
theorem dX4_costOf_51 : decode cX4_costOf 51 = .ok (.istore_n 3, 1) := by decide +kernel
theorem dX4_costOf_52 : decode cX4_costOf 52 = .ok (.iload_n 3, 1) := by decide +kernel
theorem dX4_costOf_53 : decode cX4_costOf 53 = .ok (.ireturn, 1) := by decide +kernel
theorem dX4_allWereTold_0 : decode cX4_allWereTold 0 = .ok (.iconst 0, 1) := by decide +kernel
theorem dX4_allWereTold_1 : decode cX4_allWereTold 1 = .ok (.istore_n 1, 1) := by decide +kernel
theorem dX4_allWereTold_2 : decode cX4_allWereTold 2 = .ok (.iload_n 1, 1) := by decide +kernel
theorem dX4_allWereTold_3 : decode cX4_allWereTold 3 = .ok (.aload_n 0, 1) := by decide +kernel
theorem dX4_allWereTold_4 : decode cX4_allWereTold 4 = .ok (.getfield 9, 3) := by decide +kernel
theorem dX4_allWereTold_7 : decode cX4_allWereTold 7 = .ok (.if_icmp .ge 24, 3) := by decide +kernel
theorem dX4_allWereTold_10 : decode cX4_allWereTold 10 = .ok (.aload_n 0, 1) := by decide +kernel
theorem dX4_allWereTold_11 : decode cX4_allWereTold 11 = .ok (.getfield 30, 3) := by decide +kernel
theorem dX4_allWereTold_14 : decode cX4_allWereTold 14 = .ok (.iload_n 1, 1) := by decide +kernel
theorem dX4_allWereTold_15 : decode cX4_allWereTold 15 = .ok (.aaload, 1) := by decide +kernel
theorem dX4_allWereTold_16 : decode cX4_allWereTold 16 = .ok (.bipush 8, 2) := by decide +kernel
theorem dX4_allWereTold_18 : decode cX4_allWereTold 18 = .ok (.iaload, 1) := by decide +kernel
theorem dX4_allWereTold_19 : decode cX4_allWereTold 19 = .ok (.iconst (-1), 1) := by decide +kernel
theorem dX4_allWereTold_20 : decode cX4_allWereTold 20 = .ok (.if_icmp .ne 5, 3) := by decide +kernel
theorem dX4_allWereTold_23 : decode cX4_allWereTold 23 = .ok (.iconst 0, 1) := by decide +kernel
theorem dX4_allWereTold_24 : decode cX4_allWereTold 24 = .ok (.ireturn, 1) := by decide +kernel
theorem dX4_allWereTold_25 : decode cX4_allWereTold 25 = .ok (.iinc 1 1, 3) := by decide +kernel
theorem dX4_allWereTold_28 : decode cX4_allWereTold 28 = .ok (.goto (-26), 3) := by decide +kernel
theorem dX4_allWereTold_31 : decode cX4_allWereTold 31 = .ok (.iconst 1, 1) := by decide +kernel
theorem dX4_allWereTold_32 : decode cX4_allWereTold 32 = .ok (.ireturn, 1) := by decide +kernel
theorem dX4_feetIfFirstMoved_0 : decode cX4_feetIfFirstMoved 0 = .ok (.iconst 0, 1) := by decide +kernel
theorem dX4_feetIfFirstMoved_1 : decode cX4_feetIfFirstMoved 1 = .ok (.istore_n 2, 1) := by decide +kernel
theorem dX4_feetIfFirstMoved_2 : decode cX4_feetIfFirstMoved 2 = .ok (.iload_n 1, 1) := by decide +kernel
theorem dX4_feetIfFirstMoved_3 : decode cX4_feetIfFirstMoved 3 = .ok (.istore_n 3, 1) := by decide +kernel
theorem dX4_feetIfFirstMoved_4 : decode cX4_feetIfFirstMoved 4 = .ok (.iconst 0, 1) := by decide +kernel
theorem dX4_feetIfFirstMoved_5 : decode cX4_feetIfFirstMoved 5 = .ok (.istore 4, 2) := by decide +kernel
theorem dX4_feetIfFirstMoved_7 : decode cX4_feetIfFirstMoved 7 = .ok (.iload 4, 2) := by decide +kernel
theorem dX4_feetIfFirstMoved_9 : decode cX4_feetIfFirstMoved 9 = .ok (.aload_n 0, 1) := by decide +kernel
theorem dX4_feetIfFirstMoved_10 : decode cX4_feetIfFirstMoved 10 = .ok (.getfield 9, 3) := by decide +kernel
theorem dX4_feetIfFirstMoved_13 : decode cX4_feetIfFirstMoved 13 = .ok (.if_icmp .ge 79, 3) := by decide +kernel
theorem dX4_feetIfFirstMoved_16 : decode cX4_feetIfFirstMoved 16 = .ok (.iload 4, 2) := by decide +kernel
theorem dX4_feetIfFirstMoved_18 : decode cX4_feetIfFirstMoved 18 = .ok (.ifCond .le 26, 3) := by decide +kernel
theorem dX4_feetIfFirstMoved_21 : decode cX4_feetIfFirstMoved 21 = .ok (.iload_n 3, 1) := by decide +kernel
theorem dX4_feetIfFirstMoved_22 : decode cX4_feetIfFirstMoved 22 = .ok (.aload_n 0, 1) := by decide +kernel
theorem dX4_feetIfFirstMoved_23 : decode cX4_feetIfFirstMoved 23 = .ok (.getfield 30, 3) := by decide +kernel
theorem dX4_feetIfFirstMoved_26 : decode cX4_feetIfFirstMoved 26 = .ok (.iload 4, 2) := by decide +kernel
theorem dX4_feetIfFirstMoved_28 : decode cX4_feetIfFirstMoved 28 = .ok (.aaload, 1) := by decide +kernel
theorem dX4_feetIfFirstMoved_29 : decode cX4_feetIfFirstMoved 29 = .ok (.iconst 0, 1) := by decide +kernel
theorem dX4_feetIfFirstMoved_30 : decode cX4_feetIfFirstMoved 30 = .ok (.iaload, 1) := by decide +kernel
theorem dX4_feetIfFirstMoved_31 : decode cX4_feetIfFirstMoved 31 = .ok (.aload_n 0, 1) := by decide +kernel
theorem dX4_feetIfFirstMoved_32 : decode cX4_feetIfFirstMoved 32 = .ok (.getfield 30, 3) := by decide +kernel
theorem dX4_feetIfFirstMoved_35 : decode cX4_feetIfFirstMoved 35 = .ok (.iload 4, 2) := by decide +kernel
theorem dX4_feetIfFirstMoved_37 : decode cX4_feetIfFirstMoved 37 = .ok (.aaload, 1) := by decide +kernel
theorem dX4_feetIfFirstMoved_38 : decode cX4_feetIfFirstMoved 38 = .ok (.bipush 8, 2) := by decide +kernel
theorem dX4_feetIfFirstMoved_40 : decode cX4_feetIfFirstMoved 40 = .ok (.iaload, 1) := by decide +kernel
theorem dX4_feetIfFirstMoved_41 : decode cX4_feetIfFirstMoved 41 = .ok (.isub, 1) := by decide +kernel
theorem dX4_feetIfFirstMoved_42 : decode cX4_feetIfFirstMoved 42 = .ok (.iadd, 1) := by decide +kernel
theorem dX4_feetIfFirstMoved_43 : decode cX4_feetIfFirstMoved 43 = .ok (.istore_n 3, 1) := by decide +kernel
theorem dX4_feetIfFirstMoved_44 : decode cX4_feetIfFirstMoved 44 = .ok (.iload_n 3, 1) := by decide +kernel
theorem dX4_feetIfFirstMoved_45 : decode cX4_feetIfFirstMoved 45 = .ok (.invokestatic 147, 3) := by decide +kernel
theorem dX4_feetIfFirstMoved_48 : decode cX4_feetIfFirstMoved 48 = .ok (.istore 5, 2) := by decide +kernel
theorem dX4_feetIfFirstMoved_50 : decode cX4_feetIfFirstMoved 50 = .ok (.iload 5, 2) := by decide +kernel
theorem dX4_feetIfFirstMoved_52 : decode cX4_feetIfFirstMoved 52 = .ok (.aload_n 0, 1) := by decide +kernel
theorem dX4_feetIfFirstMoved_53 : decode cX4_feetIfFirstMoved 53 = .ok (.getfield 24, 3) := by decide +kernel
theorem dX4_feetIfFirstMoved_56 : decode cX4_feetIfFirstMoved 56 = .ok (.bipush 9, 2) := by decide +kernel
theorem dX4_feetIfFirstMoved_58 : decode cX4_feetIfFirstMoved 58 = .ok (.iaload, 1) := by decide +kernel
theorem dX4_feetIfFirstMoved_59 : decode cX4_feetIfFirstMoved 59 = .ok (.if_icmp .gt 20, 3) := by decide +kernel
theorem dX4_feetIfFirstMoved_62 : decode cX4_feetIfFirstMoved 62 = .ok (.iload 5, 2) := by decide +kernel
theorem dX4_feetIfFirstMoved_64 : decode cX4_feetIfFirstMoved 64 = .ok (.ifCond .le 17, 3) := by decide +kernel
theorem dX4_feetIfFirstMoved_67 : decode cX4_feetIfFirstMoved 67 = .ok (.aload_n 0, 1) := by decide +kernel
theorem dX4_feetIfFirstMoved_68 : decode cX4_feetIfFirstMoved 68 = .ok (.getfield 37, 3) := by decide +kernel
theorem dX4_feetIfFirstMoved_71 : decode cX4_feetIfFirstMoved 71 = .ok (.iload 4, 2) := by decide +kernel
theorem dX4_feetIfFirstMoved_73 : decode cX4_feetIfFirstMoved 73 = .ok (.aaload, 1) := by decide +kernel
theorem dX4_feetIfFirstMoved_74 : decode cX4_feetIfFirstMoved 74 = .ok (.iconst 0, 1) := by decide +kernel
theorem dX4_feetIfFirstMoved_75 : decode cX4_feetIfFirstMoved 75 = .ok (.iaload, 1) := by decide +kernel
theorem dX4_feetIfFirstMoved_76 : decode cX4_feetIfFirstMoved 76 = .ok (.ifCond .eq 5, 3) := by decide +kernel
theorem dX4_feetIfFirstMoved_79 : decode cX4_feetIfFirstMoved 79 = .ok (.iconst (-1), 1) := by decide +kernel
theorem dX4_feetIfFirstMoved_80 : decode cX4_feetIfFirstMoved 80 = .ok (.ireturn, 1) := by decide +kernel
theorem dX4_feetIfFirstMoved_81 : decode cX4_feetIfFirstMoved 81 = .ok (.iload_n 2, 1) := by decide +kernel
theorem dX4_feetIfFirstMoved_82 : decode cX4_feetIfFirstMoved 82 = .ok (.iload 5, 2) := by decide +kernel
theorem dX4_feetIfFirstMoved_84 : decode cX4_feetIfFirstMoved 84 = .ok (.iadd, 1) := by decide +kernel
theorem dX4_feetIfFirstMoved_85 : decode cX4_feetIfFirstMoved 85 = .ok (.istore_n 2, 1) := by decide +kernel
theorem dX4_feetIfFirstMoved_86 : decode cX4_feetIfFirstMoved 86 = .ok (.iinc 4 1, 3) := by decide +kernel
theorem dX4_feetIfFirstMoved_89 : decode cX4_feetIfFirstMoved 89 = .ok (.goto (-82), 3) := by decide +kernel
theorem dX4_feetIfFirstMoved_92 : decode cX4_feetIfFirstMoved 92 = .ok (.iload_n 1, 1) := by decide +kernel
theorem dX4_feetIfFirstMoved_93 : decode cX4_feetIfFirstMoved 93 = .ok (.iload_n 3, 1) := by decide +kernel
theorem dX4_feetIfFirstMoved_94 : decode cX4_feetIfFirstMoved 94 = .ok (.isub, 1) := by decide +kernel
theorem dX4_feetIfFirstMoved_95 : decode cX4_feetIfFirstMoved 95 = .ok (.aload_n 0, 1) := by decide +kernel
theorem dX4_feetIfFirstMoved_96 : decode cX4_feetIfFirstMoved 96 = .ok (.getfield 30, 3) := by decide +kernel
theorem dX4_feetIfFirstMoved_99 : decode cX4_feetIfFirstMoved 99 = .ok (.iconst 0, 1) := by decide +kernel
theorem dX4_feetIfFirstMoved_100 : decode cX4_feetIfFirstMoved 100 = .ok (.aaload, 1) := by decide +kernel
theorem dX4_feetIfFirstMoved_101 : decode cX4_feetIfFirstMoved 101 = .ok (.iconst 0, 1) := by decide +kernel
theorem dX4_feetIfFirstMoved_102 : decode cX4_feetIfFirstMoved 102 = .ok (.iaload, 1) := by decide +kernel
theorem dX4_feetIfFirstMoved_103 : decode cX4_feetIfFirstMoved 103 = .ok (.aload_n 0, 1) := by decide +kernel
theorem dX4_feetIfFirstMoved_104 : decode cX4_feetIfFirstMoved 104 = .ok (.getfield 30, 3) := by decide +kernel
theorem dX4_feetIfFirstMoved_107 : decode cX4_feetIfFirstMoved 107 = .ok (.iconst 0, 1) := by decide +kernel
theorem dX4_feetIfFirstMoved_108 : decode cX4_feetIfFirstMoved 108 = .ok (.aaload, 1) := by decide +kernel
theorem dX4_feetIfFirstMoved_109 : decode cX4_feetIfFirstMoved 109 = .ok (.bipush 8, 2) := by decide +kernel
theorem dX4_feetIfFirstMoved_111 : decode cX4_feetIfFirstMoved 111 = .ok (.iaload, 1) := by decide +kernel
theorem dX4_feetIfFirstMoved_112 : decode cX4_feetIfFirstMoved 112 = .ok (.isub, 1) := by decide +kernel
theorem dX4_feetIfFirstMoved_113 : decode cX4_feetIfFirstMoved 113 = .ok (.if_icmp .ne 7, 3) := by decide +kernel
theorem dX4_feetIfFirstMoved_116 : decode cX4_feetIfFirstMoved 116 = .ok (.iload_n 2, 1) := by decide +kernel
theorem dX4_feetIfFirstMoved_117 : decode cX4_feetIfFirstMoved 117 = .ok (.goto 4, 3) := by decide +kernel
theorem dX4_feetIfFirstMoved_120 : decode cX4_feetIfFirstMoved 120 = .ok (.iconst (-1), 1) := by decide +kernel
theorem dX4_feetIfFirstMoved_121 : decode cX4_feetIfFirstMoved 121 = .ok (.ireturn, 1) := by decide +kernel
