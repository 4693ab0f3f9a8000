theorem dX6_set_43 : decode cX6_set 43 = .ok (.iconst 0, 1) := by decide +kernel
theorem dX6_set_44 : decode cX6_set 44 = .ok (.iload_n 3, 1) := by decide +kernel
theorem dX6_set_45 : decode cX6_set 45 = .ok (.invokevirtual 129, 3) := by decide +kernel
theorem dX6_set_48 : decode cX6_set 48 = .ok (.ifCond .ne 5, 3) := by decide +kernel
theorem dX6_set_51 : decode cX6_set 51 = .ok (.iconst 0, 1) := by decide +kernel
theorem dX6_set_52 : decode cX6_set 52 = .ok (.ireturn, 1) := by decide +kernel
theorem dX6_set_53 : decode cX6_set 53 = .ok (.aload_n 0, 1) := by decide +kernel
theorem dX6_set_54 : decode cX6_set 54 = .ok (.getfield 53, 3) := by decide +kernel
theorem dX6_set_57 : decode cX6_set 57 = .ok (.iload_n 1, 1) := by decide +kernel
theorem dX6_set_58 : decode cX6_set 58 = .ok (.iload_n 2, 1) := by decide +kernel
theorem dX6_set_59 : decode cX6_set 59 = .ok (.iastore, 1) := by decide +kernel
theorem dX6_set_60 : decode cX6_set 60 = .ok (.iconst 1, 1) := by decide +kernel
theorem dX6_set_61 : decode cX6_set 61 = .ok (.ireturn, 1) := by decide +kernel
set_option maxRecDepth 20000 in
theorem ggX6_worthOf_X6_less : GoodIn wsX6_worthOf wsX6_less := goodIn_r _ [6] (by decide +kernel) (by decide +kernel)
set_option maxRecDepth 20000 in
theorem gX6_worthOf_X6_less : GoodIn wsX6_worthOf (wsV RX6 137 RX6 yX6_less wsX6_less) := goodIn_app (goodIn_of _ (by decide +kernel)) ggX6_worthOf_X6_less
theorem dX6_worthOf_0 : decode cX6_worthOf 0 = .ok (.aload_n 0, 1) := by decide +kernel
theorem dX6_worthOf_1 : decode cX6_worthOf 1 = .ok (.iload_n 1, 1) := by decide +kernel
theorem dX6_worthOf_2 : decode cX6_worthOf 2 = .ok (.bipush 10, 2) := by decide +kernel
theorem dX6_worthOf_4 : decode cX6_worthOf 4 = .ok (.invokevirtual 137, 3) := by decide +kernel
theorem dX6_worthOf_7 : decode cX6_worthOf 7 = .ok (.istore_n 2, 1) := by decide +kernel
theorem dX6_worthOf_8 : decode cX6_worthOf 8 = .ok (.aload_n 0, 1) := by decide +kernel
theorem dX6_worthOf_9 : decode cX6_worthOf 9 = .ok (.iload_n 1, 1) := by decide +kernel
theorem dX6_worthOf_10 : decode cX6_worthOf 10 = .ok (.bipush 30, 2) := by decide +kernel
theorem dX6_worthOf_12 : decode cX6_worthOf 12 = .ok (.invokevirtual 137, 3) := by decide +kernel
theorem dX6_worthOf_15 : decode cX6_worthOf 15 = .ok (.iload_n 2, 1) := by decide +kernel
theorem dX6_worthOf_16 : decode cX6_worthOf 16 = .ok (.isub, 1) := by decide +kernel
theorem dX6_worthOf_17 : decode cX6_worthOf 17 = .ok (.istore_n 3, 1) := by decide +kernel
theorem dX6_worthOf_18 : decode cX6_worthOf 18 = .ok (.aload_n 0, 1) := by decide +kernel
theorem dX6_worthOf_19 : decode cX6_worthOf 19 = .ok (.getfield 53, 3) := by decide +kernel
theorem dX6_worthOf_22 : decode cX6_worthOf 22 = .ok (.iconst 0, 1) := by decide +kernel
theorem dX6_worthOf_23 : decode cX6_worthOf 23 = .ok (.iaload, 1) := by decide +kernel
theorem dX6_worthOf_24 : decode cX6_worthOf 24 = .ok (.iload_n 2, 1) := by decide +kernel
theorem dX6_worthOf_25 : decode cX6_worthOf 25 = .ok (.imul, 1) := by decide +kernel
theorem dX6_worthOf_26 : decode cX6_worthOf 26 = .ok (.aload_n 0, 1) := by decide +kernel
theorem dX6_worthOf_27 : decode cX6_worthOf 27 = .ok (.getfield 53, 3) := by decide +kernel
theorem dX6_worthOf_30 : decode cX6_worthOf 30 = .ok (.iconst 1, 1) := by decide +kernel
theorem dX6_worthOf_31 : decode cX6_worthOf 31 = .ok (.iaload, 1) := by decide +kernel
theorem dX6_worthOf_32 : decode cX6_worthOf 32 = .ok (.iload_n 3, 1) := by decide +kernel
theorem dX6_worthOf_33 : decode cX6_worthOf 33 = .ok (.imul, 1) := by decide +kernel
theorem dX6_worthOf_34 : decode cX6_worthOf 34 = .ok (.iadd, 1) := by decide +kernel
theorem dX6_worthOf_35 : decode cX6_worthOf 35 = .ok (.aload_n 0, 1) := by decide +kernel
theorem dX6_worthOf_36 : decode cX6_worthOf 36 = .ok (.getfield 53, 3) := by decide +kernel
theorem dX6_worthOf_39 : decode cX6_worthOf 39 = .ok (.iconst 2, 1) := by decide +kernel
theorem dX6_worthOf_40 : decode cX6_worthOf 40 = .ok (.iaload, 1) := by decide +kernel
theorem dX6_worthOf_41 : decode cX6_worthOf 41 = .ok (.iload_n 1, 1) := by decide +kernel
theorem dX6_worthOf_42 : decode cX6_worthOf 42 = .ok (.iload_n 2, 1) := by decide +kernel
theorem dX6_worthOf_43 : decode cX6_worthOf 43 = .ok (.isub, 1) := by decide +kernel
theorem dX6_worthOf_44 : decode cX6_worthOf 44 = .ok (.iload_n 3, 1) := by decide +kernel
theorem dX6_worthOf_45 : decode cX6_worthOf 45 = .ok (.isub, 1) := by decide +kernel
theorem dX6_worthOf_46 : decode cX6_worthOf 46 = .ok (.imul, 1) := by decide +kernel
theorem dX6_worthOf_47 : decode cX6_worthOf 47 = .ok (.iadd, 1) := by decide +kernel
theorem dX6_worthOf_48 : decode cX6_worthOf 48 = .ok (.ireturn, 1) := by decide +kernel
set_option maxRecDepth 20000 in
theorem ggX6_worth_X6_isIn : GoodIn wsX6_worth wsX6_isIn := goodIn_r _ [6] (by decide +kernel) (by decide +kernel)
set_option maxRecDepth 20000 in
theorem gX6_worth_X6_isIn : GoodIn wsX6_worth (wsV RX6 129 RX6 yX6_isIn wsX6_isIn) := goodIn_app (goodIn_of _ (by decide +kernel)) ggX6_worth_X6_isIn
set_option maxRecDepth 20000 in
theorem ggX6_worth_X6_worthOf : GoodIn wsX6_worth wsX6_worthOf := goodIn_r _ [10, 11, 12, 13, 14, 5, 15, 16, 17, 18, 19, 20, 21, 22, 23, 24, 25, 26, 27, 28, 29, 30, 31, 32, 33, 34, 35, 36, 37, 38, 39, 40, 41, 42, 43, 44, 45, 46, 47, 48, 49, 50, 51, 52, 53, 54, 55, 56, 57, 58, 59, 60, 61, 62, 63, 64, 65, 66, 67, 68, 69, 70] (by decide +kernel) (by decide +kernel)
set_option maxRecDepth 20000 in
theorem gX6_worth_X6_worthOf : GoodIn wsX6_worth (wsV RX6 141 RX6 yX6_worthOf wsX6_worthOf) := goodIn_app (goodIn_of _ (by decide +kernel)) ggX6_worth_X6_worthOf
theorem dX6_worth_0 : decode cX6_worth 0 = .ok (.aload_n 0, 1) := by decide +kernel
theorem dX6_worth_1 : decode cX6_worth 1 = .ok (.iconst 0, 1) := by decide +kernel
theorem dX6_worth_2 : decode cX6_worth 2 = .ok (.putfield 121, 3) := by decide +kernel
theorem dX6_worth_5 : decode cX6_worth 5 = .ok (.aload_n 0, 1) := by decide +kernel
theorem dX6_worth_6 : decode cX6_worth 6 = .ok (.iload_n 1, 1) := by decide +kernel
theorem dX6_worth_7 : decode cX6_worth 7 = .ok (.iconst 0, 1) := by decide +kernel
theorem dX6_worth_8 : decode cX6_worth 8 = .ok (.sipush 600, 3) := by decide +kernel
theorem dX6_worth_11 : decode cX6_worth 11 = .ok (.invokevirtual 129, 3) := by decide +kernel
theorem dX6_worth_14 : decode cX6_worth 14 = .ok (.ifCond .eq 11, 3) := by decide +kernel
theorem dX6_worth_17 : decode cX6_worth 17 = .ok (.aload_n 0, 1) := by decide +kernel
theorem dX6_worth_18 : decode cX6_worth 18 = .ok (.iload_n 1, 1) := by decide +kernel
theorem dX6_worth_19 : decode cX6_worth 19 = .ok (.invokevirtual 141, 3) := by decide +kernel
theorem dX6_worth_22 : decode cX6_worth 22 = .ok (.goto 4, 3) := by decide +kernel
theorem dX6_worth_25 : decode cX6_worth 25 = .ok (.iconst (-1), 1) := by decide +kernel
theorem dX6_worth_26 : decode cX6_worth 26 = .ok (.ireturn, 1) := by decide +kernel
theorem dX6_rightOf_0 : decode cX6_rightOf 0 = .ok (.iload_n 1, 1) := by decide +kernel
theorem dX6_rightOf_1 : decode cX6_rightOf 1 = .ok (.iconst 1, 1) := by decide +kernel
theorem dX6_rightOf_2 : decode cX6_rightOf 2 = .ok (.iadd, 1) := by decide +kernel
theorem dX6_rightOf_3 : decode cX6_rightOf 3 = .ok (.aload_n 0, 1) := by decide +kernel
theorem dX6_rightOf_4 : decode cX6_rightOf 4 = .ok (.getfield 7, 3) := by decide +kernel
theorem dX6_rightOf_7 : decode cX6_rightOf 7 = .ok (.irem, 1) := by decide +kernel
theorem dX6_rightOf_8 : decode cX6_rightOf 8 = .ok (.ireturn, 1) := by decide +kernel
theorem dX6_leftOf_0 : decode cX6_leftOf 0 = .ok (.iload_n 1, 1) := by decide +kernel
theorem dX6_leftOf_1 : decode cX6_leftOf 1 = .ok (.aload_n 0, 1) := by decide +kernel
theorem dX6_leftOf_2 : decode cX6_leftOf 2 = .ok (.getfield 7, 3) := by decide +kernel
theorem dX6_leftOf_5 : decode cX6_leftOf 5 = .ok (.iadd, 1) := by decide +kernel
theorem dX6_leftOf_6 : decode cX6_leftOf 6 = .ok (.iconst 1, 1) := by decide +kernel
theorem dX6_leftOf_7 : decode cX6_leftOf 7 = .ok (.isub, 1) := by decide +kernel
theorem dX6_leftOf_8 : decode cX6_leftOf 8 = .ok (.aload_n 0, 1) := by decide +kernel
theorem dX6_leftOf_9 : decode cX6_leftOf 9 = .ok (.getfield 7, 3) := by decide +kernel
theorem dX6_leftOf_12 : decode cX6_leftOf 12 = .ok (.irem, 1) := by decide +kernel
theorem dX6_leftOf_13 : decode cX6_leftOf 13 = .ok (.ireturn, 1) := by decide +kernel
theorem dX6_puts_0 : decode cX6_puts 0 = .ok (.bipush 24, 2) := by decide +kernel
theorem dX6_puts_2 : decode cX6_puts 2 = .ok (.istore_n 2, 1) := by decide +kernel
theorem dX6_puts_3 : decode cX6_puts 3 = .ok (.iload_n 2, 1) := by decide +kernel
theorem dX6_puts_4 : decode cX6_puts 4 = .ok (.ifCond .lt 35, 3) := by decide +kernel
theorem dX6_puts_7 : decode cX6_puts 7 = .ok (.aload_n 0, 1) := by decide +kernel
theorem dX6_puts_8 : decode cX6_puts 8 = .ok (.getfield 56, 3) := by decide +kernel
theorem dX6_puts_11 : decode cX6_puts 11 = .ok (.aload_n 0, 1) := by decide +kernel
theorem dX6_puts_12 : decode cX6_puts 12 = .ok (.getfield 145, 3) := by decide +kernel
theorem dX6_puts_15 : decode cX6_puts 15 = .ok (.iload_n 1, 1) := by decide +kernel
theorem dX6_puts_16 : decode cX6_puts 16 = .ok (.iload_n 2, 1) := by decide +kernel
theorem dX6_puts_17 : decode cX6_puts 17 = .ok (.ishr, 1) := by decide +kernel
theorem dX6_puts_18 : decode cX6_puts 18 = .ok (.sipush 255, 3) := by decide +kernel
theorem dX6_puts_21 : decode cX6_puts 21 = .ok (.iand, 1) := by decide +kernel
theorem dX6_puts_22 : decode cX6_puts 22 = .ok (.iastore, 1) := by decide +kernel
theorem dX6_puts_23 : decode cX6_puts 23 = .ok (.aload_n 0, 1) := by decide +kernel
theorem dX6_puts_24 : decode cX6_puts 24 = .ok (.aload_n 0, 1) := by decide +kernel
theorem dX6_puts_25 : decode cX6_puts 25 = .ok (.getfield 145, 3) := by decide +kernel
theorem dX6_puts_28 : decode cX6_puts 28 = .ok (.iconst 1, 1) := by decide +kernel
theorem dX6_puts_29 : decode cX6_puts 29 = .ok (.iadd, 1) := by decide +kernel
theorem dX6_puts_30 : decode cX6_puts 30 = .ok (.putfield 145, 3) := by decide +kernel
theorem dX6_puts_33 : decode cX6_puts 33 = .ok (.iinc 2 (-8), 3) := by decide +kernel
theorem dX6_puts_36 : decode cX6_puts 36 = .ok (.goto (-33), 3) := by decide +kernel
theorem dX6_puts_39 : decode cX6_puts 39 = .ok (.return_, 1) := by decide +kernel
set_option maxRecDepth 20000 in
theorem ggX6_feed_X6_puts : GoodIn wsX6_feed wsX6_puts := goodIn_r _ [7, 8, 2, 9, 10, 11, 12, 13, 14, 15, 16, 17, 18, 19, 20, 21, 22, 23, 24, 25, 26, 27, 28, 29, 30, 31, 32, 33, 34, 35, 36, 37, 38, 39, 40, 41, 42, 43, 44, 45, 46, 47, 48, 49, 50, 51, 52, 53, 54, 55, 56, 57, 58, 59, 60, 61, 62, 63] (by decide +kernel) (by decide +kernel)
set_option maxRecDepth 20000 in
theorem gX6_feed_X6_puts : GoodIn wsX6_feed (wsV RX6 148 RX6 yX6_puts wsX6_puts) := goodIn_app (goodIn_of _ (by decide +kernel)) ggX6_feed_X6_puts
theorem dX6_feed_0 : decode cX6_feed 0 = .ok (.aload_n 0, 1) := by decide +kernel
theorem dX6_feed_1 : decode cX6_feed 1 = .ok (.iconst 0, 1) := by decide +kernel
theorem dX6_feed_2 : decode cX6_feed 2 = .ok (.putfield 121, 3) := by decide +kernel
theorem dX6_feed_5 : decode cX6_feed 5 = .ok (.aload_n 0, 1) := by decide +kernel
theorem dX6_feed_6 : decode cX6_feed 6 = .ok (.getfield 145, 3) := by decide +kernel
theorem dX6_feed_9 : decode cX6_feed 9 = .ok (.sipush 380, 3) := by decide +kernel
theorem dX6_feed_12 : decode cX6_feed 12 = .ok (.if_icmp .le 5, 3) := by decide +kernel
theorem dX6_feed_15 : decode cX6_feed 15 = .ok (.iconst (-1), 1) := by decide +kernel
theorem dX6_feed_16 : decode cX6_feed 16 = .ok (.ireturn, 1) := by decide +kernel
theorem dX6_feed_17 : decode cX6_feed 17 = .ok (.aload_n 0, 1) := by decide +kernel
theorem dX6_feed_18 : decode cX6_feed 18 = .ok (.iload_n 1, 1) := by decide +kernel
theorem dX6_feed_19 : decode cX6_feed 19 = .ok (.invokevirtual 148, 3) := by decide +kernel
theorem dX6_feed_22 : decode cX6_feed 22 = .ok (.aload_n 0, 1) := by decide +kernel
theorem dX6_feed_23 : decode cX6_feed 23 = .ok (.iload_n 2, 1) := by decide +kernel
theorem dX6_feed_24 : decode cX6_feed 24 = .ok (.invokevirtual 148, 3) := by decide +kernel
theorem dX6_feed_27 : decode cX6_feed 27 = .ok (.aload_n 0, 1) := by decide +kernel
theorem dX6_feed_28 : decode cX6_feed 28 = .ok (.iload_n 3, 1) := by decide +kernel
theorem dX6_feed_29 : decode cX6_feed 29 = .ok (.invokevirtual 148, 3) := by decide +kernel
theorem dX6_feed_32 : decode cX6_feed 32 = .ok (.aload_n 0, 1) := by decide +kernel
theorem dX6_feed_33 : decode cX6_feed 33 = .ok (.iload 4, 2) := by decide +kernel
theorem dX6_feed_35 : decode cX6_feed 35 = .ok (.invokevirtual 148, 3) := by decide +kernel
theorem dX6_feed_38 : decode cX6_feed 38 = .ok (.aload_n 0, 1) := by decide +kernel
theorem dX6_feed_39 : decode cX6_feed 39 = .ok (.iload 5, 2) := by decide +kernel
theorem dX6_feed_41 : decode cX6_feed 41 = .ok (.invokevirtual 148, 3) := by decide +kernel
theorem dX6_feed_44 : decode cX6_feed 44 = .ok (.aload_n 0, 1) := by decide +kernel
theorem dX6_feed_45 : decode cX6_feed 45 = .ok (.getfield 145, 3) := by decide +kernel
theorem dX6_feed_48 : decode cX6_feed 48 = .ok (.ireturn, 1) := by decide +kernel
set_option maxRecDepth 20000 in
theorem ggX6_end_X6_isIn : GoodIn wsX6_end wsX6_isIn := goodIn_r _ [7] (by decide +kernel) (by decide +kernel)
set_option maxRecDepth 20000 in
theorem gX6_end_X6_isIn : GoodIn wsX6_end (wsV RX6 129 RX6 yX6_isIn wsX6_isIn) := goodIn_app (goodIn_of _ (by decide +kernel)) ggX6_end_X6_isIn
theorem dX6_end_0 : decode cX6_end 0 = .ok (.aload_n 0, 1) := by decide +kernel
theorem dX6_end_1 : decode cX6_end 1 = .ok (.iconst 0, 1) := by decide +kernel
theorem dX6_end_2 : decode cX6_end 2 = .ok (.putfield 121, 3) := by decide +kernel
theorem dX6_end_5 : decode cX6_end 5 = .ok (.aload_n 0, 1) := by decide +kernel
theorem dX6_end_6 : decode cX6_end 6 = .ok (.iload_n 1, 1) := by decide +kernel
theorem dX6_end_7 : decode cX6_end 7 = .ok (.iconst 0, 1) := by decide +kernel
theorem dX6_end_8 : decode cX6_end 8 = .ok (.aload_n 0, 1) := by decide +kernel
theorem dX6_end_9 : decode cX6_end 9 = .ok (.getfield 145, 3) := by decide +kernel
theorem dX6_end_12 : decode cX6_end 12 = .ok (.invokevirtual 129, 3) := by decide +kernel
theorem dX6_end_15 : decode cX6_end 15 = .ok (.ifCond .ne 5, 3) := by decide +kernel
theorem dX6_end_18 : decode cX6_end 18 = .ok (.iconst 0, 1) := by decide +kernel
theorem dX6_end_19 : decode cX6_end 19 = .ok (.ireturn, 1) := by decide +kernel
theorem dX6_end_20 : decode cX6_end 20 = .ok (.aload_n 0, 1) := by decide +kernel
theorem dX6_end_21 : decode cX6_end 21 = .ok (.iload_n 1, 1) := by decide +kernel
theorem dX6_end_22 : decode cX6_end 22 = .ok (.putfield 145, 3) := by decide +kernel
theorem dX6_end_25 : decode cX6_end 25 = .ok (.iconst 1, 1) := by decide +kernel
theorem dX6_end_26 : decode cX6_end 26 = .ok (.ireturn, 1) := by decide +kernel
theorem dX6_raw_0 : decode cX6_raw 0 = .ok (.iload_n 1, 1) := by decide +kernel
theorem dX6_raw_1 : decode cX6_raw 1 = .ok (.aload_n 0, 1) := by decide +kernel
theorem dX6_raw_2 : decode cX6_raw 2 = .ok (.getfield 145, 3) := by decide +kernel
theorem dX6_raw_5 : decode cX6_raw 5 = .ok (.if_icmp .ge 12, 3) := by decide +kernel
theorem dX6_raw_8 : decode cX6_raw 8 = .ok (.aload_n 0, 1) := by decide +kernel
theorem dX6_raw_9 : decode cX6_raw 9 = .ok (.getfield 56, 3) := by decide +kernel
theorem dX6_raw_12 : decode cX6_raw 12 = .ok (.iload_n 1, 1) := by decide +kernel
theorem dX6_raw_13 : decode cX6_raw 13 = .ok (.iaload, 1) := by decide +kernel
theorem dX6_raw_14 : decode cX6_raw 14 = .ok (.goto 4, 3) := by decide +kernel
theorem dX6_raw_17 : decode cX6_raw 17 = .ok (.iconst (-1), 1) := by decide +kernel
theorem dX6_raw_18 : decode cX6_raw 18 = .ok (.ireturn, 1) := by decide +kernel
set_option maxRecDepth 20000 in
theorem ggX6_isLetter_X6_isIn : GoodIn wsX6_isLetter wsX6_isIn := goodIn_r _ [5] (by decide +kernel) (by decide +kernel)
set_option maxRecDepth 20000 in
theorem gX6_isLetter_X6_isIn : GoodIn wsX6_isLetter (wsV RX6 129 RX6 yX6_isIn wsX6_isIn) := goodIn_app (goodIn_of _ (by decide +kernel)) ggX6_isLetter_X6_isIn
theorem dX6_isLetter_0 : decode cX6_isLetter 0 = .ok (.aload_n 0, 1) := by decide +kernel
theorem dX6_isLetter_1 : decode cX6_isLetter 1 = .ok (.iload_n 1, 1) := by decide +kernel
theorem dX6_isLetter_2 : decode cX6_isLetter 2 = .ok (.bipush 97, 2) := by decide +kernel
theorem dX6_isLetter_4 : decode cX6_isLetter 4 = .ok (.bipush 122, 2) := by decide +kernel
theorem dX6_isLetter_6 : decode cX6_isLetter 6 = .ok (.invokevirtual 129, 3) := by decide +kernel
theorem dX6_isLetter_9 : decode cX6_isLetter 9 = .ok (.ifCond .ne 15, 3) := by decide +kernel
theorem dX6_isLetter_12 : decode cX6_isLetter 12 = .ok (.aload_n 0, 1) := by decide +kernel
theorem dX6_isLetter_13 : decode cX6_isLetter 13 = .ok (.iload_n 1, 1) := by decide +kernel
theorem dX6_isLetter_14 : decode cX6_isLetter 14 = .ok (.bipush 65, 2) := by decide +kernel
theorem dX6_isLetter_16 : decode cX6_isLetter 16 = .ok (.bipush 90, 2) := by decide +kernel
theorem dX6_isLetter_18 : decode cX6_isLetter 18 = .ok (.invokevirtual 129, 3) := by decide +kernel
theorem dX6_isLetter_21 : decode cX6_isLetter 21 = .ok (.ifCond .eq 7, 3) := by decide +kernel
theorem dX6_isLetter_24 : decode cX6_isLetter 24 = .ok (.iconst 1, 1) := by decide +kernel
theorem dX6_isLetter_25 : decode cX6_isLetter 25 = .ok (.goto 4, 3) := by decide +kernel
theorem dX6_isLetter_28 : decode cX6_isLetter 28 = .ok (.iconst 0, 1) := by decide +kernel
theorem dX6_isLetter_29 : decode cX6_isLetter 29 = .ok (.ireturn, 1) := by decide +kernel
set_option maxRecDepth 20000 in
theorem ggX6_isDigit_X6_isIn : GoodIn wsX6_isDigit wsX6_isIn := goodIn_r _ [5] (by decide +kernel) (by decide +kernel)
set_option maxRecDepth 20000 in
theorem gX6_isDigit_X6_isIn : GoodIn wsX6_isDigit (wsV RX6 129 RX6 yX6_isIn wsX6_isIn) := goodIn_app (goodIn_of _ (by decide +kernel)) ggX6_isDigit_X6_isIn
theorem dX6_isDigit_0 : decode cX6_isDigit 0 = .ok (.aload_n 0, 1) := by decide +kernel
theorem dX6_isDigit_1 : decode cX6_isDigit 1 = .ok (.iload_n 1, 1) := by decide +kernel
theorem dX6_isDigit_2 : decode cX6_isDigit 2 = .ok (.bipush 48, 2) := by decide +kernel
theorem dX6_isDigit_4 : decode cX6_isDigit 4 = .ok (.bipush 57, 2) := by decide +kernel
theorem dX6_isDigit_6 : decode cX6_isDigit 6 = .ok (.invokevirtual 129, 3) := by decide +kernel
theorem dX6_isDigit_9 : decode cX6_isDigit 9 = .ok (.ireturn, 1) := by decide +kernel
theorem dX6_isMarkSign_0 : decode cX6_isMarkSign 0 = .ok (.iload_n 1, 1) := by decide +kernel
theorem dX6_isMarkSign_1 : decode cX6_isMarkSign 1 = .ok (.bipush 59, 2) := by decide +kernel
theorem dX6_isMarkSign_3 : decode cX6_isMarkSign 3 = .ok (.if_icmp .eq 57, 3) := by decide +kernel
theorem dX6_isMarkSign_6 : decode cX6_isMarkSign 6 = .ok (.iload_n 1, 1) := by decide +kernel
theorem dX6_isMarkSign_7 : decode cX6_isMarkSign 7 = .ok (.bipush 43, 2) := by decide +kernel
theorem dX6_isMarkSign_9 : decode cX6_isMarkSign 9 = .ok (.if_icmp .eq 51, 3) := by decide +kernel
theorem dX6_isMarkSign_12 : decode cX6_isMarkSign 12 = .ok (.iload_n 1, 1) := by decide +kernel
theorem dX6_isMarkSign_13 : decode cX6_isMarkSign 13 = .ok (.bipush 45, 2) := by decide +kernel
theorem dX6_isMarkSign_15 : decode cX6_isMarkSign 15 = .ok (.if_icmp .eq 45, 3) := by decide +kernel
theorem dX6_isMarkSign_18 : decode cX6_isMarkSign 18 = .ok (.iload_n 1, 1) := by decide +kernel
theorem dX6_isMarkSign_19 : decode cX6_isMarkSign 19 = .ok (.bipush 42, 2) := by decide +kernel
theorem dX6_isMarkSign_21 : decode cX6_isMarkSign 21 = .ok (.if_icmp .eq 39, 3) := by decide +kernel
theorem dX6_isMarkSign_24 : decode cX6_isMarkSign 24 = .ok (.iload_n 1, 1) := by decide +kernel
theorem dX6_isMarkSign_25 : decode cX6_isMarkSign 25 = .ok (.bipush 47, 2) := by decide +kernel
theorem dX6_isMarkSign_27 : decode cX6_isMarkSign 27 = .ok (.if_icmp .eq 33, 3) := by decide +kernel
theorem dX6_isMarkSign_30 : decode cX6_isMarkSign 30 = .ok (.iload_n 1, 1) := by decide +kernel
theorem dX6_isMarkSign_31 : decode cX6_isMarkSign 31 = .ok (.bipush 40, 2) := by decide +kernel
theorem dX6_isMarkSign_33 : decode cX6_isMarkSign 33 = .ok (.if_icmp .eq 27, 3) := by decide +kernel
theorem dX6_isMarkSign_36 : decode cX6_isMarkSign 36 = .ok (.iload_n 1, 1) := by decide +kernel
theorem dX6_isMarkSign_37 : decode cX6_isMarkSign 37 = .ok (.bipush 41, 2) := by decide +kernel
theorem dX6_isMarkSign_39 : decode cX6_isMarkSign 39 = .ok (.if_icmp .eq 21, 3) := by decide +kernel
theorem dX6_isMarkSign_42 : decode cX6_isMarkSign 42 = .ok (.iload_n 1, 1) := by decide +kernel
theorem dX6_isMarkSign_43 : decode cX6_isMarkSign 43 = .ok (.bipush 60, 2) := by decide +kernel
theorem dX6_isMarkSign_45 : decode cX6_isMarkSign 45 = .ok (.if_icmp .eq 15, 3) := by decide +kernel
theorem dX6_isMarkSign_48 : decode cX6_isMarkSign 48 = .ok (.iload_n 1, 1) := by decide +kernel
theorem dX6_isMarkSign_49 : decode cX6_isMarkSign 49 = .ok (.bipush 61, 2) := by decide +kernel
theorem dX6_isMarkSign_51 : decode cX6_isMarkSign 51 = .ok (.if_icmp .eq 9, 3) := by decide +kernel
theorem dX6_isMarkSign_54 : decode cX6_isMarkSign 54 = .ok (.iload_n 1, 1) := by decide +kernel
theorem dX6_isMarkSign_55 : decode cX6_isMarkSign 55 = .ok (.bipush 62, 2) := by decide +kernel
theorem dX6_isMarkSign_57 : decode cX6_isMarkSign 57 = .ok (.if_icmp .ne 7, 3) := by decide +kernel
theorem dX6_isMarkSign_60 : decode cX6_isMarkSign 60 = .ok (.iconst 1, 1) := by decide +kernel
theorem dX6_isMarkSign_61 : decode cX6_isMarkSign 61 = .ok (.goto 4, 3) := by decide +kernel
theorem dX6_isMarkSign_64 : decode cX6_isMarkSign 64 = .ok (.iconst 0, 1) := by decide +kernel
theorem dX6_isMarkSign_65 : decode cX6_isMarkSign 65 = .ok (.ireturn, 1) := by decide +kernel
theorem dX6_wordAt_0 : decode cX6_wordAt 0 = .ok (.iconst (-1), 1) := by decide +kernel
theorem dX6_wordAt_1 : decode cX6_wordAt 1 = .ok (.istore_n 3, 1) := by decide +kernel
theorem dX6_wordAt_2 : decode cX6_wordAt 2 = .ok (.iconst 0, 1) := by decide +kernel
theorem dX6_wordAt_3 : decode cX6_wordAt 3 = .ok (.istore 4, 2) := by decide +kernel
theorem dX6_wordAt_5 : decode cX6_wordAt 5 = .ok (.iload 4, 2) := by decide +kernel
theorem dX6_wordAt_7 : decode cX6_wordAt 7 = .ok (.bipush 98, 2) := by decide +kernel
theorem dX6_wordAt_9 : decode cX6_wordAt 9 = .ok (.if_icmp .ge 108, 3) := by decide +kernel
theorem dX6_wordAt_12 : decode cX6_wordAt 12 = .ok (.iconst 0, 1) := by decide +kernel
theorem dX6_wordAt_13 : decode cX6_wordAt 13 = .ok (.istore 5, 2) := by decide +kernel
theorem dX6_wordAt_15 : decode cX6_wordAt 15 = .ok (.iload_n 3, 1) := by decide +kernel
theorem dX6_wordAt_16 : decode cX6_wordAt 16 = .ok (.iconst 1, 1) := by decide +kernel
theorem dX6_wordAt_17 : decode cX6_wordAt 17 = .ok (.iadd, 1) := by decide +kernel
theorem dX6_wordAt_18 : decode cX6_wordAt 18 = .ok (.istore_n 3, 1) := by decide +kernel
theorem dX6_wordAt_19 : decode cX6_wordAt 19 = .ok (.iload_n 1, 1) := by decide +kernel
theorem dX6_wordAt_20 : decode cX6_wordAt 20 = .ok (.iload 5, 2) := by decide +kernel
theorem dX6_wordAt_22 : decode cX6_wordAt 22 = .ok (.iadd, 1) := by decide +kernel
theorem dX6_wordAt_23 : decode cX6_wordAt 23 = .ok (.iload_n 2, 1) := by decide +kernel
theorem dX6_wordAt_24 : decode cX6_wordAt 24 = .ok (.if_icmp .ge 36, 3) := by decide +kernel
theorem dX6_wordAt_27 : decode cX6_wordAt 27 = .ok (.aload_n 0, 1) := by decide +kernel
theorem dX6_wordAt_28 : decode cX6_wordAt 28 = .ok (.getfield 59, 3) := by decide +kernel
theorem dX6_wordAt_31 : decode cX6_wordAt 31 = .ok (.iload 4, 2) := by decide +kernel
theorem dX6_wordAt_33 : decode cX6_wordAt 33 = .ok (.iconst 1, 1) := by decide +kernel
theorem dX6_wordAt_34 : decode cX6_wordAt 34 = .ok (.iadd, 1) := by decide +kernel
theorem dX6_wordAt_35 : decode cX6_wordAt 35 = .ok (.iload 5, 2) := by decide +kernel
theorem dX6_wordAt_37 : decode cX6_wordAt 37 = .ok (.iadd, 1) := by decide +kernel
theorem dX6_wordAt_38 : decode cX6_wordAt 38 = .ok (.iaload, 1) := by decide +kernel
theorem dX6_wordAt_39 : decode cX6_wordAt 39 = .ok (.aload_n 0, 1) := by decide +kernel
theorem dX6_wordAt_40 : decode cX6_wordAt 40 = .ok (.getfield 56, 3) := by decide +kernel
theorem dX6_wordAt_43 : decode cX6_wordAt 43 = .ok (.iload_n 1, 1) := by decide +kernel
theorem dX6_wordAt_44 : decode cX6_wordAt 44 = .ok (.iload 5, 2) := by decide +kernel
theorem dX6_wordAt_46 : decode cX6_wordAt 46 = .ok (.iadd, 1) := by decide +kernel
theorem dX6_wordAt_47 : decode cX6_wordAt 47 = .ok (.iaload, 1) := by decide +kernel
theorem dX6_wordAt_48 : decode cX6_wordAt 48 = .ok (.if_icmp .ne 12, 3) := by decide +kernel
theorem dX6_wordAt_51 : decode cX6_wordAt 51 = .ok (.iload 5, 2) := by decide +kernel
theorem dX6_wordAt_53 : decode cX6_wordAt 53 = .ok (.iconst 1, 1) := by decide +kernel
theorem dX6_wordAt_54 : decode cX6_wordAt 54 = .ok (.iadd, 1) := by decide +kernel
theorem dX6_wordAt_55 : decode cX6_wordAt 55 = .ok (.istore 5, 2) := by decide +kernel
theorem dX6_wordAt_57 : decode cX6_wordAt 57 = .ok (.goto (-38), 3) := by decide +kernel
theorem dX6_wordAt_60 : decode cX6_wordAt 60 = .ok (.iload_n 1, 1) := by decide +kernel
theorem dX6_wordAt_61 : decode cX6_wordAt 61 = .ok (.iload 5, 2) := by decide +kernel
theorem dX6_wordAt_63 : decode cX6_wordAt 63 = .ok (.iadd, 1) := by decide +kernel
theorem dX6_wordAt_64 : decode cX6_wordAt 64 = .ok (.iload_n 2, 1) := by decide +kernel
theorem dX6_wordAt_65 : decode cX6_wordAt 65 = .ok (.if_icmp .ne 22, 3) := by decide +kernel
theorem dX6_wordAt_68 : decode cX6_wordAt 68 = .ok (.aload_n 0, 1) := by decide +kernel
theorem dX6_wordAt_69 : decode cX6_wordAt 69 = .ok (.getfield 59, 3) := by decide +kernel
theorem dX6_wordAt_72 : decode cX6_wordAt 72 = .ok (.iload 4, 2) := by decide +kernel
theorem dX6_wordAt_74 : decode cX6_wordAt 74 = .ok (.iconst 1, 1) := by decide +kernel
theorem dX6_wordAt_75 : decode cX6_wordAt 75 = .ok (.iadd, 1) := by decide +kernel
theorem dX6_wordAt_76 : decode cX6_wordAt 76 = .ok (.iload 5, 2) := by decide +kernel
theorem dX6_wordAt_78 : decode cX6_wordAt 78 = .ok (.iadd, 1) := by decide +kernel
theorem dX6_wordAt_79 : decode cX6_wordAt 79 = .ok (.iaload, 1) := by decide +kernel
theorem dX6_wordAt_80 : decode cX6_wordAt 80 = .ok (.bipush 32, 2) := by decide +kernel
theorem dX6_wordAt_82 : decode cX6_wordAt 82 = .ok (.if_icmp .ne 5, 3) := by decide +kernel
theorem dX6_wordAt_85 : decode cX6_wordAt 85 = .ok (.iload_n 3, 1) := by decide +kernel
theorem dX6_wordAt_86 : decode cX6_wordAt 86 = .ok (.ireturn, 1) := by decide +kernel
theorem dX6_wordAt_87 : decode cX6_wordAt 87 = .ok (.iload 4, 2) := by decide +kernel
theorem dX6_wordAt_89 : decode cX6_wordAt 89 = .ok (.iconst 1, 1) := by decide +kernel
theorem dX6_wordAt_90 : decode cX6_wordAt 90 = .ok (.iadd, 1) := by decide +kernel
theorem dX6_wordAt_91 : decode cX6_wordAt 91 = .ok (.istore 4, 2) := by decide +kernel
theorem dX6_wordAt_93 : decode cX6_wordAt 93 = .ok (.aload_n 0, 1) := by decide +kernel
theorem dX6_wordAt_94 : decode cX6_wordAt 94 = .ok (.getfield 59, 3) := by decide +kernel
theorem dX6_wordAt_97 : decode cX6_wordAt 97 = .ok (.iload 4, 2) := by decide +kernel
theorem dX6_wordAt_99 : decode cX6_wordAt 99 = .ok (.iaload, 1) := by decide +kernel
theorem dX6_wordAt_100 : decode cX6_wordAt 100 = .ok (.bipush 32, 2) := by decide +kernel
theorem dX6_wordAt_102 : decode cX6_wordAt 102 = .ok (.if_icmp .eq 12, 3) := by decide +kernel
theorem dX6_wordAt_105 : decode cX6_wordAt 105 = .ok (.iload 4, 2) := by decide +kernel
theorem dX6_wordAt_107 : decode cX6_wordAt 107 = .ok (.iconst 1, 1) := by decide +kernel
theorem dX6_wordAt_108 : decode cX6_wordAt 108 = .ok (.iadd, 1) := by decide +kernel
theorem dX6_wordAt_109 : decode cX6_wordAt 109 = .ok (.istore 4, 2) := by decide +kernel
theorem dX6_wordAt_111 : decode cX6_wordAt 111 = .ok (.goto (-18), 3) := by decide +kernel
theorem dX6_wordAt_114 : decode cX6_wordAt 114 = .ok (.goto (-109), 3) := by decide +kernel
theorem dX6_wordAt_117 : decode cX6_wordAt 117 = .ok (.iconst (-1), 1) := by decide +kernel
theorem dX6_wordAt_118 : decode cX6_wordAt 118 = .ok (.ireturn, 1) := by decide +kernel
set_option maxRecDepth 20000 in
theorem ggX6_reads_X6_raw : GoodIn wsX6_reads wsX6_raw := goodIn_r _ [9, 10, 11, 33, 34, 35, 36, 37, 38, 39, 40, 41, 42, 43, 44, 45, 46, 47, 48, 49, 50, 51, 52, 53, 54, 55, 56, 57, 58, 59, 60, 61, 62, 63, 64, 65, 66, 67, 68, 69, 70, 71, 72, 73, 74, 75, 76, 77, 78, 79, 80, 81, 82, 83, 84, 85, 86, 87] (by decide +kernel) (by decide +kernel)
set_option maxRecDepth 20000 in
theorem gX6_reads_X6_raw : GoodIn wsX6_reads (wsV RX6 155 RX6 yX6_raw wsX6_raw) := goodIn_app (goodIn_of _ (by decide +kernel)) ggX6_reads_X6_raw
set_option maxRecDepth 20000 in
theorem ggX6_reads_X6_isLetter : GoodIn wsX6_reads wsX6_isLetter := goodIn_r _ [15, 16, 17, 18, 8, 19] (by decide +kernel) (by decide +kernel)
set_option maxRecDepth 20000 in
theorem gX6_reads_X6_isLetter : GoodIn wsX6_reads (wsV RX6 167 RX6 yX6_isLetter wsX6_isLetter) := goodIn_app (goodIn_of _ (by decide +kernel)) ggX6_reads_X6_isLetter
set_option maxRecDepth 20000 in
theorem ggX6_reads_X6_wordAt : GoodIn wsX6_reads wsX6_wordAt := goodIn_r _ [23, 24, 11, 33, 34, 35, 36, 37, 38, 39, 40, 41, 42, 43, 44, 45, 46, 47, 48, 49, 50, 51, 52, 53, 54, 55, 56, 57, 58, 59, 60, 61, 62, 63, 64, 65, 66, 67, 68, 69, 70, 71, 72, 73, 74, 75, 76, 77, 78, 79, 80, 81, 82, 83, 84, 85, 86, 87] (by decide +kernel) (by decide +kernel)
set_option maxRecDepth 20000 in
theorem gX6_reads_X6_wordAt : GoodIn wsX6_reads (wsV RX6 170 RX6 yX6_wordAt wsX6_wordAt) := goodIn_app (goodIn_of _ (by decide +kernel)) ggX6_reads_X6_wordAt
set_option maxRecDepth 20000 in
theorem ggX6_reads_X6_isDigit : GoodIn wsX6_reads wsX6_isDigit := goodIn_r _ [28, 16, 17, 18, 8, 19] (by decide +kernel) (by decide +kernel)
set_option maxRecDepth 20000 in
theorem gX6_reads_X6_isDigit : GoodIn wsX6_reads (wsV RX6 173 RX6 yX6_isDigit wsX6_isDigit) := goodIn_app (goodIn_of _ (by decide +kernel)) ggX6_reads_X6_isDigit
set_option maxRecDepth 20000 in
theorem ggX6_reads_X6_isMarkSign : GoodIn wsX6_reads wsX6_isMarkSign := goodIn_r _ [32] (by decide +kernel) (by decide +kernel)
set_option maxRecDepth 20000 in
theorem gX6_reads_X6_isMarkSign : GoodIn wsX6_reads (wsV RX6 176 RX6 yX6_isMarkSign wsX6_isMarkSign) := goodIn_app (goodIn_of _ (by decide +kernel)) ggX6_reads_X6_isMarkSign
theorem dX6_reads_0 : decode cX6_reads 0 = .ok (.aload_n 0, 1) := by decide +kernel
theorem dX6_reads_1 : decode cX6_reads 1 = .ok (.aload_n 0, 1) := by decide +kernel
theorem dX6_reads_2 : decode cX6_reads 2 = .ok (.getfield 152, 3) := by decide +kernel
theorem dX6_reads_5 : decode cX6_reads 5 = .ok (.invokevirtual 155, 3) := by decide +kernel
theorem dX6_reads_8 : decode cX6_reads 8 = .ok (.bipush 32, 2) := by decide +kernel
theorem dX6_reads_10 : decode cX6_reads 10 = .ok (.if_icmp .eq 16, 3) := by decide +kernel
theorem dX6_reads_13 : decode cX6_reads 13 = .ok (.aload_n 0, 1) := by decide +kernel
theorem dX6_reads_14 : decode cX6_reads 14 = .ok (.aload_n 0, 1) := by decide +kernel
theorem dX6_reads_15 : decode cX6_reads 15 = .ok (.getfield 152, 3) := by decide +kernel
theorem dX6_reads_18 : decode cX6_reads 18 = .ok (.invokevirtual 155, 3) := by decide +kernel
theorem dX6_reads_21 : decode cX6_reads 21 = .ok (.bipush 10, 2) := by decide +kernel
theorem dX6_reads_23 : decode cX6_reads 23 = .ok (.if_icmp .ne 16, 3) := by decide +kernel
theorem dX6_reads_26 : decode cX6_reads 26 = .ok (.aload_n 0, 1) := by decide +kernel
theorem dX6_reads_27 : decode cX6_reads 27 = .ok (.aload_n 0, 1) := by decide +kernel
theorem dX6_reads_28 : decode cX6_reads 28 = .ok (.getfield 152, 3) := by decide +kernel
theorem dX6_reads_31 : decode cX6_reads 31 = .ok (.iconst 1, 1) := by decide +kernel
theorem dX6_reads_32 : decode cX6_reads 32 = .ok (.iadd, 1) := by decide +kernel
theorem dX6_reads_33 : decode cX6_reads 33 = .ok (.putfield 152, 3) := by decide +kernel
theorem dX6_reads_36 : decode cX6_reads 36 = .ok (.goto (-36), 3) := by decide +kernel
theorem dX6_reads_39 : decode cX6_reads 39 = .ok (.aload_n 0, 1) := by decide +kernel
theorem dX6_reads_40 : decode cX6_reads 40 = .ok (.aload_n 0, 1) := by decide +kernel
theorem dX6_reads_41 : decode cX6_reads 41 = .ok (.getfield 152, 3) := by decide +kernel
theorem dX6_reads_44 : decode cX6_reads 44 = .ok (.putfield 158, 3) := by decide +kernel
theorem dX6_reads_47 : decode cX6_reads 47 = .ok (.aload_n 0, 1) := by decide +kernel
theorem dX6_reads_48 : decode cX6_reads 48 = .ok (.iconst 1, 1) := by decide +kernel
theorem dX6_reads_49 : decode cX6_reads 49 = .ok (.putfield 161, 3) := by decide +kernel
theorem dX6_reads_52 : decode cX6_reads 52 = .ok (.aload_n 0, 1) := by decide +kernel
theorem dX6_reads_53 : decode cX6_reads 53 = .ok (.aload_n 0, 1) := by decide +kernel
theorem dX6_reads_54 : decode cX6_reads 54 = .ok (.getfield 152, 3) := by decide +kernel
theorem dX6_reads_57 : decode cX6_reads 57 = .ok (.invokevirtual 155, 3) := by decide +kernel
theorem dX6_reads_60 : decode cX6_reads 60 = .ok (.istore_n 1, 1) := by decide +kernel
theorem dX6_reads_61 : decode cX6_reads 61 = .ok (.iload_n 1, 1) := by decide +kernel
theorem dX6_reads_62 : decode cX6_reads 62 = .ok (.iconst (-1), 1) := by decide +kernel
theorem dX6_reads_63 : decode cX6_reads 63 = .ok (.if_icmp .ne 9, 3) := by decide +kernel
theorem dX6_reads_66 : decode cX6_reads 66 = .ok (.aload_n 0, 1) := by decide +kernel
theorem dX6_reads_67 : decode cX6_reads 67 = .ok (.iconst 0, 1) := by decide +kernel
theorem dX6_reads_68 : decode cX6_reads 68 = .ok (.putfield 161, 3) := by decide +kernel
theorem dX6_reads_71 : decode cX6_reads 71 = .ok (.return_, 1) := by decide +kernel
theorem dX6_reads_72 : decode cX6_reads 72 = .ok (.aload_n 0, 1) := by decide +kernel
theorem dX6_reads_73 : decode cX6_reads 73 = .ok (.aload_n 0, 1) := by decide +kernel
theorem dX6_reads_74 : decode cX6_reads 74 = .ok (.getfield 152, 3) := by decide +kernel
theorem dX6_reads_77 : decode cX6_reads 77 = .ok (.iconst 1, 1) := by decide +kernel
theorem dX6_reads_78 : decode cX6_reads 78 = .ok (.iadd, 1) := by decide +kernel
theorem dX6_reads_79 : decode cX6_reads 79 = .ok (.putfield 152, 3) := by decide +kernel
theorem dX6_reads_82 : decode cX6_reads 82 = .ok (.aload_n 0, 1) := by decide +kernel
theorem dX6_reads_83 : decode cX6_reads 83 = .ok (.iload_n 1, 1) := by decide +kernel
theorem dX6_reads_84 : decode cX6_reads 84 = .ok (.putfield 164, 3) := by decide +kernel
theorem dX6_reads_87 : decode cX6_reads 87 = .ok (.aload_n 0, 1) := by decide +kernel
theorem dX6_reads_88 : decode cX6_reads 88 = .ok (.iload_n 1, 1) := by decide +kernel
theorem dX6_reads_89 : decode cX6_reads 89 = .ok (.invokevirtual 167, 3) := by decide +kernel
theorem dX6_reads_92 : decode cX6_reads 92 = .ok (.ifCond .eq 63, 3) := by decide +kernel
theorem dX6_reads_95 : decode cX6_reads 95 = .ok (.aload_n 0, 1) := by decide +kernel
theorem dX6_reads_96 : decode cX6_reads 96 = .ok (.aload_n 0, 1) := by decide +kernel
theorem dX6_reads_97 : decode cX6_reads 97 = .ok (.aload_n 0, 1) := by decide +kernel
theorem dX6_reads_98 : decode cX6_reads 98 = .ok (.getfield 152, 3) := by decide +kernel
theorem dX6_reads_101 : decode cX6_reads 101 = .ok (.invokevirtual 155, 3) := by decide +kernel
theorem dX6_reads_104 : decode cX6_reads 104 = .ok (.invokevirtual 167, 3) := by decide +kernel
theorem dX6_reads_107 : decode cX6_reads 107 = .ok (.ifCond .eq 16, 3) := by decide +kernel
theorem dX6_reads_110 : decode cX6_reads 110 = .ok (.aload_n 0, 1) := by decide +kernel
theorem dX6_reads_111 : decode cX6_reads 111 = .ok (.aload_n 0, 1) := by decide +kernel
theorem dX6_reads_112 : decode cX6_reads 112 = .ok (.getfield 152, 3) := by decide +kernel
theorem dX6_reads_115 : decode cX6_reads 115 = .ok (.iconst 1, 1) := by decide +kernel
theorem dX6_reads_116 : decode cX6_reads 116 = .ok (.iadd, 1) := by decide +kernel
theorem dX6_reads_117 : decode cX6_reads 117 = .ok (.putfield 152, 3) := by decide +kernel
theorem dX6_reads_120 : decode cX6_reads 120 = .ok (.goto (-25), 3) := by decide +kernel
theorem dX6_reads_123 : decode cX6_reads 123 = .ok (.aload_n 0, 1) := by decide +kernel
theorem dX6_reads_124 : decode cX6_reads 124 = .ok (.aload_n 0, 1) := by decide +kernel
theorem dX6_reads_125 : decode cX6_reads 125 = .ok (.aload_n 0, 1) := by decide +kernel
theorem dX6_reads_126 : decode cX6_reads 126 = .ok (.getfield 158, 3) := by decide +kernel
theorem dX6_reads_129 : decode cX6_reads 129 = .ok (.aload_n 0, 1) := by decide +kernel
theorem dX6_reads_130 : decode cX6_reads 130 = .ok (.getfield 152, 3) := by decide +kernel
theorem dX6_reads_133 : decode cX6_reads 133 = .ok (.invokevirtual 170, 3) := by decide +kernel
theorem dX6_reads_136 : decode cX6_reads 136 = .ok (.putfield 164, 3) := by decide +kernel
theorem dX6_reads_139 : decode cX6_reads 139 = .ok (.aload_n 0, 1) := by decide +kernel
theorem dX6_reads_140 : decode cX6_reads 140 = .ok (.getfield 164, 3) := by decide +kernel
theorem dX6_reads_143 : decode cX6_reads 143 = .ok (.iconst (-1), 1) := by decide +kernel
theorem dX6_reads_144 : decode cX6_reads 144 = .ok (.if_icmp .eq 129, 3) := by decide +kernel
theorem dX6_reads_147 : decode cX6_reads 147 = .ok (.aload_n 0, 1) := by decide +kernel
theorem dX6_reads_148 : decode cX6_reads 148 = .ok (.iconst 2, 1) := by decide +kernel
theorem dX6_reads_149 : decode cX6_reads 149 = .ok (.putfield 161, 3) := by decide +kernel
theorem dX6_reads_152 : decode cX6_reads 152 = .ok (.goto 121, 3) := by decide +kernel
theorem dX6_reads_155 : decode cX6_reads 155 = .ok (.aload_n 0, 1) := by decide +kernel
theorem dX6_reads_156 : decode cX6_reads 156 = .ok (.iload_n 1, 1) := by decide +kernel
theorem dX6_reads_157 : decode cX6_reads 157 = .ok (.invokevirtual 173, 3) := by decide +kernel
theorem dX6_reads_160 : decode cX6_reads 160 = .ok (.ifCond .eq 100, 3) := by decide +kernel
theorem dX6_reads_163 : decode cX6_reads 163 = .ok (.aload_n 0, 1) := by decide +kernel
theorem dX6_reads_164 : decode cX6_reads 164 = .ok (.iload_n 1, 1) := by decide +kernel
theorem dX6_reads_165 : decode cX6_reads 165 = .ok (.bipush 48, 2) := by decide +kernel
theorem dX6_reads_167 : decode cX6_reads 167 = .ok (.isub, 1) := by decide +kernel
theorem dX6_reads_168 : decode cX6_reads 168 = .ok (.putfield 164, 3) := by decide +kernel
theorem dX6_reads_171 : decode cX6_reads 171 = .ok (.aload_n 0, 1) := by decide +kernel
theorem dX6_reads_172 : decode cX6_reads 172 = .ok (.aload_n 0, 1) := by decide +kernel
theorem dX6_reads_173 : decode cX6_reads 173 = .ok (.aload_n 0, 1) := by decide +kernel
theorem dX6_reads_174 : decode cX6_reads 174 = .ok (.getfield 152, 3) := by decide +kernel
theorem dX6_reads_177 : decode cX6_reads 177 = .ok (.invokevirtual 155, 3) := by decide +kernel
theorem dX6_reads_180 : decode cX6_reads 180 = .ok (.invokevirtual 173, 3) := by decide +kernel
theorem dX6_reads_183 : decode cX6_reads 183 = .ok (.ifCond .eq 56, 3) := by decide +kernel
theorem dX6_reads_186 : decode cX6_reads 186 = .ok (.aload_n 0, 1) := by decide +kernel
theorem dX6_reads_187 : decode cX6_reads 187 = .ok (.aload_n 0, 1) := by decide +kernel
theorem dX6_reads_188 : decode cX6_reads 188 = .ok (.getfield 164, 3) := by decide +kernel
theorem dX6_reads_191 : decode cX6_reads 191 = .ok (.sipush 10000, 3) := by decide +kernel
theorem dX6_reads_194 : decode cX6_reads 194 = .ok (.if_icmp .ge 25, 3) := by decide +kernel
theorem dX6_reads_197 : decode cX6_reads 197 = .ok (.bipush 10, 2) := by decide +kernel
theorem dX6_reads_199 : decode cX6_reads 199 = .ok (.aload_n 0, 1) := by decide +kernel
theorem dX6_reads_200 : decode cX6_reads 200 = .ok (.getfield 164, 3) := by decide +kernel
theorem dX6_reads_203 : decode cX6_reads 203 = .ok (.imul, 1) := by decide +kernel
theorem dX6_reads_204 : decode cX6_reads 204 = .ok (.aload_n 0, 1) := by decide +kernel
theorem dX6_reads_205 : decode cX6_reads 205 = .ok (.aload_n 0, 1) := by decide +kernel
theorem dX6_reads_206 : decode cX6_reads 206 = .ok (.getfield 152, 3) := by decide +kernel
theorem dX6_reads_209 : decode cX6_reads 209 = .ok (.invokevirtual 155, 3) := by decide +kernel
theorem dX6_reads_212 : decode cX6_reads 212 = .ok (.iadd, 1) := by decide +kernel
theorem dX6_reads_213 : decode cX6_reads 213 = .ok (.bipush 48, 2) := by decide +kernel
theorem dX6_reads_215 : decode cX6_reads 215 = .ok (.isub, 1) := by decide +kernel
theorem dX6_reads_216 : decode cX6_reads 216 = .ok (.goto 7, 3) := by decide +kernel
theorem dX6_reads_219 : decode cX6_reads 219 = .ok (.aload_n 0, 1) := by decide +kernel
theorem dX6_reads_220 : decode cX6_reads 220 = .ok (.getfield 164, 3) := by decide +kernel
theorem dX6_reads_223 : decode cX6_reads 223 = .ok (.putfield 164, 3) := by decide +kernel
theorem dX6_reads_226 : decode cX6_reads 226 = .ok (.aload_n 0, 1) := by decide +kernel
theorem dX6_reads_227 : decode cX6_reads 227 = .ok (.aload_n 0, 1) := by decide +kernel
theorem dX6_reads_228 : decode cX6_reads 228 = .ok (.getfield 152, 3) := by decide +kernel
theorem dX6_reads_231 : decode cX6_reads 231 = .ok (.iconst 1, 1) := by decide +kernel
theorem dX6_reads_232 : decode cX6_reads 232 = .ok (.iadd, 1) := by decide +kernel
theorem dX6_reads_233 : decode cX6_reads 233 = .ok (.putfield 152, 3) := by decide +kernel
theorem dX6_reads_236 : decode cX6_reads 236 = .ok (.goto (-65), 3) := by decide +kernel
theorem dX6_reads_239 : decode cX6_reads 239 = .ok (.aload_n 0, 1) := by decide +kernel
theorem dX6_reads_240 : decode cX6_reads 240 = .ok (.getfield 152, 3) := by decide +kernel
theorem dX6_reads_243 : decode cX6_reads 243 = .ok (.aload_n 0, 1) := by decide +kernel
theorem dX6_reads_244 : decode cX6_reads 244 = .ok (.getfield 158, 3) := by decide +kernel
theorem dX6_reads_247 : decode cX6_reads 247 = .ok (.isub, 1) := by decide +kernel
theorem dX6_reads_248 : decode cX6_reads 248 = .ok (.iconst 5, 1) := by decide +kernel
theorem dX6_reads_249 : decode cX6_reads 249 = .ok (.if_icmp .ge 24, 3) := by decide +kernel
theorem dX6_reads_252 : decode cX6_reads 252 = .ok (.aload_n 0, 1) := by decide +kernel
theorem dX6_reads_253 : decode cX6_reads 253 = .ok (.iconst 3, 1) := by decide +kernel
theorem dX6_reads_254 : decode cX6_reads 254 = .ok (.putfield 161, 3) := by decide +kernel
theorem dX6_reads_257 : decode cX6_reads 257 = .ok (.goto 16, 3) := by decide +kernel
theorem dX6_reads_260 : decode cX6_reads 260 = .ok (.aload_n 0, 1) := by decide +kernel
theorem dX6_reads_261 : decode cX6_reads 261 = .ok (.iload_n 1, 1) := by decide +kernel
theorem dX6_reads_262 : decode cX6_reads 262 = .ok (.invokevirtual 176, 3) := by decide +kernel
theorem dX6_reads_265 : decode cX6_reads 265 = .ok (.ifCond .eq 8, 3) := by decide +kernel
theorem dX6_reads_268 : decode cX6_reads 268 = .ok (.aload_n 0, 1) := by decide +kernel
theorem dX6_reads_269 : decode cX6_reads 269 = .ok (.iconst 4, 1) := by decide +kernel
theorem dX6_reads_270 : decode cX6_reads 270 = .ok (.putfield 161, 3) := by decide +kernel
theorem dX6_reads_273 : decode cX6_reads 273 = .ok (.return_, 1) := by decide +kernel
theorem dX6_errs_0 : decode cX6_errs 0 = .ok (.aload_n 0, 1) := by decide +kernel
theorem dX6_errs_1 : decode cX6_errs 1 = .ok (.iload_n 1, 1) := by decide +kernel
theorem dX6_errs_2 : decode cX6_errs 2 = .ok (.putfield 179, 3) := by decide +kernel
theorem dX6_errs_5 : decode cX6_errs 5 = .ok (.aload_n 0, 1) := by decide +kernel
theorem dX6_errs_6 : decode cX6_errs 6 = .ok (.aload_n 0, 1) := by decide +kernel
theorem dX6_errs_7 : decode cX6_errs 7 = .ok (.getfield 158, 3) := by decide +kernel
theorem dX6_errs_10 : decode cX6_errs 10 = .ok (.putfield 182, 3) := by decide +kernel
theorem dX6_errs_13 : decode cX6_errs 13 = .ok (.iconst (-1), 1) := by decide +kernel
theorem dX6_errs_14 : decode cX6_errs 14 = .ok (.ireturn, 1) := by decide +kernel
theorem dX6_isWord_0 : decode cX6_isWord 0 = .ok (.aload_n 0, 1) := by decide +kernel
theorem dX6_isWord_1 : decode cX6_isWord 1 = .ok (.getfield 161, 3) := by decide +kernel
theorem dX6_isWord_4 : decode cX6_isWord 4 = .ok (.iconst 2, 1) := by decide +kernel
theorem dX6_isWord_5 : decode cX6_isWord 5 = .ok (.if_icmp .ne 15, 3) := by decide +kernel
theorem dX6_isWord_8 : decode cX6_isWord 8 = .ok (.aload_n 0, 1) := by decide +kernel
theorem dX6_isWord_9 : decode cX6_isWord 9 = .ok (.getfield 164, 3) := by decide +kernel
theorem dX6_isWord_12 : decode cX6_isWord 12 = .ok (.iload_n 1, 1) := by decide +kernel
theorem dX6_isWord_13 : decode cX6_isWord 13 = .ok (.if_icmp .ne 7, 3) := by decide +kernel
theorem dX6_isWord_16 : decode cX6_isWord 16 = .ok (.iconst 1, 1) := by decide +kernel
theorem dX6_isWord_17 : decode cX6_isWord 17 = .ok (.goto 4, 3) := by decide +kernel
theorem dX6_isWord_20 : decode cX6_isWord 20 = .ok (.iconst 0, 1) := by decide +kernel
theorem dX6_isWord_21 : decode cX6_isWord 21 = .ok (.ireturn, 1) := by decide +kernel
theorem dX6_isSign_0 : decode cX6_isSign 0 = .ok (.aload_n 0, 1) := by decide +kernel
theorem dX6_isSign_1 : decode cX6_isSign 1 = .ok (.getfield 161, 3) := by decide +kernel
theorem dX6_isSign_4 : decode cX6_isSign 4 = .ok (.iconst 4, 1) := by decide +kernel
theorem dX6_isSign_5 : decode cX6_isSign 5 = .ok (.if_icmp .ne 15, 3) := by decide +kernel
theorem dX6_isSign_8 : decode cX6_isSign 8 = .ok (.aload_n 0, 1) := by decide +kernel
theorem dX6_isSign_9 : decode cX6_isSign 9 = .ok (.getfield 164, 3) := by decide +kernel
theorem dX6_isSign_12 : decode cX6_isSign 12 = .ok (.iload_n 1, 1) := by decide +kernel
theorem dX6_isSign_13 : decode cX6_isSign 13 = .ok (.if_icmp .ne 7, 3) := by decide +kernel
theorem dX6_isSign_16 : decode cX6_isSign 16 = .ok (.iconst 1, 1) := by decide +kernel
theorem dX6_isSign_17 : decode cX6_isSign 17 = .ok (.goto 4, 3) := by decide +kernel
theorem dX6_isSign_20 : decode cX6_isSign 20 = .ok (.iconst 0, 1) := by decide +kernel
theorem dX6_isSign_21 : decode cX6_isSign 21 = .ok (.ireturn, 1) := by decide +kernel
theorem dX6_emits_0 : decode cX6_emits 0 = .ok (.aload_n 0, 1) := by decide +kernel
theorem dX6_emits_1 : decode cX6_emits 1 = .ok (.getfield 74, 3) := by decide +kernel
theorem dX6_emits_4 : decode cX6_emits 4 = .ok (.sipush 1600, 3) := by decide +kernel
theorem dX6_emits_7 : decode cX6_emits 7 = .ok (.aload_n 0, 1) := by decide +kernel
theorem dX6_emits_8 : decode cX6_emits 8 = .ok (.getfield 185, 3) := by decide +kernel
theorem dX6_emits_11 : decode cX6_emits 11 = .ok (.iadd, 1) := by decide +kernel
theorem dX6_emits_12 : decode cX6_emits 12 = .ok (.iload_n 1, 1) := by decide +kernel
theorem dX6_emits_13 : decode cX6_emits 13 = .ok (.iastore, 1) := by decide +kernel
theorem dX6_emits_14 : decode cX6_emits 14 = .ok (.aload_n 0, 1) := by decide +kernel
theorem dX6_emits_15 : decode cX6_emits 15 = .ok (.getfield 77, 3) := by decide +kernel
theorem dX6_emits_18 : decode cX6_emits 18 = .ok (.sipush 1600, 3) := by decide +kernel
theorem dX6_emits_21 : decode cX6_emits 21 = .ok (.aload_n 0, 1) := by decide +kernel
theorem dX6_emits_22 : decode cX6_emits 22 = .ok (.getfield 185, 3) := by decide +kernel
theorem dX6_emits_25 : decode cX6_emits 25 = .ok (.iadd, 1) := by decide +kernel
theorem dX6_emits_26 : decode cX6_emits 26 = .ok (.iload_n 2, 1) := by decide +kernel
theorem dX6_emits_27 : decode cX6_emits 27 = .ok (.iastore, 1) := by decide +kernel
theorem dX6_emits_28 : decode cX6_emits 28 = .ok (.aload_n 0, 1) := by decide +kernel
theorem dX6_emits_29 : decode cX6_emits 29 = .ok (.aload_n 0, 1) := by decide +kernel
theorem dX6_emits_30 : decode cX6_emits 30 = .ok (.getfield 185, 3) := by decide +kernel
theorem dX6_emits_33 : decode cX6_emits 33 = .ok (.iconst 1, 1) := by decide +kernel
theorem dX6_emits_34 : decode cX6_emits 34 = .ok (.iadd, 1) := by decide +kernel
theorem dX6_emits_35 : decode cX6_emits 35 = .ok (.putfield 185, 3) := by decide +kernel
theorem dX6_emits_38 : decode cX6_emits 38 = .ok (.return_, 1) := by decide +kernel
set_option maxRecDepth 20000 in
theorem ggX6_readUnit_X6_errs : GoodIn wsX6_readUnit wsX6_errs := goodIn_r _ [7, 8, 9, 10, 50, 51, 52, 53, 54, 55, 56, 57, 58, 59, 60, 61, 62, 63, 64, 65, 66, 67, 68, 69, 70, 71, 72, 73, 74, 75, 76, 77, 78, 79, 80, 81, 82, 83, 84, 85, 86, 87, 88, 89, 90, 91, 92, 93, 94, 95, 96, 97, 98, 99, 100, 101, 102, 103, 104] (by decide +kernel) (by decide +kernel)
set_option maxRecDepth 20000 in
theorem gX6_readUnit_X6_errs : GoodIn wsX6_readUnit (wsV RX6 188 RX6 yX6_errs wsX6_errs) := goodIn_app (goodIn_of _ (by decide +kernel)) ggX6_readUnit_X6_errs
set_option maxRecDepth 20000 in
theorem ggX6_readUnit_X6_emits : GoodIn wsX6_readUnit wsX6_emits := goodIn_r _ [14, 15, 16, 17, 50, 51, 52, 53, 54, 55, 56, 57, 58, 59, 60, 61, 62, 63, 64, 65, 66, 67, 68, 69, 70, 71, 72, 73, 74, 75, 76, 77, 78, 79, 80, 81, 82, 83, 84, 85, 86, 87, 88, 89, 90, 91, 92, 93, 94, 95, 96, 97, 98, 99, 100, 101, 102, 103, 104] (by decide +kernel) (by decide +kernel)
set_option maxRecDepth 20000 in
theorem gX6_readUnit_X6_emits : GoodIn wsX6_readUnit (wsV RX6 191 RX6 yX6_emits wsX6_emits) := goodIn_app (goodIn_of _ (by decide +kernel)) ggX6_readUnit_X6_emits
set_option maxRecDepth 20000 in
theorem ggX6_readUnit_X6_reads : GoodIn wsX6_readUnit wsX6_reads := goodIn_r _ [21, 22, 9, 1, 2, 23, 24, 25, 6, 26, 27, 28, 29, 30, 31, 32, 33, 34, 35, 36, 37, 38, 39, 40, 41, 42, 43, 44, 45, 46, 47, 48, 49, 50, 51, 52, 53, 54, 55, 56, 57, 58, 59, 60, 61, 62, 63, 64, 65, 66, 67, 68, 69, 70, 71, 72, 73, 74, 75, 76, 77, 78, 79, 80, 81, 82, 83, 84, 85, 86, 87, 88, 89, 90, 91, 92, 93, 94, 95, 96, 97, 98, 99, 100, 101, 102, 103, 104] (by decide +kernel) (by decide +kernel)
set_option maxRecDepth 20000 in
theorem gX6_readUnit_X6_reads : GoodIn wsX6_readUnit (wsV RX6 195 RX6 yX6_reads wsX6_reads) := goodIn_app (goodIn_of _ (by decide +kernel)) ggX6_readUnit_X6_reads
theorem dX6_readUnit_0 : decode cX6_readUnit 0 = .ok (.aload_n 0, 1) := by decide +kernel
theorem dX6_readUnit_1 : decode cX6_readUnit 1 = .ok (.getfield 161, 3) := by decide +kernel
theorem dX6_readUnit_4 : decode cX6_readUnit 4 = .ok (.iconst 2, 1) := by decide +kernel
theorem dX6_readUnit_5 : decode cX6_readUnit 5 = .ok (.if_icmp .ne 15, 3) := by decide +kernel
theorem dX6_readUnit_8 : decode cX6_readUnit 8 = .ok (.aload_n 0, 1) := by decide +kernel
theorem dX6_readUnit_9 : decode cX6_readUnit 9 = .ok (.getfield 164, 3) := by decide +kernel
theorem dX6_readUnit_12 : decode cX6_readUnit 12 = .ok (.iconst 5, 1) := by decide +kernel
theorem dX6_readUnit_13 : decode cX6_readUnit 13 = .ok (.if_icmp .lt 7, 3) := by decide +kernel
theorem dX6_readUnit_16 : decode cX6_readUnit 16 = .ok (.iconst 1, 1) := by decide +kernel
theorem dX6_readUnit_17 : decode cX6_readUnit 17 = .ok (.goto 4, 3) := by decide +kernel
theorem dX6_readUnit_20 : decode cX6_readUnit 20 = .ok (.iconst 0, 1) := by decide +kernel
theorem dX6_readUnit_21 : decode cX6_readUnit 21 = .ok (.istore_n 1, 1) := by decide +kernel
theorem dX6_readUnit_22 : decode cX6_readUnit 22 = .ok (.iload_n 1, 1) := by decide +kernel
theorem dX6_readUnit_23 : decode cX6_readUnit 23 = .ok (.ifCond .ne 17, 3) := by decide +kernel
theorem dX6_readUnit_26 : decode cX6_readUnit 26 = .ok (.aload_n 0, 1) := by decide +kernel
theorem dX6_readUnit_27 : decode cX6_readUnit 27 = .ok (.getfield 161, 3) := by decide +kernel
theorem dX6_readUnit_30 : decode cX6_readUnit 30 = .ok (.iconst 3, 1) := by decide +kernel
theorem dX6_readUnit_31 : decode cX6_readUnit 31 = .ok (.if_icmp .eq 9, 3) := by decide +kernel
theorem dX6_readUnit_34 : decode cX6_readUnit 34 = .ok (.aload_n 0, 1) := by decide +kernel
theorem dX6_readUnit_35 : decode cX6_readUnit 35 = .ok (.iconst 1, 1) := by decide +kernel
theorem dX6_readUnit_36 : decode cX6_readUnit 36 = .ok (.invokevirtual 188, 3) := by decide +kernel
theorem dX6_readUnit_39 : decode cX6_readUnit 39 = .ok (.ireturn, 1) := by decide +kernel
theorem dX6_readUnit_40 : decode cX6_readUnit 40 = .ok (.aload_n 0, 1) := by decide +kernel
theorem dX6_readUnit_41 : decode cX6_readUnit 41 = .ok (.iload_n 1, 1) := by decide +kernel
theorem dX6_readUnit_42 : decode cX6_readUnit 42 = .ok (.ifCond .eq 7, 3) := by decide +kernel
theorem dX6_readUnit_45 : decode cX6_readUnit 45 = .ok (.iconst 1, 1) := by decide +kernel
theorem dX6_readUnit_46 : decode cX6_readUnit 46 = .ok (.goto 4, 3) := by decide +kernel
theorem dX6_readUnit_49 : decode cX6_readUnit 49 = .ok (.iconst 0, 1) := by decide +kernel
theorem dX6_readUnit_50 : decode cX6_readUnit 50 = .ok (.iload_n 1, 1) := by decide +kernel
theorem dX6_readUnit_51 : decode cX6_readUnit 51 = .ok (.ifCond .eq 12, 3) := by decide +kernel
theorem dX6_readUnit_54 : decode cX6_readUnit 54 = .ok (.aload_n 0, 1) := by decide +kernel
theorem dX6_readUnit_55 : decode cX6_readUnit 55 = .ok (.getfield 164, 3) := by decide +kernel
theorem dX6_readUnit_58 : decode cX6_readUnit 58 = .ok (.iconst 5, 1) := by decide +kernel
theorem dX6_readUnit_59 : decode cX6_readUnit 59 = .ok (.isub, 1) := by decide +kernel
theorem dX6_readUnit_60 : decode cX6_readUnit 60 = .ok (.goto 7, 3) := by decide +kernel
theorem dX6_readUnit_63 : decode cX6_readUnit 63 = .ok (.aload_n 0, 1) := by decide +kernel
theorem dX6_readUnit_64 : decode cX6_readUnit 64 = .ok (.getfield 164, 3) := by decide +kernel
theorem dX6_readUnit_67 : decode cX6_readUnit 67 = .ok (.invokevirtual 191, 3) := by decide +kernel
theorem dX6_readUnit_70 : decode cX6_readUnit 70 = .ok (.aload_n 0, 1) := by decide +kernel
theorem dX6_readUnit_71 : decode cX6_readUnit 71 = .ok (.invokevirtual 195, 3) := by decide +kernel
theorem dX6_readUnit_74 : decode cX6_readUnit 74 = .ok (.iconst 0, 1) := by decide +kernel
theorem dX6_readUnit_75 : decode cX6_readUnit 75 = .ok (.ireturn, 1) := by decide +kernel
set_option maxRecDepth 20000 in
theorem ggX6_readProduct_X6_readUnit : GoodIn wsX6_readProduct wsX6_readUnit := goodIn_r _ [7, 1, 2, 8, 9, 10, 6, 11, 12, 13, 14, 15, 16, 17, 18, 19, 20, 21, 22, 23, 24, 25, 26, 27, 28, 29, 30, 31, 32, 33, 34, 35, 36, 37, 38, 39, 40, 41, 42, 43, 44, 45, 46, 47, 48, 49, 50, 51, 52, 53, 58, 59, 60, 61, 62, 63, 64, 65, 66, 67, 68, 69, 70, 71, 72, 73, 74, 75, 76, 77, 78, 79, 80, 81, 82, 83, 84, 85, 86, 87, 88, 89, 90, 91, 92, 93, 94, 95, 96, 97, 98, 99, 100, 101, 102, 103, 104, 105, 106, 107, 108, 109, 110, 111, 112] (by decide +kernel) (by decide +kernel)
set_option maxRecDepth 20000 in
theorem gX6_readProduct_X6_readUnit : GoodIn wsX6_readProduct (wsV RX6 198 RX6 yX6_readUnit wsX6_readUnit) := goodIn_app (goodIn_of _ (by decide +kernel)) ggX6_readProduct_X6_readUnit
set_option maxRecDepth 20000 in
theorem ggX6_readProduct_X6_isSign : GoodIn wsX6_readProduct wsX6_isSign := goodIn_r _ [57, 1, 2, 58, 59, 60, 61, 62, 63, 64, 65, 66, 67, 68, 69, 70, 71, 72, 73, 74, 75, 76, 77, 78, 79, 80, 81, 82, 83, 84, 85, 86, 87, 88, 89, 90, 91, 92, 93, 94, 95, 96, 97, 98, 99, 100, 101, 102, 103, 104, 105, 106, 107, 108, 109, 110, 111, 112] (by decide +kernel) (by decide +kernel)
set_option maxRecDepth 20000 in
theorem gX6_readProduct_X6_isSign : GoodIn wsX6_readProduct (wsV RX6 202 RX6 yX6_isSign wsX6_isSign) := goodIn_app (goodIn_of _ (by decide +kernel)) ggX6_readProduct_X6_isSign
set_option maxRecDepth 20000 in
theorem ggX6_readProduct_X6_reads : GoodIn wsX6_readProduct wsX6_reads := goodIn_r _ [25, 26, 13, 1, 2, 27, 28, 29, 6, 30, 31, 32, 33, 34, 35, 36, 37, 38, 39, 40, 41, 42, 43, 44, 45, 46, 47, 48, 49, 50, 51, 52, 53, 58, 59, 60, 61, 62, 63, 64, 65, 66, 67, 68, 69, 70, 71, 72, 73, 74, 75, 76, 77, 78, 79, 80, 81, 82, 83, 84, 85, 86, 87, 88, 89, 90, 91, 92, 93, 94, 95, 96, 97, 98, 99, 100, 101, 102, 103, 104, 105, 106, 107, 108, 109, 110, 111, 112] (by decide +kernel) (by decide +kernel)
set_option maxRecDepth 20000 in
theorem gX6_readProduct_X6_reads : GoodIn wsX6_readProduct (wsV RX6 195 RX6 yX6_reads wsX6_reads) := goodIn_app (goodIn_of _ (by decide +kernel)) ggX6_readProduct_X6_reads
set_option maxRecDepth 20000 in
theorem ggX6_readProduct_X6_errs : GoodIn wsX6_readProduct wsX6_errs := goodIn_r _ [11, 12, 13, 14, 58, 59, 60, 61, 62, 63, 64, 65, 66, 67, 68, 69, 70, 71, 72, 73, 74, 75, 76, 77, 78, 79, 80, 81, 82, 83, 84, 85, 86, 87, 88, 89, 90, 91, 92, 93, 94, 95, 96, 97, 98, 99, 100, 101, 102, 103, 104, 105, 106, 107, 108, 109, 110, 111, 112] (by decide +kernel) (by decide +kernel)
set_option maxRecDepth 20000 in
theorem gX6_readProduct_X6_errs : GoodIn wsX6_readProduct (wsV RX6 188 RX6 yX6_errs wsX6_errs) := goodIn_app (goodIn_of _ (by decide +kernel)) ggX6_readProduct_X6_errs
set_option maxRecDepth 20000 in
theorem ggX6_readProduct_X6_emits : GoodIn wsX6_readProduct wsX6_emits := goodIn_r _ [18, 19, 20, 21, 58, 59, 60, 61, 62, 63, 64, 65, 66, 67, 68, 69, 70, 71, 72, 73, 74, 75, 76, 77, 78, 79, 80, 81, 82, 83, 84, 85, 86, 87, 88, 89, 90, 91, 92, 93, 94, 95, 96, 97, 98, 99, 100, 101, 102, 103, 104, 105, 106, 107, 108, 109, 110, 111, 112] (by decide +kernel) (by decide +kernel)
set_option maxRecDepth 20000 in
theorem gX6_readProduct_X6_emits : GoodIn wsX6_readProduct (wsV RX6 191 RX6 yX6_emits wsX6_emits) := goodIn_app (goodIn_of _ (by decide +kernel)) ggX6_readProduct_X6_emits
theorem dX6_readProduct_0 : decode cX6_readProduct 0 = .ok (.aload_n 0, 1) := by decide +kernel
theorem dX6_readProduct_1 : decode cX6_readProduct 1 = .ok (.invokevirtual 198, 3) := by decide +kernel
theorem dX6_readProduct_4 : decode cX6_readProduct 4 = .ok (.iconst (-1), 1) := by decide +kernel
theorem dX6_readProduct_5 : decode cX6_readProduct 5 = .ok (.if_icmp .ne 5, 3) := by decide +kernel
theorem dX6_readProduct_8 : decode cX6_readProduct 8 = .ok (.iconst (-1), 1) := by decide +kernel
theorem dX6_readProduct_9 : decode cX6_readProduct 9 = .ok (.ireturn, 1) := by decide +kernel
theorem dX6_readProduct_10 : decode cX6_readProduct 10 = .ok (.aload_n 0, 1) := by decide +kernel
theorem dX6_readProduct_11 : decode cX6_readProduct 11 = .ok (.bipush 42, 2) := by decide +kernel
theorem dX6_readProduct_13 : decode cX6_readProduct 13 = .ok (.invokevirtual 202, 3) := by decide +kernel
theorem dX6_readProduct_16 : decode cX6_readProduct 16 = .ok (.ifCond .ne 12, 3) := by decide +kernel
theorem dX6_readProduct_19 : decode cX6_readProduct 19 = .ok (.aload_n 0, 1) := by decide +kernel
theorem dX6_readProduct_20 : decode cX6_readProduct 20 = .ok (.bipush 47, 2) := by decide +kernel
theorem dX6_readProduct_22 : decode cX6_readProduct 22 = .ok (.invokevirtual 202, 3) := by decide +kernel
theorem dX6_readProduct_25 : decode cX6_readProduct 25 = .ok (.ifCond .eq 76, 3) := by decide +kernel
theorem dX6_readProduct_28 : decode cX6_readProduct 28 = .ok (.aload_n 0, 1) := by decide +kernel
theorem dX6_readProduct_29 : decode cX6_readProduct 29 = .ok (.bipush 42, 2) := by decide +kernel
theorem dX6_readProduct_31 : decode cX6_readProduct 31 = .ok (.invokevirtual 202, 3) := by decide +kernel
theorem dX6_readProduct_34 : decode cX6_readProduct 34 = .ok (.istore_n 1, 1) := by decide +kernel
theorem dX6_readProduct_35 : decode cX6_readProduct 35 = .ok (.aload_n 0, 1) := by decide +kernel
theorem dX6_readProduct_36 : decode cX6_readProduct 36 = .ok (.invokevirtual 195, 3) := by decide +kernel
theorem dX6_readProduct_39 : decode cX6_readProduct 39 = .ok (.iload_n 1, 1) := by decide +kernel
theorem dX6_readProduct_40 : decode cX6_readProduct 40 = .ok (.ifCond .ne 17, 3) := by decide +kernel
theorem dX6_readProduct_43 : decode cX6_readProduct 43 = .ok (.aload_n 0, 1) := by decide +kernel
theorem dX6_readProduct_44 : decode cX6_readProduct 44 = .ok (.getfield 161, 3) := by decide +kernel
theorem dX6_readProduct_47 : decode cX6_readProduct 47 = .ok (.iconst 3, 1) := by decide +kernel
theorem dX6_readProduct_48 : decode cX6_readProduct 48 = .ok (.if_icmp .eq 9, 3) := by decide +kernel
theorem dX6_readProduct_51 : decode cX6_readProduct 51 = .ok (.aload_n 0, 1) := by decide +kernel
theorem dX6_readProduct_52 : decode cX6_readProduct 52 = .ok (.iconst 1, 1) := by decide +kernel
theorem dX6_readProduct_53 : decode cX6_readProduct 53 = .ok (.invokevirtual 188, 3) := by decide +kernel
theorem dX6_readProduct_56 : decode cX6_readProduct 56 = .ok (.ireturn, 1) := by decide +kernel
theorem dX6_readProduct_57 : decode cX6_readProduct 57 = .ok (.iload_n 1, 1) := by decide +kernel
theorem dX6_readProduct_58 : decode cX6_readProduct 58 = .ok (.ifCond .ne 16, 3) := by decide +kernel
theorem dX6_readProduct_61 : decode cX6_readProduct 61 = .ok (.aload_n 0, 1) := by decide +kernel
theorem dX6_readProduct_62 : decode cX6_readProduct 62 = .ok (.getfield 164, 3) := by decide +kernel
theorem dX6_readProduct_65 : decode cX6_readProduct 65 = .ok (.ifCond .ne 9, 3) := by decide +kernel
theorem dX6_readProduct_68 : decode cX6_readProduct 68 = .ok (.aload_n 0, 1) := by decide +kernel
theorem dX6_readProduct_69 : decode cX6_readProduct 69 = .ok (.iconst 2, 1) := by decide +kernel
theorem dX6_readProduct_70 : decode cX6_readProduct 70 = .ok (.invokevirtual 188, 3) := by decide +kernel
theorem dX6_readProduct_73 : decode cX6_readProduct 73 = .ok (.ireturn, 1) := by decide +kernel
theorem dX6_readProduct_74 : decode cX6_readProduct 74 = .ok (.aload_n 0, 1) := by decide +kernel
theorem dX6_readProduct_75 : decode cX6_readProduct 75 = .ok (.invokevirtual 198, 3) := by decide +kernel
theorem dX6_readProduct_78 : decode cX6_readProduct 78 = .ok (.iconst (-1), 1) := by decide +kernel
theorem dX6_readProduct_79 : decode cX6_readProduct 79 = .ok (.if_icmp .ne 5, 3) := by decide +kernel
theorem dX6_readProduct_82 : decode cX6_readProduct 82 = .ok (.iconst (-1), 1) := by decide +kernel
theorem dX6_readProduct_83 : decode cX6_readProduct 83 = .ok (.ireturn, 1) := by decide +kernel
theorem dX6_readProduct_84 : decode cX6_readProduct 84 = .ok (.aload_n 0, 1) := by decide +kernel
theorem dX6_readProduct_85 : decode cX6_readProduct 85 = .ok (.iload_n 1, 1) := by decide +kernel
theorem dX6_readProduct_86 : decode cX6_readProduct 86 = .ok (.ifCond .eq 7, 3) := by decide +kernel
theorem dX6_readProduct_89 : decode cX6_readProduct 89 = .ok (.iconst 4, 1) := by decide +kernel
theorem dX6_readProduct_90 : decode cX6_readProduct 90 = .ok (.goto 4, 3) := by decide +kernel
theorem dX6_readProduct_93 : decode cX6_readProduct 93 = .ok (.iconst 5, 1) := by decide +kernel
theorem dX6_readProduct_94 : decode cX6_readProduct 94 = .ok (.iconst 0, 1) := by decide +kernel
theorem dX6_readProduct_95 : decode cX6_readProduct 95 = .ok (.invokevirtual 191, 3) := by decide +kernel
theorem dX6_readProduct_98 : decode cX6_readProduct 98 = .ok (.goto (-88), 3) := by decide +kernel
theorem dX6_readProduct_101 : decode cX6_readProduct 101 = .ok (.iconst 0, 1) := by decide +kernel
theorem dX6_readProduct_102 : decode cX6_readProduct 102 = .ok (.ireturn, 1) := by decide +kernel
set_option maxRecDepth 20000 in
theorem ggX6_readSum_X6_readProduct : GoodIn wsX6_readSum wsX6_readProduct := goodIn_r _ [6, 7, 1, 8, 9, 10, 5, 11, 12, 13, 14, 15, 16, 17, 18, 19, 20, 21, 22, 23, 24, 25, 26, 27, 28, 29, 30, 31, 32, 33, 34, 35, 36, 37, 38, 39, 40, 41, 42, 43, 44, 45, 46, 47, 48, 49, 50, 51, 52, 53, 54, 55, 56, 57, 58, 59, 60, 61, 62, 63, 64, 65, 66, 67, 68, 69, 70, 71, 72, 73, 74, 75, 76, 77, 78, 79, 80, 81, 82, 83, 84, 85, 86, 87, 88, 89, 90, 91, 92, 93, 94, 95, 96, 97, 98, 99, 100, 101, 102, 103, 104, 105, 106, 107, 108, 109, 110, 111, 112, 113, 114, 115, 116] (by decide +kernel) (by decide +kernel)
set_option maxRecDepth 20000 in
theorem gX6_readSum_X6_readProduct : GoodIn wsX6_readSum (wsV RX6 205 RX6 yX6_readProduct wsX6_readProduct) := goodIn_app (goodIn_of _ (by decide +kernel)) ggX6_readSum_X6_readProduct
set_option maxRecDepth 20000 in
theorem ggX6_readSum_X6_isSign : GoodIn wsX6_readSum wsX6_isSign := goodIn_r _ [61, 7, 1, 62, 63, 64, 65, 66, 67, 68, 69, 70, 71, 72, 73, 74, 75, 76, 77, 78, 79, 80, 81, 82, 83, 84, 85, 86, 87, 88, 89, 90, 91, 92, 93, 94, 95, 96, 97, 98, 99, 100, 101, 102, 103, 104, 105, 106, 107, 108, 109, 110, 111, 112, 113, 114, 115, 116] (by decide +kernel) (by decide +kernel)
set_option maxRecDepth 20000 in
theorem gX6_readSum_X6_isSign : GoodIn wsX6_readSum (wsV RX6 202 RX6 yX6_isSign wsX6_isSign) := goodIn_app (goodIn_of _ (by decide +kernel)) ggX6_readSum_X6_isSign
set_option maxRecDepth 20000 in
theorem ggX6_readSum_X6_reads : GoodIn wsX6_readSum wsX6_reads := goodIn_r _ [29, 30, 17, 7, 1, 31, 32, 33, 5, 34, 35, 36, 37, 38, 39, 40, 41, 42, 43, 44, 45, 46, 47, 48, 49, 50, 51, 52, 53, 54, 55, 56, 57, 62, 63, 64, 65, 66, 67, 68, 69, 70, 71, 72, 73, 74, 75, 76, 77, 78, 79, 80, 81, 82, 83, 84, 85, 86, 87, 88, 89, 90, 91, 92, 93, 94, 95, 96, 97, 98, 99, 100, 101, 102, 103, 104, 105, 106, 107, 108, 109, 110, 111, 112, 113, 114, 115, 116] (by decide +kernel) (by decide +kernel)
set_option maxRecDepth 20000 in
theorem gX6_readSum_X6_reads : GoodIn wsX6_readSum (wsV RX6 195 RX6 yX6_reads wsX6_reads) := goodIn_app (goodIn_of _ (by decide +kernel)) ggX6_readSum_X6_reads
set_option maxRecDepth 20000 in
theorem ggX6_readSum_X6_emits : GoodIn wsX6_readSum wsX6_emits := goodIn_r _ [22, 23, 24, 25, 62, 63, 64, 65, 66, 67, 68, 69, 70, 71, 72, 73, 74, 75, 76, 77, 78, 79, 80, 81, 82, 83, 84, 85, 86, 87, 88, 89, 90, 91, 92, 93, 94, 95, 96, 97, 98, 99, 100, 101, 102, 103, 104, 105, 106, 107, 108, 109, 110, 111, 112, 113, 114, 115, 116] (by decide +kernel) (by decide +kernel)
set_option maxRecDepth 20000 in
theorem gX6_readSum_X6_emits : GoodIn wsX6_readSum (wsV RX6 191 RX6 yX6_emits wsX6_emits) := goodIn_app (goodIn_of _ (by decide +kernel)) ggX6_readSum_X6_emits
theorem dX6_readSum_0 : decode cX6_readSum 0 = .ok (.aload_n 0, 1) := by decide +kernel
theorem dX6_readSum_1 : decode cX6_readSum 1 = .ok (.invokevirtual 205, 3) := by decide +kernel
theorem dX6_readSum_4 : decode cX6_readSum 4 = .ok (.iconst (-1), 1) := by decide +kernel
theorem dX6_readSum_5 : decode cX6_readSum 5 = .ok (.if_icmp .ne 5, 3) := by decide +kernel
theorem dX6_readSum_8 : decode cX6_readSum 8 = .ok (.iconst (-1), 1) := by decide +kernel
theorem dX6_readSum_9 : decode cX6_readSum 9 = .ok (.ireturn, 1) := by decide +kernel
theorem dX6_readSum_10 : decode cX6_readSum 10 = .ok (.aload_n 0, 1) := by decide +kernel
theorem dX6_readSum_11 : decode cX6_readSum 11 = .ok (.bipush 43, 2) := by decide +kernel
theorem dX6_readSum_13 : decode cX6_readSum 13 = .ok (.invokevirtual 202, 3) := by decide +kernel
theorem dX6_readSum_16 : decode cX6_readSum 16 = .ok (.ifCond .ne 12, 3) := by decide +kernel
theorem dX6_readSum_19 : decode cX6_readSum 19 = .ok (.aload_n 0, 1) := by decide +kernel
theorem dX6_readSum_20 : decode cX6_readSum 20 = .ok (.bipush 45, 2) := by decide +kernel
theorem dX6_readSum_22 : decode cX6_readSum 22 = .ok (.invokevirtual 202, 3) := by decide +kernel
theorem dX6_readSum_25 : decode cX6_readSum 25 = .ok (.ifCond .eq 41, 3) := by decide +kernel
theorem dX6_readSum_28 : decode cX6_readSum 28 = .ok (.aload_n 0, 1) := by decide +kernel
theorem dX6_readSum_29 : decode cX6_readSum 29 = .ok (.getfield 164, 3) := by decide +kernel
theorem dX6_readSum_32 : decode cX6_readSum 32 = .ok (.bipush 43, 2) := by decide +kernel
theorem dX6_readSum_34 : decode cX6_readSum 34 = .ok (.if_icmp .ne 7, 3) := by decide +kernel
theorem dX6_readSum_37 : decode cX6_readSum 37 = .ok (.iconst 2, 1) := by decide +kernel
theorem dX6_readSum_38 : decode cX6_readSum 38 = .ok (.goto 4, 3) := by decide +kernel
theorem dX6_readSum_41 : decode cX6_readSum 41 = .ok (.iconst 3, 1) := by decide +kernel
theorem dX6_readSum_42 : decode cX6_readSum 42 = .ok (.istore_n 1, 1) := by decide +kernel
theorem dX6_readSum_43 : decode cX6_readSum 43 = .ok (.aload_n 0, 1) := by decide +kernel
theorem dX6_readSum_44 : decode cX6_readSum 44 = .ok (.invokevirtual 195, 3) := by decide +kernel
theorem dX6_readSum_47 : decode cX6_readSum 47 = .ok (.aload_n 0, 1) := by decide +kernel
theorem dX6_readSum_48 : decode cX6_readSum 48 = .ok (.invokevirtual 205, 3) := by decide +kernel
theorem dX6_readSum_51 : decode cX6_readSum 51 = .ok (.iconst (-1), 1) := by decide +kernel
theorem dX6_readSum_52 : decode cX6_readSum 52 = .ok (.if_icmp .ne 5, 3) := by decide +kernel
theorem dX6_readSum_55 : decode cX6_readSum 55 = .ok (.iconst (-1), 1) := by decide +kernel
theorem dX6_readSum_56 : decode cX6_readSum 56 = .ok (.ireturn, 1) := by decide +kernel
theorem dX6_readSum_57 : decode cX6_readSum 57 = .ok (.aload_n 0, 1) := by decide +kernel
theorem dX6_readSum_58 : decode cX6_readSum 58 = .ok (.iload_n 1, 1) := by decide +kernel
theorem dX6_readSum_59 : decode cX6_readSum 59 = .ok (.iconst 0, 1) := by decide +kernel
theorem dX6_readSum_60 : decode cX6_readSum 60 = .ok (.invokevirtual 191, 3) := by decide +kernel
theorem dX6_readSum_63 : decode cX6_readSum 63 = .ok (.goto (-53), 3) := by decide +kernel
theorem dX6_readSum_66 : decode cX6_readSum 66 = .ok (.iconst 0, 1) := by decide +kernel
theorem dX6_readSum_67 : decode cX6_readSum 67 = .ok (.ireturn, 1) := by decide +kernel
set_option maxRecDepth 20000 in
theorem ggX6_readCompared_X6_readSum : GoodIn wsX6_readCompared wsX6_readSum := goodIn_r _ [6, 1, 7, 8, 9, 5, 10, 11, 12, 13, 14, 15, 16, 17, 18, 19, 20, 21, 22, 23, 24, 25, 26, 27, 28, 29, 30, 31, 32, 33, 34, 35, 36, 37, 38, 39, 40, 41, 42, 43, 44, 45, 46, 47, 48, 49, 50, 51, 52, 53, 54, 55, 56, 57, 58, 59, 60, 61, 62, 63, 64, 65, 66, 67, 68, 69, 70, 71, 72, 73, 74, 75, 76, 77, 78, 79, 80, 81, 82, 83, 84, 85, 86, 87, 88, 89, 90, 91, 92, 93, 94, 95, 96, 97, 98, 99, 100, 101, 102, 103, 104, 105, 106, 107, 108, 109, 110, 111, 112, 113, 114, 115, 116, 117, 118, 119, 120] (by decide +kernel) (by decide +kernel)
set_option maxRecDepth 20000 in
theorem gX6_readCompared_X6_readSum : GoodIn wsX6_readCompared (wsV RX6 208 RX6 yX6_readSum wsX6_readSum) := goodIn_app (goodIn_of _ (by decide +kernel)) ggX6_readCompared_X6_readSum
set_option maxRecDepth 20000 in
theorem ggX6_readCompared_X6_isSign : GoodIn wsX6_readCompared wsX6_isSign := goodIn_r _ [65, 11, 1, 66, 67, 68, 69, 70, 71, 72, 73, 74, 75, 76, 77, 78, 79, 80, 81, 82, 83, 84, 85, 86, 87, 88, 89, 90, 91, 92, 93, 94, 95, 96, 97, 98, 99, 100, 101, 102, 103, 104, 105, 106, 107, 108, 109, 110, 111, 112, 113, 114, 115, 116, 117, 118, 119, 120] (by decide +kernel) (by decide +kernel)
set_option maxRecDepth 20000 in
theorem gX6_readCompared_X6_isSign : GoodIn wsX6_readCompared (wsV RX6 202 RX6 yX6_isSign wsX6_isSign) := goodIn_app (goodIn_of _ (by decide +kernel)) ggX6_readCompared_X6_isSign
set_option maxRecDepth 20000 in
theorem ggX6_readCompared_X6_errs : GoodIn wsX6_readCompared wsX6_errs := goodIn_r _ [19, 20, 21, 22, 66, 67, 68, 69, 70, 71, 72, 73, 74, 75, 76, 77, 78, 79, 80, 81, 82, 83, 84, 85, 86, 87, 88, 89, 90, 91, 92, 93, 94, 95, 96, 97, 98, 99, 100, 101, 102, 103, 104, 105, 106, 107, 108, 109, 110, 111, 112, 113, 114, 115, 116, 117, 118, 119, 120] (by decide +kernel) (by decide +kernel)
set_option maxRecDepth 20000 in
theorem gX6_readCompared_X6_errs : GoodIn wsX6_readCompared (wsV RX6 188 RX6 yX6_errs wsX6_errs) := goodIn_app (goodIn_of _ (by decide +kernel)) ggX6_readCompared_X6_errs
set_option maxRecDepth 20000 in
theorem ggX6_readCompared_X6_reads : GoodIn wsX6_readCompared wsX6_reads := goodIn_r _ [33, 34, 21, 11, 1, 35, 36, 37, 5, 38, 39, 40, 41, 42, 43, 44, 45, 46, 47, 48, 49, 50, 51, 52, 53, 54, 55, 56, 57, 58, 59, 60, 61, 66, 67, 68, 69, 70, 71, 72, 73, 74, 75, 76, 77, 78, 79, 80, 81, 82, 83, 84, 85, 86, 87, 88, 89, 90, 91, 92, 93, 94, 95, 96, 97, 98, 99, 100, 101, 102, 103, 104, 105, 106, 107, 108, 109, 110, 111, 112, 113, 114, 115, 116, 117, 118, 119, 120] (by decide +kernel) (by decide +kernel)
set_option maxRecDepth 20000 in
theorem gX6_readCompared_X6_reads : GoodIn wsX6_readCompared (wsV RX6 195 RX6 yX6_reads wsX6_reads) := goodIn_app (goodIn_of _ (by decide +kernel)) ggX6_readCompared_X6_reads
set_option maxRecDepth 20000 in
theorem ggX6_readCompared_X6_emits : GoodIn wsX6_readCompared wsX6_emits := goodIn_r _ [26, 27, 28, 29, 66, 67, 68, 69, 70, 71, 72, 73, 74, 75, 76, 77, 78, 79, 80, 81, 82, 83, 84, 85, 86, 87, 88, 89, 90, 91, 92, 93, 94, 95, 96, 97, 98, 99, 100, 101, 102, 103, 104, 105, 106, 107, 108, 109, 110, 111, 112, 113, 114, 115, 116, 117, 118, 119, 120] (by decide +kernel) (by decide +kernel)
set_option maxRecDepth 20000 in
theorem gX6_readCompared_X6_emits : GoodIn wsX6_readCompared (wsV RX6 191 RX6 yX6_emits wsX6_emits) := goodIn_app (goodIn_of _ (by decide +kernel)) ggX6_readCompared_X6_emits
theorem dX6_readCompared_0 : decode cX6_readCompared 0 = .ok (.aload_n 0, 1) := by decide +kernel
theorem dX6_readCompared_1 : decode cX6_readCompared 1 = .ok (.invokevirtual 208, 3) := by decide +kernel
theorem dX6_readCompared_4 : decode cX6_readCompared 4 = .ok (.iconst (-1), 1) := by decide +kernel
theorem dX6_readCompared_5 : decode cX6_readCompared 5 = .ok (.if_icmp .ne 5, 3) := by decide +kernel
theorem dX6_readCompared_8 : decode cX6_readCompared 8 = .ok (.iconst (-1), 1) := by decide +kernel
theorem dX6_readCompared_9 : decode cX6_readCompared 9 = .ok (.ireturn, 1) := by decide +kernel
theorem dX6_readCompared_10 : decode cX6_readCompared 10 = .ok (.aload_n 0, 1) := by decide +kernel
theorem dX6_readCompared_11 : decode cX6_readCompared 11 = .ok (.bipush 60, 2) := by decide +kernel
theorem dX6_readCompared_13 : decode cX6_readCompared 13 = .ok (.invokevirtual 202, 3) := by decide +kernel
theorem dX6_readCompared_16 : decode cX6_readCompared 16 = .ok (.ifCond .ne 27, 3) := by decide +kernel
theorem dX6_readCompared_19 : decode cX6_readCompared 19 = .ok (.aload_n 0, 1) := by decide +kernel
theorem dX6_readCompared_20 : decode cX6_readCompared 20 = .ok (.bipush 61, 2) := by decide +kernel
theorem dX6_readCompared_22 : decode cX6_readCompared 22 = .ok (.invokevirtual 202, 3) := by decide +kernel
theorem dX6_readCompared_25 : decode cX6_readCompared 25 = .ok (.ifCond .ne 18, 3) := by decide +kernel
theorem dX6_readCompared_28 : decode cX6_readCompared 28 = .ok (.aload_n 0, 1) := by decide +kernel
theorem dX6_readCompared_29 : decode cX6_readCompared 29 = .ok (.bipush 62, 2) := by decide +kernel
theorem dX6_readCompared_31 : decode cX6_readCompared 31 = .ok (.invokevirtual 202, 3) := by decide +kernel
theorem dX6_readCompared_34 : decode cX6_readCompared 34 = .ok (.ifCond .ne 9, 3) := by decide +kernel
theorem dX6_readCompared_37 : decode cX6_readCompared 37 = .ok (.aload_n 0, 1) := by decide +kernel
theorem dX6_readCompared_38 : decode cX6_readCompared 38 = .ok (.iconst 1, 1) := by decide +kernel
theorem dX6_readCompared_39 : decode cX6_readCompared 39 = .ok (.invokevirtual 188, 3) := by decide +kernel
theorem dX6_readCompared_42 : decode cX6_readCompared 42 = .ok (.ireturn, 1) := by decide +kernel
theorem dX6_readCompared_43 : decode cX6_readCompared 43 = .ok (.aload_n 0, 1) := by decide +kernel
theorem dX6_readCompared_44 : decode cX6_readCompared 44 = .ok (.getfield 164, 3) := by decide +kernel
theorem dX6_readCompared_47 : decode cX6_readCompared 47 = .ok (.bipush 60, 2) := by decide +kernel
theorem dX6_readCompared_49 : decode cX6_readCompared 49 = .ok (.if_icmp .ne 8, 3) := by decide +kernel
theorem dX6_readCompared_52 : decode cX6_readCompared 52 = .ok (.bipush 6, 2) := by decide +kernel
theorem dX6_readCompared_54 : decode cX6_readCompared 54 = .ok (.goto 19, 3) := by decide +kernel
theorem dX6_readCompared_57 : decode cX6_readCompared 57 = .ok (.aload_n 0, 1) := by decide +kernel
theorem dX6_readCompared_58 : decode cX6_readCompared 58 = .ok (.getfield 164, 3) := by decide +kernel
theorem dX6_readCompared_61 : decode cX6_readCompared 61 = .ok (.bipush 61, 2) := by decide +kernel
theorem dX6_readCompared_63 : decode cX6_readCompared 63 = .ok (.if_icmp .ne 8, 3) := by decide +kernel
theorem dX6_readCompared_66 : decode cX6_readCompared 66 = .ok (.bipush 7, 2) := by decide +kernel
theorem dX6_readCompared_68 : decode cX6_readCompared 68 = .ok (.goto 5, 3) := by decide +kernel
theorem dX6_readCompared_71 : decode cX6_readCompared 71 = .ok (.bipush 8, 2) := by decide +kernel
theorem dX6_readCompared_73 : decode cX6_readCompared 73 = .ok (.istore_n 1, 1) := by decide +kernel
theorem dX6_readCompared_74 : decode cX6_readCompared 74 = .ok (.aload_n 0, 1) := by decide +kernel
theorem dX6_readCompared_75 : decode cX6_readCompared 75 = .ok (.invokevirtual 195, 3) := by decide +kernel
theorem dX6_readCompared_78 : decode cX6_readCompared 78 = .ok (.aload_n 0, 1) := by decide +kernel
theorem dX6_readCompared_79 : decode cX6_readCompared 79 = .ok (.invokevirtual 208, 3) := by decide +kernel
theorem dX6_readCompared_82 : decode cX6_readCompared 82 = .ok (.iconst (-1), 1) := by decide +kernel
theorem dX6_readCompared_83 : decode cX6_readCompared 83 = .ok (.if_icmp .ne 5, 3) := by decide +kernel
theorem dX6_readCompared_86 : decode cX6_readCompared 86 = .ok (.iconst (-1), 1) := by decide +kernel
theorem dX6_readCompared_87 : decode cX6_readCompared 87 = .ok (.ireturn, 1) := by decide +kernel
theorem dX6_readCompared_88 : decode cX6_readCompared 88 = .ok (.aload_n 0, 1) := by decide +kernel
theorem dX6_readCompared_89 : decode cX6_readCompared 89 = .ok (.iload_n 1, 1) := by decide +kernel
theorem dX6_readCompared_90 : decode cX6_readCompared 90 = .ok (.iconst 0, 1) := by decide +kernel
theorem dX6_readCompared_91 : decode cX6_readCompared 91 = .ok (.invokevirtual 191, 3) := by decide +kernel
theorem dX6_readCompared_94 : decode cX6_readCompared 94 = .ok (.iconst 0, 1) := by decide +kernel
theorem dX6_readCompared_95 : decode cX6_readCompared 95 = .ok (.ireturn, 1) := by decide +kernel
theorem dX6_waits_0 : decode cX6_waits 0 = .ok (.aload_n 0, 1) := by decide +kernel
theorem dX6_waits_1 : decode cX6_waits 1 = .ok (.getfield 80, 3) := by decide +kernel
theorem dX6_waits_4 : decode cX6_waits 4 = .ok (.aload_n 0, 1) := by decide +kernel
theorem dX6_waits_5 : decode cX6_waits 5 = .ok (.getfield 211, 3) := by decide +kernel
theorem dX6_waits_8 : decode cX6_waits 8 = .ok (.iload_n 1, 1) := by decide +kernel
theorem dX6_waits_9 : decode cX6_waits 9 = .ok (.iastore, 1) := by decide +kernel
theorem dX6_waits_10 : decode cX6_waits 10 = .ok (.aload_n 0, 1) := by decide +kernel
theorem dX6_waits_11 : decode cX6_waits 11 = .ok (.aload_n 0, 1) := by decide +kernel
theorem dX6_waits_12 : decode cX6_waits 12 = .ok (.getfield 211, 3) := by decide +kernel
theorem dX6_waits_15 : decode cX6_waits 15 = .ok (.iconst 1, 1) := by decide +kernel
theorem dX6_waits_16 : decode cX6_waits 16 = .ok (.iadd, 1) := by decide +kernel
theorem dX6_waits_17 : decode cX6_waits 17 = .ok (.putfield 211, 3) := by decide +kernel
theorem dX6_waits_20 : decode cX6_waits 20 = .ok (.return_, 1) := by decide +kernel
set_option maxRecDepth 20000 in
theorem ggX6_settles_X6_emits : GoodIn wsX6_settles wsX6_emits := goodIn_r _ [8, 9, 10, 11, 12, 13, 14, 15, 16, 17, 18, 19, 20, 21, 22, 23, 24, 25, 26, 27, 28, 29, 30, 31, 32, 33, 34, 35, 36, 37, 38, 39, 40, 41, 42, 43, 44, 45, 46, 47, 48, 49, 50, 51, 52, 53, 54, 55, 56, 57, 58, 59, 60, 61, 62, 63, 64, 65, 66] (by decide +kernel) (by decide +kernel)
set_option maxRecDepth 20000 in
theorem gX6_settles_X6_emits : GoodIn wsX6_settles (wsV RX6 191 RX6 yX6_emits wsX6_emits) := goodIn_app (goodIn_of _ (by decide +kernel)) ggX6_settles_X6_emits
theorem dX6_settles_0 : decode cX6_settles 0 = .ok (.aload_n 0, 1) := by decide +kernel
theorem dX6_settles_1 : decode cX6_settles 1 = .ok (.getfield 211, 3) := by decide +kernel
theorem dX6_settles_4 : decode cX6_settles 4 = .ok (.ifCond .le 53, 3) := by decide +kernel
theorem dX6_settles_7 : decode cX6_settles 7 = .ok (.aload_n 0, 1) := by decide +kernel
theorem dX6_settles_8 : decode cX6_settles 8 = .ok (.getfield 80, 3) := by decide +kernel
theorem dX6_settles_11 : decode cX6_settles 11 = .ok (.aload_n 0, 1) := by decide +kernel
theorem dX6_settles_12 : decode cX6_settles 12 = .ok (.getfield 211, 3) := by decide +kernel
theorem dX6_settles_15 : decode cX6_settles 15 = .ok (.iconst 1, 1) := by decide +kernel
theorem dX6_settles_16 : decode cX6_settles 16 = .ok (.isub, 1) := by decide +kernel
theorem dX6_settles_17 : decode cX6_settles 17 = .ok (.iaload, 1) := by decide +kernel
theorem dX6_settles_18 : decode cX6_settles 18 = .ok (.iload_n 1, 1) := by decide +kernel
theorem dX6_settles_19 : decode cX6_settles 19 = .ok (.if_icmp .ne 38, 3) := by decide +kernel
theorem dX6_settles_22 : decode cX6_settles 22 = .ok (.aload_n 0, 1) := by decide +kernel
theorem dX6_settles_23 : decode cX6_settles 23 = .ok (.aload_n 0, 1) := by decide +kernel
theorem dX6_settles_24 : decode cX6_settles 24 = .ok (.getfield 211, 3) := by decide +kernel
theorem dX6_settles_27 : decode cX6_settles 27 = .ok (.iconst 1, 1) := by decide +kernel
theorem dX6_settles_28 : decode cX6_settles 28 = .ok (.isub, 1) := by decide +kernel
theorem dX6_settles_29 : decode cX6_settles 29 = .ok (.putfield 211, 3) := by decide +kernel
theorem dX6_settles_32 : decode cX6_settles 32 = .ok (.aload_n 0, 1) := by decide +kernel
theorem dX6_settles_33 : decode cX6_settles 33 = .ok (.iload_n 1, 1) := by decide +kernel
theorem dX6_settles_34 : decode cX6_settles 34 = .ok (.iconst 0, 1) := by decide +kernel
theorem dX6_settles_35 : decode cX6_settles 35 = .ok (.invokevirtual 191, 3) := by decide +kernel
theorem dX6_settles_38 : decode cX6_settles 38 = .ok (.iload_n 1, 1) := by decide +kernel
theorem dX6_settles_39 : decode cX6_settles 39 = .ok (.bipush 9, 2) := by decide +kernel
theorem dX6_settles_41 : decode cX6_settles 41 = .ok (.if_icmp .ne (-41), 3) := by decide +kernel
theorem dX6_settles_44 : decode cX6_settles 44 = .ok (.aload_n 0, 1) := by decide +kernel
theorem dX6_settles_45 : decode cX6_settles 45 = .ok (.aload_n 0, 1) := by decide +kernel
theorem dX6_settles_46 : decode cX6_settles 46 = .ok (.getfield 214, 3) := by decide +kernel
theorem dX6_settles_49 : decode cX6_settles 49 = .ok (.iconst 1, 1) := by decide +kernel
theorem dX6_settles_50 : decode cX6_settles 50 = .ok (.isub, 1) := by decide +kernel
theorem dX6_settles_51 : decode cX6_settles 51 = .ok (.putfield 214, 3) := by decide +kernel
theorem dX6_settles_54 : decode cX6_settles 54 = .ok (.goto (-54), 3) := by decide +kernel
theorem dX6_settles_57 : decode cX6_settles 57 = .ok (.return_, 1) := by decide +kernel
set_option maxRecDepth 20000 in
theorem ggX6_readAny_X6_isWord : GoodIn wsX6_readAny wsX6_isWord := goodIn_r _ [7, 8, 9, 85, 86, 87, 88, 89, 90, 91, 92, 93, 94, 95, 96, 97, 98, 99, 100, 101, 102, 103, 104, 105, 106, 107, 108, 109, 110, 111, 112, 113, 114, 115, 116, 117, 118, 119, 120, 121, 122, 123, 124, 125, 126, 127, 128, 129, 130, 131, 132, 133, 134, 135, 136, 137, 138, 139] (by decide +kernel) (by decide +kernel)
set_option maxRecDepth 20000 in
theorem gX6_readAny_X6_isWord : GoodIn wsX6_readAny (wsV RX6 217 RX6 yX6_isWord wsX6_isWord) := goodIn_app (goodIn_of _ (by decide +kernel)) ggX6_readAny_X6_isWord
set_option maxRecDepth 20000 in
theorem ggX6_readAny_X6_isSign : GoodIn wsX6_readAny wsX6_isSign := goodIn_r _ [13, 8, 9, 85, 86, 87, 88, 89, 90, 91, 92, 93, 94, 95, 96, 97, 98, 99, 100, 101, 102, 103, 104, 105, 106, 107, 108, 109, 110, 111, 112, 113, 114, 115, 116, 117, 118, 119, 120, 121, 122, 123, 124, 125, 126, 127, 128, 129, 130, 131, 132, 133, 134, 135, 136, 137, 138, 139] (by decide +kernel) (by decide +kernel)
set_option maxRecDepth 20000 in
theorem gX6_readAny_X6_isSign : GoodIn wsX6_readAny (wsV RX6 202 RX6 yX6_isSign wsX6_isSign) := goodIn_app (goodIn_of _ (by decide +kernel)) ggX6_readAny_X6_isSign
set_option maxRecDepth 20000 in
theorem ggX6_readAny_X6_errs : GoodIn wsX6_readAny wsX6_errs := goodIn_r _ [17, 18, 19, 20, 85, 86, 87, 88, 89, 90, 91, 92, 93, 94, 95, 96, 97, 98, 99, 100, 101, 102, 103, 104, 105, 106, 107, 108, 109, 110, 111, 112, 113, 114, 115, 116, 117, 118, 119, 120, 121, 122, 123, 124, 125, 126, 127, 128, 129, 130, 131, 132, 133, 134, 135, 136, 137, 138, 139] (by decide +kernel) (by decide +kernel)
set_option maxRecDepth 20000 in
theorem gX6_readAny_X6_errs : GoodIn wsX6_readAny (wsV RX6 188 RX6 yX6_errs wsX6_errs) := goodIn_app (goodIn_of _ (by decide +kernel)) ggX6_readAny_X6_errs
set_option maxRecDepth 20000 in
theorem ggX6_readAny_X6_waits : GoodIn wsX6_readAny wsX6_waits := goodIn_r _ [24, 25, 1, 85, 86, 87, 88, 89, 90, 91, 92, 93, 94, 95, 96, 97, 98, 99, 100, 101, 102, 103, 104, 105, 106, 107, 108, 109, 110, 111, 112, 113, 114, 115, 116, 117, 118, 119, 120, 121, 122, 123, 124, 125, 126, 127, 128, 129, 130, 131, 132, 133, 134, 135, 136, 137, 138, 139] (by decide +kernel) (by decide +kernel)
set_option maxRecDepth 20000 in
theorem gX6_readAny_X6_waits : GoodIn wsX6_readAny (wsV RX6 220 RX6 yX6_waits wsX6_waits) := goodIn_app (goodIn_of _ (by decide +kernel)) ggX6_readAny_X6_waits
set_option maxRecDepth 20000 in
theorem ggX6_readAny_X6_reads : GoodIn wsX6_readAny wsX6_reads := goodIn_r _ [29, 30, 19, 8, 9, 31, 32, 33, 6, 34, 35, 36, 37, 38, 39, 40, 41, 42, 43, 44, 45, 46, 47, 48, 49, 50, 51, 52, 53, 54, 55, 56, 57, 85, 86, 87, 88, 89, 90, 91, 92, 93, 94, 95, 96, 97, 98, 99, 100, 101, 102, 103, 104, 105, 106, 107, 108, 109, 110, 111, 112, 113, 114, 115, 116, 117, 118, 119, 120, 121, 122, 123, 124, 125, 126, 127, 128, 129, 130, 131, 132, 133, 134, 135, 136, 137, 138, 139] (by decide +kernel) (by decide +kernel)
set_option maxRecDepth 20000 in
theorem gX6_readAny_X6_reads : GoodIn wsX6_readAny (wsV RX6 195 RX6 yX6_reads wsX6_reads) := goodIn_app (goodIn_of _ (by decide +kernel)) ggX6_readAny_X6_reads
set_option maxRecDepth 20000 in
theorem ggX6_readAny_X6_readCompared : GoodIn wsX6_readAny wsX6_readCompared := goodIn_r _ [61, 9, 62, 63, 64, 6, 65, 66, 67, 68, 69, 8, 70, 71, 72, 73, 14, 15, 16, 17, 18, 19, 20, 74, 75, 76, 77, 78, 79, 80, 26, 27, 28, 29, 30, 31, 32, 33, 34, 35, 36, 37, 38, 39, 40, 41, 42, 43, 44, 45, 46, 47, 48, 49, 50, 51, 52, 53, 54, 55, 56, 57, 10, 11, 12, 13, 85, 86, 87, 88, 89, 90, 91, 92, 93, 94, 95, 96, 97, 98, 99, 100, 101, 102, 103, 104, 105, 106, 107, 108, 109, 110, 111, 112, 113, 114, 115, 116, 117, 118, 119, 120, 121, 122, 123, 124, 125, 126, 127, 128, 129, 130, 131, 132, 133, 134, 135, 136, 137, 138, 139] (by decide +kernel) (by decide +kernel)
set_option maxRecDepth 20000 in
theorem gX6_readAny_X6_readCompared : GoodIn wsX6_readAny (wsV RX6 223 RX6 yX6_readCompared wsX6_readCompared) := goodIn_app (goodIn_of _ (by decide +kernel)) ggX6_readAny_X6_readCompared
set_option maxRecDepth 20000 in
theorem ggX6_readAny_X6_settles : GoodIn wsX6_readAny wsX6_settles := goodIn_r _ [84, 1, 25, 2, 74, 75, 76, 6, 77, 78, 79, 80, 85, 86, 87, 88, 89, 90, 91, 92, 93, 94, 95, 96, 97, 98, 99, 100, 101, 102, 103, 104, 105, 106, 107, 108, 109, 110, 111, 112, 113, 114, 115, 116, 117, 118, 119, 120, 121, 122, 123, 124, 125, 126, 127, 128, 129, 130, 131, 132, 133, 134, 135, 136, 137, 138, 139] (by decide +kernel) (by decide +kernel)
set_option maxRecDepth 20000 in
theorem gX6_readAny_X6_settles : GoodIn wsX6_readAny (wsV RX6 226 RX6 yX6_settles wsX6_settles) := goodIn_app (goodIn_of _ (by decide +kernel)) ggX6_readAny_X6_settles
theorem dX6_readAny_0 : decode cX6_readAny 0 = .ok (.iconst 0, 1) := by decide +kernel
theorem dX6_readAny_1 : decode cX6_readAny 1 = .ok (.istore_n 1, 1) := by decide +kernel
theorem dX6_readAny_2 : decode cX6_readAny 2 = .ok (.aload_n 0, 1) := by decide +kernel
theorem dX6_readAny_3 : decode cX6_readAny 3 = .ok (.iconst 0, 1) := by decide +kernel
theorem dX6_readAny_4 : decode cX6_readAny 4 = .ok (.putfield 211, 3) := by decide +kernel
theorem dX6_readAny_7 : decode cX6_readAny 7 = .ok (.iconst 1, 1) := by decide +kernel
theorem dX6_readAny_8 : decode cX6_readAny 8 = .ok (.istore_n 2, 1) := by decide +kernel
theorem dX6_readAny_9 : decode cX6_readAny 9 = .ok (.iload_n 2, 1) := by decide +kernel
theorem dX6_readAny_10 : decode cX6_readAny 10 = .ok (.ifCond .eq 98, 3) := by decide +kernel
theorem dX6_readAny_13 : decode cX6_readAny 13 = .ok (.aload_n 0, 1) := by decide +kernel
theorem dX6_readAny_14 : decode cX6_readAny 14 = .ok (.iconst 4, 1) := by decide +kernel
theorem dX6_readAny_15 : decode cX6_readAny 15 = .ok (.invokevirtual 217, 3) := by decide +kernel
theorem dX6_readAny_18 : decode cX6_readAny 18 = .ok (.istore_n 3, 1) := by decide +kernel
theorem dX6_readAny_19 : decode cX6_readAny 19 = .ok (.iload_n 3, 1) := by decide +kernel
theorem dX6_readAny_20 : decode cX6_readAny 20 = .ok (.ifCond .ne 12, 3) := by decide +kernel
theorem dX6_readAny_23 : decode cX6_readAny 23 = .ok (.aload_n 0, 1) := by decide +kernel
theorem dX6_readAny_24 : decode cX6_readAny 24 = .ok (.bipush 40, 2) := by decide +kernel
theorem dX6_readAny_26 : decode cX6_readAny 26 = .ok (.invokevirtual 202, 3) := by decide +kernel
theorem dX6_readAny_29 : decode cX6_readAny 29 = .ok (.ifCond .eq 58, 3) := by decide +kernel
theorem dX6_readAny_32 : decode cX6_readAny 32 = .ok (.aload_n 0, 1) := by decide +kernel
theorem dX6_readAny_33 : decode cX6_readAny 33 = .ok (.getfield 214, 3) := by decide +kernel
theorem dX6_readAny_36 : decode cX6_readAny 36 = .ok (.bipush 8, 2) := by decide +kernel
theorem dX6_readAny_38 : decode cX6_readAny 38 = .ok (.if_icmp .ne 9, 3) := by decide +kernel
theorem dX6_readAny_41 : decode cX6_readAny 41 = .ok (.aload_n 0, 1) := by decide +kernel
theorem dX6_readAny_42 : decode cX6_readAny 42 = .ok (.iconst 3, 1) := by decide +kernel
theorem dX6_readAny_43 : decode cX6_readAny 43 = .ok (.invokevirtual 188, 3) := by decide +kernel
theorem dX6_readAny_46 : decode cX6_readAny 46 = .ok (.ireturn, 1) := by decide +kernel
theorem dX6_readAny_47 : decode cX6_readAny 47 = .ok (.aload_n 0, 1) := by decide +kernel
theorem dX6_readAny_48 : decode cX6_readAny 48 = .ok (.aload_n 0, 1) := by decide +kernel
theorem dX6_readAny_49 : decode cX6_readAny 49 = .ok (.getfield 214, 3) := by decide +kernel
theorem dX6_readAny_52 : decode cX6_readAny 52 = .ok (.iconst 1, 1) := by decide +kernel
theorem dX6_readAny_53 : decode cX6_readAny 53 = .ok (.iadd, 1) := by decide +kernel
theorem dX6_readAny_54 : decode cX6_readAny 54 = .ok (.putfield 214, 3) := by decide +kernel
theorem dX6_readAny_57 : decode cX6_readAny 57 = .ok (.iload_n 3, 1) := by decide +kernel
theorem dX6_readAny_58 : decode cX6_readAny 58 = .ok (.ifCond .ne 7, 3) := by decide +kernel
theorem dX6_readAny_61 : decode cX6_readAny 61 = .ok (.iload_n 1, 1) := by decide +kernel
theorem dX6_readAny_62 : decode cX6_readAny 62 = .ok (.iconst 1, 1) := by decide +kernel
theorem dX6_readAny_63 : decode cX6_readAny 63 = .ok (.iadd, 1) := by decide +kernel
theorem dX6_readAny_64 : decode cX6_readAny 64 = .ok (.istore_n 1, 1) := by decide +kernel
theorem dX6_readAny_65 : decode cX6_readAny 65 = .ok (.aload_n 0, 1) := by decide +kernel
theorem dX6_readAny_66 : decode cX6_readAny 66 = .ok (.iload_n 3, 1) := by decide +kernel
theorem dX6_readAny_67 : decode cX6_readAny 67 = .ok (.ifCond .eq 8, 3) := by decide +kernel
theorem dX6_readAny_70 : decode cX6_readAny 70 = .ok (.bipush 9, 2) := by decide +kernel
theorem dX6_readAny_72 : decode cX6_readAny 72 = .ok (.goto 5, 3) := by decide +kernel
theorem dX6_readAny_75 : decode cX6_readAny 75 = .ok (.bipush 12, 2) := by decide +kernel
theorem dX6_readAny_77 : decode cX6_readAny 77 = .ok (.invokevirtual 220, 3) := by decide +kernel
theorem dX6_readAny_80 : decode cX6_readAny 80 = .ok (.aload_n 0, 1) := by decide +kernel
theorem dX6_readAny_81 : decode cX6_readAny 81 = .ok (.invokevirtual 195, 3) := by decide +kernel
theorem dX6_readAny_84 : decode cX6_readAny 84 = .ok (.goto (-75), 3) := by decide +kernel
theorem dX6_readAny_87 : decode cX6_readAny 87 = .ok (.aload_n 0, 1) := by decide +kernel
theorem dX6_readAny_88 : decode cX6_readAny 88 = .ok (.invokevirtual 223, 3) := by decide +kernel
theorem dX6_readAny_91 : decode cX6_readAny 91 = .ok (.iconst (-1), 1) := by decide +kernel
theorem dX6_readAny_92 : decode cX6_readAny 92 = .ok (.if_icmp .ne 5, 3) := by decide +kernel
theorem dX6_readAny_95 : decode cX6_readAny 95 = .ok (.iconst (-1), 1) := by decide +kernel
theorem dX6_readAny_96 : decode cX6_readAny 96 = .ok (.ireturn, 1) := by decide +kernel
theorem dX6_readAny_97 : decode cX6_readAny 97 = .ok (.aload_n 0, 1) := by decide +kernel
theorem dX6_readAny_98 : decode cX6_readAny 98 = .ok (.bipush 9, 2) := by decide +kernel
theorem dX6_readAny_100 : decode cX6_readAny 100 = .ok (.invokevirtual 226, 3) := by decide +kernel
theorem dX6_readAny_103 : decode cX6_readAny 103 = .ok (.iconst 0, 1) := by decide +kernel
theorem dX6_readAny_104 : decode cX6_readAny 104 = .ok (.istore_n 2, 1) := by decide +kernel
theorem dX6_readAny_105 : decode cX6_readAny 105 = .ok (.goto (-96), 3) := by decide +kernel
theorem dX6_readAny_108 : decode cX6_readAny 108 = .ok (.aload_n 0, 1) := by decide +kernel
theorem dX6_readAny_109 : decode cX6_readAny 109 = .ok (.iconst 3, 1) := by decide +kernel
theorem dX6_readAny_110 : decode cX6_readAny 110 = .ok (.invokevirtual 217, 3) := by decide +kernel
theorem dX6_readAny_113 : decode cX6_readAny 113 = .ok (.ifCond .eq 24, 3) := by decide +kernel
theorem dX6_readAny_116 : decode cX6_readAny 116 = .ok (.aload_n 0, 1) := by decide +kernel
theorem dX6_readAny_117 : decode cX6_readAny 117 = .ok (.bipush 10, 2) := by decide +kernel
theorem dX6_readAny_119 : decode cX6_readAny 119 = .ok (.invokevirtual 226, 3) := by decide +kernel
theorem dX6_readAny_122 : decode cX6_readAny 122 = .ok (.aload_n 0, 1) := by decide +kernel
theorem dX6_readAny_123 : decode cX6_readAny 123 = .ok (.bipush 10, 2) := by decide +kernel
theorem dX6_readAny_125 : decode cX6_readAny 125 = .ok (.invokevirtual 220, 3) := by decide +kernel
theorem dX6_readAny_128 : decode cX6_readAny 128 = .ok (.aload_n 0, 1) := by decide +kernel
theorem dX6_readAny_129 : decode cX6_readAny 129 = .ok (.invokevirtual 195, 3) := by decide +kernel
theorem dX6_readAny_132 : decode cX6_readAny 132 = .ok (.iconst 1, 1) := by decide +kernel
theorem dX6_readAny_133 : decode cX6_readAny 133 = .ok (.istore_n 2, 1) := by decide +kernel
theorem dX6_readAny_134 : decode cX6_readAny 134 = .ok (.goto (-125), 3) := by decide +kernel
theorem dX6_readAny_137 : decode cX6_readAny 137 = .ok (.aload_n 0, 1) := by decide +kernel
theorem dX6_readAny_138 : decode cX6_readAny 138 = .ok (.iconst 2, 1) := by decide +kernel
theorem dX6_readAny_139 : decode cX6_readAny 139 = .ok (.invokevirtual 217, 3) := by decide +kernel
theorem dX6_readAny_142 : decode cX6_readAny 142 = .ok (.ifCond .eq 30, 3) := by decide +kernel
theorem dX6_readAny_145 : decode cX6_readAny 145 = .ok (.aload_n 0, 1) := by decide +kernel
theorem dX6_readAny_146 : decode cX6_readAny 146 = .ok (.bipush 10, 2) := by decide +kernel
theorem dX6_readAny_148 : decode cX6_readAny 148 = .ok (.invokevirtual 226, 3) := by decide +kernel
theorem dX6_readAny_151 : decode cX6_readAny 151 = .ok (.aload_n 0, 1) := by decide +kernel
theorem dX6_readAny_152 : decode cX6_readAny 152 = .ok (.bipush 11, 2) := by decide +kernel
theorem dX6_readAny_154 : decode cX6_readAny 154 = .ok (.invokevirtual 226, 3) := by decide +kernel
theorem dX6_readAny_157 : decode cX6_readAny 157 = .ok (.aload_n 0, 1) := by decide +kernel
theorem dX6_readAny_158 : decode cX6_readAny 158 = .ok (.bipush 11, 2) := by decide +kernel
theorem dX6_readAny_160 : decode cX6_readAny 160 = .ok (.invokevirtual 220, 3) := by decide +kernel
theorem dX6_readAny_163 : decode cX6_readAny 163 = .ok (.aload_n 0, 1) := by decide +kernel
theorem dX6_readAny_164 : decode cX6_readAny 164 = .ok (.invokevirtual 195, 3) := by decide +kernel
theorem dX6_readAny_167 : decode cX6_readAny 167 = .ok (.iconst 1, 1) := by decide +kernel
theorem dX6_readAny_168 : decode cX6_readAny 168 = .ok (.istore_n 2, 1) := by decide +kernel
theorem dX6_readAny_169 : decode cX6_readAny 169 = .ok (.goto (-160), 3) := by decide +kernel
theorem dX6_readAny_172 : decode cX6_readAny 172 = .ok (.aload_n 0, 1) := by decide +kernel
theorem dX6_readAny_173 : decode cX6_readAny 173 = .ok (.bipush 10, 2) := by decide +kernel
theorem dX6_readAny_175 : decode cX6_readAny 175 = .ok (.invokevirtual 226, 3) := by decide +kernel
theorem dX6_readAny_178 : decode cX6_readAny 178 = .ok (.aload_n 0, 1) := by decide +kernel
theorem dX6_readAny_179 : decode cX6_readAny 179 = .ok (.bipush 11, 2) := by decide +kernel
theorem dX6_readAny_181 : decode cX6_readAny 181 = .ok (.invokevirtual 226, 3) := by decide +kernel
theorem dX6_readAny_184 : decode cX6_readAny 184 = .ok (.iload_n 1, 1) := by decide +kernel
theorem dX6_readAny_185 : decode cX6_readAny 185 = .ok (.ifCond .ne 5, 3) := by decide +kernel
theorem dX6_readAny_188 : decode cX6_readAny 188 = .ok (.iconst 0, 1) := by decide +kernel
theorem dX6_readAny_189 : decode cX6_readAny 189 = .ok (.ireturn, 1) := by decide +kernel
theorem dX6_readAny_190 : decode cX6_readAny 190 = .ok (.aload_n 0, 1) := by decide +kernel
theorem dX6_readAny_191 : decode cX6_readAny 191 = .ok (.bipush 41, 2) := by decide +kernel
theorem dX6_readAny_193 : decode cX6_readAny 193 = .ok (.invokevirtual 202, 3) := by decide +kernel
theorem dX6_readAny_196 : decode cX6_readAny 196 = .ok (.ifCond .ne 9, 3) := by decide +kernel
theorem dX6_readAny_199 : decode cX6_readAny 199 = .ok (.aload_n 0, 1) := by decide +kernel
theorem dX6_readAny_200 : decode cX6_readAny 200 = .ok (.iconst 1, 1) := by decide +kernel
theorem dX6_readAny_201 : decode cX6_readAny 201 = .ok (.invokevirtual 188, 3) := by decide +kernel
theorem dX6_readAny_204 : decode cX6_readAny 204 = .ok (.ireturn, 1) := by decide +kernel
theorem dX6_readAny_205 : decode cX6_readAny 205 = .ok (.aload_n 0, 1) := by decide +kernel
theorem dX6_readAny_206 : decode cX6_readAny 206 = .ok (.aload_n 0, 1) := by decide +kernel
theorem dX6_readAny_207 : decode cX6_readAny 207 = .ok (.getfield 211, 3) := by decide +kernel
theorem dX6_readAny_210 : decode cX6_readAny 210 = .ok (.iconst 1, 1) := by decide +kernel
theorem dX6_readAny_211 : decode cX6_readAny 211 = .ok (.isub, 1) := by decide +kernel
theorem dX6_readAny_212 : decode cX6_readAny 212 = .ok (.putfield 211, 3) := by decide +kernel
theorem dX6_readAny_215 : decode cX6_readAny 215 = .ok (.iload_n 1, 1) := by decide +kernel
theorem dX6_readAny_216 : decode cX6_readAny 216 = .ok (.iconst 1, 1) := by decide +kernel
theorem dX6_readAny_217 : decode cX6_readAny 217 = .ok (.isub, 1) := by decide +kernel
theorem dX6_readAny_218 : decode cX6_readAny 218 = .ok (.istore_n 1, 1) := by decide +kernel
theorem dX6_readAny_219 : decode cX6_readAny 219 = .ok (.aload_n 0, 1) := by decide +kernel
theorem dX6_readAny_220 : decode cX6_readAny 220 = .ok (.aload_n 0, 1) := by decide +kernel
theorem dX6_readAny_221 : decode cX6_readAny 221 = .ok (.getfield 214, 3) := by decide +kernel
theorem dX6_readAny_224 : decode cX6_readAny 224 = .ok (.iconst 1, 1) := by decide +kernel
theorem dX6_readAny_225 : decode cX6_readAny 225 = .ok (.isub, 1) := by decide +kernel
theorem dX6_readAny_226 : decode cX6_readAny 226 = .ok (.putfield 214, 3) := by decide +kernel
theorem dX6_readAny_229 : decode cX6_readAny 229 = .ok (.aload_n 0, 1) := by decide +kernel
theorem dX6_readAny_230 : decode cX6_readAny 230 = .ok (.bipush 9, 2) := by decide +kernel
theorem dX6_readAny_232 : decode cX6_readAny 232 = .ok (.invokevirtual 226, 3) := by decide +kernel
theorem dX6_readAny_235 : decode cX6_readAny 235 = .ok (.aload_n 0, 1) := by decide +kernel
theorem dX6_readAny_236 : decode cX6_readAny 236 = .ok (.invokevirtual 195, 3) := by decide +kernel
theorem dX6_readAny_239 : decode cX6_readAny 239 = .ok (.goto (-230), 3) := by decide +kernel
set_option maxRecDepth 20000 in
theorem ggX6_readLaw_X6_isWord : GoodIn wsX6_readLaw wsX6_isWord := goodIn_r _ [11, 1, 2, 92, 93, 94, 95, 96, 97, 98, 99, 100, 101, 102, 103, 104, 105, 106, 107, 108, 109, 110, 111, 112, 113, 114, 115, 116, 117, 118, 119, 120, 121, 122, 123, 124, 125, 126, 127, 128, 129, 130, 131, 132, 133, 134, 135, 136, 137, 138, 139, 140, 141, 142, 143, 144, 145, 146] (by decide +kernel) (by decide +kernel)
set_option maxRecDepth 20000 in
theorem gX6_readLaw_X6_isWord : GoodIn wsX6_readLaw (wsV RX6 217 RX6 yX6_isWord wsX6_isWord) := goodIn_app (goodIn_of _ (by decide +kernel)) ggX6_readLaw_X6_isWord
set_option maxRecDepth 20000 in
theorem ggX6_readLaw_X6_errs : GoodIn wsX6_readLaw wsX6_errs := goodIn_r _ [15, 16, 17, 18, 92, 93, 94, 95, 96, 97, 98, 99, 100, 101, 102, 103, 104, 105, 106, 107, 108, 109, 110, 111, 112, 113, 114, 115, 116, 117, 118, 119, 120, 121, 122, 123, 124, 125, 126, 127, 128, 129, 130, 131, 132, 133, 134, 135, 136, 137, 138, 139, 140, 141, 142, 143, 144, 145, 146] (by decide +kernel) (by decide +kernel)
set_option maxRecDepth 20000 in
theorem gX6_readLaw_X6_errs : GoodIn wsX6_readLaw (wsV RX6 188 RX6 yX6_errs wsX6_errs) := goodIn_app (goodIn_of _ (by decide +kernel)) ggX6_readLaw_X6_errs
set_option maxRecDepth 20000 in
theorem ggX6_readLaw_X6_reads : GoodIn wsX6_readLaw wsX6_reads := goodIn_r _ [22, 23, 17, 1, 2, 24, 25, 26, 10, 27, 28, 29, 30, 31, 32, 33, 34, 35, 36, 37, 38, 39, 40, 41, 42, 43, 44, 45, 46, 47, 48, 49, 50, 92, 93, 94, 95, 96, 97, 98, 99, 100, 101, 102, 103, 104, 105, 106, 107, 108, 109, 110, 111, 112, 113, 114, 115, 116, 117, 118, 119, 120, 121, 122, 123, 124, 125, 126, 127, 128, 129, 130, 131, 132, 133, 134, 135, 136, 137, 138, 139, 140, 141, 142, 143, 144, 145, 146] (by decide +kernel) (by decide +kernel)
set_option maxRecDepth 20000 in
theorem gX6_readLaw_X6_reads : GoodIn wsX6_readLaw (wsV RX6 195 RX6 yX6_reads wsX6_reads) := goodIn_app (goodIn_of _ (by decide +kernel)) ggX6_readLaw_X6_reads
set_option maxRecDepth 20000 in
theorem ggX6_readLaw_X6_readAny : GoodIn wsX6_readLaw wsX6_readAny := goodIn_r _ [54, 55, 56, 7, 8, 9, 10, 11, 1, 2, 57, 58, 59, 60, 12, 13, 14, 15, 16, 17, 18, 61, 62, 63, 64, 65, 19, 20, 21, 22, 23, 24, 25, 26, 27, 28, 29, 30, 31, 32, 33, 34, 35, 36, 37, 38, 39, 40, 41, 42, 43, 44, 45, 46, 47, 48, 49, 50, 66, 67, 68, 69, 70, 71, 72, 73, 74, 75, 76, 77, 78, 79, 80, 81, 82, 83, 84, 85, 86, 5, 87, 88, 89, 90, 91, 92, 93, 94, 95, 96, 97, 98, 99, 100, 101, 102, 103, 104, 105, 106, 107, 108, 109, 110, 111, 112, 113, 114, 115, 116, 117, 118, 119, 120, 121, 122, 123, 124, 125, 126, 127, 128, 129, 130, 131, 132, 133, 134, 135, 136, 137, 138, 139, 140, 141, 142, 143, 144, 145, 146] (by decide +kernel) (by decide +kernel)
set_option maxRecDepth 20000 in
theorem gX6_readLaw_X6_readAny : GoodIn wsX6_readLaw (wsV RX6 229 RX6 yX6_readAny wsX6_readAny) := goodIn_app (goodIn_of _ (by decide +kernel)) ggX6_readLaw_X6_readAny
set_option maxRecDepth 20000 in
theorem ggX6_readLaw_X6_isSign : GoodIn wsX6_readLaw wsX6_isSign := goodIn_r _ [60, 1, 2, 92, 93, 94, 95, 96, 97, 98, 99, 100, 101, 102, 103, 104, 105, 106, 107, 108, 109, 110, 111, 112, 113, 114, 115, 116, 117, 118, 119, 120, 121, 122, 123, 124, 125, 126, 127, 128, 129, 130, 131, 132, 133, 134, 135, 136, 137, 138, 139, 140, 141, 142, 143, 144, 145, 146] (by decide +kernel) (by decide +kernel)
set_option maxRecDepth 20000 in
theorem gX6_readLaw_X6_isSign : GoodIn wsX6_readLaw (wsV RX6 202 RX6 yX6_isSign wsX6_isSign) := goodIn_app (goodIn_of _ (by decide +kernel)) ggX6_readLaw_X6_isSign
theorem dX6_readLaw_0 : decode cX6_readLaw 0 = .ok (.iconst 0, 1) := by decide +kernel
theorem dX6_readLaw_1 : decode cX6_readLaw 1 = .ok (.istore_n 1, 1) := by decide +kernel
theorem dX6_readLaw_2 : decode cX6_readLaw 2 = .ok (.aload_n 0, 1) := by decide +kernel
theorem dX6_readLaw_3 : decode cX6_readLaw 3 = .ok (.iconst 0, 1) := by decide +kernel
theorem dX6_readLaw_4 : decode cX6_readLaw 4 = .ok (.invokevirtual 217, 3) := by decide +kernel
theorem dX6_readLaw_7 : decode cX6_readLaw 7 = .ok (.ifCond .eq 134, 3) := by decide +kernel
theorem dX6_readLaw_10 : decode cX6_readLaw 10 = .ok (.iload_n 1, 1) := by decide +kernel
theorem dX6_readLaw_11 : decode cX6_readLaw 11 = .ok (.bipush 16, 2) := by decide +kernel
theorem dX6_readLaw_13 : decode cX6_readLaw 13 = .ok (.if_icmp .ne 9, 3) := by decide +kernel
theorem dX6_readLaw_16 : decode cX6_readLaw 16 = .ok (.aload_n 0, 1) := by decide +kernel
theorem dX6_readLaw_17 : decode cX6_readLaw 17 = .ok (.iconst 3, 1) := by decide +kernel
theorem dX6_readLaw_18 : decode cX6_readLaw 18 = .ok (.invokevirtual 188, 3) := by decide +kernel
theorem dX6_readLaw_21 : decode cX6_readLaw 21 = .ok (.ireturn, 1) := by decide +kernel
theorem dX6_readLaw_22 : decode cX6_readLaw 22 = .ok (.bipush 64, 2) := by decide +kernel
theorem dX6_readLaw_24 : decode cX6_readLaw 24 = .ok (.iload_n 1, 1) := by decide +kernel
theorem dX6_readLaw_25 : decode cX6_readLaw 25 = .ok (.iadd, 1) := by decide +kernel
theorem dX6_readLaw_26 : decode cX6_readLaw 26 = .ok (.istore_n 2, 1) := by decide +kernel
theorem dX6_readLaw_27 : decode cX6_readLaw 27 = .ok (.aload_n 0, 1) := by decide +kernel
theorem dX6_readLaw_28 : decode cX6_readLaw 28 = .ok (.invokevirtual 195, 3) := by decide +kernel
theorem dX6_readLaw_31 : decode cX6_readLaw 31 = .ok (.aload_n 0, 1) := by decide +kernel
theorem dX6_readLaw_32 : decode cX6_readLaw 32 = .ok (.getfield 161, 3) := by decide +kernel
theorem dX6_readLaw_35 : decode cX6_readLaw 35 = .ok (.iconst 3, 1) := by decide +kernel
theorem dX6_readLaw_36 : decode cX6_readLaw 36 = .ok (.if_icmp .eq 9, 3) := by decide +kernel
theorem dX6_readLaw_39 : decode cX6_readLaw 39 = .ok (.aload_n 0, 1) := by decide +kernel
theorem dX6_readLaw_40 : decode cX6_readLaw 40 = .ok (.iconst 1, 1) := by decide +kernel
theorem dX6_readLaw_41 : decode cX6_readLaw 41 = .ok (.invokevirtual 188, 3) := by decide +kernel
theorem dX6_readLaw_44 : decode cX6_readLaw 44 = .ok (.ireturn, 1) := by decide +kernel
theorem dX6_readLaw_45 : decode cX6_readLaw 45 = .ok (.aload_n 0, 1) := by decide +kernel
theorem dX6_readLaw_46 : decode cX6_readLaw 46 = .ok (.getfield 164, 3) := by decide +kernel
theorem dX6_readLaw_49 : decode cX6_readLaw 49 = .ok (.iconst 3, 1) := by decide +kernel
theorem dX6_readLaw_50 : decode cX6_readLaw 50 = .ok (.if_icmp .le 9, 3) := by decide +kernel
theorem dX6_readLaw_53 : decode cX6_readLaw 53 = .ok (.aload_n 0, 1) := by decide +kernel
theorem dX6_readLaw_54 : decode cX6_readLaw 54 = .ok (.iconst 2, 1) := by decide +kernel
theorem dX6_readLaw_55 : decode cX6_readLaw 55 = .ok (.invokevirtual 188, 3) := by decide +kernel
theorem dX6_readLaw_58 : decode cX6_readLaw 58 = .ok (.ireturn, 1) := by decide +kernel
theorem dX6_readLaw_59 : decode cX6_readLaw 59 = .ok (.aload_n 0, 1) := by decide +kernel
theorem dX6_readLaw_60 : decode cX6_readLaw 60 = .ok (.getfield 65, 3) := by decide +kernel
theorem dX6_readLaw_63 : decode cX6_readLaw 63 = .ok (.iload_n 2, 1) := by decide +kernel
theorem dX6_readLaw_64 : decode cX6_readLaw 64 = .ok (.aload_n 0, 1) := by decide +kernel
theorem dX6_readLaw_65 : decode cX6_readLaw 65 = .ok (.getfield 164, 3) := by decide +kernel
theorem dX6_readLaw_68 : decode cX6_readLaw 68 = .ok (.iastore, 1) := by decide +kernel
theorem dX6_readLaw_69 : decode cX6_readLaw 69 = .ok (.aload_n 0, 1) := by decide +kernel
theorem dX6_readLaw_70 : decode cX6_readLaw 70 = .ok (.invokevirtual 195, 3) := by decide +kernel
theorem dX6_readLaw_73 : decode cX6_readLaw 73 = .ok (.aload_n 0, 1) := by decide +kernel
theorem dX6_readLaw_74 : decode cX6_readLaw 74 = .ok (.getfield 68, 3) := by decide +kernel
theorem dX6_readLaw_77 : decode cX6_readLaw 77 = .ok (.iload_n 2, 1) := by decide +kernel
theorem dX6_readLaw_78 : decode cX6_readLaw 78 = .ok (.aload_n 0, 1) := by decide +kernel
theorem dX6_readLaw_79 : decode cX6_readLaw 79 = .ok (.getfield 185, 3) := by decide +kernel
theorem dX6_readLaw_82 : decode cX6_readLaw 82 = .ok (.iastore, 1) := by decide +kernel
theorem dX6_readLaw_83 : decode cX6_readLaw 83 = .ok (.aload_n 0, 1) := by decide +kernel
theorem dX6_readLaw_84 : decode cX6_readLaw 84 = .ok (.iconst 1, 1) := by decide +kernel
theorem dX6_readLaw_85 : decode cX6_readLaw 85 = .ok (.invokevirtual 217, 3) := by decide +kernel
theorem dX6_readLaw_88 : decode cX6_readLaw 88 = .ok (.ifCond .eq 17, 3) := by decide +kernel
theorem dX6_readLaw_91 : decode cX6_readLaw 91 = .ok (.aload_n 0, 1) := by decide +kernel
theorem dX6_readLaw_92 : decode cX6_readLaw 92 = .ok (.invokevirtual 195, 3) := by decide +kernel
theorem dX6_readLaw_95 : decode cX6_readLaw 95 = .ok (.aload_n 0, 1) := by decide +kernel
theorem dX6_readLaw_96 : decode cX6_readLaw 96 = .ok (.invokevirtual 229, 3) := by decide +kernel
theorem dX6_readLaw_99 : decode cX6_readLaw 99 = .ok (.iconst (-1), 1) := by decide +kernel
theorem dX6_readLaw_100 : decode cX6_readLaw 100 = .ok (.if_icmp .ne 5, 3) := by decide +kernel
theorem dX6_readLaw_103 : decode cX6_readLaw 103 = .ok (.iconst (-1), 1) := by decide +kernel
theorem dX6_readLaw_104 : decode cX6_readLaw 104 = .ok (.ireturn, 1) := by decide +kernel
theorem dX6_readLaw_105 : decode cX6_readLaw 105 = .ok (.aload_n 0, 1) := by decide +kernel
theorem dX6_readLaw_106 : decode cX6_readLaw 106 = .ok (.getfield 71, 3) := by decide +kernel
theorem dX6_readLaw_109 : decode cX6_readLaw 109 = .ok (.iload_n 2, 1) := by decide +kernel
theorem dX6_readLaw_110 : decode cX6_readLaw 110 = .ok (.aload_n 0, 1) := by decide +kernel
theorem dX6_readLaw_111 : decode cX6_readLaw 111 = .ok (.getfield 185, 3) := by decide +kernel
theorem dX6_readLaw_114 : decode cX6_readLaw 114 = .ok (.iastore, 1) := by decide +kernel
theorem dX6_readLaw_115 : decode cX6_readLaw 115 = .ok (.aload_n 0, 1) := by decide +kernel
theorem dX6_readLaw_116 : decode cX6_readLaw 116 = .ok (.bipush 59, 2) := by decide +kernel
theorem dX6_readLaw_118 : decode cX6_readLaw 118 = .ok (.invokevirtual 202, 3) := by decide +kernel
theorem dX6_readLaw_121 : decode cX6_readLaw 121 = .ok (.ifCond .ne 9, 3) := by decide +kernel
theorem dX6_readLaw_124 : decode cX6_readLaw 124 = .ok (.aload_n 0, 1) := by decide +kernel
theorem dX6_readLaw_125 : decode cX6_readLaw 125 = .ok (.iconst 1, 1) := by decide +kernel
theorem dX6_readLaw_126 : decode cX6_readLaw 126 = .ok (.invokevirtual 188, 3) := by decide +kernel
theorem dX6_readLaw_129 : decode cX6_readLaw 129 = .ok (.ireturn, 1) := by decide +kernel
theorem dX6_readLaw_130 : decode cX6_readLaw 130 = .ok (.aload_n 0, 1) := by decide +kernel
theorem dX6_readLaw_131 : decode cX6_readLaw 131 = .ok (.invokevirtual 195, 3) := by decide +kernel
theorem dX6_readLaw_134 : decode cX6_readLaw 134 = .ok (.iload_n 1, 1) := by decide +kernel
theorem dX6_readLaw_135 : decode cX6_readLaw 135 = .ok (.iconst 1, 1) := by decide +kernel
theorem dX6_readLaw_136 : decode cX6_readLaw 136 = .ok (.iadd, 1) := by decide +kernel
theorem dX6_readLaw_137 : decode cX6_readLaw 137 = .ok (.istore_n 1, 1) := by decide +kernel
theorem dX6_readLaw_138 : decode cX6_readLaw 138 = .ok (.goto (-136), 3) := by decide +kernel
theorem dX6_readLaw_141 : decode cX6_readLaw 141 = .ok (.aload_n 0, 1) := by decide +kernel
theorem dX6_readLaw_142 : decode cX6_readLaw 142 = .ok (.getfield 161, 3) := by decide +kernel
theorem dX6_readLaw_145 : decode cX6_readLaw 145 = .ok (.ifCond .ne 7, 3) := by decide +kernel
theorem dX6_readLaw_148 : decode cX6_readLaw 148 = .ok (.iload_n 1, 1) := by decide +kernel
theorem dX6_readLaw_149 : decode cX6_readLaw 149 = .ok (.goto 8, 3) := by decide +kernel
theorem dX6_readLaw_152 : decode cX6_readLaw 152 = .ok (.aload_n 0, 1) := by decide +kernel
theorem dX6_readLaw_153 : decode cX6_readLaw 153 = .ok (.iconst 1, 1) := by decide +kernel
theorem dX6_readLaw_154 : decode cX6_readLaw 154 = .ok (.invokevirtual 188, 3) := by decide +kernel
theorem dX6_readLaw_157 : decode cX6_readLaw 157 = .ok (.ireturn, 1) := by decide +kernel
set_option maxRecDepth 20000 in
theorem ggX6_text_X6_isIn : GoodIn wsX6_text wsX6_isIn := goodIn_r _ [20] (by decide +kernel) (by decide +kernel)
set_option maxRecDepth 20000 in
theorem gX6_text_X6_isIn : GoodIn wsX6_text (wsV RX6 129 RX6 yX6_isIn wsX6_isIn) := goodIn_app (goodIn_of _ (by decide +kernel)) ggX6_text_X6_isIn
set_option maxRecDepth 20000 in
theorem ggX6_text_X6_reads : GoodIn wsX6_text wsX6_reads := goodIn_r _ [24, 4, 25, 26, 27, 28, 29, 30, 19, 31, 7, 32, 33, 34, 35, 36, 16, 17, 18, 20, 37, 38, 39, 40, 41, 42, 43, 44, 45, 46, 47, 48, 49, 100, 101, 102, 103, 104, 105, 106, 107, 108, 109, 110, 111, 112, 113, 114, 115, 116, 117, 118, 119, 120, 121, 122, 123, 124, 125, 126, 127, 128, 129, 130, 131, 132, 133, 134, 135, 136, 137, 138, 139, 140, 141, 142, 143, 144, 145, 146, 147, 148, 149, 150, 151, 152, 153, 154] (by decide +kernel) (by decide +kernel)
set_option maxRecDepth 20000 in
theorem gX6_text_X6_reads : GoodIn wsX6_text (wsV RX6 195 RX6 yX6_reads wsX6_reads) := goodIn_app (goodIn_of _ (by decide +kernel)) ggX6_text_X6_reads
set_option maxRecDepth 20000 in
theorem ggX6_text_X6_readLaw : GoodIn wsX6_text wsX6_readLaw := goodIn_r _ [53, 26, 27, 10, 11, 5, 12, 54, 55, 56, 19, 57, 58, 59, 60, 61, 8, 25, 9, 21, 22, 23, 24, 4, 28, 29, 30, 31, 7, 32, 33, 34, 35, 36, 16, 17, 18, 20, 37, 38, 39, 40, 41, 42, 43, 44, 45, 46, 47, 48, 49, 62, 63, 64, 65, 66, 6, 67, 68, 69, 70, 71, 72, 73, 74, 75, 76, 77, 78, 79, 80, 81, 82, 83, 84, 85, 86, 87, 88, 89, 90, 91, 92, 93, 94, 95, 13, 14, 96, 97, 98, 99, 100, 101, 102, 103, 104, 105, 106, 107, 108, 109, 110, 111, 112, 113, 114, 115, 116, 117, 118, 119, 120, 121, 122, 123, 124, 125, 126, 127, 128, 129, 130, 131, 132, 133, 134, 135, 136, 137, 138, 139, 140, 141, 142, 143, 144, 145, 146, 147, 148, 149, 150, 151, 152, 153, 154] (by decide +kernel) (by decide +kernel)
set_option maxRecDepth 20000 in
theorem gX6_text_X6_readLaw : GoodIn wsX6_text (wsV RX6 235 RX6 yX6_readLaw wsX6_readLaw) := goodIn_app (goodIn_of _ (by decide +kernel)) ggX6_text_X6_readLaw
theorem dX6_text_0 : decode cX6_text 0 = .ok (.aload_n 0, 1) := by decide +kernel
theorem dX6_text_1 : decode cX6_text 1 = .ok (.iconst 0, 1) := by decide +kernel
theorem dX6_text_2 : decode cX6_text 2 = .ok (.putfield 121, 3) := by decide +kernel
theorem dX6_text_5 : decode cX6_text 5 = .ok (.aload_n 0, 1) := by decide +kernel
theorem dX6_text_6 : decode cX6_text 6 = .ok (.iconst 0, 1) := by decide +kernel
theorem dX6_text_7 : decode cX6_text 7 = .ok (.putfield 232, 3) := by decide +kernel
theorem dX6_text_10 : decode cX6_text 10 = .ok (.aload_n 0, 1) := by decide +kernel
theorem dX6_text_11 : decode cX6_text 11 = .ok (.iconst (-1), 1) := by decide +kernel
theorem dX6_text_12 : decode cX6_text 12 = .ok (.putfield 83, 3) := by decide +kernel
theorem dX6_text_15 : decode cX6_text 15 = .ok (.aload_n 0, 1) := by decide +kernel
theorem dX6_text_16 : decode cX6_text 16 = .ok (.iload_n 1, 1) := by decide +kernel
theorem dX6_text_17 : decode cX6_text 17 = .ok (.iconst 0, 1) := by decide +kernel
theorem dX6_text_18 : decode cX6_text 18 = .ok (.iconst 3, 1) := by decide +kernel
theorem dX6_text_19 : decode cX6_text 19 = .ok (.invokevirtual 129, 3) := by decide +kernel
theorem dX6_text_22 : decode cX6_text 22 = .ok (.istore_n 2, 1) := by decide +kernel
theorem dX6_text_23 : decode cX6_text 23 = .ok (.aload_n 0, 1) := by decide +kernel
theorem dX6_text_24 : decode cX6_text 24 = .ok (.iconst 0, 1) := by decide +kernel
theorem dX6_text_25 : decode cX6_text 25 = .ok (.putfield 152, 3) := by decide +kernel
theorem dX6_text_28 : decode cX6_text 28 = .ok (.aload_n 0, 1) := by decide +kernel
theorem dX6_text_29 : decode cX6_text 29 = .ok (.iconst 0, 1) := by decide +kernel
theorem dX6_text_30 : decode cX6_text 30 = .ok (.putfield 185, 3) := by decide +kernel
theorem dX6_text_33 : decode cX6_text 33 = .ok (.aload_n 0, 1) := by decide +kernel
theorem dX6_text_34 : decode cX6_text 34 = .ok (.iconst 0, 1) := by decide +kernel
theorem dX6_text_35 : decode cX6_text 35 = .ok (.putfield 214, 3) := by decide +kernel
theorem dX6_text_38 : decode cX6_text 38 = .ok (.aload_n 0, 1) := by decide +kernel
theorem dX6_text_39 : decode cX6_text 39 = .ok (.invokevirtual 195, 3) := by decide +kernel
