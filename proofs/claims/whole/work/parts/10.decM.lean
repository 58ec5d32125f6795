theorem dX11_in_0 : decode cX11_in 0 = .ok (.lload_n 0, 1) := by decide +kernel
theorem dX11_in_1 : decode cX11_in 1 = .ok (.lload_n 2, 1) := by decide +kernel
theorem dX11_in_2 : decode cX11_in 2 = .ok (.lcmp, 1) := by decide +kernel
theorem dX11_in_3 : decode cX11_in 3 = .ok (.ifCond .lt 14, 3) := by decide +kernel
theorem dX11_in_6 : decode cX11_in 6 = .ok (.lload_n 0, 1) := by decide +kernel
theorem dX11_in_7 : decode cX11_in 7 = .ok (.lload 4, 2) := by decide +kernel
theorem dX11_in_9 : decode cX11_in 9 = .ok (.lcmp, 1) := by decide +kernel
theorem dX11_in_10 : decode cX11_in 10 = .ok (.ifCond .gt 7, 3) := by decide +kernel
theorem dX11_in_13 : decode cX11_in 13 = .ok (.iconst 1, 1) := by decide +kernel
theorem dX11_in_14 : decode cX11_in 14 = .ok (.goto 4, 3) := by decide +kernel
theorem dX11_in_17 : decode cX11_in 17 = .ok (.iconst 0, 1) := by decide +kernel
theorem dX11_in_18 : decode cX11_in 18 = .ok (.ireturn, 1) := by decide +kernel
theorem dX11_holds_0 : decode cX11_holds 0 = .ok (.iload_n 0, 1) := by decide +kernel
theorem dX11_holds_1 : decode cX11_holds 1 = .ok (.iload_n 1, 1) := by decide +kernel
theorem dX11_holds_2 : decode cX11_holds 2 = .ok (.ishr, 1) := by decide +kernel
theorem dX11_holds_3 : decode cX11_holds 3 = .ok (.iconst 1, 1) := by decide +kernel
theorem dX11_holds_4 : decode cX11_holds 4 = .ok (.iand, 1) := by decide +kernel
theorem dX11_holds_5 : decode cX11_holds 5 = .ok (.iconst 1, 1) := by decide +kernel
theorem dX11_holds_6 : decode cX11_holds 6 = .ok (.if_icmp .ne 7, 3) := by decide +kernel
theorem dX11_holds_9 : decode cX11_holds 9 = .ok (.iconst 1, 1) := by decide +kernel
theorem dX11_holds_10 : decode cX11_holds 10 = .ok (.goto 4, 3) := by decide +kernel
theorem dX11_holds_13 : decode cX11_holds 13 = .ok (.iconst 0, 1) := by decide +kernel
theorem dX11_holds_14 : decode cX11_holds 14 = .ok (.ireturn, 1) := by decide +kernel
theorem dX11_empties_0 : decode cX11_empties 0 = .ok (.iconst 0, 1) := by decide +kernel
theorem dX11_empties_1 : decode cX11_empties 1 = .ok (.istore_n 1, 1) := by decide +kernel
theorem dX11_empties_2 : decode cX11_empties 2 = .ok (.iload_n 1, 1) := by decide +kernel
theorem dX11_empties_3 : decode cX11_empties 3 = .ok (.sipush 200, 3) := by decide +kernel
theorem dX11_empties_6 : decode cX11_empties 6 = .ok (.if_icmp .ge 13, 3) := by decide +kernel
theorem dX11_empties_9 : decode cX11_empties 9 = .ok (.aload_n 0, 1) := by decide +kernel
theorem dX11_empties_10 : decode cX11_empties 10 = .ok (.iload_n 1, 1) := by decide +kernel
theorem dX11_empties_11 : decode cX11_empties 11 = .ok (.iconst 0, 1) := by decide +kernel
theorem dX11_empties_12 : decode cX11_empties 12 = .ok (.iastore, 1) := by decide +kernel
theorem dX11_empties_13 : decode cX11_empties 13 = .ok (.iinc 1 1, 3) := by decide +kernel
theorem dX11_empties_16 : decode cX11_empties 16 = .ok (.goto (-14), 3) := by decide +kernel
theorem dX11_empties_19 : decode cX11_empties 19 = .ok (.aload_n 0, 1) := by decide +kernel
theorem dX11_empties_20 : decode cX11_empties 20 = .ok (.bipush 11, 2) := by decide +kernel
theorem dX11_empties_22 : decode cX11_empties 22 = .ok (.iconst 1, 1) := by decide +kernel
theorem dX11_empties_23 : decode cX11_empties 23 = .ok (.iastore, 1) := by decide +kernel
theorem dX11_empties_24 : decode cX11_empties 24 = .ok (.aload_n 0, 1) := by decide +kernel
theorem dX11_empties_25 : decode cX11_empties 25 = .ok (.bipush 12, 2) := by decide +kernel
theorem dX11_empties_27 : decode cX11_empties 27 = .ok (.iconst 5, 1) := by decide +kernel
theorem dX11_empties_28 : decode cX11_empties 28 = .ok (.iastore, 1) := by decide +kernel
theorem dX11_empties_29 : decode cX11_empties 29 = .ok (.aload_n 0, 1) := by decide +kernel
theorem dX11_empties_30 : decode cX11_empties 30 = .ok (.bipush 13, 2) := by decide +kernel
theorem dX11_empties_32 : decode cX11_empties 32 = .ok (.bipush 50, 2) := by decide +kernel
theorem dX11_empties_34 : decode cX11_empties 34 = .ok (.iastore, 1) := by decide +kernel
theorem dX11_empties_35 : decode cX11_empties 35 = .ok (.aload_n 0, 1) := by decide +kernel
theorem dX11_empties_36 : decode cX11_empties 36 = .ok (.bipush 14, 2) := by decide +kernel
theorem dX11_empties_38 : decode cX11_empties 38 = .ok (.bipush 50, 2) := by decide +kernel
theorem dX11_empties_40 : decode cX11_empties 40 = .ok (.iastore, 1) := by decide +kernel
theorem dX11_empties_41 : decode cX11_empties 41 = .ok (.aload_n 0, 1) := by decide +kernel
theorem dX11_empties_42 : decode cX11_empties 42 = .ok (.bipush 15, 2) := by decide +kernel
theorem dX11_empties_44 : decode cX11_empties 44 = .ok (.bipush 20, 2) := by decide +kernel
theorem dX11_empties_46 : decode cX11_empties 46 = .ok (.iastore, 1) := by decide +kernel
theorem dX11_empties_47 : decode cX11_empties 47 = .ok (.return_, 1) := by decide +kernel
theorem dX11_keep_0 : decode cX11_keep 0 = .ok (.iload_n 1, 1) := by decide +kernel
theorem dX11_keep_1 : decode cX11_keep 1 = .ok (.i2l, 1) := by decide +kernel
theorem dX11_keep_2 : decode cX11_keep 2 = .ok (.lconst 0, 1) := by decide +kernel
theorem dX11_keep_3 : decode cX11_keep 3 = .ok (.ldc2_w 82, 3) := by decide +kernel
theorem dX11_keep_6 : decode cX11_keep 6 = .ok (.invokestatic 84, 3) := by decide +kernel
theorem dX11_keep_9 : decode cX11_keep 9 = .ok (.ifCond .ne 6, 3) := by decide +kernel
theorem dX11_keep_12 : decode cX11_keep 12 = .ok (.bipush (-2), 2) := by decide +kernel
theorem dX11_keep_14 : decode cX11_keep 14 = .ok (.ireturn, 1) := by decide +kernel
theorem dX11_keep_15 : decode cX11_keep 15 = .ok (.iconst 0, 1) := by decide +kernel
theorem dX11_keep_16 : decode cX11_keep 16 = .ok (.istore_n 2, 1) := by decide +kernel
theorem dX11_keep_17 : decode cX11_keep 17 = .ok (.iload_n 2, 1) := by decide +kernel
theorem dX11_keep_18 : decode cX11_keep 18 = .ok (.sipush 200, 3) := by decide +kernel
theorem dX11_keep_21 : decode cX11_keep 21 = .ok (.if_icmp .ge 27, 3) := by decide +kernel
theorem dX11_keep_24 : decode cX11_keep 24 = .ok (.aload_n 0, 1) := by decide +kernel
theorem dX11_keep_25 : decode cX11_keep 25 = .ok (.getfield 17, 3) := by decide +kernel
theorem dX11_keep_28 : decode cX11_keep 28 = .ok (.sipush 200, 3) := by decide +kernel
theorem dX11_keep_31 : decode cX11_keep 31 = .ok (.iload_n 1, 1) := by decide +kernel
theorem dX11_keep_32 : decode cX11_keep 32 = .ok (.imul, 1) := by decide +kernel
theorem dX11_keep_33 : decode cX11_keep 33 = .ok (.iload_n 2, 1) := by decide +kernel
theorem dX11_keep_34 : decode cX11_keep 34 = .ok (.iadd, 1) := by decide +kernel
theorem dX11_keep_35 : decode cX11_keep 35 = .ok (.aload_n 0, 1) := by decide +kernel
theorem dX11_keep_36 : decode cX11_keep 36 = .ok (.getfield 13, 3) := by decide +kernel
theorem dX11_keep_39 : decode cX11_keep 39 = .ok (.iload_n 2, 1) := by decide +kernel
theorem dX11_keep_40 : decode cX11_keep 40 = .ok (.iaload, 1) := by decide +kernel
theorem dX11_keep_41 : decode cX11_keep 41 = .ok (.iastore, 1) := by decide +kernel
theorem dX11_keep_42 : decode cX11_keep 42 = .ok (.iinc 2 1, 3) := by decide +kernel
theorem dX11_keep_45 : decode cX11_keep 45 = .ok (.goto (-28), 3) := by decide +kernel
theorem dX11_keep_48 : decode cX11_keep 48 = .ok (.aload_n 0, 1) := by decide +kernel
theorem dX11_keep_49 : decode cX11_keep 49 = .ok (.getfield 20, 3) := by decide +kernel
theorem dX11_keep_52 : decode cX11_keep 52 = .ok (.iload_n 1, 1) := by decide +kernel
theorem dX11_keep_53 : decode cX11_keep 53 = .ok (.iconst 1, 1) := by decide +kernel
theorem dX11_keep_54 : decode cX11_keep 54 = .ok (.bastore, 1) := by decide +kernel
theorem dX11_keep_55 : decode cX11_keep 55 = .ok (.iconst 0, 1) := by decide +kernel
theorem dX11_keep_56 : decode cX11_keep 56 = .ok (.ireturn, 1) := by decide +kernel
theorem dX11_back_0 : decode cX11_back 0 = .ok (.iload_n 1, 1) := by decide +kernel
theorem dX11_back_1 : decode cX11_back 1 = .ok (.i2l, 1) := by decide +kernel
theorem dX11_back_2 : decode cX11_back 2 = .ok (.lconst 0, 1) := by decide +kernel
theorem dX11_back_3 : decode cX11_back 3 = .ok (.ldc2_w 82, 3) := by decide +kernel
theorem dX11_back_6 : decode cX11_back 6 = .ok (.invokestatic 84, 3) := by decide +kernel
theorem dX11_back_9 : decode cX11_back 9 = .ok (.ifCond .ne 6, 3) := by decide +kernel
theorem dX11_back_12 : decode cX11_back 12 = .ok (.bipush (-2), 2) := by decide +kernel
theorem dX11_back_14 : decode cX11_back 14 = .ok (.ireturn, 1) := by decide +kernel
theorem dX11_back_15 : decode cX11_back 15 = .ok (.aload_n 0, 1) := by decide +kernel
theorem dX11_back_16 : decode cX11_back 16 = .ok (.getfield 20, 3) := by decide +kernel
theorem dX11_back_19 : decode cX11_back 19 = .ok (.iload_n 1, 1) := by decide +kernel
theorem dX11_back_20 : decode cX11_back 20 = .ok (.baload, 1) := by decide +kernel
theorem dX11_back_21 : decode cX11_back 21 = .ok (.ifCond .ne 6, 3) := by decide +kernel
theorem dX11_back_24 : decode cX11_back 24 = .ok (.bipush (-6), 2) := by decide +kernel
theorem dX11_back_26 : decode cX11_back 26 = .ok (.ireturn, 1) := by decide +kernel
theorem dX11_back_27 : decode cX11_back 27 = .ok (.iconst 0, 1) := by decide +kernel
theorem dX11_back_28 : decode cX11_back 28 = .ok (.istore_n 2, 1) := by decide +kernel
theorem dX11_back_29 : decode cX11_back 29 = .ok (.iload_n 2, 1) := by decide +kernel
theorem dX11_back_30 : decode cX11_back 30 = .ok (.sipush 200, 3) := by decide +kernel
theorem dX11_back_33 : decode cX11_back 33 = .ok (.if_icmp .ge 27, 3) := by decide +kernel
theorem dX11_back_36 : decode cX11_back 36 = .ok (.aload_n 0, 1) := by decide +kernel
theorem dX11_back_37 : decode cX11_back 37 = .ok (.getfield 13, 3) := by decide +kernel
theorem dX11_back_40 : decode cX11_back 40 = .ok (.iload_n 2, 1) := by decide +kernel
theorem dX11_back_41 : decode cX11_back 41 = .ok (.aload_n 0, 1) := by decide +kernel
theorem dX11_back_42 : decode cX11_back 42 = .ok (.getfield 17, 3) := by decide +kernel
theorem dX11_back_45 : decode cX11_back 45 = .ok (.sipush 200, 3) := by decide +kernel
theorem dX11_back_48 : decode cX11_back 48 = .ok (.iload_n 1, 1) := by decide +kernel
theorem dX11_back_49 : decode cX11_back 49 = .ok (.imul, 1) := by decide +kernel
theorem dX11_back_50 : decode cX11_back 50 = .ok (.iload_n 2, 1) := by decide +kernel
theorem dX11_back_51 : decode cX11_back 51 = .ok (.iadd, 1) := by decide +kernel
theorem dX11_back_52 : decode cX11_back 52 = .ok (.iaload, 1) := by decide +kernel
theorem dX11_back_53 : decode cX11_back 53 = .ok (.iastore, 1) := by decide +kernel
theorem dX11_back_54 : decode cX11_back 54 = .ok (.iinc 2 1, 3) := by decide +kernel
theorem dX11_back_57 : decode cX11_back 57 = .ok (.goto (-28), 3) := by decide +kernel
theorem dX11_back_60 : decode cX11_back 60 = .ok (.iconst 0, 1) := by decide +kernel
theorem dX11_back_61 : decode cX11_back 61 = .ok (.ireturn, 1) := by decide +kernel
theorem dX11_isFloe_0 : decode cX11_isFloe 0 = .ok (.aload_n 0, 1) := by decide +kernel
theorem dX11_isFloe_1 : decode cX11_isFloe 1 = .ok (.getfield 13, 3) := by decide +kernel
theorem dX11_isFloe_4 : decode cX11_isFloe 4 = .ok (.iconst 1, 1) := by decide +kernel
theorem dX11_isFloe_5 : decode cX11_isFloe 5 = .ok (.iaload, 1) := by decide +kernel
theorem dX11_isFloe_6 : decode cX11_isFloe 6 = .ok (.ifCond .le 7, 3) := by decide +kernel
theorem dX11_isFloe_9 : decode cX11_isFloe 9 = .ok (.iconst 1, 1) := by decide +kernel
theorem dX11_isFloe_10 : decode cX11_isFloe 10 = .ok (.goto 4, 3) := by decide +kernel
theorem dX11_isFloe_13 : decode cX11_isFloe 13 = .ok (.iconst 0, 1) := by decide +kernel
theorem dX11_isFloe_14 : decode cX11_isFloe 14 = .ok (.ireturn, 1) := by decide +kernel
theorem dX11_ofCrack_0 : decode cX11_ofCrack 0 = .ok (.aload_n 0, 1) := by decide +kernel
theorem dX11_ofCrack_1 : decode cX11_ofCrack 1 = .ok (.getfield 13, 3) := by decide +kernel
theorem dX11_ofCrack_4 : decode cX11_ofCrack 4 = .ok (.bipush 24, 2) := by decide +kernel
theorem dX11_ofCrack_6 : decode cX11_ofCrack 6 = .ok (.bipush 8, 2) := by decide +kernel
theorem dX11_ofCrack_8 : decode cX11_ofCrack 8 = .ok (.iload_n 1, 1) := by decide +kernel
theorem dX11_ofCrack_9 : decode cX11_ofCrack 9 = .ok (.imul, 1) := by decide +kernel
theorem dX11_ofCrack_10 : decode cX11_ofCrack 10 = .ok (.iadd, 1) := by decide +kernel
theorem dX11_ofCrack_11 : decode cX11_ofCrack 11 = .ok (.iload_n 2, 1) := by decide +kernel
theorem dX11_ofCrack_12 : decode cX11_ofCrack 12 = .ok (.iadd, 1) := by decide +kernel
theorem dX11_ofCrack_13 : decode cX11_ofCrack 13 = .ok (.iaload, 1) := by decide +kernel
theorem dX11_ofCrack_14 : decode cX11_ofCrack 14 = .ok (.ireturn, 1) := by decide +kernel
theorem dX11_ofSort_0 : decode cX11_ofSort 0 = .ok (.aload_n 0, 1) := by decide +kernel
theorem dX11_ofSort_1 : decode cX11_ofSort 1 = .ok (.getfield 13, 3) := by decide +kernel
theorem dX11_ofSort_4 : decode cX11_ofSort 4 = .ok (.bipush 80, 2) := by decide +kernel
theorem dX11_ofSort_6 : decode cX11_ofSort 6 = .ok (.iconst 4, 1) := by decide +kernel
theorem dX11_ofSort_7 : decode cX11_ofSort 7 = .ok (.iload_n 1, 1) := by decide +kernel
theorem dX11_ofSort_8 : decode cX11_ofSort 8 = .ok (.imul, 1) := by decide +kernel
theorem dX11_ofSort_9 : decode cX11_ofSort 9 = .ok (.iadd, 1) := by decide +kernel
theorem dX11_ofSort_10 : decode cX11_ofSort 10 = .ok (.iload_n 2, 1) := by decide +kernel
theorem dX11_ofSort_11 : decode cX11_ofSort 11 = .ok (.iadd, 1) := by decide +kernel
theorem dX11_ofSort_12 : decode cX11_ofSort 12 = .ok (.iaload, 1) := by decide +kernel
theorem dX11_ofSort_13 : decode cX11_ofSort 13 = .ok (.ireturn, 1) := by decide +kernel
theorem dX11_ofHeap_0 : decode cX11_ofHeap 0 = .ok (.aload_n 0, 1) := by decide +kernel
theorem dX11_ofHeap_1 : decode cX11_ofHeap 1 = .ok (.getfield 13, 3) := by decide +kernel
theorem dX11_ofHeap_4 : decode cX11_ofHeap 4 = .ok (.bipush 116, 2) := by decide +kernel
theorem dX11_ofHeap_6 : decode cX11_ofHeap 6 = .ok (.bipush 9, 2) := by decide +kernel
theorem dX11_ofHeap_8 : decode cX11_ofHeap 8 = .ok (.iload_n 1, 1) := by decide +kernel
theorem dX11_ofHeap_9 : decode cX11_ofHeap 9 = .ok (.imul, 1) := by decide +kernel
theorem dX11_ofHeap_10 : decode cX11_ofHeap 10 = .ok (.iadd, 1) := by decide +kernel
theorem dX11_ofHeap_11 : decode cX11_ofHeap 11 = .ok (.iload_n 2, 1) := by decide +kernel
theorem dX11_ofHeap_12 : decode cX11_ofHeap 12 = .ok (.iadd, 1) := by decide +kernel
theorem dX11_ofHeap_13 : decode cX11_ofHeap 13 = .ok (.iaload, 1) := by decide +kernel
theorem dX11_ofHeap_14 : decode cX11_ofHeap 14 = .ok (.ireturn, 1) := by decide +kernel
theorem dX11_ofGroup_0 : decode cX11_ofGroup 0 = .ok (.aload_n 0, 1) := by decide +kernel
theorem dX11_ofGroup_1 : decode cX11_ofGroup 1 = .ok (.getfield 13, 3) := by decide +kernel
theorem dX11_ofGroup_4 : decode cX11_ofGroup 4 = .ok (.sipush 188, 3) := by decide +kernel
theorem dX11_ofGroup_7 : decode cX11_ofGroup 7 = .ok (.iconst 3, 1) := by decide +kernel
theorem dX11_ofGroup_8 : decode cX11_ofGroup 8 = .ok (.iload_n 1, 1) := by decide +kernel
theorem dX11_ofGroup_9 : decode cX11_ofGroup 9 = .ok (.imul, 1) := by decide +kernel
theorem dX11_ofGroup_10 : decode cX11_ofGroup 10 = .ok (.iadd, 1) := by decide +kernel
theorem dX11_ofGroup_11 : decode cX11_ofGroup 11 = .ok (.iload_n 2, 1) := by decide +kernel
theorem dX11_ofGroup_12 : decode cX11_ofGroup 12 = .ok (.iadd, 1) := by decide +kernel
theorem dX11_ofGroup_13 : decode cX11_ofGroup 13 = .ok (.iaload, 1) := by decide +kernel
theorem dX11_ofGroup_14 : decode cX11_ofGroup 14 = .ok (.ireturn, 1) := by decide +kernel
theorem dX11_isThere_0 : decode cX11_isThere 0 = .ok (.aload_n 0, 1) := by decide +kernel
theorem dX11_isThere_1 : decode cX11_isThere 1 = .ok (.iload_n 1, 1) := by decide +kernel
theorem dX11_isThere_2 : decode cX11_isThere 2 = .ok (.iconst 0, 1) := by decide +kernel
theorem dX11_isThere_3 : decode cX11_isThere 3 = .ok (.invokevirtual 88, 3) := by decide +kernel
theorem dX11_isThere_6 : decode cX11_isThere 6 = .ok (.iconst 1, 1) := by decide +kernel
theorem dX11_isThere_7 : decode cX11_isThere 7 = .ok (.if_icmp .ne 7, 3) := by decide +kernel
theorem dX11_isThere_10 : decode cX11_isThere 10 = .ok (.iconst 1, 1) := by decide +kernel
theorem dX11_isThere_11 : decode cX11_isThere 11 = .ok (.goto 4, 3) := by decide +kernel
theorem dX11_isThere_14 : decode cX11_isThere 14 = .ok (.iconst 0, 1) := by decide +kernel
theorem dX11_isThere_15 : decode cX11_isThere 15 = .ok (.ireturn, 1) := by decide +kernel
theorem dX11_feed_0 : decode cX11_feed 0 = .ok (.aload_n 0, 1) := by decide +kernel
theorem dX11_feed_1 : decode cX11_feed 1 = .ok (.getfield 92, 3) := by decide +kernel
theorem dX11_feed_4 : decode cX11_feed 4 = .ok (.bipush 20, 2) := by decide +kernel
theorem dX11_feed_6 : decode cX11_feed 6 = .ok (.iadd, 1) := by decide +kernel
theorem dX11_feed_7 : decode cX11_feed 7 = .ok (.sipush 1600, 3) := by decide +kernel
theorem dX11_feed_10 : decode cX11_feed 10 = .ok (.if_icmp .le 5, 3) := by decide +kernel
theorem dX11_feed_13 : decode cX11_feed 13 = .ok (.iconst (-1), 1) := by decide +kernel
theorem dX11_feed_14 : decode cX11_feed 14 = .ok (.ireturn, 1) := by decide +kernel
theorem dX11_feed_15 : decode cX11_feed 15 = .ok (.aload_n 0, 1) := by decide +kernel
theorem dX11_feed_16 : decode cX11_feed 16 = .ok (.getfield 28, 3) := by decide +kernel
theorem dX11_feed_19 : decode cX11_feed 19 = .ok (.iconst 0, 1) := by decide +kernel
theorem dX11_feed_20 : decode cX11_feed 20 = .ok (.iload_n 1, 1) := by decide +kernel
theorem dX11_feed_21 : decode cX11_feed 21 = .ok (.iastore, 1) := by decide +kernel
theorem dX11_feed_22 : decode cX11_feed 22 = .ok (.aload_n 0, 1) := by decide +kernel
theorem dX11_feed_23 : decode cX11_feed 23 = .ok (.getfield 28, 3) := by decide +kernel
theorem dX11_feed_26 : decode cX11_feed 26 = .ok (.iconst 1, 1) := by decide +kernel
theorem dX11_feed_27 : decode cX11_feed 27 = .ok (.iload_n 2, 1) := by decide +kernel
theorem dX11_feed_28 : decode cX11_feed 28 = .ok (.iastore, 1) := by decide +kernel
theorem dX11_feed_29 : decode cX11_feed 29 = .ok (.aload_n 0, 1) := by decide +kernel
theorem dX11_feed_30 : decode cX11_feed 30 = .ok (.getfield 28, 3) := by decide +kernel
theorem dX11_feed_33 : decode cX11_feed 33 = .ok (.iconst 2, 1) := by decide +kernel
theorem dX11_feed_34 : decode cX11_feed 34 = .ok (.iload_n 3, 1) := by decide +kernel
theorem dX11_feed_35 : decode cX11_feed 35 = .ok (.iastore, 1) := by decide +kernel
theorem dX11_feed_36 : decode cX11_feed 36 = .ok (.aload_n 0, 1) := by decide +kernel
theorem dX11_feed_37 : decode cX11_feed 37 = .ok (.getfield 28, 3) := by decide +kernel
theorem dX11_feed_40 : decode cX11_feed 40 = .ok (.iconst 3, 1) := by decide +kernel
theorem dX11_feed_41 : decode cX11_feed 41 = .ok (.iload 4, 2) := by decide +kernel
theorem dX11_feed_43 : decode cX11_feed 43 = .ok (.iastore, 1) := by decide +kernel
theorem dX11_feed_44 : decode cX11_feed 44 = .ok (.aload_n 0, 1) := by decide +kernel
theorem dX11_feed_45 : decode cX11_feed 45 = .ok (.getfield 28, 3) := by decide +kernel
theorem dX11_feed_48 : decode cX11_feed 48 = .ok (.iconst 4, 1) := by decide +kernel
theorem dX11_feed_49 : decode cX11_feed 49 = .ok (.iload 5, 2) := by decide +kernel
theorem dX11_feed_51 : decode cX11_feed 51 = .ok (.iastore, 1) := by decide +kernel
theorem dX11_feed_52 : decode cX11_feed 52 = .ok (.iconst 0, 1) := by decide +kernel
theorem dX11_feed_53 : decode cX11_feed 53 = .ok (.istore 6, 2) := by decide +kernel
theorem dX11_feed_55 : decode cX11_feed 55 = .ok (.iload 6, 2) := by decide +kernel
theorem dX11_feed_57 : decode cX11_feed 57 = .ok (.bipush 20, 2) := by decide +kernel
theorem dX11_feed_59 : decode cX11_feed 59 = .ok (.if_icmp .ge 42, 3) := by decide +kernel
theorem dX11_feed_62 : decode cX11_feed 62 = .ok (.aload_n 0, 1) := by decide +kernel
theorem dX11_feed_63 : decode cX11_feed 63 = .ok (.getfield 24, 3) := by decide +kernel
theorem dX11_feed_66 : decode cX11_feed 66 = .ok (.aload_n 0, 1) := by decide +kernel
theorem dX11_feed_67 : decode cX11_feed 67 = .ok (.getfield 92, 3) := by decide +kernel
theorem dX11_feed_70 : decode cX11_feed 70 = .ok (.iload 6, 2) := by decide +kernel
theorem dX11_feed_72 : decode cX11_feed 72 = .ok (.iadd, 1) := by decide +kernel
theorem dX11_feed_73 : decode cX11_feed 73 = .ok (.aload_n 0, 1) := by decide +kernel
theorem dX11_feed_74 : decode cX11_feed 74 = .ok (.getfield 28, 3) := by decide +kernel
theorem dX11_feed_77 : decode cX11_feed 77 = .ok (.iload 6, 2) := by decide +kernel
theorem dX11_feed_79 : decode cX11_feed 79 = .ok (.iconst 4, 1) := by decide +kernel
theorem dX11_feed_80 : decode cX11_feed 80 = .ok (.idiv, 1) := by decide +kernel
theorem dX11_feed_81 : decode cX11_feed 81 = .ok (.iaload, 1) := by decide +kernel
theorem dX11_feed_82 : decode cX11_feed 82 = .ok (.bipush 24, 2) := by decide +kernel
theorem dX11_feed_84 : decode cX11_feed 84 = .ok (.bipush 8, 2) := by decide +kernel
theorem dX11_feed_86 : decode cX11_feed 86 = .ok (.iload 6, 2) := by decide +kernel
theorem dX11_feed_88 : decode cX11_feed 88 = .ok (.iconst 4, 1) := by decide +kernel
theorem dX11_feed_89 : decode cX11_feed 89 = .ok (.irem, 1) := by decide +kernel
theorem dX11_feed_90 : decode cX11_feed 90 = .ok (.imul, 1) := by decide +kernel
theorem dX11_feed_91 : decode cX11_feed 91 = .ok (.isub, 1) := by decide +kernel
theorem dX11_feed_92 : decode cX11_feed 92 = .ok (.ishr, 1) := by decide +kernel
theorem dX11_feed_93 : decode cX11_feed 93 = .ok (.i2b, 1) := by decide +kernel
theorem dX11_feed_94 : decode cX11_feed 94 = .ok (.bastore, 1) := by decide +kernel
theorem dX11_feed_95 : decode cX11_feed 95 = .ok (.iinc 6 1, 3) := by decide +kernel
theorem dX11_feed_98 : decode cX11_feed 98 = .ok (.goto (-43), 3) := by decide +kernel
theorem dX11_feed_101 : decode cX11_feed 101 = .ok (.aload_n 0, 1) := by decide +kernel
theorem dX11_feed_102 : decode cX11_feed 102 = .ok (.dup, 1) := by decide +kernel
theorem dX11_feed_103 : decode cX11_feed 103 = .ok (.getfield 92, 3) := by decide +kernel
theorem dX11_feed_106 : decode cX11_feed 106 = .ok (.bipush 20, 2) := by decide +kernel
theorem dX11_feed_108 : decode cX11_feed 108 = .ok (.iadd, 1) := by decide +kernel
theorem dX11_feed_109 : decode cX11_feed 109 = .ok (.putfield 92, 3) := by decide +kernel
theorem dX11_feed_112 : decode cX11_feed 112 = .ok (.aload_n 0, 1) := by decide +kernel
theorem dX11_feed_113 : decode cX11_feed 113 = .ok (.getfield 92, 3) := by decide +kernel
theorem dX11_feed_116 : decode cX11_feed 116 = .ok (.ireturn, 1) := by decide +kernel
theorem dX11_end_0 : decode cX11_end 0 = .ok (.iload_n 1, 1) := by decide +kernel
theorem dX11_end_1 : decode cX11_end 1 = .ok (.i2l, 1) := by decide +kernel
theorem dX11_end_2 : decode cX11_end 2 = .ok (.lconst 0, 1) := by decide +kernel
theorem dX11_end_3 : decode cX11_end 3 = .ok (.aload_n 0, 1) := by decide +kernel
theorem dX11_end_4 : decode cX11_end 4 = .ok (.getfield 92, 3) := by decide +kernel
theorem dX11_end_7 : decode cX11_end 7 = .ok (.i2l, 1) := by decide +kernel
theorem dX11_end_8 : decode cX11_end 8 = .ok (.invokestatic 84, 3) := by decide +kernel
theorem dX11_end_11 : decode cX11_end 11 = .ok (.ifCond .ne 5, 3) := by decide +kernel
theorem dX11_end_14 : decode cX11_end 14 = .ok (.iconst (-1), 1) := by decide +kernel
theorem dX11_end_15 : decode cX11_end 15 = .ok (.ireturn, 1) := by decide +kernel
theorem dX11_end_16 : decode cX11_end 16 = .ok (.aload_n 0, 1) := by decide +kernel
theorem dX11_end_17 : decode cX11_end 17 = .ok (.iload_n 1, 1) := by decide +kernel
theorem dX11_end_18 : decode cX11_end 18 = .ok (.putfield 92, 3) := by decide +kernel
theorem dX11_end_21 : decode cX11_end 21 = .ok (.iload_n 1, 1) := by decide +kernel
theorem dX11_end_22 : decode cX11_end 22 = .ok (.ireturn, 1) := by decide +kernel
theorem dX11_see_0 : decode cX11_see 0 = .ok (.iload_n 1, 1) := by decide +kernel
theorem dX11_see_1 : decode cX11_see 1 = .ok (.aload_n 0, 1) := by decide +kernel
theorem dX11_see_2 : decode cX11_see 2 = .ok (.getfield 95, 3) := by decide +kernel
theorem dX11_see_5 : decode cX11_see 5 = .ok (.if_icmp .ge 16, 3) := by decide +kernel
theorem dX11_see_8 : decode cX11_see 8 = .ok (.aload_n 0, 1) := by decide +kernel
theorem dX11_see_9 : decode cX11_see 9 = .ok (.getfield 24, 3) := by decide +kernel
theorem dX11_see_12 : decode cX11_see 12 = .ok (.iload_n 1, 1) := by decide +kernel
theorem dX11_see_13 : decode cX11_see 13 = .ok (.baload, 1) := by decide +kernel
theorem dX11_see_14 : decode cX11_see 14 = .ok (.sipush 255, 3) := by decide +kernel
theorem dX11_see_17 : decode cX11_see 17 = .ok (.iand, 1) := by decide +kernel
theorem dX11_see_18 : decode cX11_see 18 = .ok (.goto 4, 3) := by decide +kernel
theorem dX11_see_21 : decode cX11_see 21 = .ok (.iconst (-1), 1) := by decide +kernel
theorem dX11_see_22 : decode cX11_see 22 = .ok (.ireturn, 1) := by decide +kernel
theorem dX11_advance_0 : decode cX11_advance 0 = .ok (.aload_n 0, 1) := by decide +kernel
theorem dX11_advance_1 : decode cX11_advance 1 = .ok (.aload_n 0, 1) := by decide +kernel
theorem dX11_advance_2 : decode cX11_advance 2 = .ok (.getfield 98, 3) := by decide +kernel
theorem dX11_advance_5 : decode cX11_advance 5 = .ok (.invokevirtual 101, 3) := by decide +kernel
theorem dX11_advance_8 : decode cX11_advance 8 = .ok (.bipush 32, 2) := by decide +kernel
theorem dX11_advance_10 : decode cX11_advance 10 = .ok (.if_icmp .eq 16, 3) := by decide +kernel
theorem dX11_advance_13 : decode cX11_advance 13 = .ok (.aload_n 0, 1) := by decide +kernel
theorem dX11_advance_14 : decode cX11_advance 14 = .ok (.aload_n 0, 1) := by decide +kernel
theorem dX11_advance_15 : decode cX11_advance 15 = .ok (.getfield 98, 3) := by decide +kernel
theorem dX11_advance_18 : decode cX11_advance 18 = .ok (.invokevirtual 101, 3) := by decide +kernel
theorem dX11_advance_21 : decode cX11_advance 21 = .ok (.bipush 10, 2) := by decide +kernel
theorem dX11_advance_23 : decode cX11_advance 23 = .ok (.if_icmp .ne 16, 3) := by decide +kernel
theorem dX11_advance_26 : decode cX11_advance 26 = .ok (.aload_n 0, 1) := by decide +kernel
theorem dX11_advance_27 : decode cX11_advance 27 = .ok (.dup, 1) := by decide +kernel
theorem dX11_advance_28 : decode cX11_advance 28 = .ok (.getfield 98, 3) := by decide +kernel
theorem dX11_advance_31 : decode cX11_advance 31 = .ok (.iconst 1, 1) := by decide +kernel
theorem dX11_advance_32 : decode cX11_advance 32 = .ok (.iadd, 1) := by decide +kernel
theorem dX11_advance_33 : decode cX11_advance 33 = .ok (.putfield 98, 3) := by decide +kernel
theorem dX11_advance_36 : decode cX11_advance 36 = .ok (.goto (-36), 3) := by decide +kernel
theorem dX11_advance_39 : decode cX11_advance 39 = .ok (.aload_n 0, 1) := by decide +kernel
theorem dX11_advance_40 : decode cX11_advance 40 = .ok (.aload_n 0, 1) := by decide +kernel
theorem dX11_advance_41 : decode cX11_advance 41 = .ok (.getfield 98, 3) := by decide +kernel
theorem dX11_advance_44 : decode cX11_advance 44 = .ok (.putfield 105, 3) := by decide +kernel
theorem dX11_advance_47 : decode cX11_advance 47 = .ok (.aload_n 0, 1) := by decide +kernel
theorem dX11_advance_48 : decode cX11_advance 48 = .ok (.aload_n 0, 1) := by decide +kernel
theorem dX11_advance_49 : decode cX11_advance 49 = .ok (.getfield 98, 3) := by decide +kernel
theorem dX11_advance_52 : decode cX11_advance 52 = .ok (.invokevirtual 101, 3) := by decide +kernel
theorem dX11_advance_55 : decode cX11_advance 55 = .ok (.istore_n 1, 1) := by decide +kernel
theorem dX11_advance_56 : decode cX11_advance 56 = .ok (.iload_n 1, 1) := by decide +kernel
theorem dX11_advance_57 : decode cX11_advance 57 = .ok (.iconst (-1), 1) := by decide +kernel
theorem dX11_advance_58 : decode cX11_advance 58 = .ok (.if_icmp .ne 11, 3) := by decide +kernel
theorem dX11_advance_61 : decode cX11_advance 61 = .ok (.aload_n 0, 1) := by decide +kernel
theorem dX11_advance_62 : decode cX11_advance 62 = .ok (.iconst 0, 1) := by decide +kernel
theorem dX11_advance_63 : decode cX11_advance 63 = .ok (.putfield 108, 3) := by decide +kernel
theorem dX11_advance_66 : decode cX11_advance 66 = .ok (.goto 173, 3) := by decide +kernel
theorem dX11_advance_69 : decode cX11_advance 69 = .ok (.iload_n 1, 1) := by decide +kernel
theorem dX11_advance_70 : decode cX11_advance 70 = .ok (.i2l, 1) := by decide +kernel
theorem dX11_advance_71 : decode cX11_advance 71 = .ok (.ldc2_w 111, 3) := by decide +kernel
theorem dX11_advance_74 : decode cX11_advance 74 = .ok (.ldc2_w 113, 3) := by decide +kernel
theorem dX11_advance_77 : decode cX11_advance 77 = .ok (.invokestatic 84, 3) := by decide +kernel
theorem dX11_advance_80 : decode cX11_advance 80 = .ok (.ifCond .eq 45, 3) := by decide +kernel
theorem dX11_advance_83 : decode cX11_advance 83 = .ok (.aload_n 0, 1) := by decide +kernel
theorem dX11_advance_84 : decode cX11_advance 84 = .ok (.aload_n 0, 1) := by decide +kernel
theorem dX11_advance_85 : decode cX11_advance 85 = .ok (.getfield 98, 3) := by decide +kernel
theorem dX11_advance_88 : decode cX11_advance 88 = .ok (.invokevirtual 101, 3) := by decide +kernel
theorem dX11_advance_91 : decode cX11_advance 91 = .ok (.i2l, 1) := by decide +kernel
theorem dX11_advance_92 : decode cX11_advance 92 = .ok (.ldc2_w 111, 3) := by decide +kernel
theorem dX11_advance_95 : decode cX11_advance 95 = .ok (.ldc2_w 113, 3) := by decide +kernel
theorem dX11_advance_98 : decode cX11_advance 98 = .ok (.invokestatic 84, 3) := by decide +kernel
theorem dX11_advance_101 : decode cX11_advance 101 = .ok (.ifCond .eq 16, 3) := by decide +kernel
theorem dX11_advance_104 : decode cX11_advance 104 = .ok (.aload_n 0, 1) := by decide +kernel
theorem dX11_advance_105 : decode cX11_advance 105 = .ok (.dup, 1) := by decide +kernel
theorem dX11_advance_106 : decode cX11_advance 106 = .ok (.getfield 98, 3) := by decide +kernel
theorem dX11_advance_109 : decode cX11_advance 109 = .ok (.iconst 1, 1) := by decide +kernel
theorem dX11_advance_110 : decode cX11_advance 110 = .ok (.iadd, 1) := by decide +kernel
theorem dX11_advance_111 : decode cX11_advance 111 = .ok (.putfield 98, 3) := by decide +kernel
theorem dX11_advance_114 : decode cX11_advance 114 = .ok (.goto (-31), 3) := by decide +kernel
theorem dX11_advance_117 : decode cX11_advance 117 = .ok (.aload_n 0, 1) := by decide +kernel
theorem dX11_advance_118 : decode cX11_advance 118 = .ok (.iconst 1, 1) := by decide +kernel
theorem dX11_advance_119 : decode cX11_advance 119 = .ok (.putfield 108, 3) := by decide +kernel
theorem dX11_advance_122 : decode cX11_advance 122 = .ok (.goto 117, 3) := by decide +kernel
theorem dX11_advance_125 : decode cX11_advance 125 = .ok (.iload_n 1, 1) := by decide +kernel
theorem dX11_advance_126 : decode cX11_advance 126 = .ok (.i2l, 1) := by decide +kernel
theorem dX11_advance_127 : decode cX11_advance 127 = .ok (.ldc2_w 115, 3) := by decide +kernel
theorem dX11_advance_130 : decode cX11_advance 130 = .ok (.ldc2_w 117, 3) := by decide +kernel
theorem dX11_advance_133 : decode cX11_advance 133 = .ok (.invokestatic 84, 3) := by decide +kernel
theorem dX11_advance_136 : decode cX11_advance 136 = .ok (.ifCond .eq 78, 3) := by decide +kernel
theorem dX11_advance_139 : decode cX11_advance 139 = .ok (.aload_n 0, 1) := by decide +kernel
theorem dX11_advance_140 : decode cX11_advance 140 = .ok (.iconst 0, 1) := by decide +kernel
theorem dX11_advance_141 : decode cX11_advance 141 = .ok (.putfield 119, 3) := by decide +kernel
theorem dX11_advance_144 : decode cX11_advance 144 = .ok (.aload_n 0, 1) := by decide +kernel
theorem dX11_advance_145 : decode cX11_advance 145 = .ok (.aload_n 0, 1) := by decide +kernel
theorem dX11_advance_146 : decode cX11_advance 146 = .ok (.getfield 98, 3) := by decide +kernel
theorem dX11_advance_149 : decode cX11_advance 149 = .ok (.invokevirtual 101, 3) := by decide +kernel
theorem dX11_advance_152 : decode cX11_advance 152 = .ok (.i2l, 1) := by decide +kernel
theorem dX11_advance_153 : decode cX11_advance 153 = .ok (.ldc2_w 115, 3) := by decide +kernel
theorem dX11_advance_156 : decode cX11_advance 156 = .ok (.ldc2_w 117, 3) := by decide +kernel
theorem dX11_advance_159 : decode cX11_advance 159 = .ok (.invokestatic 84, 3) := by decide +kernel
theorem dX11_advance_162 : decode cX11_advance 162 = .ok (.ifCond .eq 44, 3) := by decide +kernel
theorem dX11_advance_165 : decode cX11_advance 165 = .ok (.aload_n 0, 1) := by decide +kernel
theorem dX11_advance_166 : decode cX11_advance 166 = .ok (.ldc 122, 2) := by decide +kernel
theorem dX11_advance_168 : decode cX11_advance 168 = .ok (.bipush 10, 2) := by decide +kernel
theorem dX11_advance_170 : decode cX11_advance 170 = .ok (.aload_n 0, 1) := by decide +kernel
theorem dX11_advance_171 : decode cX11_advance 171 = .ok (.getfield 119, 3) := by decide +kernel
theorem dX11_advance_174 : decode cX11_advance 174 = .ok (.imul, 1) := by decide +kernel
theorem dX11_advance_175 : decode cX11_advance 175 = .ok (.aload_n 0, 1) := by decide +kernel
theorem dX11_advance_176 : decode cX11_advance 176 = .ok (.aload_n 0, 1) := by decide +kernel
theorem dX11_advance_177 : decode cX11_advance 177 = .ok (.getfield 98, 3) := by decide +kernel
theorem dX11_advance_180 : decode cX11_advance 180 = .ok (.invokevirtual 101, 3) := by decide +kernel
theorem dX11_advance_183 : decode cX11_advance 183 = .ok (.iadd, 1) := by decide +kernel
theorem dX11_advance_184 : decode cX11_advance 184 = .ok (.bipush 48, 2) := by decide +kernel
theorem dX11_advance_186 : decode cX11_advance 186 = .ok (.isub, 1) := by decide +kernel
theorem dX11_advance_187 : decode cX11_advance 187 = .ok (.invokestatic 123, 3) := by decide +kernel
theorem dX11_advance_190 : decode cX11_advance 190 = .ok (.putfield 119, 3) := by decide +kernel
theorem dX11_advance_193 : decode cX11_advance 193 = .ok (.aload_n 0, 1) := by decide +kernel
theorem dX11_advance_194 : decode cX11_advance 194 = .ok (.dup, 1) := by decide +kernel
theorem dX11_advance_195 : decode cX11_advance 195 = .ok (.getfield 98, 3) := by decide +kernel
theorem dX11_advance_198 : decode cX11_advance 198 = .ok (.iconst 1, 1) := by decide +kernel
theorem dX11_advance_199 : decode cX11_advance 199 = .ok (.iadd, 1) := by decide +kernel
theorem dX11_advance_200 : decode cX11_advance 200 = .ok (.putfield 98, 3) := by decide +kernel
theorem dX11_advance_203 : decode cX11_advance 203 = .ok (.goto (-59), 3) := by decide +kernel
theorem dX11_advance_206 : decode cX11_advance 206 = .ok (.aload_n 0, 1) := by decide +kernel
theorem dX11_advance_207 : decode cX11_advance 207 = .ok (.iconst 2, 1) := by decide +kernel
theorem dX11_advance_208 : decode cX11_advance 208 = .ok (.putfield 108, 3) := by decide +kernel
theorem dX11_advance_211 : decode cX11_advance 211 = .ok (.goto 28, 3) := by decide +kernel
theorem dX11_advance_214 : decode cX11_advance 214 = .ok (.aload_n 0, 1) := by decide +kernel
theorem dX11_advance_215 : decode cX11_advance 215 = .ok (.iload_n 1, 1) := by decide +kernel
theorem dX11_advance_216 : decode cX11_advance 216 = .ok (.bipush 59, 2) := by decide +kernel
theorem dX11_advance_218 : decode cX11_advance 218 = .ok (.if_icmp .ne 7, 3) := by decide +kernel
theorem dX11_advance_221 : decode cX11_advance 221 = .ok (.iconst 3, 1) := by decide +kernel
theorem dX11_advance_222 : decode cX11_advance 222 = .ok (.goto 4, 3) := by decide +kernel
theorem dX11_advance_225 : decode cX11_advance 225 = .ok (.iconst 4, 1) := by decide +kernel
theorem dX11_advance_226 : decode cX11_advance 226 = .ok (.putfield 108, 3) := by decide +kernel
theorem dX11_advance_229 : decode cX11_advance 229 = .ok (.aload_n 0, 1) := by decide +kernel
theorem dX11_advance_230 : decode cX11_advance 230 = .ok (.dup, 1) := by decide +kernel
theorem dX11_advance_231 : decode cX11_advance 231 = .ok (.getfield 98, 3) := by decide +kernel
theorem dX11_advance_234 : decode cX11_advance 234 = .ok (.iconst 1, 1) := by decide +kernel
theorem dX11_advance_235 : decode cX11_advance 235 = .ok (.iadd, 1) := by decide +kernel
theorem dX11_advance_236 : decode cX11_advance 236 = .ok (.putfield 98, 3) := by decide +kernel
theorem dX11_advance_239 : decode cX11_advance 239 = .ok (.return_, 1) := by decide +kernel
theorem dX11_good_0 : decode cX11_good 0 = .ok (.aload_n 0, 1) := by decide +kernel
theorem dX11_good_1 : decode cX11_good 1 = .ok (.getfield 128, 3) := by decide +kernel
theorem dX11_good_4 : decode cX11_good 4 = .ok (.ifCond .ne 7, 3) := by decide +kernel
theorem dX11_good_7 : decode cX11_good 7 = .ok (.iconst 1, 1) := by decide +kernel
theorem dX11_good_8 : decode cX11_good 8 = .ok (.goto 4, 3) := by decide +kernel
theorem dX11_good_11 : decode cX11_good 11 = .ok (.iconst 0, 1) := by decide +kernel
theorem dX11_good_12 : decode cX11_good 12 = .ok (.ireturn, 1) := by decide +kernel
theorem dX11_errs_0 : decode cX11_errs 0 = .ok (.aload_n 0, 1) := by decide +kernel
theorem dX11_errs_1 : decode cX11_errs 1 = .ok (.invokevirtual 131, 3) := by decide +kernel
theorem dX11_errs_4 : decode cX11_errs 4 = .ok (.ifCond .ne 4, 3) := by decide +kernel
theorem dX11_errs_7 : decode cX11_errs 7 = .ok (.return_, 1) := by decide +kernel
theorem dX11_errs_8 : decode cX11_errs 8 = .ok (.aload_n 0, 1) := by decide +kernel
theorem dX11_errs_9 : decode cX11_errs 9 = .ok (.iload_n 1, 1) := by decide +kernel
theorem dX11_errs_10 : decode cX11_errs 10 = .ok (.putfield 128, 3) := by decide +kernel
theorem dX11_errs_13 : decode cX11_errs 13 = .ok (.aload_n 0, 1) := by decide +kernel
theorem dX11_errs_14 : decode cX11_errs 14 = .ok (.aload_n 0, 1) := by decide +kernel
theorem dX11_errs_15 : decode cX11_errs 15 = .ok (.getfield 105, 3) := by decide +kernel
theorem dX11_errs_18 : decode cX11_errs 18 = .ok (.putfield 31, 3) := by decide +kernel
theorem dX11_errs_21 : decode cX11_errs 21 = .ok (.return_, 1) := by decide +kernel
theorem dX11_is_0 : decode cX11_is 0 = .ok (.aload_n 0, 1) := by decide +kernel
theorem dX11_is_1 : decode cX11_is 1 = .ok (.invokevirtual 131, 3) := by decide +kernel
theorem dX11_is_4 : decode cX11_is 4 = .ok (.ifCond .eq 31, 3) := by decide +kernel
theorem dX11_is_7 : decode cX11_is 7 = .ok (.aload_n 0, 1) := by decide +kernel
theorem dX11_is_8 : decode cX11_is 8 = .ok (.getfield 108, 3) := by decide +kernel
theorem dX11_is_11 : decode cX11_is 11 = .ok (.iconst 1, 1) := by decide +kernel
theorem dX11_is_12 : decode cX11_is 12 = .ok (.if_icmp .ne 23, 3) := by decide +kernel
theorem dX11_is_15 : decode cX11_is 15 = .ok (.aload_n 0, 1) := by decide +kernel
theorem dX11_is_16 : decode cX11_is 16 = .ok (.getfield 98, 3) := by decide +kernel
theorem dX11_is_19 : decode cX11_is 19 = .ok (.aload_n 0, 1) := by decide +kernel
theorem dX11_is_20 : decode cX11_is 20 = .ok (.getfield 105, 3) := by decide +kernel
theorem dX11_is_23 : decode cX11_is 23 = .ok (.isub, 1) := by decide +kernel
theorem dX11_is_24 : decode cX11_is 24 = .ok (.aload_n 1, 1) := by decide +kernel
theorem dX11_is_25 : decode cX11_is 25 = .ok (.invokevirtual 135, 3) := by decide +kernel
theorem dX11_is_28 : decode cX11_is 28 = .ok (.if_icmp .ne 7, 3) := by decide +kernel
theorem dX11_is_31 : decode cX11_is 31 = .ok (.iconst 1, 1) := by decide +kernel
theorem dX11_is_32 : decode cX11_is 32 = .ok (.goto 4, 3) := by decide +kernel
theorem dX11_is_35 : decode cX11_is 35 = .ok (.iconst 0, 1) := by decide +kernel
theorem dX11_is_36 : decode cX11_is 36 = .ok (.istore_n 2, 1) := by decide +kernel
theorem dX11_is_37 : decode cX11_is 37 = .ok (.iconst 0, 1) := by decide +kernel
theorem dX11_is_38 : decode cX11_is 38 = .ok (.istore_n 3, 1) := by decide +kernel
theorem dX11_is_39 : decode cX11_is 39 = .ok (.iload_n 3, 1) := by decide +kernel
theorem dX11_is_40 : decode cX11_is 40 = .ok (.aload_n 1, 1) := by decide +kernel
theorem dX11_is_41 : decode cX11_is 41 = .ok (.invokevirtual 135, 3) := by decide +kernel
theorem dX11_is_44 : decode cX11_is 44 = .ok (.if_icmp .ge 38, 3) := by decide +kernel
theorem dX11_is_47 : decode cX11_is 47 = .ok (.iload_n 2, 1) := by decide +kernel
theorem dX11_is_48 : decode cX11_is 48 = .ok (.ifCond .eq 34, 3) := by decide +kernel
theorem dX11_is_51 : decode cX11_is 51 = .ok (.aload_n 0, 1) := by decide +kernel
theorem dX11_is_52 : decode cX11_is 52 = .ok (.getfield 24, 3) := by decide +kernel
theorem dX11_is_55 : decode cX11_is 55 = .ok (.aload_n 0, 1) := by decide +kernel
theorem dX11_is_56 : decode cX11_is 56 = .ok (.getfield 105, 3) := by decide +kernel
theorem dX11_is_59 : decode cX11_is 59 = .ok (.iload_n 3, 1) := by decide +kernel
theorem dX11_is_60 : decode cX11_is 60 = .ok (.iadd, 1) := by decide +kernel
theorem dX11_is_61 : decode cX11_is 61 = .ok (.baload, 1) := by decide +kernel
theorem dX11_is_62 : decode cX11_is 62 = .ok (.aload_n 1, 1) := by decide +kernel
theorem dX11_is_63 : decode cX11_is 63 = .ok (.iload_n 3, 1) := by decide +kernel
theorem dX11_is_64 : decode cX11_is 64 = .ok (.invokevirtual 141, 3) := by decide +kernel
theorem dX11_is_67 : decode cX11_is 67 = .ok (.if_icmp .ne 7, 3) := by decide +kernel
theorem dX11_is_70 : decode cX11_is 70 = .ok (.iconst 1, 1) := by decide +kernel
theorem dX11_is_71 : decode cX11_is 71 = .ok (.goto 4, 3) := by decide +kernel
theorem dX11_is_74 : decode cX11_is 74 = .ok (.iconst 0, 1) := by decide +kernel
theorem dX11_is_75 : decode cX11_is 75 = .ok (.istore_n 2, 1) := by decide +kernel
theorem dX11_is_76 : decode cX11_is 76 = .ok (.iinc 3 1, 3) := by decide +kernel
theorem dX11_is_79 : decode cX11_is 79 = .ok (.goto (-40), 3) := by decide +kernel
theorem dX11_is_82 : decode cX11_is 82 = .ok (.iload_n 2, 1) := by decide +kernel
theorem dX11_is_83 : decode cX11_is 83 = .ok (.ireturn, 1) := by decide +kernel
theorem dX11_takes_0 : decode cX11_takes 0 = .ok (.aload_n 0, 1) := by decide +kernel
theorem dX11_takes_1 : decode cX11_takes 1 = .ok (.aload_n 1, 1) := by decide +kernel
theorem dX11_takes_2 : decode cX11_takes 2 = .ok (.invokevirtual 145, 3) := by decide +kernel
theorem dX11_takes_5 : decode cX11_takes 5 = .ok (.istore_n 2, 1) := by decide +kernel
theorem dX11_takes_6 : decode cX11_takes 6 = .ok (.iload_n 2, 1) := by decide +kernel
theorem dX11_takes_7 : decode cX11_takes 7 = .ok (.ifCond .eq 7, 3) := by decide +kernel
theorem dX11_takes_10 : decode cX11_takes 10 = .ok (.aload_n 0, 1) := by decide +kernel
theorem dX11_takes_11 : decode cX11_takes 11 = .ok (.invokevirtual 149, 3) := by decide +kernel
theorem dX11_takes_14 : decode cX11_takes 14 = .ok (.iload_n 2, 1) := by decide +kernel
theorem dX11_takes_15 : decode cX11_takes 15 = .ok (.ireturn, 1) := by decide +kernel
theorem dX11_needs_0 : decode cX11_needs 0 = .ok (.aload_n 0, 1) := by decide +kernel
theorem dX11_needs_1 : decode cX11_needs 1 = .ok (.aload_n 1, 1) := by decide +kernel
theorem dX11_needs_2 : decode cX11_needs 2 = .ok (.invokevirtual 152, 3) := by decide +kernel
theorem dX11_needs_5 : decode cX11_needs 5 = .ok (.ifCond .ne 8, 3) := by decide +kernel
theorem dX11_needs_8 : decode cX11_needs 8 = .ok (.aload_n 0, 1) := by decide +kernel
theorem dX11_needs_9 : decode cX11_needs 9 = .ok (.iconst 1, 1) := by decide +kernel
theorem dX11_needs_10 : decode cX11_needs 10 = .ok (.invokevirtual 155, 3) := by decide +kernel
theorem dX11_needs_13 : decode cX11_needs 13 = .ok (.return_, 1) := by decide +kernel
theorem dX11_number_0 : decode cX11_number 0 = .ok (.aload_n 0, 1) := by decide +kernel
theorem dX11_number_1 : decode cX11_number 1 = .ok (.invokevirtual 131, 3) := by decide +kernel
theorem dX11_number_4 : decode cX11_number 4 = .ok (.ifCond .eq 16, 3) := by decide +kernel
theorem dX11_number_7 : decode cX11_number 7 = .ok (.aload_n 0, 1) := by decide +kernel
theorem dX11_number_8 : decode cX11_number 8 = .ok (.getfield 108, 3) := by decide +kernel
theorem dX11_number_11 : decode cX11_number 11 = .ok (.iconst 2, 1) := by decide +kernel
theorem dX11_number_12 : decode cX11_number 12 = .ok (.if_icmp .eq 8, 3) := by decide +kernel
theorem dX11_number_15 : decode cX11_number 15 = .ok (.aload_n 0, 1) := by decide +kernel
theorem dX11_number_16 : decode cX11_number 16 = .ok (.iconst 1, 1) := by decide +kernel
theorem dX11_number_17 : decode cX11_number 17 = .ok (.invokevirtual 155, 3) := by decide +kernel
theorem dX11_number_20 : decode cX11_number 20 = .ok (.aload_n 0, 1) := by decide +kernel
theorem dX11_number_21 : decode cX11_number 21 = .ok (.invokevirtual 131, 3) := by decide +kernel
theorem dX11_number_24 : decode cX11_number 24 = .ok (.ifCond .eq 23, 3) := by decide +kernel
theorem dX11_number_27 : decode cX11_number 27 = .ok (.aload_n 0, 1) := by decide +kernel
theorem dX11_number_28 : decode cX11_number 28 = .ok (.getfield 119, 3) := by decide +kernel
theorem dX11_number_31 : decode cX11_number 31 = .ok (.i2l, 1) := by decide +kernel
theorem dX11_number_32 : decode cX11_number 32 = .ok (.iload_n 1, 1) := by decide +kernel
theorem dX11_number_33 : decode cX11_number 33 = .ok (.i2l, 1) := by decide +kernel
theorem dX11_number_34 : decode cX11_number 34 = .ok (.iload_n 2, 1) := by decide +kernel
theorem dX11_number_35 : decode cX11_number 35 = .ok (.i2l, 1) := by decide +kernel
theorem dX11_number_36 : decode cX11_number 36 = .ok (.invokestatic 84, 3) := by decide +kernel
theorem dX11_number_39 : decode cX11_number 39 = .ok (.ifCond .ne 8, 3) := by decide +kernel
theorem dX11_number_42 : decode cX11_number 42 = .ok (.aload_n 0, 1) := by decide +kernel
theorem dX11_number_43 : decode cX11_number 43 = .ok (.iconst 2, 1) := by decide +kernel
theorem dX11_number_44 : decode cX11_number 44 = .ok (.invokevirtual 155, 3) := by decide +kernel
theorem dX11_number_47 : decode cX11_number 47 = .ok (.aload_n 0, 1) := by decide +kernel
theorem dX11_number_48 : decode cX11_number 48 = .ok (.invokevirtual 131, 3) := by decide +kernel
theorem dX11_number_51 : decode cX11_number 51 = .ok (.ifCond .ne 5, 3) := by decide +kernel
theorem dX11_number_54 : decode cX11_number 54 = .ok (.iconst 0, 1) := by decide +kernel
theorem dX11_number_55 : decode cX11_number 55 = .ok (.ireturn, 1) := by decide +kernel
theorem dX11_number_56 : decode cX11_number 56 = .ok (.aload_n 0, 1) := by decide +kernel
theorem dX11_number_57 : decode cX11_number 57 = .ok (.getfield 119, 3) := by decide +kernel
theorem dX11_number_60 : decode cX11_number 60 = .ok (.istore_n 3, 1) := by decide +kernel
theorem dX11_number_61 : decode cX11_number 61 = .ok (.aload_n 0, 1) := by decide +kernel
theorem dX11_number_62 : decode cX11_number 62 = .ok (.invokevirtual 149, 3) := by decide +kernel
theorem dX11_number_65 : decode cX11_number 65 = .ok (.iload_n 3, 1) := by decide +kernel
theorem dX11_number_66 : decode cX11_number 66 = .ok (.ireturn, 1) := by decide +kernel
theorem dX11_told_0 : decode cX11_told 0 = .ok (.aload_n 0, 1) := by decide +kernel
theorem dX11_told_1 : decode cX11_told 1 = .ok (.aload_n 1, 1) := by decide +kernel
theorem dX11_told_2 : decode cX11_told 2 = .ok (.invokevirtual 159, 3) := by decide +kernel
theorem dX11_told_5 : decode cX11_told 5 = .ok (.aload_n 0, 1) := by decide +kernel
theorem dX11_told_6 : decode cX11_told 6 = .ok (.iload_n 2, 1) := by decide +kernel
theorem dX11_told_7 : decode cX11_told 7 = .ok (.iload_n 3, 1) := by decide +kernel
theorem dX11_told_8 : decode cX11_told 8 = .ok (.invokevirtual 163, 3) := by decide +kernel
theorem dX11_told_11 : decode cX11_told 11 = .ok (.ireturn, 1) := by decide +kernel
theorem dX11_fault_0 : decode cX11_fault 0 = .ok (.iload_n 1, 1) := by decide +kernel
theorem dX11_fault_1 : decode cX11_fault 1 = .ok (.ifCond .ne 10, 3) := by decide +kernel
theorem dX11_fault_4 : decode cX11_fault 4 = .ok (.aload_n 0, 1) := by decide +kernel
theorem dX11_fault_5 : decode cX11_fault 5 = .ok (.getfield 128, 3) := by decide +kernel
theorem dX11_fault_8 : decode cX11_fault 8 = .ok (.goto 16, 3) := by decide +kernel
theorem dX11_fault_11 : decode cX11_fault 11 = .ok (.iload_n 1, 1) := by decide +kernel
theorem dX11_fault_12 : decode cX11_fault 12 = .ok (.iconst 1, 1) := by decide +kernel
theorem dX11_fault_13 : decode cX11_fault 13 = .ok (.if_icmp .ne 10, 3) := by decide +kernel
theorem dX11_fault_16 : decode cX11_fault 16 = .ok (.aload_n 0, 1) := by decide +kernel
theorem dX11_fault_17 : decode cX11_fault 17 = .ok (.getfield 31, 3) := by decide +kernel
theorem dX11_fault_20 : decode cX11_fault 20 = .ok (.goto 4, 3) := by decide +kernel
theorem dX11_fault_23 : decode cX11_fault 23 = .ok (.iconst (-1), 1) := by decide +kernel
theorem dX11_fault_24 : decode cX11_fault 24 = .ok (.ireturn, 1) := by decide +kernel
theorem dX11_readFloe_0 : decode cX11_readFloe 0 = .ok (.aload_n 0, 1) := by decide +kernel
theorem dX11_readFloe_1 : decode cX11_readFloe 1 = .ok (.ldc 166, 2) := by decide +kernel
theorem dX11_readFloe_3 : decode cX11_readFloe 3 = .ok (.invokevirtual 159, 3) := by decide +kernel
theorem dX11_readFloe_6 : decode cX11_readFloe 6 = .ok (.aload_n 0, 1) := by decide +kernel
theorem dX11_readFloe_7 : decode cX11_readFloe 7 = .ok (.getfield 34, 3) := by decide +kernel
theorem dX11_readFloe_10 : decode cX11_readFloe 10 = .ok (.iconst 1, 1) := by decide +kernel
theorem dX11_readFloe_11 : decode cX11_readFloe 11 = .ok (.aload_n 0, 1) := by decide +kernel
theorem dX11_readFloe_12 : decode cX11_readFloe 12 = .ok (.ldc 168, 2) := by decide +kernel
theorem dX11_readFloe_14 : decode cX11_readFloe 14 = .ok (.iconst 2, 1) := by decide +kernel
theorem dX11_readFloe_15 : decode cX11_readFloe 15 = .ok (.bipush 12, 2) := by decide +kernel
theorem dX11_readFloe_17 : decode cX11_readFloe 17 = .ok (.invokevirtual 170, 3) := by decide +kernel
theorem dX11_readFloe_20 : decode cX11_readFloe 20 = .ok (.iastore, 1) := by decide +kernel
theorem dX11_readFloe_21 : decode cX11_readFloe 21 = .ok (.aload_n 0, 1) := by decide +kernel
theorem dX11_readFloe_22 : decode cX11_readFloe 22 = .ok (.getfield 34, 3) := by decide +kernel
theorem dX11_readFloe_25 : decode cX11_readFloe 25 = .ok (.iconst 2, 1) := by decide +kernel
theorem dX11_readFloe_26 : decode cX11_readFloe 26 = .ok (.aload_n 0, 1) := by decide +kernel
theorem dX11_readFloe_27 : decode cX11_readFloe 27 = .ok (.ldc 174, 2) := by decide +kernel
theorem dX11_readFloe_29 : decode cX11_readFloe 29 = .ok (.iconst 2, 1) := by decide +kernel
theorem dX11_readFloe_30 : decode cX11_readFloe 30 = .ok (.bipush 12, 2) := by decide +kernel
theorem dX11_readFloe_32 : decode cX11_readFloe 32 = .ok (.invokevirtual 170, 3) := by decide +kernel
theorem dX11_readFloe_35 : decode cX11_readFloe 35 = .ok (.iastore, 1) := by decide +kernel
theorem dX11_readFloe_36 : decode cX11_readFloe 36 = .ok (.aload_n 0, 1) := by decide +kernel
theorem dX11_readFloe_37 : decode cX11_readFloe 37 = .ok (.getfield 34, 3) := by decide +kernel
theorem dX11_readFloe_40 : decode cX11_readFloe 40 = .ok (.iconst 3, 1) := by decide +kernel
theorem dX11_readFloe_41 : decode cX11_readFloe 41 = .ok (.aload_n 0, 1) := by decide +kernel
theorem dX11_readFloe_42 : decode cX11_readFloe 42 = .ok (.ldc 176, 2) := by decide +kernel
theorem dX11_readFloe_44 : decode cX11_readFloe 44 = .ok (.iconst 1, 1) := by decide +kernel
theorem dX11_readFloe_45 : decode cX11_readFloe 45 = .ok (.bipush 28, 2) := by decide +kernel
theorem dX11_readFloe_47 : decode cX11_readFloe 47 = .ok (.invokevirtual 170, 3) := by decide +kernel
theorem dX11_readFloe_50 : decode cX11_readFloe 50 = .ok (.iastore, 1) := by decide +kernel
theorem dX11_readFloe_51 : decode cX11_readFloe 51 = .ok (.aload_n 0, 1) := by decide +kernel
theorem dX11_readFloe_52 : decode cX11_readFloe 52 = .ok (.getfield 34, 3) := by decide +kernel
theorem dX11_readFloe_55 : decode cX11_readFloe 55 = .ok (.iconst 4, 1) := by decide +kernel
theorem dX11_readFloe_56 : decode cX11_readFloe 56 = .ok (.aload_n 0, 1) := by decide +kernel
theorem dX11_readFloe_57 : decode cX11_readFloe 57 = .ok (.ldc 178, 2) := by decide +kernel
theorem dX11_readFloe_59 : decode cX11_readFloe 59 = .ok (.iconst 1, 1) := by decide +kernel
theorem dX11_readFloe_60 : decode cX11_readFloe 60 = .ok (.bipush 60, 2) := by decide +kernel
theorem dX11_readFloe_62 : decode cX11_readFloe 62 = .ok (.invokevirtual 170, 3) := by decide +kernel
theorem dX11_readFloe_65 : decode cX11_readFloe 65 = .ok (.iastore, 1) := by decide +kernel
theorem dX11_readFloe_66 : decode cX11_readFloe 66 = .ok (.return_, 1) := by decide +kernel
theorem dX11_readCrack_0 : decode cX11_readCrack 0 = .ok (.bipush 24, 2) := by decide +kernel
theorem dX11_readCrack_2 : decode cX11_readCrack 2 = .ok (.bipush 8, 2) := by decide +kernel
theorem dX11_readCrack_4 : decode cX11_readCrack 4 = .ok (.aload_n 0, 1) := by decide +kernel
theorem dX11_readCrack_5 : decode cX11_readCrack 5 = .ok (.getfield 34, 3) := by decide +kernel
theorem dX11_readCrack_8 : decode cX11_readCrack 8 = .ok (.iconst 5, 1) := by decide +kernel
theorem dX11_readCrack_9 : decode cX11_readCrack 9 = .ok (.iaload, 1) := by decide +kernel
theorem dX11_readCrack_10 : decode cX11_readCrack 10 = .ok (.imul, 1) := by decide +kernel
theorem dX11_readCrack_11 : decode cX11_readCrack 11 = .ok (.iadd, 1) := by decide +kernel
theorem dX11_readCrack_12 : decode cX11_readCrack 12 = .ok (.istore_n 1, 1) := by decide +kernel
theorem dX11_readCrack_13 : decode cX11_readCrack 13 = .ok (.aload_n 0, 1) := by decide +kernel
theorem dX11_readCrack_14 : decode cX11_readCrack 14 = .ok (.ldc 180, 2) := by decide +kernel
theorem dX11_readCrack_16 : decode cX11_readCrack 16 = .ok (.invokevirtual 152, 3) := by decide +kernel
theorem dX11_readCrack_19 : decode cX11_readCrack 19 = .ok (.istore_n 2, 1) := by decide +kernel
theorem dX11_readCrack_20 : decode cX11_readCrack 20 = .ok (.iload_n 2, 1) := by decide +kernel
theorem dX11_readCrack_21 : decode cX11_readCrack 21 = .ok (.ifCond .ne 9, 3) := by decide +kernel
theorem dX11_readCrack_24 : decode cX11_readCrack 24 = .ok (.aload_n 0, 1) := by decide +kernel
theorem dX11_readCrack_25 : decode cX11_readCrack 25 = .ok (.ldc 182, 2) := by decide +kernel
theorem dX11_readCrack_27 : decode cX11_readCrack 27 = .ok (.invokevirtual 159, 3) := by decide +kernel
theorem dX11_readCrack_30 : decode cX11_readCrack 30 = .ok (.aload_n 0, 1) := by decide +kernel
theorem dX11_readCrack_31 : decode cX11_readCrack 31 = .ok (.getfield 34, 3) := by decide +kernel
theorem dX11_readCrack_34 : decode cX11_readCrack 34 = .ok (.iload_n 1, 1) := by decide +kernel
theorem dX11_readCrack_35 : decode cX11_readCrack 35 = .ok (.iconst 0, 1) := by decide +kernel
theorem dX11_readCrack_36 : decode cX11_readCrack 36 = .ok (.iadd, 1) := by decide +kernel
theorem dX11_readCrack_37 : decode cX11_readCrack 37 = .ok (.iload_n 2, 1) := by decide +kernel
theorem dX11_readCrack_38 : decode cX11_readCrack 38 = .ok (.ifCond .eq 7, 3) := by decide +kernel
theorem dX11_readCrack_41 : decode cX11_readCrack 41 = .ok (.iconst 0, 1) := by decide +kernel
theorem dX11_readCrack_42 : decode cX11_readCrack 42 = .ok (.goto 4, 3) := by decide +kernel
theorem dX11_readCrack_45 : decode cX11_readCrack 45 = .ok (.iconst 1, 1) := by decide +kernel
theorem dX11_readCrack_46 : decode cX11_readCrack 46 = .ok (.iastore, 1) := by decide +kernel
theorem dX11_readCrack_47 : decode cX11_readCrack 47 = .ok (.aload_n 0, 1) := by decide +kernel
theorem dX11_readCrack_48 : decode cX11_readCrack 48 = .ok (.getfield 34, 3) := by decide +kernel
theorem dX11_readCrack_51 : decode cX11_readCrack 51 = .ok (.iload_n 1, 1) := by decide +kernel
theorem dX11_readCrack_52 : decode cX11_readCrack 52 = .ok (.iconst 1, 1) := by decide +kernel
theorem dX11_readCrack_53 : decode cX11_readCrack 53 = .ok (.iadd, 1) := by decide +kernel
theorem dX11_readCrack_54 : decode cX11_readCrack 54 = .ok (.aload_n 0, 1) := by decide +kernel
theorem dX11_readCrack_55 : decode cX11_readCrack 55 = .ok (.iconst 1, 1) := by decide +kernel
theorem dX11_readCrack_56 : decode cX11_readCrack 56 = .ok (.aload_n 0, 1) := by decide +kernel
theorem dX11_readCrack_57 : decode cX11_readCrack 57 = .ok (.getfield 34, 3) := by decide +kernel
theorem dX11_readCrack_60 : decode cX11_readCrack 60 = .ok (.iload_n 2, 1) := by decide +kernel
theorem dX11_readCrack_61 : decode cX11_readCrack 61 = .ok (.ifCond .eq 7, 3) := by decide +kernel
theorem dX11_readCrack_64 : decode cX11_readCrack 64 = .ok (.iconst 1, 1) := by decide +kernel
theorem dX11_readCrack_65 : decode cX11_readCrack 65 = .ok (.goto 4, 3) := by decide +kernel
theorem dX11_readCrack_68 : decode cX11_readCrack 68 = .ok (.iconst 2, 1) := by decide +kernel
theorem dX11_readCrack_69 : decode cX11_readCrack 69 = .ok (.iaload, 1) := by decide +kernel
theorem dX11_readCrack_70 : decode cX11_readCrack 70 = .ok (.iconst 1, 1) := by decide +kernel
theorem dX11_readCrack_71 : decode cX11_readCrack 71 = .ok (.isub, 1) := by decide +kernel
theorem dX11_readCrack_72 : decode cX11_readCrack 72 = .ok (.invokevirtual 163, 3) := by decide +kernel
theorem dX11_readCrack_75 : decode cX11_readCrack 75 = .ok (.iastore, 1) := by decide +kernel
theorem dX11_readCrack_76 : decode cX11_readCrack 76 = .ok (.aload_n 0, 1) := by decide +kernel
theorem dX11_readCrack_77 : decode cX11_readCrack 77 = .ok (.getfield 34, 3) := by decide +kernel
theorem dX11_readCrack_80 : decode cX11_readCrack 80 = .ok (.iload_n 1, 1) := by decide +kernel
theorem dX11_readCrack_81 : decode cX11_readCrack 81 = .ok (.iconst 2, 1) := by decide +kernel
theorem dX11_readCrack_82 : decode cX11_readCrack 82 = .ok (.iadd, 1) := by decide +kernel
theorem dX11_readCrack_83 : decode cX11_readCrack 83 = .ok (.aload_n 0, 1) := by decide +kernel
theorem dX11_readCrack_84 : decode cX11_readCrack 84 = .ok (.ldc 184, 2) := by decide +kernel
theorem dX11_readCrack_86 : decode cX11_readCrack 86 = .ok (.iconst 0, 1) := by decide +kernel
theorem dX11_readCrack_87 : decode cX11_readCrack 87 = .ok (.sipush 500, 3) := by decide +kernel
theorem dX11_readCrack_90 : decode cX11_readCrack 90 = .ok (.invokevirtual 170, 3) := by decide +kernel
theorem dX11_readCrack_93 : decode cX11_readCrack 93 = .ok (.iastore, 1) := by decide +kernel
theorem dX11_readCrack_94 : decode cX11_readCrack 94 = .ok (.aload_n 0, 1) := by decide +kernel
theorem dX11_readCrack_95 : decode cX11_readCrack 95 = .ok (.getfield 34, 3) := by decide +kernel
theorem dX11_readCrack_98 : decode cX11_readCrack 98 = .ok (.iload_n 1, 1) := by decide +kernel
theorem dX11_readCrack_99 : decode cX11_readCrack 99 = .ok (.iconst 3, 1) := by decide +kernel
theorem dX11_readCrack_100 : decode cX11_readCrack 100 = .ok (.iadd, 1) := by decide +kernel
theorem dX11_readCrack_101 : decode cX11_readCrack 101 = .ok (.aload_n 0, 1) := by decide +kernel
theorem dX11_readCrack_102 : decode cX11_readCrack 102 = .ok (.ldc 186, 2) := by decide +kernel
theorem dX11_readCrack_104 : decode cX11_readCrack 104 = .ok (.iconst 0, 1) := by decide +kernel
theorem dX11_readCrack_105 : decode cX11_readCrack 105 = .ok (.bipush 99, 2) := by decide +kernel
theorem dX11_readCrack_107 : decode cX11_readCrack 107 = .ok (.invokevirtual 170, 3) := by decide +kernel
theorem dX11_readCrack_110 : decode cX11_readCrack 110 = .ok (.iastore, 1) := by decide +kernel
theorem dX11_readCrack_111 : decode cX11_readCrack 111 = .ok (.aload_n 0, 1) := by decide +kernel
theorem dX11_readCrack_112 : decode cX11_readCrack 112 = .ok (.getfield 34, 3) := by decide +kernel
theorem dX11_readCrack_115 : decode cX11_readCrack 115 = .ok (.iload_n 1, 1) := by decide +kernel
theorem dX11_readCrack_116 : decode cX11_readCrack 116 = .ok (.iconst 4, 1) := by decide +kernel
theorem dX11_readCrack_117 : decode cX11_readCrack 117 = .ok (.iadd, 1) := by decide +kernel
theorem dX11_readCrack_118 : decode cX11_readCrack 118 = .ok (.aload_n 0, 1) := by decide +kernel
theorem dX11_readCrack_119 : decode cX11_readCrack 119 = .ok (.ldc 188, 2) := by decide +kernel
theorem dX11_readCrack_121 : decode cX11_readCrack 121 = .ok (.iconst 0, 1) := by decide +kernel
theorem dX11_readCrack_122 : decode cX11_readCrack 122 = .ok (.bipush 99, 2) := by decide +kernel
theorem dX11_readCrack_124 : decode cX11_readCrack 124 = .ok (.invokevirtual 170, 3) := by decide +kernel
theorem dX11_readCrack_127 : decode cX11_readCrack 127 = .ok (.iastore, 1) := by decide +kernel
theorem dX11_readCrack_128 : decode cX11_readCrack 128 = .ok (.aload_n 0, 1) := by decide +kernel
theorem dX11_readCrack_129 : decode cX11_readCrack 129 = .ok (.getfield 34, 3) := by decide +kernel
theorem dX11_readCrack_132 : decode cX11_readCrack 132 = .ok (.iload_n 1, 1) := by decide +kernel
theorem dX11_readCrack_133 : decode cX11_readCrack 133 = .ok (.iconst 5, 1) := by decide +kernel
theorem dX11_readCrack_134 : decode cX11_readCrack 134 = .ok (.iadd, 1) := by decide +kernel
theorem dX11_readCrack_135 : decode cX11_readCrack 135 = .ok (.aload_n 0, 1) := by decide +kernel
theorem dX11_readCrack_136 : decode cX11_readCrack 136 = .ok (.ldc 190, 2) := by decide +kernel
theorem dX11_readCrack_138 : decode cX11_readCrack 138 = .ok (.iconst 0, 1) := by decide +kernel
theorem dX11_readCrack_139 : decode cX11_readCrack 139 = .ok (.bipush 99, 2) := by decide +kernel
theorem dX11_readCrack_141 : decode cX11_readCrack 141 = .ok (.invokevirtual 170, 3) := by decide +kernel
theorem dX11_readCrack_144 : decode cX11_readCrack 144 = .ok (.iastore, 1) := by decide +kernel
theorem dX11_readCrack_145 : decode cX11_readCrack 145 = .ok (.aload_n 0, 1) := by decide +kernel
theorem dX11_readCrack_146 : decode cX11_readCrack 146 = .ok (.getfield 34, 3) := by decide +kernel
theorem dX11_readCrack_149 : decode cX11_readCrack 149 = .ok (.iload_n 1, 1) := by decide +kernel
theorem dX11_readCrack_150 : decode cX11_readCrack 150 = .ok (.bipush 6, 2) := by decide +kernel
theorem dX11_readCrack_152 : decode cX11_readCrack 152 = .ok (.iadd, 1) := by decide +kernel
theorem dX11_readCrack_153 : decode cX11_readCrack 153 = .ok (.aload_n 0, 1) := by decide +kernel
theorem dX11_readCrack_154 : decode cX11_readCrack 154 = .ok (.ldc 192, 2) := by decide +kernel
theorem dX11_readCrack_156 : decode cX11_readCrack 156 = .ok (.invokevirtual 152, 3) := by decide +kernel
theorem dX11_readCrack_159 : decode cX11_readCrack 159 = .ok (.ifCond .eq 7, 3) := by decide +kernel
theorem dX11_readCrack_162 : decode cX11_readCrack 162 = .ok (.iconst 1, 1) := by decide +kernel
theorem dX11_readCrack_163 : decode cX11_readCrack 163 = .ok (.goto 4, 3) := by decide +kernel
theorem dX11_readCrack_166 : decode cX11_readCrack 166 = .ok (.iconst 0, 1) := by decide +kernel
theorem dX11_readCrack_167 : decode cX11_readCrack 167 = .ok (.iastore, 1) := by decide +kernel
theorem dX11_readCrack_168 : decode cX11_readCrack 168 = .ok (.aload_n 0, 1) := by decide +kernel
theorem dX11_readCrack_169 : decode cX11_readCrack 169 = .ok (.getfield 34, 3) := by decide +kernel
theorem dX11_readCrack_172 : decode cX11_readCrack 172 = .ok (.iconst 5, 1) := by decide +kernel
theorem dX11_readCrack_173 : decode cX11_readCrack 173 = .ok (.dup2, 1) := by decide +kernel
theorem dX11_readCrack_174 : decode cX11_readCrack 174 = .ok (.iaload, 1) := by decide +kernel
theorem dX11_readCrack_175 : decode cX11_readCrack 175 = .ok (.iconst 1, 1) := by decide +kernel
theorem dX11_readCrack_176 : decode cX11_readCrack 176 = .ok (.iadd, 1) := by decide +kernel
theorem dX11_readCrack_177 : decode cX11_readCrack 177 = .ok (.iastore, 1) := by decide +kernel
theorem dX11_readCrack_178 : decode cX11_readCrack 178 = .ok (.return_, 1) := by decide +kernel
theorem dX11_readKind_0 : decode cX11_readKind 0 = .ok (.aload_n 0, 1) := by decide +kernel
theorem dX11_readKind_1 : decode cX11_readKind 1 = .ok (.ldc 194, 2) := by decide +kernel
theorem dX11_readKind_3 : decode cX11_readKind 3 = .ok (.invokevirtual 152, 3) := by decide +kernel
theorem dX11_readKind_6 : decode cX11_readKind 6 = .ok (.ifCond .eq 5, 3) := by decide +kernel
theorem dX11_readKind_9 : decode cX11_readKind 9 = .ok (.iconst 0, 1) := by decide +kernel
theorem dX11_readKind_10 : decode cX11_readKind 10 = .ok (.ireturn, 1) := by decide +kernel
theorem dX11_readKind_11 : decode cX11_readKind 11 = .ok (.aload_n 0, 1) := by decide +kernel
theorem dX11_readKind_12 : decode cX11_readKind 12 = .ok (.ldc 196, 2) := by decide +kernel
theorem dX11_readKind_14 : decode cX11_readKind 14 = .ok (.invokevirtual 152, 3) := by decide +kernel
theorem dX11_readKind_17 : decode cX11_readKind 17 = .ok (.ifCond .eq 5, 3) := by decide +kernel
theorem dX11_readKind_20 : decode cX11_readKind 20 = .ok (.iconst 1, 1) := by decide +kernel
theorem dX11_readKind_21 : decode cX11_readKind 21 = .ok (.ireturn, 1) := by decide +kernel
theorem dX11_readKind_22 : decode cX11_readKind 22 = .ok (.aload_n 0, 1) := by decide +kernel
theorem dX11_readKind_23 : decode cX11_readKind 23 = .ok (.ldc 198, 2) := by decide +kernel
theorem dX11_readKind_25 : decode cX11_readKind 25 = .ok (.invokevirtual 152, 3) := by decide +kernel
theorem dX11_readKind_28 : decode cX11_readKind 28 = .ok (.ifCond .eq 5, 3) := by decide +kernel
theorem dX11_readKind_31 : decode cX11_readKind 31 = .ok (.iconst 2, 1) := by decide +kernel
theorem dX11_readKind_32 : decode cX11_readKind 32 = .ok (.ireturn, 1) := by decide +kernel
theorem dX11_readKind_33 : decode cX11_readKind 33 = .ok (.aload_n 0, 1) := by decide +kernel
theorem dX11_readKind_34 : decode cX11_readKind 34 = .ok (.ldc 200, 2) := by decide +kernel
theorem dX11_readKind_36 : decode cX11_readKind 36 = .ok (.invokevirtual 159, 3) := by decide +kernel
theorem dX11_readKind_39 : decode cX11_readKind 39 = .ok (.iconst 3, 1) := by decide +kernel
theorem dX11_readKind_40 : decode cX11_readKind 40 = .ok (.ireturn, 1) := by decide +kernel
theorem dX11_readSort_0 : decode cX11_readSort 0 = .ok (.bipush 80, 2) := by decide +kernel
theorem dX11_readSort_2 : decode cX11_readSort 2 = .ok (.iconst 4, 1) := by decide +kernel
theorem dX11_readSort_3 : decode cX11_readSort 3 = .ok (.aload_n 0, 1) := by decide +kernel
theorem dX11_readSort_4 : decode cX11_readSort 4 = .ok (.getfield 34, 3) := by decide +kernel
theorem dX11_readSort_7 : decode cX11_readSort 7 = .ok (.bipush 6, 2) := by decide +kernel
theorem dX11_readSort_9 : decode cX11_readSort 9 = .ok (.iaload, 1) := by decide +kernel
theorem dX11_readSort_10 : decode cX11_readSort 10 = .ok (.imul, 1) := by decide +kernel
theorem dX11_readSort_11 : decode cX11_readSort 11 = .ok (.iadd, 1) := by decide +kernel
theorem dX11_readSort_12 : decode cX11_readSort 12 = .ok (.istore_n 1, 1) := by decide +kernel
theorem dX11_readSort_13 : decode cX11_readSort 13 = .ok (.aload_n 0, 1) := by decide +kernel
theorem dX11_readSort_14 : decode cX11_readSort 14 = .ok (.getfield 34, 3) := by decide +kernel
theorem dX11_readSort_17 : decode cX11_readSort 17 = .ok (.iload_n 1, 1) := by decide +kernel
theorem dX11_readSort_18 : decode cX11_readSort 18 = .ok (.iconst 0, 1) := by decide +kernel
theorem dX11_readSort_19 : decode cX11_readSort 19 = .ok (.iadd, 1) := by decide +kernel
theorem dX11_readSort_20 : decode cX11_readSort 20 = .ok (.aload_n 0, 1) := by decide +kernel
theorem dX11_readSort_21 : decode cX11_readSort 21 = .ok (.invokevirtual 202, 3) := by decide +kernel
theorem dX11_readSort_24 : decode cX11_readSort 24 = .ok (.iastore, 1) := by decide +kernel
theorem dX11_readSort_25 : decode cX11_readSort 25 = .ok (.aload_n 0, 1) := by decide +kernel
theorem dX11_readSort_26 : decode cX11_readSort 26 = .ok (.getfield 34, 3) := by decide +kernel
theorem dX11_readSort_29 : decode cX11_readSort 29 = .ok (.iload_n 1, 1) := by decide +kernel
theorem dX11_readSort_30 : decode cX11_readSort 30 = .ok (.iconst 1, 1) := by decide +kernel
theorem dX11_readSort_31 : decode cX11_readSort 31 = .ok (.iadd, 1) := by decide +kernel
theorem dX11_readSort_32 : decode cX11_readSort 32 = .ok (.aload_n 0, 1) := by decide +kernel
theorem dX11_readSort_33 : decode cX11_readSort 33 = .ok (.ldc 205, 2) := by decide +kernel
theorem dX11_readSort_35 : decode cX11_readSort 35 = .ok (.iconst 1, 1) := by decide +kernel
theorem dX11_readSort_36 : decode cX11_readSort 36 = .ok (.bipush 99, 2) := by decide +kernel
theorem dX11_readSort_38 : decode cX11_readSort 38 = .ok (.invokevirtual 170, 3) := by decide +kernel
theorem dX11_readSort_41 : decode cX11_readSort 41 = .ok (.iastore, 1) := by decide +kernel
theorem dX11_readSort_42 : decode cX11_readSort 42 = .ok (.aload_n 0, 1) := by decide +kernel
theorem dX11_readSort_43 : decode cX11_readSort 43 = .ok (.getfield 34, 3) := by decide +kernel
theorem dX11_readSort_46 : decode cX11_readSort 46 = .ok (.iload_n 1, 1) := by decide +kernel
theorem dX11_readSort_47 : decode cX11_readSort 47 = .ok (.iconst 2, 1) := by decide +kernel
theorem dX11_readSort_48 : decode cX11_readSort 48 = .ok (.iadd, 1) := by decide +kernel
theorem dX11_readSort_49 : decode cX11_readSort 49 = .ok (.aload_n 0, 1) := by decide +kernel
theorem dX11_readSort_50 : decode cX11_readSort 50 = .ok (.ldc 207, 2) := by decide +kernel
theorem dX11_readSort_52 : decode cX11_readSort 52 = .ok (.iconst 1, 1) := by decide +kernel
theorem dX11_readSort_53 : decode cX11_readSort 53 = .ok (.bipush 99, 2) := by decide +kernel
theorem dX11_readSort_55 : decode cX11_readSort 55 = .ok (.invokevirtual 170, 3) := by decide +kernel
theorem dX11_readSort_58 : decode cX11_readSort 58 = .ok (.iastore, 1) := by decide +kernel
theorem dX11_readSort_59 : decode cX11_readSort 59 = .ok (.aload_n 0, 1) := by decide +kernel
theorem dX11_readSort_60 : decode cX11_readSort 60 = .ok (.getfield 34, 3) := by decide +kernel
theorem dX11_readSort_63 : decode cX11_readSort 63 = .ok (.iload_n 1, 1) := by decide +kernel
theorem dX11_readSort_64 : decode cX11_readSort 64 = .ok (.iconst 3, 1) := by decide +kernel
theorem dX11_readSort_65 : decode cX11_readSort 65 = .ok (.iadd, 1) := by decide +kernel
theorem dX11_readSort_66 : decode cX11_readSort 66 = .ok (.aload_n 0, 1) := by decide +kernel
theorem dX11_readSort_67 : decode cX11_readSort 67 = .ok (.ldc 209, 2) := by decide +kernel
theorem dX11_readSort_69 : decode cX11_readSort 69 = .ok (.iconst 0, 1) := by decide +kernel
theorem dX11_readSort_70 : decode cX11_readSort 70 = .ok (.bipush 20, 2) := by decide +kernel
theorem dX11_readSort_72 : decode cX11_readSort 72 = .ok (.invokevirtual 170, 3) := by decide +kernel
theorem dX11_readSort_75 : decode cX11_readSort 75 = .ok (.iastore, 1) := by decide +kernel
theorem dX11_readSort_76 : decode cX11_readSort 76 = .ok (.aload_n 0, 1) := by decide +kernel
theorem dX11_readSort_77 : decode cX11_readSort 77 = .ok (.getfield 34, 3) := by decide +kernel
theorem dX11_readSort_80 : decode cX11_readSort 80 = .ok (.bipush 6, 2) := by decide +kernel
theorem dX11_readSort_82 : decode cX11_readSort 82 = .ok (.dup2, 1) := by decide +kernel
theorem dX11_readSort_83 : decode cX11_readSort 83 = .ok (.iaload, 1) := by decide +kernel
theorem dX11_readSort_84 : decode cX11_readSort 84 = .ok (.iconst 1, 1) := by decide +kernel
theorem dX11_readSort_85 : decode cX11_readSort 85 = .ok (.iadd, 1) := by decide +kernel
theorem dX11_readSort_86 : decode cX11_readSort 86 = .ok (.iastore, 1) := by decide +kernel
theorem dX11_readSort_87 : decode cX11_readSort 87 = .ok (.return_, 1) := by decide +kernel
theorem dX11_readOther_0 : decode cX11_readOther 0 = .ok (.bipush 104, 2) := by decide +kernel
theorem dX11_readOther_2 : decode cX11_readOther 2 = .ok (.iconst 3, 1) := by decide +kernel
theorem dX11_readOther_3 : decode cX11_readOther 3 = .ok (.aload_n 0, 1) := by decide +kernel
theorem dX11_readOther_4 : decode cX11_readOther 4 = .ok (.getfield 34, 3) := by decide +kernel
theorem dX11_readOther_7 : decode cX11_readOther 7 = .ok (.bipush 7, 2) := by decide +kernel
theorem dX11_readOther_9 : decode cX11_readOther 9 = .ok (.iaload, 1) := by decide +kernel
theorem dX11_readOther_10 : decode cX11_readOther 10 = .ok (.imul, 1) := by decide +kernel
theorem dX11_readOther_11 : decode cX11_readOther 11 = .ok (.iadd, 1) := by decide +kernel
theorem dX11_readOther_12 : decode cX11_readOther 12 = .ok (.istore_n 1, 1) := by decide +kernel
theorem dX11_readOther_13 : decode cX11_readOther 13 = .ok (.aload_n 0, 1) := by decide +kernel
theorem dX11_readOther_14 : decode cX11_readOther 14 = .ok (.getfield 34, 3) := by decide +kernel
theorem dX11_readOther_17 : decode cX11_readOther 17 = .ok (.iload_n 1, 1) := by decide +kernel
theorem dX11_readOther_18 : decode cX11_readOther 18 = .ok (.aload_n 0, 1) := by decide +kernel
theorem dX11_readOther_19 : decode cX11_readOther 19 = .ok (.ldc 210, 2) := by decide +kernel
theorem dX11_readOther_21 : decode cX11_readOther 21 = .ok (.iconst 1, 1) := by decide +kernel
theorem dX11_readOther_22 : decode cX11_readOther 22 = .ok (.bipush 60, 2) := by decide +kernel
theorem dX11_readOther_24 : decode cX11_readOther 24 = .ok (.invokevirtual 170, 3) := by decide +kernel
theorem dX11_readOther_27 : decode cX11_readOther 27 = .ok (.iastore, 1) := by decide +kernel
theorem dX11_readOther_28 : decode cX11_readOther 28 = .ok (.aload_n 0, 1) := by decide +kernel
theorem dX11_readOther_29 : decode cX11_readOther 29 = .ok (.getfield 34, 3) := by decide +kernel
theorem dX11_readOther_32 : decode cX11_readOther 32 = .ok (.iload_n 1, 1) := by decide +kernel
theorem dX11_readOther_33 : decode cX11_readOther 33 = .ok (.iconst 1, 1) := by decide +kernel
theorem dX11_readOther_34 : decode cX11_readOther 34 = .ok (.iadd, 1) := by decide +kernel
theorem dX11_readOther_35 : decode cX11_readOther 35 = .ok (.aload_n 0, 1) := by decide +kernel
theorem dX11_readOther_36 : decode cX11_readOther 36 = .ok (.ldc 184, 2) := by decide +kernel
theorem dX11_readOther_38 : decode cX11_readOther 38 = .ok (.iconst 0, 1) := by decide +kernel
theorem dX11_readOther_39 : decode cX11_readOther 39 = .ok (.bipush 100, 2) := by decide +kernel
theorem dX11_readOther_41 : decode cX11_readOther 41 = .ok (.invokevirtual 170, 3) := by decide +kernel
theorem dX11_readOther_44 : decode cX11_readOther 44 = .ok (.iastore, 1) := by decide +kernel
theorem dX11_readOther_45 : decode cX11_readOther 45 = .ok (.aload_n 0, 1) := by decide +kernel
theorem dX11_readOther_46 : decode cX11_readOther 46 = .ok (.getfield 34, 3) := by decide +kernel
theorem dX11_readOther_49 : decode cX11_readOther 49 = .ok (.iload_n 1, 1) := by decide +kernel
theorem dX11_readOther_50 : decode cX11_readOther 50 = .ok (.iconst 2, 1) := by decide +kernel
theorem dX11_readOther_51 : decode cX11_readOther 51 = .ok (.iadd, 1) := by decide +kernel
theorem dX11_readOther_52 : decode cX11_readOther 52 = .ok (.aload_n 0, 1) := by decide +kernel
theorem dX11_readOther_53 : decode cX11_readOther 53 = .ok (.ldc 212, 2) := by decide +kernel
theorem dX11_readOther_55 : decode cX11_readOther 55 = .ok (.iconst 0, 1) := by decide +kernel
theorem dX11_readOther_56 : decode cX11_readOther 56 = .ok (.sipush 9999, 3) := by decide +kernel
theorem dX11_readOther_59 : decode cX11_readOther 59 = .ok (.invokevirtual 170, 3) := by decide +kernel
theorem dX11_readOther_62 : decode cX11_readOther 62 = .ok (.iastore, 1) := by decide +kernel
theorem dX11_readOther_63 : decode cX11_readOther 63 = .ok (.aload_n 0, 1) := by decide +kernel
theorem dX11_readOther_64 : decode cX11_readOther 64 = .ok (.getfield 34, 3) := by decide +kernel
theorem dX11_readOther_67 : decode cX11_readOther 67 = .ok (.bipush 7, 2) := by decide +kernel
theorem dX11_readOther_69 : decode cX11_readOther 69 = .ok (.dup2, 1) := by decide +kernel
theorem dX11_readOther_70 : decode cX11_readOther 70 = .ok (.iaload, 1) := by decide +kernel
theorem dX11_readOther_71 : decode cX11_readOther 71 = .ok (.iconst 1, 1) := by decide +kernel
theorem dX11_readOther_72 : decode cX11_readOther 72 = .ok (.iadd, 1) := by decide +kernel
theorem dX11_readOther_73 : decode cX11_readOther 73 = .ok (.iastore, 1) := by decide +kernel
theorem dX11_readOther_74 : decode cX11_readOther 74 = .ok (.return_, 1) := by decide +kernel
theorem dX11_onceHere_0 : decode cX11_onceHere 0 = .ok (.aload_n 0, 1) := by decide +kernel
theorem dX11_onceHere_1 : decode cX11_onceHere 1 = .ok (.ldc 214, 2) := by decide +kernel
theorem dX11_onceHere_3 : decode cX11_onceHere 3 = .ok (.invokevirtual 145, 3) := by decide +kernel
theorem dX11_onceHere_6 : decode cX11_onceHere 6 = .ok (.ifCond .eq 7, 3) := by decide +kernel
theorem dX11_onceHere_9 : decode cX11_onceHere 9 = .ok (.iconst 0, 1) := by decide +kernel
theorem dX11_onceHere_10 : decode cX11_onceHere 10 = .ok (.goto 69, 3) := by decide +kernel
theorem dX11_onceHere_13 : decode cX11_onceHere 13 = .ok (.aload_n 0, 1) := by decide +kernel
theorem dX11_onceHere_14 : decode cX11_onceHere 14 = .ok (.ldc 216, 2) := by decide +kernel
theorem dX11_onceHere_16 : decode cX11_onceHere 16 = .ok (.invokevirtual 145, 3) := by decide +kernel
theorem dX11_onceHere_19 : decode cX11_onceHere 19 = .ok (.ifCond .eq 7, 3) := by decide +kernel
theorem dX11_onceHere_22 : decode cX11_onceHere 22 = .ok (.iconst 1, 1) := by decide +kernel
theorem dX11_onceHere_23 : decode cX11_onceHere 23 = .ok (.goto 56, 3) := by decide +kernel
theorem dX11_onceHere_26 : decode cX11_onceHere 26 = .ok (.aload_n 0, 1) := by decide +kernel
theorem dX11_onceHere_27 : decode cX11_onceHere 27 = .ok (.ldc 218, 2) := by decide +kernel
theorem dX11_onceHere_29 : decode cX11_onceHere 29 = .ok (.invokevirtual 145, 3) := by decide +kernel
theorem dX11_onceHere_32 : decode cX11_onceHere 32 = .ok (.ifCond .eq 7, 3) := by decide +kernel
theorem dX11_onceHere_35 : decode cX11_onceHere 35 = .ok (.iconst 2, 1) := by decide +kernel
theorem dX11_onceHere_36 : decode cX11_onceHere 36 = .ok (.goto 43, 3) := by decide +kernel
theorem dX11_onceHere_39 : decode cX11_onceHere 39 = .ok (.aload_n 0, 1) := by decide +kernel
theorem dX11_onceHere_40 : decode cX11_onceHere 40 = .ok (.ldc 220, 2) := by decide +kernel
theorem dX11_onceHere_42 : decode cX11_onceHere 42 = .ok (.invokevirtual 145, 3) := by decide +kernel
theorem dX11_onceHere_45 : decode cX11_onceHere 45 = .ok (.ifCond .eq 7, 3) := by decide +kernel
theorem dX11_onceHere_48 : decode cX11_onceHere 48 = .ok (.iconst 3, 1) := by decide +kernel
theorem dX11_onceHere_49 : decode cX11_onceHere 49 = .ok (.goto 30, 3) := by decide +kernel
theorem dX11_onceHere_52 : decode cX11_onceHere 52 = .ok (.aload_n 0, 1) := by decide +kernel
theorem dX11_onceHere_53 : decode cX11_onceHere 53 = .ok (.ldc 222, 2) := by decide +kernel
theorem dX11_onceHere_55 : decode cX11_onceHere 55 = .ok (.invokevirtual 145, 3) := by decide +kernel
theorem dX11_onceHere_58 : decode cX11_onceHere 58 = .ok (.ifCond .eq 7, 3) := by decide +kernel
theorem dX11_onceHere_61 : decode cX11_onceHere 61 = .ok (.iconst 4, 1) := by decide +kernel
theorem dX11_onceHere_62 : decode cX11_onceHere 62 = .ok (.goto 17, 3) := by decide +kernel
theorem dX11_onceHere_65 : decode cX11_onceHere 65 = .ok (.aload_n 0, 1) := by decide +kernel
theorem dX11_onceHere_66 : decode cX11_onceHere 66 = .ok (.ldc 212, 2) := by decide +kernel
theorem dX11_onceHere_68 : decode cX11_onceHere 68 = .ok (.invokevirtual 145, 3) := by decide +kernel
theorem dX11_onceHere_71 : decode cX11_onceHere 71 = .ok (.ifCond .eq 7, 3) := by decide +kernel
theorem dX11_onceHere_74 : decode cX11_onceHere 74 = .ok (.iconst 5, 1) := by decide +kernel
theorem dX11_onceHere_75 : decode cX11_onceHere 75 = .ok (.goto 4, 3) := by decide +kernel
theorem dX11_onceHere_78 : decode cX11_onceHere 78 = .ok (.iconst (-1), 1) := by decide +kernel
theorem dX11_onceHere_79 : decode cX11_onceHere 79 = .ok (.ireturn, 1) := by decide +kernel
theorem dX11_readOnce_0 : decode cX11_readOnce 0 = .ok (.aload_n 0, 1) := by decide +kernel
theorem dX11_readOnce_1 : decode cX11_readOnce 1 = .ok (.invokevirtual 149, 3) := by decide +kernel
theorem dX11_readOnce_4 : decode cX11_readOnce 4 = .ok (.aload_n 0, 1) := by decide +kernel
theorem dX11_readOnce_5 : decode cX11_readOnce 5 = .ok (.getfield 34, 3) := by decide +kernel
theorem dX11_readOnce_8 : decode cX11_readOnce 8 = .ok (.bipush 20, 2) := by decide +kernel
theorem dX11_readOnce_10 : decode cX11_readOnce 10 = .ok (.dup2, 1) := by decide +kernel
theorem dX11_readOnce_11 : decode cX11_readOnce 11 = .ok (.iaload, 1) := by decide +kernel
theorem dX11_readOnce_12 : decode cX11_readOnce 12 = .ok (.iconst 1, 1) := by decide +kernel
theorem dX11_readOnce_13 : decode cX11_readOnce 13 = .ok (.iload_n 1, 1) := by decide +kernel
theorem dX11_readOnce_14 : decode cX11_readOnce 14 = .ok (.ishl, 1) := by decide +kernel
theorem dX11_readOnce_15 : decode cX11_readOnce 15 = .ok (.ior, 1) := by decide +kernel
theorem dX11_readOnce_16 : decode cX11_readOnce 16 = .ok (.iastore, 1) := by decide +kernel
theorem dX11_readOnce_17 : decode cX11_readOnce 17 = .ok (.iload_n 1, 1) := by decide +kernel
theorem dX11_readOnce_18 : decode cX11_readOnce 18 = .ok (.ifCond .ne 35, 3) := by decide +kernel
theorem dX11_readOnce_21 : decode cX11_readOnce 21 = .ok (.aload_n 0, 1) := by decide +kernel
theorem dX11_readOnce_22 : decode cX11_readOnce 22 = .ok (.getfield 34, 3) := by decide +kernel
theorem dX11_readOnce_25 : decode cX11_readOnce 25 = .ok (.bipush 8, 2) := by decide +kernel
theorem dX11_readOnce_27 : decode cX11_readOnce 27 = .ok (.aload_n 0, 1) := by decide +kernel
theorem dX11_readOnce_28 : decode cX11_readOnce 28 = .ok (.ldc 186, 2) := by decide +kernel
theorem dX11_readOnce_30 : decode cX11_readOnce 30 = .ok (.iconst 0, 1) := by decide +kernel
theorem dX11_readOnce_31 : decode cX11_readOnce 31 = .ok (.bipush 9, 2) := by decide +kernel
theorem dX11_readOnce_33 : decode cX11_readOnce 33 = .ok (.invokevirtual 170, 3) := by decide +kernel
theorem dX11_readOnce_36 : decode cX11_readOnce 36 = .ok (.iastore, 1) := by decide +kernel
theorem dX11_readOnce_37 : decode cX11_readOnce 37 = .ok (.aload_n 0, 1) := by decide +kernel
theorem dX11_readOnce_38 : decode cX11_readOnce 38 = .ok (.getfield 34, 3) := by decide +kernel
theorem dX11_readOnce_41 : decode cX11_readOnce 41 = .ok (.bipush 9, 2) := by decide +kernel
theorem dX11_readOnce_43 : decode cX11_readOnce 43 = .ok (.aload_n 0, 1) := by decide +kernel
theorem dX11_readOnce_44 : decode cX11_readOnce 44 = .ok (.ldc 188, 2) := by decide +kernel
theorem dX11_readOnce_46 : decode cX11_readOnce 46 = .ok (.iconst 0, 1) := by decide +kernel
theorem dX11_readOnce_47 : decode cX11_readOnce 47 = .ok (.bipush 9, 2) := by decide +kernel
theorem dX11_readOnce_49 : decode cX11_readOnce 49 = .ok (.invokevirtual 170, 3) := by decide +kernel
theorem dX11_readOnce_52 : decode cX11_readOnce 52 = .ok (.iastore, 1) := by decide +kernel
theorem dX11_readOnce_53 : decode cX11_readOnce 53 = .ok (.iload_n 1, 1) := by decide +kernel
theorem dX11_readOnce_54 : decode cX11_readOnce 54 = .ok (.iconst 1, 1) := by decide +kernel
theorem dX11_readOnce_55 : decode cX11_readOnce 55 = .ok (.if_icmp .ne 17, 3) := by decide +kernel
theorem dX11_readOnce_58 : decode cX11_readOnce 58 = .ok (.aload_n 0, 1) := by decide +kernel
theorem dX11_readOnce_59 : decode cX11_readOnce 59 = .ok (.getfield 34, 3) := by decide +kernel
theorem dX11_readOnce_62 : decode cX11_readOnce 62 = .ok (.bipush 10, 2) := by decide +kernel
theorem dX11_readOnce_64 : decode cX11_readOnce 64 = .ok (.aload_n 0, 1) := by decide +kernel
theorem dX11_readOnce_65 : decode cX11_readOnce 65 = .ok (.iconst 0, 1) := by decide +kernel
theorem dX11_readOnce_66 : decode cX11_readOnce 66 = .ok (.bipush 100, 2) := by decide +kernel
theorem dX11_readOnce_68 : decode cX11_readOnce 68 = .ok (.invokevirtual 163, 3) := by decide +kernel
theorem dX11_readOnce_71 : decode cX11_readOnce 71 = .ok (.iastore, 1) := by decide +kernel
theorem dX11_readOnce_72 : decode cX11_readOnce 72 = .ok (.iload_n 1, 1) := by decide +kernel
theorem dX11_readOnce_73 : decode cX11_readOnce 73 = .ok (.iconst 2, 1) := by decide +kernel
theorem dX11_readOnce_74 : decode cX11_readOnce 74 = .ok (.if_icmp .ne 33, 3) := by decide +kernel
theorem dX11_readOnce_77 : decode cX11_readOnce 77 = .ok (.aload_n 0, 1) := by decide +kernel
theorem dX11_readOnce_78 : decode cX11_readOnce 78 = .ok (.getfield 34, 3) := by decide +kernel
theorem dX11_readOnce_81 : decode cX11_readOnce 81 = .ok (.bipush 11, 2) := by decide +kernel
theorem dX11_readOnce_83 : decode cX11_readOnce 83 = .ok (.aload_n 0, 1) := by decide +kernel
theorem dX11_readOnce_84 : decode cX11_readOnce 84 = .ok (.iconst 0, 1) := by decide +kernel
theorem dX11_readOnce_85 : decode cX11_readOnce 85 = .ok (.bipush 60, 2) := by decide +kernel
theorem dX11_readOnce_87 : decode cX11_readOnce 87 = .ok (.invokevirtual 163, 3) := by decide +kernel
theorem dX11_readOnce_90 : decode cX11_readOnce 90 = .ok (.iastore, 1) := by decide +kernel
theorem dX11_readOnce_91 : decode cX11_readOnce 91 = .ok (.aload_n 0, 1) := by decide +kernel
theorem dX11_readOnce_92 : decode cX11_readOnce 92 = .ok (.getfield 34, 3) := by decide +kernel
theorem dX11_readOnce_95 : decode cX11_readOnce 95 = .ok (.bipush 12, 2) := by decide +kernel
theorem dX11_readOnce_97 : decode cX11_readOnce 97 = .ok (.aload_n 0, 1) := by decide +kernel
theorem dX11_readOnce_98 : decode cX11_readOnce 98 = .ok (.ldc 224, 2) := by decide +kernel
theorem dX11_readOnce_100 : decode cX11_readOnce 100 = .ok (.iconst 0, 1) := by decide +kernel
theorem dX11_readOnce_101 : decode cX11_readOnce 101 = .ok (.bipush 60, 2) := by decide +kernel
theorem dX11_readOnce_103 : decode cX11_readOnce 103 = .ok (.invokevirtual 170, 3) := by decide +kernel
theorem dX11_readOnce_106 : decode cX11_readOnce 106 = .ok (.iastore, 1) := by decide +kernel
theorem dX11_readOnce_107 : decode cX11_readOnce 107 = .ok (.iload_n 1, 1) := by decide +kernel
theorem dX11_readOnce_108 : decode cX11_readOnce 108 = .ok (.iconst 3, 1) := by decide +kernel
theorem dX11_readOnce_109 : decode cX11_readOnce 109 = .ok (.if_icmp .ne 17, 3) := by decide +kernel
theorem dX11_readOnce_112 : decode cX11_readOnce 112 = .ok (.aload_n 0, 1) := by decide +kernel
theorem dX11_readOnce_113 : decode cX11_readOnce 113 = .ok (.getfield 34, 3) := by decide +kernel
theorem dX11_readOnce_116 : decode cX11_readOnce 116 = .ok (.bipush 13, 2) := by decide +kernel
theorem dX11_readOnce_118 : decode cX11_readOnce 118 = .ok (.aload_n 0, 1) := by decide +kernel
theorem dX11_readOnce_119 : decode cX11_readOnce 119 = .ok (.iconst 0, 1) := by decide +kernel
theorem dX11_readOnce_120 : decode cX11_readOnce 120 = .ok (.bipush 100, 2) := by decide +kernel
theorem dX11_readOnce_122 : decode cX11_readOnce 122 = .ok (.invokevirtual 163, 3) := by decide +kernel
theorem dX11_readOnce_125 : decode cX11_readOnce 125 = .ok (.iastore, 1) := by decide +kernel
theorem dX11_readOnce_126 : decode cX11_readOnce 126 = .ok (.iload_n 1, 1) := by decide +kernel
theorem dX11_readOnce_127 : decode cX11_readOnce 127 = .ok (.iconst 4, 1) := by decide +kernel
theorem dX11_readOnce_128 : decode cX11_readOnce 128 = .ok (.if_icmp .ne 33, 3) := by decide +kernel
theorem dX11_readOnce_131 : decode cX11_readOnce 131 = .ok (.aload_n 0, 1) := by decide +kernel
theorem dX11_readOnce_132 : decode cX11_readOnce 132 = .ok (.getfield 34, 3) := by decide +kernel
theorem dX11_readOnce_135 : decode cX11_readOnce 135 = .ok (.bipush 14, 2) := by decide +kernel
theorem dX11_readOnce_137 : decode cX11_readOnce 137 = .ok (.aload_n 0, 1) := by decide +kernel
theorem dX11_readOnce_138 : decode cX11_readOnce 138 = .ok (.iconst 0, 1) := by decide +kernel
theorem dX11_readOnce_139 : decode cX11_readOnce 139 = .ok (.bipush 100, 2) := by decide +kernel
theorem dX11_readOnce_141 : decode cX11_readOnce 141 = .ok (.invokevirtual 163, 3) := by decide +kernel
theorem dX11_readOnce_144 : decode cX11_readOnce 144 = .ok (.iastore, 1) := by decide +kernel
theorem dX11_readOnce_145 : decode cX11_readOnce 145 = .ok (.aload_n 0, 1) := by decide +kernel
theorem dX11_readOnce_146 : decode cX11_readOnce 146 = .ok (.getfield 34, 3) := by decide +kernel
theorem dX11_readOnce_149 : decode cX11_readOnce 149 = .ok (.bipush 15, 2) := by decide +kernel
theorem dX11_readOnce_151 : decode cX11_readOnce 151 = .ok (.aload_n 0, 1) := by decide +kernel
theorem dX11_readOnce_152 : decode cX11_readOnce 152 = .ok (.ldc 226, 2) := by decide +kernel
theorem dX11_readOnce_154 : decode cX11_readOnce 154 = .ok (.iconst 0, 1) := by decide +kernel
theorem dX11_readOnce_155 : decode cX11_readOnce 155 = .ok (.bipush 60, 2) := by decide +kernel
theorem dX11_readOnce_157 : decode cX11_readOnce 157 = .ok (.invokevirtual 170, 3) := by decide +kernel
theorem dX11_readOnce_160 : decode cX11_readOnce 160 = .ok (.iastore, 1) := by decide +kernel
theorem dX11_readOnce_161 : decode cX11_readOnce 161 = .ok (.iload_n 1, 1) := by decide +kernel
theorem dX11_readOnce_162 : decode cX11_readOnce 162 = .ok (.iconst 5, 1) := by decide +kernel
theorem dX11_readOnce_163 : decode cX11_readOnce 163 = .ok (.if_icmp .ne 35, 3) := by decide +kernel
theorem dX11_readOnce_166 : decode cX11_readOnce 166 = .ok (.aload_n 0, 1) := by decide +kernel
theorem dX11_readOnce_167 : decode cX11_readOnce 167 = .ok (.getfield 34, 3) := by decide +kernel
theorem dX11_readOnce_170 : decode cX11_readOnce 170 = .ok (.bipush 16, 2) := by decide +kernel
theorem dX11_readOnce_172 : decode cX11_readOnce 172 = .ok (.aload_n 0, 1) := by decide +kernel
theorem dX11_readOnce_173 : decode cX11_readOnce 173 = .ok (.iconst 0, 1) := by decide +kernel
theorem dX11_readOnce_174 : decode cX11_readOnce 174 = .ok (.sipush 9999, 3) := by decide +kernel
theorem dX11_readOnce_177 : decode cX11_readOnce 177 = .ok (.invokevirtual 163, 3) := by decide +kernel
theorem dX11_readOnce_180 : decode cX11_readOnce 180 = .ok (.iastore, 1) := by decide +kernel
theorem dX11_readOnce_181 : decode cX11_readOnce 181 = .ok (.aload_n 0, 1) := by decide +kernel
theorem dX11_readOnce_182 : decode cX11_readOnce 182 = .ok (.getfield 34, 3) := by decide +kernel
theorem dX11_readOnce_185 : decode cX11_readOnce 185 = .ok (.bipush 17, 2) := by decide +kernel
theorem dX11_readOnce_187 : decode cX11_readOnce 187 = .ok (.aload_n 0, 1) := by decide +kernel
theorem dX11_readOnce_188 : decode cX11_readOnce 188 = .ok (.ldc 228, 2) := by decide +kernel
theorem dX11_readOnce_190 : decode cX11_readOnce 190 = .ok (.iconst 0, 1) := by decide +kernel
theorem dX11_readOnce_191 : decode cX11_readOnce 191 = .ok (.sipush 9999, 3) := by decide +kernel
theorem dX11_readOnce_194 : decode cX11_readOnce 194 = .ok (.invokevirtual 170, 3) := by decide +kernel
theorem dX11_readOnce_197 : decode cX11_readOnce 197 = .ok (.iastore, 1) := by decide +kernel
theorem dX11_readOnce_198 : decode cX11_readOnce 198 = .ok (.return_, 1) := by decide +kernel
theorem dX11_readNext_0 : decode cX11_readNext 0 = .ok (.aload_n 0, 1) := by decide +kernel
theorem dX11_readNext_1 : decode cX11_readNext 1 = .ok (.invokevirtual 230, 3) := by decide +kernel
theorem dX11_readNext_4 : decode cX11_readNext 4 = .ok (.istore_n 1, 1) := by decide +kernel
theorem dX11_readNext_5 : decode cX11_readNext 5 = .ok (.iload_n 1, 1) := by decide +kernel
theorem dX11_readNext_6 : decode cX11_readNext 6 = .ok (.iconst (-1), 1) := by decide +kernel
theorem dX11_readNext_7 : decode cX11_readNext 7 = .ok (.if_icmp .ne 35, 3) := by decide +kernel
theorem dX11_readNext_10 : decode cX11_readNext 10 = .ok (.aload_n 0, 1) := by decide +kernel
theorem dX11_readNext_11 : decode cX11_readNext 11 = .ok (.ldc 233, 2) := by decide +kernel
theorem dX11_readNext_13 : decode cX11_readNext 13 = .ok (.invokevirtual 145, 3) := by decide +kernel
theorem dX11_readNext_16 : decode cX11_readNext 16 = .ok (.ifCond .ne 26, 3) := by decide +kernel
theorem dX11_readNext_19 : decode cX11_readNext 19 = .ok (.aload_n 0, 1) := by decide +kernel
theorem dX11_readNext_20 : decode cX11_readNext 20 = .ok (.ldc 235, 2) := by decide +kernel
theorem dX11_readNext_22 : decode cX11_readNext 22 = .ok (.invokevirtual 145, 3) := by decide +kernel
theorem dX11_readNext_25 : decode cX11_readNext 25 = .ok (.ifCond .ne 17, 3) := by decide +kernel
theorem dX11_readNext_28 : decode cX11_readNext 28 = .ok (.aload_n 0, 1) := by decide +kernel
theorem dX11_readNext_29 : decode cX11_readNext 29 = .ok (.ldc 237, 2) := by decide +kernel
theorem dX11_readNext_31 : decode cX11_readNext 31 = .ok (.invokevirtual 145, 3) := by decide +kernel
theorem dX11_readNext_34 : decode cX11_readNext 34 = .ok (.ifCond .ne 8, 3) := by decide +kernel
theorem dX11_readNext_37 : decode cX11_readNext 37 = .ok (.aload_n 0, 1) := by decide +kernel
theorem dX11_readNext_38 : decode cX11_readNext 38 = .ok (.iconst 1, 1) := by decide +kernel
theorem dX11_readNext_39 : decode cX11_readNext 39 = .ok (.invokevirtual 155, 3) := by decide +kernel
theorem dX11_readNext_42 : decode cX11_readNext 42 = .ok (.iload_n 1, 1) := by decide +kernel
theorem dX11_readNext_43 : decode cX11_readNext 43 = .ok (.iconst (-1), 1) := by decide +kernel
theorem dX11_readNext_44 : decode cX11_readNext 44 = .ok (.if_icmp .eq 22, 3) := by decide +kernel
theorem dX11_readNext_47 : decode cX11_readNext 47 = .ok (.aload_n 0, 1) := by decide +kernel
theorem dX11_readNext_48 : decode cX11_readNext 48 = .ok (.getfield 34, 3) := by decide +kernel
theorem dX11_readNext_51 : decode cX11_readNext 51 = .ok (.bipush 20, 2) := by decide +kernel
theorem dX11_readNext_53 : decode cX11_readNext 53 = .ok (.iaload, 1) := by decide +kernel
theorem dX11_readNext_54 : decode cX11_readNext 54 = .ok (.iload_n 1, 1) := by decide +kernel
theorem dX11_readNext_55 : decode cX11_readNext 55 = .ok (.invokestatic 239, 3) := by decide +kernel
theorem dX11_readNext_58 : decode cX11_readNext 58 = .ok (.ifCond .eq 8, 3) := by decide +kernel
theorem dX11_readNext_61 : decode cX11_readNext 61 = .ok (.aload_n 0, 1) := by decide +kernel
theorem dX11_readNext_62 : decode cX11_readNext 62 = .ok (.iconst 2, 1) := by decide +kernel
theorem dX11_readNext_63 : decode cX11_readNext 63 = .ok (.invokevirtual 155, 3) := by decide +kernel
theorem dX11_readNext_66 : decode cX11_readNext 66 = .ok (.aload_n 0, 1) := by decide +kernel
theorem dX11_readNext_67 : decode cX11_readNext 67 = .ok (.ldc 233, 2) := by decide +kernel
theorem dX11_readNext_69 : decode cX11_readNext 69 = .ok (.invokevirtual 145, 3) := by decide +kernel
theorem dX11_readNext_72 : decode cX11_readNext 72 = .ok (.ifCond .eq 14, 3) := by decide +kernel
theorem dX11_readNext_75 : decode cX11_readNext 75 = .ok (.aload_n 0, 1) := by decide +kernel
theorem dX11_readNext_76 : decode cX11_readNext 76 = .ok (.getfield 34, 3) := by decide +kernel
theorem dX11_readNext_79 : decode cX11_readNext 79 = .ok (.iconst 5, 1) := by decide +kernel
theorem dX11_readNext_80 : decode cX11_readNext 80 = .ok (.iaload, 1) := by decide +kernel
theorem dX11_readNext_81 : decode cX11_readNext 81 = .ok (.bipush 7, 2) := by decide +kernel
theorem dX11_readNext_83 : decode cX11_readNext 83 = .ok (.if_icmp .eq 44, 3) := by decide +kernel
theorem dX11_readNext_86 : decode cX11_readNext 86 = .ok (.aload_n 0, 1) := by decide +kernel
theorem dX11_readNext_87 : decode cX11_readNext 87 = .ok (.ldc 235, 2) := by decide +kernel
theorem dX11_readNext_89 : decode cX11_readNext 89 = .ok (.invokevirtual 145, 3) := by decide +kernel
theorem dX11_readNext_92 : decode cX11_readNext 92 = .ok (.ifCond .eq 15, 3) := by decide +kernel
theorem dX11_readNext_95 : decode cX11_readNext 95 = .ok (.aload_n 0, 1) := by decide +kernel
theorem dX11_readNext_96 : decode cX11_readNext 96 = .ok (.getfield 34, 3) := by decide +kernel
theorem dX11_readNext_99 : decode cX11_readNext 99 = .ok (.bipush 6, 2) := by decide +kernel
theorem dX11_readNext_101 : decode cX11_readNext 101 = .ok (.iaload, 1) := by decide +kernel
theorem dX11_readNext_102 : decode cX11_readNext 102 = .ok (.bipush 6, 2) := by decide +kernel
theorem dX11_readNext_104 : decode cX11_readNext 104 = .ok (.if_icmp .eq 23, 3) := by decide +kernel
theorem dX11_readNext_107 : decode cX11_readNext 107 = .ok (.aload_n 0, 1) := by decide +kernel
theorem dX11_readNext_108 : decode cX11_readNext 108 = .ok (.ldc 237, 2) := by decide +kernel
theorem dX11_readNext_110 : decode cX11_readNext 110 = .ok (.invokevirtual 145, 3) := by decide +kernel
theorem dX11_readNext_113 : decode cX11_readNext 113 = .ok (.ifCond .eq 19, 3) := by decide +kernel
theorem dX11_readNext_116 : decode cX11_readNext 116 = .ok (.aload_n 0, 1) := by decide +kernel
theorem dX11_readNext_117 : decode cX11_readNext 117 = .ok (.getfield 34, 3) := by decide +kernel
theorem dX11_readNext_120 : decode cX11_readNext 120 = .ok (.bipush 7, 2) := by decide +kernel
theorem dX11_readNext_122 : decode cX11_readNext 122 = .ok (.iaload, 1) := by decide +kernel
theorem dX11_readNext_123 : decode cX11_readNext 123 = .ok (.iconst 4, 1) := by decide +kernel
theorem dX11_readNext_124 : decode cX11_readNext 124 = .ok (.if_icmp .ne 8, 3) := by decide +kernel
theorem dX11_readNext_127 : decode cX11_readNext 127 = .ok (.aload_n 0, 1) := by decide +kernel
theorem dX11_readNext_128 : decode cX11_readNext 128 = .ok (.iconst 3, 1) := by decide +kernel
theorem dX11_readNext_129 : decode cX11_readNext 129 = .ok (.invokevirtual 155, 3) := by decide +kernel
theorem dX11_readNext_132 : decode cX11_readNext 132 = .ok (.aload_n 0, 1) := by decide +kernel
theorem dX11_readNext_133 : decode cX11_readNext 133 = .ok (.invokevirtual 131, 3) := by decide +kernel
theorem dX11_readNext_136 : decode cX11_readNext 136 = .ok (.ifCond .ne 4, 3) := by decide +kernel
theorem dX11_readNext_139 : decode cX11_readNext 139 = .ok (.return_, 1) := by decide +kernel
theorem dX11_readNext_140 : decode cX11_readNext 140 = .ok (.iload_n 1, 1) := by decide +kernel
theorem dX11_readNext_141 : decode cX11_readNext 141 = .ok (.iconst (-1), 1) := by decide +kernel
theorem dX11_readNext_142 : decode cX11_readNext 142 = .ok (.if_icmp .eq 11, 3) := by decide +kernel
theorem dX11_readNext_145 : decode cX11_readNext 145 = .ok (.aload_n 0, 1) := by decide +kernel
theorem dX11_readNext_146 : decode cX11_readNext 146 = .ok (.iload_n 1, 1) := by decide +kernel
theorem dX11_readNext_147 : decode cX11_readNext 147 = .ok (.invokevirtual 243, 3) := by decide +kernel
theorem dX11_readNext_150 : decode cX11_readNext 150 = .ok (.goto 48, 3) := by decide +kernel
theorem dX11_readNext_153 : decode cX11_readNext 153 = .ok (.aload_n 0, 1) := by decide +kernel
theorem dX11_readNext_154 : decode cX11_readNext 154 = .ok (.ldc 233, 2) := by decide +kernel
theorem dX11_readNext_156 : decode cX11_readNext 156 = .ok (.invokevirtual 152, 3) := by decide +kernel
theorem dX11_readNext_159 : decode cX11_readNext 159 = .ok (.ifCond .eq 10, 3) := by decide +kernel
theorem dX11_readNext_162 : decode cX11_readNext 162 = .ok (.aload_n 0, 1) := by decide +kernel
theorem dX11_readNext_163 : decode cX11_readNext 163 = .ok (.invokevirtual 246, 3) := by decide +kernel
theorem dX11_readNext_166 : decode cX11_readNext 166 = .ok (.goto 32, 3) := by decide +kernel
theorem dX11_readNext_169 : decode cX11_readNext 169 = .ok (.aload_n 0, 1) := by decide +kernel
theorem dX11_readNext_170 : decode cX11_readNext 170 = .ok (.ldc 235, 2) := by decide +kernel
theorem dX11_readNext_172 : decode cX11_readNext 172 = .ok (.invokevirtual 152, 3) := by decide +kernel
theorem dX11_readNext_175 : decode cX11_readNext 175 = .ok (.ifCond .eq 10, 3) := by decide +kernel
theorem dX11_readNext_178 : decode cX11_readNext 178 = .ok (.aload_n 0, 1) := by decide +kernel
theorem dX11_readNext_179 : decode cX11_readNext 179 = .ok (.invokevirtual 249, 3) := by decide +kernel
theorem dX11_readNext_182 : decode cX11_readNext 182 = .ok (.goto 16, 3) := by decide +kernel
theorem dX11_readNext_185 : decode cX11_readNext 185 = .ok (.aload_n 0, 1) := by decide +kernel
theorem dX11_readNext_186 : decode cX11_readNext 186 = .ok (.ldc 237, 2) := by decide +kernel
theorem dX11_readNext_188 : decode cX11_readNext 188 = .ok (.invokevirtual 152, 3) := by decide +kernel
theorem dX11_readNext_191 : decode cX11_readNext 191 = .ok (.ifCond .eq 7, 3) := by decide +kernel
theorem dX11_readNext_194 : decode cX11_readNext 194 = .ok (.aload_n 0, 1) := by decide +kernel
theorem dX11_readNext_195 : decode cX11_readNext 195 = .ok (.invokevirtual 252, 3) := by decide +kernel
theorem dX11_readNext_198 : decode cX11_readNext 198 = .ok (.return_, 1) := by decide +kernel
theorem dX11_readLine_0 : decode cX11_readLine 0 = .ok (.aload_n 0, 1) := by decide +kernel
theorem dX11_readLine_1 : decode cX11_readLine 1 = .ok (.getfield 34, 3) := by decide +kernel
theorem dX11_readLine_4 : decode cX11_readLine 4 = .ok (.iconst 0, 1) := by decide +kernel
theorem dX11_readLine_5 : decode cX11_readLine 5 = .ok (.iaload, 1) := by decide +kernel
theorem dX11_readLine_6 : decode cX11_readLine 6 = .ok (.ifCond .ne 10, 3) := by decide +kernel
theorem dX11_readLine_9 : decode cX11_readLine 9 = .ok (.aload_n 0, 1) := by decide +kernel
theorem dX11_readLine_10 : decode cX11_readLine 10 = .ok (.invokevirtual 255, 3) := by decide +kernel
theorem dX11_readLine_13 : decode cX11_readLine 13 = .ok (.goto 7, 3) := by decide +kernel
theorem dX11_readLine_16 : decode cX11_readLine 16 = .ok (.aload_n 0, 1) := by decide +kernel
theorem dX11_readLine_17 : decode cX11_readLine 17 = .ok (.invokevirtual 258, 3) := by decide +kernel
theorem dX11_readLine_20 : decode cX11_readLine 20 = .ok (.aload_n 0, 1) := by decide +kernel
theorem dX11_readLine_21 : decode cX11_readLine 21 = .ok (.invokevirtual 131, 3) := by decide +kernel
theorem dX11_readLine_24 : decode cX11_readLine 24 = .ok (.ifCond .eq 16, 3) := by decide +kernel
theorem dX11_readLine_27 : decode cX11_readLine 27 = .ok (.aload_n 0, 1) := by decide +kernel
theorem dX11_readLine_28 : decode cX11_readLine 28 = .ok (.getfield 108, 3) := by decide +kernel
theorem dX11_readLine_31 : decode cX11_readLine 31 = .ok (.iconst 3, 1) := by decide +kernel
theorem dX11_readLine_32 : decode cX11_readLine 32 = .ok (.if_icmp .eq 8, 3) := by decide +kernel
theorem dX11_readLine_35 : decode cX11_readLine 35 = .ok (.aload_n 0, 1) := by decide +kernel
theorem dX11_readLine_36 : decode cX11_readLine 36 = .ok (.iconst 1, 1) := by decide +kernel
theorem dX11_readLine_37 : decode cX11_readLine 37 = .ok (.invokevirtual 155, 3) := by decide +kernel
theorem dX11_readLine_40 : decode cX11_readLine 40 = .ok (.aload_n 0, 1) := by decide +kernel
theorem dX11_readLine_41 : decode cX11_readLine 41 = .ok (.invokevirtual 131, 3) := by decide +kernel
theorem dX11_readLine_44 : decode cX11_readLine 44 = .ok (.ifCond .eq 7, 3) := by decide +kernel
theorem dX11_readLine_47 : decode cX11_readLine 47 = .ok (.aload_n 0, 1) := by decide +kernel
theorem dX11_readLine_48 : decode cX11_readLine 48 = .ok (.invokevirtual 149, 3) := by decide +kernel
theorem dX11_readLine_51 : decode cX11_readLine 51 = .ok (.aload_n 0, 1) := by decide +kernel
theorem dX11_readLine_52 : decode cX11_readLine 52 = .ok (.getfield 34, 3) := by decide +kernel
theorem dX11_readLine_55 : decode cX11_readLine 55 = .ok (.iconst 0, 1) := by decide +kernel
theorem dX11_readLine_56 : decode cX11_readLine 56 = .ok (.dup2, 1) := by decide +kernel
theorem dX11_readLine_57 : decode cX11_readLine 57 = .ok (.iaload, 1) := by decide +kernel
theorem dX11_readLine_58 : decode cX11_readLine 58 = .ok (.iconst 1, 1) := by decide +kernel
theorem dX11_readLine_59 : decode cX11_readLine 59 = .ok (.iadd, 1) := by decide +kernel
theorem dX11_readLine_60 : decode cX11_readLine 60 = .ok (.iastore, 1) := by decide +kernel
theorem dX11_readLine_61 : decode cX11_readLine 61 = .ok (.return_, 1) := by decide +kernel
theorem dX11_floe_0 : decode cX11_floe 0 = .ok (.aload_n 0, 1) := by decide +kernel
theorem dX11_floe_1 : decode cX11_floe 1 = .ok (.aload_n 0, 1) := by decide +kernel
theorem dX11_floe_2 : decode cX11_floe 2 = .ok (.getfield 92, 3) := by decide +kernel
theorem dX11_floe_5 : decode cX11_floe 5 = .ok (.putfield 95, 3) := by decide +kernel
theorem dX11_floe_8 : decode cX11_floe 8 = .ok (.aload_n 0, 1) := by decide +kernel
theorem dX11_floe_9 : decode cX11_floe 9 = .ok (.iconst 0, 1) := by decide +kernel
theorem dX11_floe_10 : decode cX11_floe 10 = .ok (.putfield 92, 3) := by decide +kernel
theorem dX11_floe_13 : decode cX11_floe 13 = .ok (.aload_n 0, 1) := by decide +kernel
theorem dX11_floe_14 : decode cX11_floe 14 = .ok (.iconst 0, 1) := by decide +kernel
theorem dX11_floe_15 : decode cX11_floe 15 = .ok (.putfield 98, 3) := by decide +kernel
theorem dX11_floe_18 : decode cX11_floe 18 = .ok (.aload_n 0, 1) := by decide +kernel
theorem dX11_floe_19 : decode cX11_floe 19 = .ok (.iconst 0, 1) := by decide +kernel
theorem dX11_floe_20 : decode cX11_floe 20 = .ok (.putfield 128, 3) := by decide +kernel
theorem dX11_floe_23 : decode cX11_floe 23 = .ok (.aload_n 0, 1) := by decide +kernel
theorem dX11_floe_24 : decode cX11_floe 24 = .ok (.iconst (-1), 1) := by decide +kernel
theorem dX11_floe_25 : decode cX11_floe 25 = .ok (.putfield 31, 3) := by decide +kernel
theorem dX11_floe_28 : decode cX11_floe 28 = .ok (.aload_n 0, 1) := by decide +kernel
theorem dX11_floe_29 : decode cX11_floe 29 = .ok (.getfield 34, 3) := by decide +kernel
theorem dX11_floe_32 : decode cX11_floe 32 = .ok (.invokestatic 78, 3) := by decide +kernel
theorem dX11_floe_35 : decode cX11_floe 35 = .ok (.aload_n 0, 1) := by decide +kernel
theorem dX11_floe_36 : decode cX11_floe 36 = .ok (.invokevirtual 149, 3) := by decide +kernel
theorem dX11_floe_39 : decode cX11_floe 39 = .ok (.aload_n 0, 1) := by decide +kernel
theorem dX11_floe_40 : decode cX11_floe 40 = .ok (.invokevirtual 131, 3) := by decide +kernel
theorem dX11_floe_43 : decode cX11_floe 43 = .ok (.ifCond .eq 17, 3) := by decide +kernel
theorem dX11_floe_46 : decode cX11_floe 46 = .ok (.aload_n 0, 1) := by decide +kernel
theorem dX11_floe_47 : decode cX11_floe 47 = .ok (.getfield 108, 3) := by decide +kernel
theorem dX11_floe_50 : decode cX11_floe 50 = .ok (.ifCond .eq 10, 3) := by decide +kernel
theorem dX11_floe_53 : decode cX11_floe 53 = .ok (.aload_n 0, 1) := by decide +kernel
theorem dX11_floe_54 : decode cX11_floe 54 = .ok (.invokevirtual 261, 3) := by decide +kernel
theorem dX11_floe_57 : decode cX11_floe 57 = .ok (.goto (-18), 3) := by decide +kernel
theorem dX11_floe_60 : decode cX11_floe 60 = .ok (.aload_n 0, 1) := by decide +kernel
theorem dX11_floe_61 : decode cX11_floe 61 = .ok (.invokevirtual 131, 3) := by decide +kernel
theorem dX11_floe_64 : decode cX11_floe 64 = .ok (.ifCond .ne 6, 3) := by decide +kernel
theorem dX11_floe_67 : decode cX11_floe 67 = .ok (.bipush (-4), 2) := by decide +kernel
theorem dX11_floe_69 : decode cX11_floe 69 = .ok (.ireturn, 1) := by decide +kernel
theorem dX11_floe_70 : decode cX11_floe 70 = .ok (.iconst 0, 1) := by decide +kernel
theorem dX11_floe_71 : decode cX11_floe 71 = .ok (.istore_n 1, 1) := by decide +kernel
theorem dX11_floe_72 : decode cX11_floe 72 = .ok (.iload_n 1, 1) := by decide +kernel
theorem dX11_floe_73 : decode cX11_floe 73 = .ok (.sipush 200, 3) := by decide +kernel
theorem dX11_floe_76 : decode cX11_floe 76 = .ok (.if_icmp .ge 21, 3) := by decide +kernel
theorem dX11_floe_79 : decode cX11_floe 79 = .ok (.aload_n 0, 1) := by decide +kernel
theorem dX11_floe_80 : decode cX11_floe 80 = .ok (.getfield 13, 3) := by decide +kernel
theorem dX11_floe_83 : decode cX11_floe 83 = .ok (.iload_n 1, 1) := by decide +kernel
theorem dX11_floe_84 : decode cX11_floe 84 = .ok (.aload_n 0, 1) := by decide +kernel
theorem dX11_floe_85 : decode cX11_floe 85 = .ok (.getfield 34, 3) := by decide +kernel
theorem dX11_floe_88 : decode cX11_floe 88 = .ok (.iload_n 1, 1) := by decide +kernel
theorem dX11_floe_89 : decode cX11_floe 89 = .ok (.iaload, 1) := by decide +kernel
theorem dX11_floe_90 : decode cX11_floe 90 = .ok (.iastore, 1) := by decide +kernel
theorem dX11_floe_91 : decode cX11_floe 91 = .ok (.iinc 1 1, 3) := by decide +kernel
theorem dX11_floe_94 : decode cX11_floe 94 = .ok (.goto (-22), 3) := by decide +kernel
theorem dX11_floe_97 : decode cX11_floe 97 = .ok (.aload_n 0, 1) := by decide +kernel
theorem dX11_floe_98 : decode cX11_floe 98 = .ok (.getfield 13, 3) := by decide +kernel
theorem dX11_floe_101 : decode cX11_floe 101 = .ok (.sipush 190, 3) := by decide +kernel
theorem dX11_floe_104 : decode cX11_floe 104 = .ok (.aload_n 0, 1) := by decide +kernel
theorem dX11_floe_105 : decode cX11_floe 105 = .ok (.getfield 13, 3) := by decide +kernel
theorem dX11_floe_108 : decode cX11_floe 108 = .ok (.iconst 3, 1) := by decide +kernel
theorem dX11_floe_109 : decode cX11_floe 109 = .ok (.iaload, 1) := by decide +kernel
theorem dX11_floe_110 : decode cX11_floe 110 = .ok (.iastore, 1) := by decide +kernel
theorem dX11_floe_111 : decode cX11_floe 111 = .ok (.aload_n 0, 1) := by decide +kernel
theorem dX11_floe_112 : decode cX11_floe 112 = .ok (.iconst 0, 1) := by decide +kernel
theorem dX11_floe_113 : decode cX11_floe 113 = .ok (.putfield 264, 3) := by decide +kernel
theorem dX11_floe_116 : decode cX11_floe 116 = .ok (.aload_n 0, 1) := by decide +kernel
theorem dX11_floe_117 : decode cX11_floe 117 = .ok (.getfield 13, 3) := by decide +kernel
theorem dX11_floe_120 : decode cX11_floe 120 = .ok (.iconst 0, 1) := by decide +kernel
theorem dX11_floe_121 : decode cX11_floe 121 = .ok (.iaload, 1) := by decide +kernel
theorem dX11_floe_122 : decode cX11_floe 122 = .ok (.ireturn, 1) := by decide +kernel
theorem dX11_isCell_0 : decode cX11_isCell 0 = .ok (.iload_n 1, 1) := by decide +kernel
theorem dX11_isCell_1 : decode cX11_isCell 1 = .ok (.i2l, 1) := by decide +kernel
theorem dX11_isCell_2 : decode cX11_isCell 2 = .ok (.lconst 0, 1) := by decide +kernel
theorem dX11_isCell_3 : decode cX11_isCell 3 = .ok (.aload_n 0, 1) := by decide +kernel
theorem dX11_isCell_4 : decode cX11_isCell 4 = .ok (.getfield 13, 3) := by decide +kernel
theorem dX11_isCell_7 : decode cX11_isCell 7 = .ok (.iconst 1, 1) := by decide +kernel
theorem dX11_isCell_8 : decode cX11_isCell 8 = .ok (.iaload, 1) := by decide +kernel
theorem dX11_isCell_9 : decode cX11_isCell 9 = .ok (.iconst 1, 1) := by decide +kernel
theorem dX11_isCell_10 : decode cX11_isCell 10 = .ok (.isub, 1) := by decide +kernel
theorem dX11_isCell_11 : decode cX11_isCell 11 = .ok (.i2l, 1) := by decide +kernel
theorem dX11_isCell_12 : decode cX11_isCell 12 = .ok (.invokestatic 84, 3) := by decide +kernel
theorem dX11_isCell_15 : decode cX11_isCell 15 = .ok (.ifCond .eq 25, 3) := by decide +kernel
theorem dX11_isCell_18 : decode cX11_isCell 18 = .ok (.iload_n 2, 1) := by decide +kernel
theorem dX11_isCell_19 : decode cX11_isCell 19 = .ok (.i2l, 1) := by decide +kernel
theorem dX11_isCell_20 : decode cX11_isCell 20 = .ok (.lconst 0, 1) := by decide +kernel
theorem dX11_isCell_21 : decode cX11_isCell 21 = .ok (.aload_n 0, 1) := by decide +kernel
theorem dX11_isCell_22 : decode cX11_isCell 22 = .ok (.getfield 13, 3) := by decide +kernel
theorem dX11_isCell_25 : decode cX11_isCell 25 = .ok (.iconst 2, 1) := by decide +kernel
theorem dX11_isCell_26 : decode cX11_isCell 26 = .ok (.iaload, 1) := by decide +kernel
theorem dX11_isCell_27 : decode cX11_isCell 27 = .ok (.iconst 1, 1) := by decide +kernel
theorem dX11_isCell_28 : decode cX11_isCell 28 = .ok (.isub, 1) := by decide +kernel
theorem dX11_isCell_29 : decode cX11_isCell 29 = .ok (.i2l, 1) := by decide +kernel
theorem dX11_isCell_30 : decode cX11_isCell 30 = .ok (.invokestatic 84, 3) := by decide +kernel
theorem dX11_isCell_33 : decode cX11_isCell 33 = .ok (.ifCond .eq 7, 3) := by decide +kernel
theorem dX11_isCell_36 : decode cX11_isCell 36 = .ok (.iconst 1, 1) := by decide +kernel
theorem dX11_isCell_37 : decode cX11_isCell 37 = .ok (.goto 4, 3) := by decide +kernel
theorem dX11_isCell_40 : decode cX11_isCell 40 = .ok (.iconst 0, 1) := by decide +kernel
theorem dX11_isCell_41 : decode cX11_isCell 41 = .ok (.ireturn, 1) := by decide +kernel
theorem dX11_isSort_0 : decode cX11_isSort 0 = .ok (.iload_n 1, 1) := by decide +kernel
theorem dX11_isSort_1 : decode cX11_isSort 1 = .ok (.i2l, 1) := by decide +kernel
theorem dX11_isSort_2 : decode cX11_isSort 2 = .ok (.lconst 0, 1) := by decide +kernel
theorem dX11_isSort_3 : decode cX11_isSort 3 = .ok (.aload_n 0, 1) := by decide +kernel
theorem dX11_isSort_4 : decode cX11_isSort 4 = .ok (.getfield 13, 3) := by decide +kernel
theorem dX11_isSort_7 : decode cX11_isSort 7 = .ok (.bipush 6, 2) := by decide +kernel
theorem dX11_isSort_9 : decode cX11_isSort 9 = .ok (.iaload, 1) := by decide +kernel
theorem dX11_isSort_10 : decode cX11_isSort 10 = .ok (.iconst 1, 1) := by decide +kernel
theorem dX11_isSort_11 : decode cX11_isSort 11 = .ok (.isub, 1) := by decide +kernel
theorem dX11_isSort_12 : decode cX11_isSort 12 = .ok (.i2l, 1) := by decide +kernel
theorem dX11_isSort_13 : decode cX11_isSort 13 = .ok (.invokestatic 84, 3) := by decide +kernel
theorem dX11_isSort_16 : decode cX11_isSort 16 = .ok (.ireturn, 1) := by decide +kernel
theorem dX11_isHeap_0 : decode cX11_isHeap 0 = .ok (.iload_n 0, 1) := by decide +kernel
theorem dX11_isHeap_1 : decode cX11_isHeap 1 = .ok (.i2l, 1) := by decide +kernel
theorem dX11_isHeap_2 : decode cX11_isHeap 2 = .ok (.lconst 0, 1) := by decide +kernel
theorem dX11_isHeap_3 : decode cX11_isHeap 3 = .ok (.ldc2_w 267, 3) := by decide +kernel
theorem dX11_isHeap_6 : decode cX11_isHeap 6 = .ok (.invokestatic 84, 3) := by decide +kernel
theorem dX11_isHeap_9 : decode cX11_isHeap 9 = .ok (.ireturn, 1) := by decide +kernel
theorem dX11_isGroup_0 : decode cX11_isGroup 0 = .ok (.iload_n 0, 1) := by decide +kernel
theorem dX11_isGroup_1 : decode cX11_isGroup 1 = .ok (.i2l, 1) := by decide +kernel
theorem dX11_isGroup_2 : decode cX11_isGroup 2 = .ok (.lconst 0, 1) := by decide +kernel
theorem dX11_isGroup_3 : decode cX11_isGroup 3 = .ok (.ldc2_w 269, 3) := by decide +kernel
theorem dX11_isGroup_6 : decode cX11_isGroup 6 = .ok (.invokestatic 84, 3) := by decide +kernel
theorem dX11_isGroup_9 : decode cX11_isGroup 9 = .ok (.ireturn, 1) := by decide +kernel
theorem dX11_isCrack_0 : decode cX11_isCrack 0 = .ok (.iload_n 1, 1) := by decide +kernel
theorem dX11_isCrack_1 : decode cX11_isCrack 1 = .ok (.i2l, 1) := by decide +kernel
theorem dX11_isCrack_2 : decode cX11_isCrack 2 = .ok (.lconst 0, 1) := by decide +kernel
theorem dX11_isCrack_3 : decode cX11_isCrack 3 = .ok (.aload_n 0, 1) := by decide +kernel
theorem dX11_isCrack_4 : decode cX11_isCrack 4 = .ok (.getfield 13, 3) := by decide +kernel
theorem dX11_isCrack_7 : decode cX11_isCrack 7 = .ok (.iconst 5, 1) := by decide +kernel
theorem dX11_isCrack_8 : decode cX11_isCrack 8 = .ok (.iaload, 1) := by decide +kernel
theorem dX11_isCrack_9 : decode cX11_isCrack 9 = .ok (.iconst 1, 1) := by decide +kernel
theorem dX11_isCrack_10 : decode cX11_isCrack 10 = .ok (.isub, 1) := by decide +kernel
theorem dX11_isCrack_11 : decode cX11_isCrack 11 = .ok (.i2l, 1) := by decide +kernel
theorem dX11_isCrack_12 : decode cX11_isCrack 12 = .ok (.invokestatic 84, 3) := by decide +kernel
theorem dX11_isCrack_15 : decode cX11_isCrack 15 = .ok (.ireturn, 1) := by decide +kernel
theorem dX11_sets_0 : decode cX11_sets 0 = .ok (.iconst 1, 1) := by decide +kernel
theorem dX11_sets_1 : decode cX11_sets 1 = .ok (.aload_n 0, 1) := by decide +kernel
theorem dX11_sets_2 : decode cX11_sets 2 = .ok (.getfield 13, 3) := by decide +kernel
theorem dX11_sets_5 : decode cX11_sets 5 = .ok (.iconst 5, 1) := by decide +kernel
theorem dX11_sets_6 : decode cX11_sets 6 = .ok (.iaload, 1) := by decide +kernel
theorem dX11_sets_7 : decode cX11_sets 7 = .ok (.ishl, 1) := by decide +kernel
theorem dX11_sets_8 : decode cX11_sets 8 = .ok (.ireturn, 1) := by decide +kernel
theorem dX11_isSet_0 : decode cX11_isSet 0 = .ok (.aload_n 0, 1) := by decide +kernel
theorem dX11_isSet_1 : decode cX11_isSet 1 = .ok (.invokevirtual 271, 3) := by decide +kernel
theorem dX11_isSet_4 : decode cX11_isSet 4 = .ok (.ifCond .eq 23, 3) := by decide +kernel
theorem dX11_isSet_7 : decode cX11_isSet 7 = .ok (.iload_n 1, 1) := by decide +kernel
theorem dX11_isSet_8 : decode cX11_isSet 8 = .ok (.i2l, 1) := by decide +kernel
theorem dX11_isSet_9 : decode cX11_isSet 9 = .ok (.lconst 0, 1) := by decide +kernel
theorem dX11_isSet_10 : decode cX11_isSet 10 = .ok (.aload_n 0, 1) := by decide +kernel
theorem dX11_isSet_11 : decode cX11_isSet 11 = .ok (.invokevirtual 274, 3) := by decide +kernel
theorem dX11_isSet_14 : decode cX11_isSet 14 = .ok (.iconst 1, 1) := by decide +kernel
theorem dX11_isSet_15 : decode cX11_isSet 15 = .ok (.isub, 1) := by decide +kernel
theorem dX11_isSet_16 : decode cX11_isSet 16 = .ok (.i2l, 1) := by decide +kernel
theorem dX11_isSet_17 : decode cX11_isSet 17 = .ok (.invokestatic 84, 3) := by decide +kernel
theorem dX11_isSet_20 : decode cX11_isSet 20 = .ok (.ifCond .eq 7, 3) := by decide +kernel
theorem dX11_isSet_23 : decode cX11_isSet 23 = .ok (.iconst 1, 1) := by decide +kernel
theorem dX11_isSet_24 : decode cX11_isSet 24 = .ok (.goto 4, 3) := by decide +kernel
theorem dX11_isSet_27 : decode cX11_isSet 27 = .ok (.iconst 0, 1) := by decide +kernel
theorem dX11_isSet_28 : decode cX11_isSet 28 = .ok (.ireturn, 1) := by decide +kernel
theorem dX11_setHeap_0 : decode cX11_setHeap 0 = .ok (.aload_n 0, 1) := by decide +kernel
theorem dX11_setHeap_1 : decode cX11_setHeap 1 = .ok (.getfield 13, 3) := by decide +kernel
theorem dX11_setHeap_4 : decode cX11_setHeap 4 = .ok (.bipush 116, 2) := by decide +kernel
theorem dX11_setHeap_6 : decode cX11_setHeap 6 = .ok (.bipush 9, 2) := by decide +kernel
theorem dX11_setHeap_8 : decode cX11_setHeap 8 = .ok (.iload_n 1, 1) := by decide +kernel
theorem dX11_setHeap_9 : decode cX11_setHeap 9 = .ok (.imul, 1) := by decide +kernel
theorem dX11_setHeap_10 : decode cX11_setHeap 10 = .ok (.iadd, 1) := by decide +kernel
theorem dX11_setHeap_11 : decode cX11_setHeap 11 = .ok (.iload_n 2, 1) := by decide +kernel
theorem dX11_setHeap_12 : decode cX11_setHeap 12 = .ok (.iadd, 1) := by decide +kernel
theorem dX11_setHeap_13 : decode cX11_setHeap 13 = .ok (.iload_n 3, 1) := by decide +kernel
theorem dX11_setHeap_14 : decode cX11_setHeap 14 = .ok (.iastore, 1) := by decide +kernel
theorem dX11_setHeap_15 : decode cX11_setHeap 15 = .ok (.return_, 1) := by decide +kernel
theorem dX11_heap_0 : decode cX11_heap 0 = .ok (.iload_n 1, 1) := by decide +kernel
theorem dX11_heap_1 : decode cX11_heap 1 = .ok (.invokestatic 277, 3) := by decide +kernel
theorem dX11_heap_4 : decode cX11_heap 4 = .ok (.ifCond .eq 17, 3) := by decide +kernel
theorem dX11_heap_7 : decode cX11_heap 7 = .ok (.iload_n 2, 1) := by decide +kernel
theorem dX11_heap_8 : decode cX11_heap 8 = .ok (.iconst (-1), 1) := by decide +kernel
theorem dX11_heap_9 : decode cX11_heap 9 = .ok (.if_icmp .eq 15, 3) := by decide +kernel
theorem dX11_heap_12 : decode cX11_heap 12 = .ok (.aload_n 0, 1) := by decide +kernel
theorem dX11_heap_13 : decode cX11_heap 13 = .ok (.iload_n 2, 1) := by decide +kernel
theorem dX11_heap_14 : decode cX11_heap 14 = .ok (.iload_n 3, 1) := by decide +kernel
theorem dX11_heap_15 : decode cX11_heap 15 = .ok (.invokevirtual 281, 3) := by decide +kernel
theorem dX11_heap_18 : decode cX11_heap 18 = .ok (.ifCond .ne 6, 3) := by decide +kernel
theorem dX11_heap_21 : decode cX11_heap 21 = .ok (.bipush (-2), 2) := by decide +kernel
theorem dX11_heap_23 : decode cX11_heap 23 = .ok (.ireturn, 1) := by decide +kernel
theorem dX11_heap_24 : decode cX11_heap 24 = .ok (.aload_n 0, 1) := by decide +kernel
theorem dX11_heap_25 : decode cX11_heap 25 = .ok (.iload_n 1, 1) := by decide +kernel
theorem dX11_heap_26 : decode cX11_heap 26 = .ok (.iconst 0, 1) := by decide +kernel
theorem dX11_heap_27 : decode cX11_heap 27 = .ok (.invokevirtual 88, 3) := by decide +kernel
theorem dX11_heap_30 : decode cX11_heap 30 = .ok (.istore 4, 2) := by decide +kernel
theorem dX11_heap_32 : decode cX11_heap 32 = .ok (.iload_n 2, 1) := by decide +kernel
theorem dX11_heap_33 : decode cX11_heap 33 = .ok (.iconst (-1), 1) := by decide +kernel
theorem dX11_heap_34 : decode cX11_heap 34 = .ok (.if_icmp .ne 30, 3) := by decide +kernel
theorem dX11_heap_37 : decode cX11_heap 37 = .ok (.iconst 0, 1) := by decide +kernel
theorem dX11_heap_38 : decode cX11_heap 38 = .ok (.istore 5, 2) := by decide +kernel
theorem dX11_heap_40 : decode cX11_heap 40 = .ok (.iload 5, 2) := by decide +kernel
theorem dX11_heap_42 : decode cX11_heap 42 = .ok (.bipush 9, 2) := by decide +kernel
theorem dX11_heap_44 : decode cX11_heap 44 = .ok (.if_icmp .ge 17, 3) := by decide +kernel
theorem dX11_heap_47 : decode cX11_heap 47 = .ok (.aload_n 0, 1) := by decide +kernel
theorem dX11_heap_48 : decode cX11_heap 48 = .ok (.iload_n 1, 1) := by decide +kernel
theorem dX11_heap_49 : decode cX11_heap 49 = .ok (.iload 5, 2) := by decide +kernel
theorem dX11_heap_51 : decode cX11_heap 51 = .ok (.iconst 0, 1) := by decide +kernel
theorem dX11_heap_52 : decode cX11_heap 52 = .ok (.invokevirtual 284, 3) := by decide +kernel
theorem dX11_heap_55 : decode cX11_heap 55 = .ok (.iinc 5 1, 3) := by decide +kernel
theorem dX11_heap_58 : decode cX11_heap 58 = .ok (.goto (-18), 3) := by decide +kernel
theorem dX11_heap_61 : decode cX11_heap 61 = .ok (.iload 4, 2) := by decide +kernel
theorem dX11_heap_63 : decode cX11_heap 63 = .ok (.ireturn, 1) := by decide +kernel
theorem dX11_heap_64 : decode cX11_heap 64 = .ok (.aload_n 0, 1) := by decide +kernel
theorem dX11_heap_65 : decode cX11_heap 65 = .ok (.iload_n 1, 1) := by decide +kernel
theorem dX11_heap_66 : decode cX11_heap 66 = .ok (.iconst 0, 1) := by decide +kernel
theorem dX11_heap_67 : decode cX11_heap 67 = .ok (.iconst 1, 1) := by decide +kernel
theorem dX11_heap_68 : decode cX11_heap 68 = .ok (.invokevirtual 284, 3) := by decide +kernel
theorem dX11_heap_71 : decode cX11_heap 71 = .ok (.aload_n 0, 1) := by decide +kernel
theorem dX11_heap_72 : decode cX11_heap 72 = .ok (.iload_n 1, 1) := by decide +kernel
theorem dX11_heap_73 : decode cX11_heap 73 = .ok (.iconst 1, 1) := by decide +kernel
theorem dX11_heap_74 : decode cX11_heap 74 = .ok (.iload_n 2, 1) := by decide +kernel
theorem dX11_heap_75 : decode cX11_heap 75 = .ok (.invokevirtual 284, 3) := by decide +kernel
theorem dX11_heap_78 : decode cX11_heap 78 = .ok (.aload_n 0, 1) := by decide +kernel
theorem dX11_heap_79 : decode cX11_heap 79 = .ok (.iload_n 1, 1) := by decide +kernel
theorem dX11_heap_80 : decode cX11_heap 80 = .ok (.iconst 2, 1) := by decide +kernel
theorem dX11_heap_81 : decode cX11_heap 81 = .ok (.iload_n 3, 1) := by decide +kernel
theorem dX11_heap_82 : decode cX11_heap 82 = .ok (.invokevirtual 284, 3) := by decide +kernel
theorem dX11_heap_85 : decode cX11_heap 85 = .ok (.iload 4, 2) := by decide +kernel
theorem dX11_heap_87 : decode cX11_heap 87 = .ok (.ireturn, 1) := by decide +kernel
theorem dX11_inHeaps_0 : decode cX11_inHeaps 0 = .ok (.iconst 0, 1) := by decide +kernel
theorem dX11_inHeaps_1 : decode cX11_inHeaps 1 = .ok (.istore_n 2, 1) := by decide +kernel
theorem dX11_inHeaps_2 : decode cX11_inHeaps 2 = .ok (.iconst 0, 1) := by decide +kernel
theorem dX11_inHeaps_3 : decode cX11_inHeaps 3 = .ok (.istore_n 3, 1) := by decide +kernel
theorem dX11_inHeaps_4 : decode cX11_inHeaps 4 = .ok (.iload_n 3, 1) := by decide +kernel
theorem dX11_inHeaps_5 : decode cX11_inHeaps 5 = .ok (.bipush 8, 2) := by decide +kernel
theorem dX11_inHeaps_7 : decode cX11_inHeaps 7 = .ok (.if_icmp .ge 20, 3) := by decide +kernel
theorem dX11_inHeaps_10 : decode cX11_inHeaps 10 = .ok (.iload_n 2, 1) := by decide +kernel
theorem dX11_inHeaps_11 : decode cX11_inHeaps 11 = .ok (.aload_n 0, 1) := by decide +kernel
theorem dX11_inHeaps_12 : decode cX11_inHeaps 12 = .ok (.iload_n 3, 1) := by decide +kernel
theorem dX11_inHeaps_13 : decode cX11_inHeaps 13 = .ok (.iconst 3, 1) := by decide +kernel
theorem dX11_inHeaps_14 : decode cX11_inHeaps 14 = .ok (.iload_n 1, 1) := by decide +kernel
theorem dX11_inHeaps_15 : decode cX11_inHeaps 15 = .ok (.iadd, 1) := by decide +kernel
theorem dX11_inHeaps_16 : decode cX11_inHeaps 16 = .ok (.invokevirtual 88, 3) := by decide +kernel
theorem dX11_inHeaps_19 : decode cX11_inHeaps 19 = .ok (.iadd, 1) := by decide +kernel
theorem dX11_inHeaps_20 : decode cX11_inHeaps 20 = .ok (.istore_n 2, 1) := by decide +kernel
theorem dX11_inHeaps_21 : decode cX11_inHeaps 21 = .ok (.iinc 3 1, 3) := by decide +kernel
theorem dX11_inHeaps_24 : decode cX11_inHeaps 24 = .ok (.goto (-20), 3) := by decide +kernel
theorem dX11_inHeaps_27 : decode cX11_inHeaps 27 = .ok (.iload_n 2, 1) := by decide +kernel
theorem dX11_inHeaps_28 : decode cX11_inHeaps 28 = .ok (.ireturn, 1) := by decide +kernel
theorem dX11_put_0 : decode cX11_put 0 = .ok (.iload_n 1, 1) := by decide +kernel
theorem dX11_put_1 : decode cX11_put 1 = .ok (.invokestatic 277, 3) := by decide +kernel
theorem dX11_put_4 : decode cX11_put 4 = .ok (.ifCond .eq 23, 3) := by decide +kernel
theorem dX11_put_7 : decode cX11_put 7 = .ok (.aload_n 0, 1) := by decide +kernel
theorem dX11_put_8 : decode cX11_put 8 = .ok (.iload_n 1, 1) := by decide +kernel
theorem dX11_put_9 : decode cX11_put 9 = .ok (.invokevirtual 288, 3) := by decide +kernel
theorem dX11_put_12 : decode cX11_put 12 = .ok (.ifCond .eq 15, 3) := by decide +kernel
theorem dX11_put_15 : decode cX11_put 15 = .ok (.aload_n 0, 1) := by decide +kernel
theorem dX11_put_16 : decode cX11_put 16 = .ok (.iload_n 2, 1) := by decide +kernel
theorem dX11_put_17 : decode cX11_put 17 = .ok (.invokevirtual 291, 3) := by decide +kernel
theorem dX11_put_20 : decode cX11_put 20 = .ok (.ifCond .eq 7, 3) := by decide +kernel
theorem dX11_put_23 : decode cX11_put 23 = .ok (.iload_n 3, 1) := by decide +kernel
theorem dX11_put_24 : decode cX11_put 24 = .ok (.ifCond .ge 6, 3) := by decide +kernel
theorem dX11_put_27 : decode cX11_put 27 = .ok (.bipush (-2), 2) := by decide +kernel
theorem dX11_put_29 : decode cX11_put 29 = .ok (.ireturn, 1) := by decide +kernel
theorem dX11_put_30 : decode cX11_put 30 = .ok (.aload_n 0, 1) := by decide +kernel
theorem dX11_put_31 : decode cX11_put 31 = .ok (.iload_n 2, 1) := by decide +kernel
theorem dX11_put_32 : decode cX11_put 32 = .ok (.invokevirtual 294, 3) := by decide +kernel
theorem dX11_put_35 : decode cX11_put 35 = .ok (.aload_n 0, 1) := by decide +kernel
theorem dX11_put_36 : decode cX11_put 36 = .ok (.iload_n 1, 1) := by decide +kernel
theorem dX11_put_37 : decode cX11_put 37 = .ok (.iconst 3, 1) := by decide +kernel
theorem dX11_put_38 : decode cX11_put 38 = .ok (.iload_n 2, 1) := by decide +kernel
theorem dX11_put_39 : decode cX11_put 39 = .ok (.iadd, 1) := by decide +kernel
theorem dX11_put_40 : decode cX11_put 40 = .ok (.invokevirtual 88, 3) := by decide +kernel
theorem dX11_put_43 : decode cX11_put 43 = .ok (.isub, 1) := by decide +kernel
theorem dX11_put_44 : decode cX11_put 44 = .ok (.i2l, 1) := by decide +kernel
theorem dX11_put_45 : decode cX11_put 45 = .ok (.iload_n 3, 1) := by decide +kernel
theorem dX11_put_46 : decode cX11_put 46 = .ok (.i2l, 1) := by decide +kernel
theorem dX11_put_47 : decode cX11_put 47 = .ok (.ladd, 1) := by decide +kernel
theorem dX11_put_48 : decode cX11_put 48 = .ok (.aload_n 0, 1) := by decide +kernel
theorem dX11_put_49 : decode cX11_put 49 = .ok (.iload_n 2, 1) := by decide +kernel
theorem dX11_put_50 : decode cX11_put 50 = .ok (.iconst 3, 1) := by decide +kernel
theorem dX11_put_51 : decode cX11_put 51 = .ok (.invokevirtual 297, 3) := by decide +kernel
theorem dX11_put_54 : decode cX11_put 54 = .ok (.i2l, 1) := by decide +kernel
theorem dX11_put_55 : decode cX11_put 55 = .ok (.lcmp, 1) := by decide +kernel
theorem dX11_put_56 : decode cX11_put 56 = .ok (.ifCond .le 6, 3) := by decide +kernel
theorem dX11_put_59 : decode cX11_put 59 = .ok (.bipush (-3), 2) := by decide +kernel
theorem dX11_put_61 : decode cX11_put 61 = .ok (.ireturn, 1) := by decide +kernel
theorem dX11_put_62 : decode cX11_put 62 = .ok (.aload_n 0, 1) := by decide +kernel
theorem dX11_put_63 : decode cX11_put 63 = .ok (.iload_n 1, 1) := by decide +kernel
theorem dX11_put_64 : decode cX11_put 64 = .ok (.iconst 3, 1) := by decide +kernel
theorem dX11_put_65 : decode cX11_put 65 = .ok (.iload_n 2, 1) := by decide +kernel
theorem dX11_put_66 : decode cX11_put 66 = .ok (.iadd, 1) := by decide +kernel
theorem dX11_put_67 : decode cX11_put 67 = .ok (.iload_n 3, 1) := by decide +kernel
theorem dX11_put_68 : decode cX11_put 68 = .ok (.invokevirtual 284, 3) := by decide +kernel
theorem dX11_put_71 : decode cX11_put 71 = .ok (.aload_n 0, 1) := by decide +kernel
theorem dX11_put_72 : decode cX11_put 72 = .ok (.iload_n 2, 1) := by decide +kernel
theorem dX11_put_73 : decode cX11_put 73 = .ok (.iconst 3, 1) := by decide +kernel
theorem dX11_put_74 : decode cX11_put 74 = .ok (.invokevirtual 297, 3) := by decide +kernel
theorem dX11_put_77 : decode cX11_put 77 = .ok (.aload_n 0, 1) := by decide +kernel
theorem dX11_put_78 : decode cX11_put 78 = .ok (.iload_n 2, 1) := by decide +kernel
theorem dX11_put_79 : decode cX11_put 79 = .ok (.invokevirtual 294, 3) := by decide +kernel
theorem dX11_put_82 : decode cX11_put 82 = .ok (.isub, 1) := by decide +kernel
theorem dX11_put_83 : decode cX11_put 83 = .ok (.ireturn, 1) := by decide +kernel
theorem dX11_sleepers_0 : decode cX11_sleepers 0 = .ok (.iconst 0, 1) := by decide +kernel
theorem dX11_sleepers_1 : decode cX11_sleepers 1 = .ok (.istore_n 1, 1) := by decide +kernel
theorem dX11_sleepers_2 : decode cX11_sleepers 2 = .ok (.iconst 0, 1) := by decide +kernel
theorem dX11_sleepers_3 : decode cX11_sleepers 3 = .ok (.istore_n 2, 1) := by decide +kernel
theorem dX11_sleepers_4 : decode cX11_sleepers 4 = .ok (.iload_n 2, 1) := by decide +kernel
theorem dX11_sleepers_5 : decode cX11_sleepers 5 = .ok (.iconst 4, 1) := by decide +kernel
theorem dX11_sleepers_6 : decode cX11_sleepers 6 = .ok (.if_icmp .ge 18, 3) := by decide +kernel
theorem dX11_sleepers_9 : decode cX11_sleepers 9 = .ok (.iload_n 1, 1) := by decide +kernel
theorem dX11_sleepers_10 : decode cX11_sleepers 10 = .ok (.aload_n 0, 1) := by decide +kernel
theorem dX11_sleepers_11 : decode cX11_sleepers 11 = .ok (.iload_n 2, 1) := by decide +kernel
theorem dX11_sleepers_12 : decode cX11_sleepers 12 = .ok (.iconst 2, 1) := by decide +kernel
theorem dX11_sleepers_13 : decode cX11_sleepers 13 = .ok (.invokevirtual 300, 3) := by decide +kernel
theorem dX11_sleepers_16 : decode cX11_sleepers 16 = .ok (.iadd, 1) := by decide +kernel
theorem dX11_sleepers_17 : decode cX11_sleepers 17 = .ok (.istore_n 1, 1) := by decide +kernel
theorem dX11_sleepers_18 : decode cX11_sleepers 18 = .ok (.iinc 2 1, 3) := by decide +kernel
theorem dX11_sleepers_21 : decode cX11_sleepers 21 = .ok (.goto (-17), 3) := by decide +kernel
theorem dX11_sleepers_24 : decode cX11_sleepers 24 = .ok (.iload_n 1, 1) := by decide +kernel
theorem dX11_sleepers_25 : decode cX11_sleepers 25 = .ok (.ireturn, 1) := by decide +kernel
theorem dX11_sleep_0 : decode cX11_sleep 0 = .ok (.iload_n 1, 1) := by decide +kernel
theorem dX11_sleep_1 : decode cX11_sleep 1 = .ok (.invokestatic 303, 3) := by decide +kernel
theorem dX11_sleep_4 : decode cX11_sleep 4 = .ok (.ifCond .eq 25, 3) := by decide +kernel
theorem dX11_sleep_7 : decode cX11_sleep 7 = .ok (.aload_n 0, 1) := by decide +kernel
theorem dX11_sleep_8 : decode cX11_sleep 8 = .ok (.iload_n 2, 1) := by decide +kernel
theorem dX11_sleep_9 : decode cX11_sleep 9 = .ok (.iload_n 3, 1) := by decide +kernel
theorem dX11_sleep_10 : decode cX11_sleep 10 = .ok (.invokevirtual 281, 3) := by decide +kernel
theorem dX11_sleep_13 : decode cX11_sleep 13 = .ok (.ifCond .eq 16, 3) := by decide +kernel
theorem dX11_sleep_16 : decode cX11_sleep 16 = .ok (.iload 4, 2) := by decide +kernel
theorem dX11_sleep_18 : decode cX11_sleep 18 = .ok (.i2l, 1) := by decide +kernel
theorem dX11_sleep_19 : decode cX11_sleep 19 = .ok (.lconst 0, 1) := by decide +kernel
theorem dX11_sleep_20 : decode cX11_sleep 20 = .ok (.ldc2_w 306, 3) := by decide +kernel
theorem dX11_sleep_23 : decode cX11_sleep 23 = .ok (.invokestatic 84, 3) := by decide +kernel
theorem dX11_sleep_26 : decode cX11_sleep 26 = .ok (.ifCond .ne 6, 3) := by decide +kernel
theorem dX11_sleep_29 : decode cX11_sleep 29 = .ok (.bipush (-2), 2) := by decide +kernel
theorem dX11_sleep_31 : decode cX11_sleep 31 = .ok (.ireturn, 1) := by decide +kernel
theorem dX11_sleep_32 : decode cX11_sleep 32 = .ok (.aload_n 0, 1) := by decide +kernel
theorem dX11_sleep_33 : decode cX11_sleep 33 = .ok (.invokevirtual 308, 3) := by decide +kernel
theorem dX11_sleep_36 : decode cX11_sleep 36 = .ok (.aload_n 0, 1) := by decide +kernel
theorem dX11_sleep_37 : decode cX11_sleep 37 = .ok (.iload_n 1, 1) := by decide +kernel
theorem dX11_sleep_38 : decode cX11_sleep 38 = .ok (.iconst 2, 1) := by decide +kernel
theorem dX11_sleep_39 : decode cX11_sleep 39 = .ok (.invokevirtual 300, 3) := by decide +kernel
theorem dX11_sleep_42 : decode cX11_sleep 42 = .ok (.isub, 1) := by decide +kernel
theorem dX11_sleep_43 : decode cX11_sleep 43 = .ok (.iload 4, 2) := by decide +kernel
theorem dX11_sleep_45 : decode cX11_sleep 45 = .ok (.iadd, 1) := by decide +kernel
theorem dX11_sleep_46 : decode cX11_sleep 46 = .ok (.aload_n 0, 1) := by decide +kernel
theorem dX11_sleep_47 : decode cX11_sleep 47 = .ok (.getfield 13, 3) := by decide +kernel
theorem dX11_sleep_50 : decode cX11_sleep 50 = .ok (.iconst 3, 1) := by decide +kernel
theorem dX11_sleep_51 : decode cX11_sleep 51 = .ok (.iaload, 1) := by decide +kernel
theorem dX11_sleep_52 : decode cX11_sleep 52 = .ok (.if_icmp .le 6, 3) := by decide +kernel
theorem dX11_sleep_55 : decode cX11_sleep 55 = .ok (.bipush (-3), 2) := by decide +kernel
theorem dX11_sleep_57 : decode cX11_sleep 57 = .ok (.ireturn, 1) := by decide +kernel
theorem dX11_sleep_58 : decode cX11_sleep 58 = .ok (.aload_n 0, 1) := by decide +kernel
theorem dX11_sleep_59 : decode cX11_sleep 59 = .ok (.getfield 13, 3) := by decide +kernel
theorem dX11_sleep_62 : decode cX11_sleep 62 = .ok (.sipush 188, 3) := by decide +kernel
theorem dX11_sleep_65 : decode cX11_sleep 65 = .ok (.iconst 3, 1) := by decide +kernel
theorem dX11_sleep_66 : decode cX11_sleep 66 = .ok (.iload_n 1, 1) := by decide +kernel
theorem dX11_sleep_67 : decode cX11_sleep 67 = .ok (.imul, 1) := by decide +kernel
theorem dX11_sleep_68 : decode cX11_sleep 68 = .ok (.iadd, 1) := by decide +kernel
theorem dX11_sleep_69 : decode cX11_sleep 69 = .ok (.iload_n 2, 1) := by decide +kernel
theorem dX11_sleep_70 : decode cX11_sleep 70 = .ok (.iastore, 1) := by decide +kernel
theorem dX11_sleep_71 : decode cX11_sleep 71 = .ok (.aload_n 0, 1) := by decide +kernel
theorem dX11_sleep_72 : decode cX11_sleep 72 = .ok (.getfield 13, 3) := by decide +kernel
theorem dX11_sleep_75 : decode cX11_sleep 75 = .ok (.sipush 188, 3) := by decide +kernel
theorem dX11_sleep_78 : decode cX11_sleep 78 = .ok (.iconst 3, 1) := by decide +kernel
theorem dX11_sleep_79 : decode cX11_sleep 79 = .ok (.iload_n 1, 1) := by decide +kernel
theorem dX11_sleep_80 : decode cX11_sleep 80 = .ok (.imul, 1) := by decide +kernel
theorem dX11_sleep_81 : decode cX11_sleep 81 = .ok (.iadd, 1) := by decide +kernel
theorem dX11_sleep_82 : decode cX11_sleep 82 = .ok (.iconst 1, 1) := by decide +kernel
theorem dX11_sleep_83 : decode cX11_sleep 83 = .ok (.iadd, 1) := by decide +kernel
theorem dX11_sleep_84 : decode cX11_sleep 84 = .ok (.iload_n 3, 1) := by decide +kernel
theorem dX11_sleep_85 : decode cX11_sleep 85 = .ok (.iastore, 1) := by decide +kernel
theorem dX11_sleep_86 : decode cX11_sleep 86 = .ok (.aload_n 0, 1) := by decide +kernel
theorem dX11_sleep_87 : decode cX11_sleep 87 = .ok (.getfield 13, 3) := by decide +kernel
theorem dX11_sleep_90 : decode cX11_sleep 90 = .ok (.sipush 188, 3) := by decide +kernel
theorem dX11_sleep_93 : decode cX11_sleep 93 = .ok (.iconst 3, 1) := by decide +kernel
theorem dX11_sleep_94 : decode cX11_sleep 94 = .ok (.iload_n 1, 1) := by decide +kernel
theorem dX11_sleep_95 : decode cX11_sleep 95 = .ok (.imul, 1) := by decide +kernel
theorem dX11_sleep_96 : decode cX11_sleep 96 = .ok (.iadd, 1) := by decide +kernel
theorem dX11_sleep_97 : decode cX11_sleep 97 = .ok (.iconst 2, 1) := by decide +kernel
theorem dX11_sleep_98 : decode cX11_sleep 98 = .ok (.iadd, 1) := by decide +kernel
theorem dX11_sleep_99 : decode cX11_sleep 99 = .ok (.iload 4, 2) := by decide +kernel
theorem dX11_sleep_101 : decode cX11_sleep 101 = .ok (.iastore, 1) := by decide +kernel
theorem dX11_sleep_102 : decode cX11_sleep 102 = .ok (.aload_n 0, 1) := by decide +kernel
theorem dX11_sleep_103 : decode cX11_sleep 103 = .ok (.invokevirtual 308, 3) := by decide +kernel
theorem dX11_sleep_106 : decode cX11_sleep 106 = .ok (.ireturn, 1) := by decide +kernel
theorem dX11_open_0 : decode cX11_open 0 = .ok (.aload_n 0, 1) := by decide +kernel
theorem dX11_open_1 : decode cX11_open 1 = .ok (.iload_n 1, 1) := by decide +kernel
theorem dX11_open_2 : decode cX11_open 2 = .ok (.invokevirtual 311, 3) := by decide +kernel
theorem dX11_open_5 : decode cX11_open 5 = .ok (.ifCond .ne 6, 3) := by decide +kernel
theorem dX11_open_8 : decode cX11_open 8 = .ok (.bipush (-2), 2) := by decide +kernel
theorem dX11_open_10 : decode cX11_open 10 = .ok (.ireturn, 1) := by decide +kernel
theorem dX11_open_11 : decode cX11_open 11 = .ok (.aload_n 0, 1) := by decide +kernel
theorem dX11_open_12 : decode cX11_open 12 = .ok (.getfield 13, 3) := by decide +kernel
theorem dX11_open_15 : decode cX11_open 15 = .ok (.bipush 18, 2) := by decide +kernel
theorem dX11_open_17 : decode cX11_open 17 = .ok (.iaload, 1) := by decide +kernel
theorem dX11_open_18 : decode cX11_open 18 = .ok (.istore_n 2, 1) := by decide +kernel
theorem dX11_open_19 : decode cX11_open 19 = .ok (.aload_n 0, 1) := by decide +kernel
theorem dX11_open_20 : decode cX11_open 20 = .ok (.getfield 13, 3) := by decide +kernel
theorem dX11_open_23 : decode cX11_open 23 = .ok (.bipush 18, 2) := by decide +kernel
theorem dX11_open_25 : decode cX11_open 25 = .ok (.iload_n 1, 1) := by decide +kernel
theorem dX11_open_26 : decode cX11_open 26 = .ok (.iastore, 1) := by decide +kernel
theorem dX11_open_27 : decode cX11_open 27 = .ok (.iload_n 2, 1) := by decide +kernel
theorem dX11_open_28 : decode cX11_open 28 = .ok (.ireturn, 1) := by decide +kernel
theorem dX11_tonsOf_0 : decode cX11_tonsOf 0 = .ok (.iconst 0, 1) := by decide +kernel
theorem dX11_tonsOf_1 : decode cX11_tonsOf 1 = .ok (.istore_n 2, 1) := by decide +kernel
theorem dX11_tonsOf_2 : decode cX11_tonsOf 2 = .ok (.iconst 0, 1) := by decide +kernel
theorem dX11_tonsOf_3 : decode cX11_tonsOf 3 = .ok (.istore_n 3, 1) := by decide +kernel
theorem dX11_tonsOf_4 : decode cX11_tonsOf 4 = .ok (.iload_n 3, 1) := by decide +kernel
theorem dX11_tonsOf_5 : decode cX11_tonsOf 5 = .ok (.aload_n 0, 1) := by decide +kernel
theorem dX11_tonsOf_6 : decode cX11_tonsOf 6 = .ok (.getfield 13, 3) := by decide +kernel
theorem dX11_tonsOf_9 : decode cX11_tonsOf 9 = .ok (.bipush 6, 2) := by decide +kernel
theorem dX11_tonsOf_11 : decode cX11_tonsOf 11 = .ok (.iaload, 1) := by decide +kernel
theorem dX11_tonsOf_12 : decode cX11_tonsOf 12 = .ok (.if_icmp .ge 27, 3) := by decide +kernel
theorem dX11_tonsOf_15 : decode cX11_tonsOf 15 = .ok (.iload_n 2, 1) := by decide +kernel
theorem dX11_tonsOf_16 : decode cX11_tonsOf 16 = .ok (.aload_n 0, 1) := by decide +kernel
theorem dX11_tonsOf_17 : decode cX11_tonsOf 17 = .ok (.iload_n 1, 1) := by decide +kernel
theorem dX11_tonsOf_18 : decode cX11_tonsOf 18 = .ok (.iconst 3, 1) := by decide +kernel
theorem dX11_tonsOf_19 : decode cX11_tonsOf 19 = .ok (.iload_n 3, 1) := by decide +kernel
theorem dX11_tonsOf_20 : decode cX11_tonsOf 20 = .ok (.iadd, 1) := by decide +kernel
theorem dX11_tonsOf_21 : decode cX11_tonsOf 21 = .ok (.invokevirtual 88, 3) := by decide +kernel
theorem dX11_tonsOf_24 : decode cX11_tonsOf 24 = .ok (.aload_n 0, 1) := by decide +kernel
theorem dX11_tonsOf_25 : decode cX11_tonsOf 25 = .ok (.iload_n 3, 1) := by decide +kernel
theorem dX11_tonsOf_26 : decode cX11_tonsOf 26 = .ok (.iconst 2, 1) := by decide +kernel
theorem dX11_tonsOf_27 : decode cX11_tonsOf 27 = .ok (.invokevirtual 297, 3) := by decide +kernel
theorem dX11_tonsOf_30 : decode cX11_tonsOf 30 = .ok (.imul, 1) := by decide +kernel
theorem dX11_tonsOf_31 : decode cX11_tonsOf 31 = .ok (.iadd, 1) := by decide +kernel
theorem dX11_tonsOf_32 : decode cX11_tonsOf 32 = .ok (.istore_n 2, 1) := by decide +kernel
theorem dX11_tonsOf_33 : decode cX11_tonsOf 33 = .ok (.iinc 3 1, 3) := by decide +kernel
theorem dX11_tonsOf_36 : decode cX11_tonsOf 36 = .ok (.goto (-32), 3) := by decide +kernel
theorem dX11_tonsOf_39 : decode cX11_tonsOf 39 = .ok (.iload_n 2, 1) := by decide +kernel
theorem dX11_tonsOf_40 : decode cX11_tonsOf 40 = .ok (.ireturn, 1) := by decide +kernel
theorem dX11_lies_0 : decode cX11_lies 0 = .ok (.iload_n 1, 1) := by decide +kernel
theorem dX11_lies_1 : decode cX11_lies 1 = .ok (.invokestatic 277, 3) := by decide +kernel
theorem dX11_lies_4 : decode cX11_lies 4 = .ok (.ifCond .eq 22, 3) := by decide +kernel
theorem dX11_lies_7 : decode cX11_lies 7 = .ok (.iload_n 2, 1) := by decide +kernel
theorem dX11_lies_8 : decode cX11_lies 8 = .ok (.i2l, 1) := by decide +kernel
theorem dX11_lies_9 : decode cX11_lies 9 = .ok (.lconst 0, 1) := by decide +kernel
theorem dX11_lies_10 : decode cX11_lies 10 = .ok (.iconst 2, 1) := by decide +kernel
theorem dX11_lies_11 : decode cX11_lies 11 = .ok (.aload_n 0, 1) := by decide +kernel
theorem dX11_lies_12 : decode cX11_lies 12 = .ok (.getfield 13, 3) := by decide +kernel
theorem dX11_lies_15 : decode cX11_lies 15 = .ok (.bipush 6, 2) := by decide +kernel
theorem dX11_lies_17 : decode cX11_lies 17 = .ok (.iaload, 1) := by decide +kernel
theorem dX11_lies_18 : decode cX11_lies 18 = .ok (.iadd, 1) := by decide +kernel
theorem dX11_lies_19 : decode cX11_lies 19 = .ok (.i2l, 1) := by decide +kernel
theorem dX11_lies_20 : decode cX11_lies 20 = .ok (.invokestatic 84, 3) := by decide +kernel
theorem dX11_lies_23 : decode cX11_lies 23 = .ok (.ifCond .ne 6, 3) := by decide +kernel
theorem dX11_lies_26 : decode cX11_lies 26 = .ok (.bipush (-2), 2) := by decide +kernel
theorem dX11_lies_28 : decode cX11_lies 28 = .ok (.ireturn, 1) := by decide +kernel
theorem dX11_lies_29 : decode cX11_lies 29 = .ok (.aload_n 0, 1) := by decide +kernel
theorem dX11_lies_30 : decode cX11_lies 30 = .ok (.iload_n 1, 1) := by decide +kernel
theorem dX11_lies_31 : decode cX11_lies 31 = .ok (.invokevirtual 288, 3) := by decide +kernel
theorem dX11_lies_34 : decode cX11_lies 34 = .ok (.ifCond .ne 5, 3) := by decide +kernel
theorem dX11_lies_37 : decode cX11_lies 37 = .ok (.iconst (-1), 1) := by decide +kernel
theorem dX11_lies_38 : decode cX11_lies 38 = .ok (.ireturn, 1) := by decide +kernel
theorem dX11_lies_39 : decode cX11_lies 39 = .ok (.iload_n 2, 1) := by decide +kernel
theorem dX11_lies_40 : decode cX11_lies 40 = .ok (.iconst 2, 1) := by decide +kernel
theorem dX11_lies_41 : decode cX11_lies 41 = .ok (.if_icmp .ge 14, 3) := by decide +kernel
theorem dX11_lies_44 : decode cX11_lies 44 = .ok (.aload_n 0, 1) := by decide +kernel
theorem dX11_lies_45 : decode cX11_lies 45 = .ok (.iload_n 1, 1) := by decide +kernel
theorem dX11_lies_46 : decode cX11_lies 46 = .ok (.iconst 1, 1) := by decide +kernel
theorem dX11_lies_47 : decode cX11_lies 47 = .ok (.iload_n 2, 1) := by decide +kernel
theorem dX11_lies_48 : decode cX11_lies 48 = .ok (.iadd, 1) := by decide +kernel
theorem dX11_lies_49 : decode cX11_lies 49 = .ok (.invokevirtual 88, 3) := by decide +kernel
theorem dX11_lies_52 : decode cX11_lies 52 = .ok (.goto 22, 3) := by decide +kernel
theorem dX11_lies_55 : decode cX11_lies 55 = .ok (.iload_n 2, 1) := by decide +kernel
theorem dX11_lies_56 : decode cX11_lies 56 = .ok (.iconst 2, 1) := by decide +kernel
theorem dX11_lies_57 : decode cX11_lies 57 = .ok (.if_icmp .ne 11, 3) := by decide +kernel
theorem dX11_lies_60 : decode cX11_lies 60 = .ok (.aload_n 0, 1) := by decide +kernel
theorem dX11_lies_61 : decode cX11_lies 61 = .ok (.iload_n 1, 1) := by decide +kernel
theorem dX11_lies_62 : decode cX11_lies 62 = .ok (.invokevirtual 314, 3) := by decide +kernel
theorem dX11_lies_65 : decode cX11_lies 65 = .ok (.goto 9, 3) := by decide +kernel
theorem dX11_lies_68 : decode cX11_lies 68 = .ok (.aload_n 0, 1) := by decide +kernel
theorem dX11_lies_69 : decode cX11_lies 69 = .ok (.iload_n 1, 1) := by decide +kernel
theorem dX11_lies_70 : decode cX11_lies 70 = .ok (.iload_n 2, 1) := by decide +kernel
theorem dX11_lies_71 : decode cX11_lies 71 = .ok (.invokevirtual 88, 3) := by decide +kernel
theorem dX11_lies_74 : decode cX11_lies 74 = .ok (.ireturn, 1) := by decide +kernel
theorem dX11_nearOf_0 : decode cX11_nearOf 0 = .ok (.iconst 0, 1) := by decide +kernel
theorem dX11_nearOf_1 : decode cX11_nearOf 1 = .ok (.istore_n 2, 1) := by decide +kernel
theorem dX11_nearOf_2 : decode cX11_nearOf 2 = .ok (.iconst 0, 1) := by decide +kernel
theorem dX11_nearOf_3 : decode cX11_nearOf 3 = .ok (.istore_n 3, 1) := by decide +kernel
theorem dX11_nearOf_4 : decode cX11_nearOf 4 = .ok (.iload_n 3, 1) := by decide +kernel
theorem dX11_nearOf_5 : decode cX11_nearOf 5 = .ok (.bipush 8, 2) := by decide +kernel
theorem dX11_nearOf_7 : decode cX11_nearOf 7 = .ok (.if_icmp .ge 70, 3) := by decide +kernel
theorem dX11_nearOf_10 : decode cX11_nearOf 10 = .ok (.aload_n 0, 1) := by decide +kernel
theorem dX11_nearOf_11 : decode cX11_nearOf 11 = .ok (.iload_n 3, 1) := by decide +kernel
theorem dX11_nearOf_12 : decode cX11_nearOf 12 = .ok (.aload_n 0, 1) := by decide +kernel
theorem dX11_nearOf_13 : decode cX11_nearOf 13 = .ok (.iload_n 1, 1) := by decide +kernel
theorem dX11_nearOf_14 : decode cX11_nearOf 14 = .ok (.iconst 0, 1) := by decide +kernel
theorem dX11_nearOf_15 : decode cX11_nearOf 15 = .ok (.invokevirtual 317, 3) := by decide +kernel
theorem dX11_nearOf_18 : decode cX11_nearOf 18 = .ok (.ifCond .ne 7, 3) := by decide +kernel
theorem dX11_nearOf_21 : decode cX11_nearOf 21 = .ok (.iconst 1, 1) := by decide +kernel
theorem dX11_nearOf_22 : decode cX11_nearOf 22 = .ok (.goto 4, 3) := by decide +kernel
theorem dX11_nearOf_25 : decode cX11_nearOf 25 = .ok (.iconst 2, 1) := by decide +kernel
theorem dX11_nearOf_26 : decode cX11_nearOf 26 = .ok (.invokevirtual 88, 3) := by decide +kernel
theorem dX11_nearOf_29 : decode cX11_nearOf 29 = .ok (.istore 4, 2) := by decide +kernel
theorem dX11_nearOf_31 : decode cX11_nearOf 31 = .ok (.aload_n 0, 1) := by decide +kernel
theorem dX11_nearOf_32 : decode cX11_nearOf 32 = .ok (.iload_n 3, 1) := by decide +kernel
theorem dX11_nearOf_33 : decode cX11_nearOf 33 = .ok (.invokevirtual 288, 3) := by decide +kernel
theorem dX11_nearOf_36 : decode cX11_nearOf 36 = .ok (.ifCond .eq 35, 3) := by decide +kernel
theorem dX11_nearOf_39 : decode cX11_nearOf 39 = .ok (.iload 4, 2) := by decide +kernel
theorem dX11_nearOf_41 : decode cX11_nearOf 41 = .ok (.aload_n 0, 1) := by decide +kernel
theorem dX11_nearOf_42 : decode cX11_nearOf 42 = .ok (.iload_n 1, 1) := by decide +kernel
theorem dX11_nearOf_43 : decode cX11_nearOf 43 = .ok (.iconst 1, 1) := by decide +kernel
theorem dX11_nearOf_44 : decode cX11_nearOf 44 = .ok (.invokevirtual 317, 3) := by decide +kernel
theorem dX11_nearOf_47 : decode cX11_nearOf 47 = .ok (.if_icmp .eq 16, 3) := by decide +kernel
theorem dX11_nearOf_50 : decode cX11_nearOf 50 = .ok (.iload 4, 2) := by decide +kernel
theorem dX11_nearOf_52 : decode cX11_nearOf 52 = .ok (.aload_n 0, 1) := by decide +kernel
theorem dX11_nearOf_53 : decode cX11_nearOf 53 = .ok (.iload_n 1, 1) := by decide +kernel
theorem dX11_nearOf_54 : decode cX11_nearOf 54 = .ok (.iconst 1, 1) := by decide +kernel
theorem dX11_nearOf_55 : decode cX11_nearOf 55 = .ok (.invokevirtual 317, 3) := by decide +kernel
theorem dX11_nearOf_58 : decode cX11_nearOf 58 = .ok (.iconst 1, 1) := by decide +kernel
theorem dX11_nearOf_59 : decode cX11_nearOf 59 = .ok (.isub, 1) := by decide +kernel
theorem dX11_nearOf_60 : decode cX11_nearOf 60 = .ok (.if_icmp .ne 11, 3) := by decide +kernel
theorem dX11_nearOf_63 : decode cX11_nearOf 63 = .ok (.iload_n 2, 1) := by decide +kernel
theorem dX11_nearOf_64 : decode cX11_nearOf 64 = .ok (.aload_n 0, 1) := by decide +kernel
theorem dX11_nearOf_65 : decode cX11_nearOf 65 = .ok (.iload_n 3, 1) := by decide +kernel
theorem dX11_nearOf_66 : decode cX11_nearOf 66 = .ok (.invokevirtual 314, 3) := by decide +kernel
theorem dX11_nearOf_69 : decode cX11_nearOf 69 = .ok (.iadd, 1) := by decide +kernel
theorem dX11_nearOf_70 : decode cX11_nearOf 70 = .ok (.istore_n 2, 1) := by decide +kernel
theorem dX11_nearOf_71 : decode cX11_nearOf 71 = .ok (.iinc 3 1, 3) := by decide +kernel
theorem dX11_nearOf_74 : decode cX11_nearOf 74 = .ok (.goto (-70), 3) := by decide +kernel
theorem dX11_nearOf_77 : decode cX11_nearOf 77 = .ok (.iload_n 2, 1) := by decide +kernel
theorem dX11_nearOf_78 : decode cX11_nearOf 78 = .ok (.ireturn, 1) := by decide +kernel
theorem dX11_oddsBy_0 : decode cX11_oddsBy 0 = .ok (.aload_n 0, 1) := by decide +kernel
theorem dX11_oddsBy_1 : decode cX11_oddsBy 1 = .ok (.iload_n 1, 1) := by decide +kernel
theorem dX11_oddsBy_2 : decode cX11_oddsBy 2 = .ok (.iconst 2, 1) := by decide +kernel
theorem dX11_oddsBy_3 : decode cX11_oddsBy 3 = .ok (.invokevirtual 317, 3) := by decide +kernel
theorem dX11_oddsBy_6 : decode cX11_oddsBy 6 = .ok (.aload_n 0, 1) := by decide +kernel
theorem dX11_oddsBy_7 : decode cX11_oddsBy 7 = .ok (.getfield 13, 3) := by decide +kernel
theorem dX11_oddsBy_10 : decode cX11_oddsBy 10 = .ok (.bipush 8, 2) := by decide +kernel
theorem dX11_oddsBy_12 : decode cX11_oddsBy 12 = .ok (.iaload, 1) := by decide +kernel
theorem dX11_oddsBy_13 : decode cX11_oddsBy 13 = .ok (.aload_n 0, 1) := by decide +kernel
theorem dX11_oddsBy_14 : decode cX11_oddsBy 14 = .ok (.iload_n 1, 1) := by decide +kernel
theorem dX11_oddsBy_15 : decode cX11_oddsBy 15 = .ok (.iconst 3, 1) := by decide +kernel
theorem dX11_oddsBy_16 : decode cX11_oddsBy 16 = .ok (.invokevirtual 317, 3) := by decide +kernel
theorem dX11_oddsBy_19 : decode cX11_oddsBy 19 = .ok (.imul, 1) := by decide +kernel
theorem dX11_oddsBy_20 : decode cX11_oddsBy 20 = .ok (.iadd, 1) := by decide +kernel
theorem dX11_oddsBy_21 : decode cX11_oddsBy 21 = .ok (.aload_n 0, 1) := by decide +kernel
theorem dX11_oddsBy_22 : decode cX11_oddsBy 22 = .ok (.getfield 13, 3) := by decide +kernel
theorem dX11_oddsBy_25 : decode cX11_oddsBy 25 = .ok (.bipush 9, 2) := by decide +kernel
theorem dX11_oddsBy_27 : decode cX11_oddsBy 27 = .ok (.iaload, 1) := by decide +kernel
theorem dX11_oddsBy_28 : decode cX11_oddsBy 28 = .ok (.aload_n 0, 1) := by decide +kernel
theorem dX11_oddsBy_29 : decode cX11_oddsBy 29 = .ok (.iload_n 1, 1) := by decide +kernel
theorem dX11_oddsBy_30 : decode cX11_oddsBy 30 = .ok (.iconst 4, 1) := by decide +kernel
theorem dX11_oddsBy_31 : decode cX11_oddsBy 31 = .ok (.invokevirtual 317, 3) := by decide +kernel
theorem dX11_oddsBy_34 : decode cX11_oddsBy 34 = .ok (.imul, 1) := by decide +kernel
theorem dX11_oddsBy_35 : decode cX11_oddsBy 35 = .ok (.iadd, 1) := by decide +kernel
theorem dX11_oddsBy_36 : decode cX11_oddsBy 36 = .ok (.aload_n 0, 1) := by decide +kernel
theorem dX11_oddsBy_37 : decode cX11_oddsBy 37 = .ok (.iload_n 1, 1) := by decide +kernel
theorem dX11_oddsBy_38 : decode cX11_oddsBy 38 = .ok (.iconst 5, 1) := by decide +kernel
theorem dX11_oddsBy_39 : decode cX11_oddsBy 39 = .ok (.invokevirtual 317, 3) := by decide +kernel
theorem dX11_oddsBy_42 : decode cX11_oddsBy 42 = .ok (.iload_n 2, 1) := by decide +kernel
theorem dX11_oddsBy_43 : decode cX11_oddsBy 43 = .ok (.imul, 1) := by decide +kernel
theorem dX11_oddsBy_44 : decode cX11_oddsBy 44 = .ok (.bipush 100, 2) := by decide +kernel
theorem dX11_oddsBy_46 : decode cX11_oddsBy 46 = .ok (.idiv, 1) := by decide +kernel
theorem dX11_oddsBy_47 : decode cX11_oddsBy 47 = .ok (.iadd, 1) := by decide +kernel
theorem dX11_oddsBy_48 : decode cX11_oddsBy 48 = .ok (.istore_n 3, 1) := by decide +kernel
theorem dX11_oddsBy_49 : decode cX11_oddsBy 49 = .ok (.sipush 10000, 3) := by decide +kernel
theorem dX11_oddsBy_52 : decode cX11_oddsBy 52 = .ok (.aload_n 0, 1) := by decide +kernel
theorem dX11_oddsBy_53 : decode cX11_oddsBy 53 = .ok (.iload_n 1, 1) := by decide +kernel
theorem dX11_oddsBy_54 : decode cX11_oddsBy 54 = .ok (.bipush 6, 2) := by decide +kernel
theorem dX11_oddsBy_56 : decode cX11_oddsBy 56 = .ok (.invokevirtual 317, 3) := by decide +kernel
theorem dX11_oddsBy_59 : decode cX11_oddsBy 59 = .ok (.iconst 1, 1) := by decide +kernel
theorem dX11_oddsBy_60 : decode cX11_oddsBy 60 = .ok (.if_icmp .ne 9, 3) := by decide +kernel
theorem dX11_oddsBy_63 : decode cX11_oddsBy 63 = .ok (.iconst 2, 1) := by decide +kernel
theorem dX11_oddsBy_64 : decode cX11_oddsBy 64 = .ok (.iload_n 3, 1) := by decide +kernel
theorem dX11_oddsBy_65 : decode cX11_oddsBy 65 = .ok (.imul, 1) := by decide +kernel
theorem dX11_oddsBy_66 : decode cX11_oddsBy 66 = .ok (.goto 4, 3) := by decide +kernel
theorem dX11_oddsBy_69 : decode cX11_oddsBy 69 = .ok (.iload_n 3, 1) := by decide +kernel
theorem dX11_oddsBy_70 : decode cX11_oddsBy 70 = .ok (.invokestatic 123, 3) := by decide +kernel
theorem dX11_oddsBy_73 : decode cX11_oddsBy 73 = .ok (.ireturn, 1) := by decide +kernel
theorem dX11_oddsOf_0 : decode cX11_oddsOf 0 = .ok (.aload_n 0, 1) := by decide +kernel
theorem dX11_oddsOf_1 : decode cX11_oddsOf 1 = .ok (.iload_n 1, 1) := by decide +kernel
theorem dX11_oddsOf_2 : decode cX11_oddsOf 2 = .ok (.aload_n 0, 1) := by decide +kernel
theorem dX11_oddsOf_3 : decode cX11_oddsOf 3 = .ok (.iload_n 1, 1) := by decide +kernel
theorem dX11_oddsOf_4 : decode cX11_oddsOf 4 = .ok (.invokevirtual 320, 3) := by decide +kernel
theorem dX11_oddsOf_7 : decode cX11_oddsOf 7 = .ok (.invokevirtual 323, 3) := by decide +kernel
theorem dX11_oddsOf_10 : decode cX11_oddsOf 10 = .ok (.ireturn, 1) := by decide +kernel
theorem dX11_near_0 : decode cX11_near 0 = .ok (.aload_n 0, 1) := by decide +kernel
theorem dX11_near_1 : decode cX11_near 1 = .ok (.iload_n 1, 1) := by decide +kernel
theorem dX11_near_2 : decode cX11_near 2 = .ok (.invokevirtual 326, 3) := by decide +kernel
theorem dX11_near_5 : decode cX11_near 5 = .ok (.ifCond .eq 11, 3) := by decide +kernel
theorem dX11_near_8 : decode cX11_near 8 = .ok (.aload_n 0, 1) := by decide +kernel
theorem dX11_near_9 : decode cX11_near 9 = .ok (.iload_n 1, 1) := by decide +kernel
theorem dX11_near_10 : decode cX11_near 10 = .ok (.invokevirtual 320, 3) := by decide +kernel
theorem dX11_near_13 : decode cX11_near 13 = .ok (.goto 5, 3) := by decide +kernel
theorem dX11_near_16 : decode cX11_near 16 = .ok (.bipush (-2), 2) := by decide +kernel
theorem dX11_near_18 : decode cX11_near 18 = .ok (.ireturn, 1) := by decide +kernel
theorem dX11_odds_0 : decode cX11_odds 0 = .ok (.aload_n 0, 1) := by decide +kernel
theorem dX11_odds_1 : decode cX11_odds 1 = .ok (.iload_n 1, 1) := by decide +kernel
theorem dX11_odds_2 : decode cX11_odds 2 = .ok (.invokevirtual 326, 3) := by decide +kernel
theorem dX11_odds_5 : decode cX11_odds 5 = .ok (.ifCond .eq 11, 3) := by decide +kernel
theorem dX11_odds_8 : decode cX11_odds 8 = .ok (.aload_n 0, 1) := by decide +kernel
theorem dX11_odds_9 : decode cX11_odds 9 = .ok (.iload_n 1, 1) := by decide +kernel
theorem dX11_odds_10 : decode cX11_odds 10 = .ok (.invokevirtual 329, 3) := by decide +kernel
theorem dX11_odds_13 : decode cX11_odds 13 = .ok (.goto 5, 3) := by decide +kernel
theorem dX11_odds_16 : decode cX11_odds 16 = .ok (.bipush (-2), 2) := by decide +kernel
theorem dX11_odds_18 : decode cX11_odds 18 = .ok (.ireturn, 1) := by decide +kernel
theorem dX11_pieceOf_0 : decode cX11_pieceOf 0 = .ok (.iconst 0, 1) := by decide +kernel
theorem dX11_pieceOf_1 : decode cX11_pieceOf 1 = .ok (.istore 4, 2) := by decide +kernel
theorem dX11_pieceOf_3 : decode cX11_pieceOf 3 = .ok (.iconst 0, 1) := by decide +kernel
theorem dX11_pieceOf_4 : decode cX11_pieceOf 4 = .ok (.istore 5, 2) := by decide +kernel
theorem dX11_pieceOf_6 : decode cX11_pieceOf 6 = .ok (.iload 5, 2) := by decide +kernel
theorem dX11_pieceOf_8 : decode cX11_pieceOf 8 = .ok (.aload_n 0, 1) := by decide +kernel
theorem dX11_pieceOf_9 : decode cX11_pieceOf 9 = .ok (.getfield 13, 3) := by decide +kernel
theorem dX11_pieceOf_12 : decode cX11_pieceOf 12 = .ok (.iconst 5, 1) := by decide +kernel
theorem dX11_pieceOf_13 : decode cX11_pieceOf 13 = .ok (.iaload, 1) := by decide +kernel
theorem dX11_pieceOf_14 : decode cX11_pieceOf 14 = .ok (.if_icmp .ge 78, 3) := by decide +kernel
theorem dX11_pieceOf_17 : decode cX11_pieceOf 17 = .ok (.iload_n 1, 1) := by decide +kernel
theorem dX11_pieceOf_18 : decode cX11_pieceOf 18 = .ok (.iload 5, 2) := by decide +kernel
theorem dX11_pieceOf_20 : decode cX11_pieceOf 20 = .ok (.invokestatic 239, 3) := by decide +kernel
theorem dX11_pieceOf_23 : decode cX11_pieceOf 23 = .ok (.ifCond .ne 6, 3) := by decide +kernel
theorem dX11_pieceOf_26 : decode cX11_pieceOf 26 = .ok (.goto 60, 3) := by decide +kernel
theorem dX11_pieceOf_29 : decode cX11_pieceOf 29 = .ok (.aload_n 0, 1) := by decide +kernel
theorem dX11_pieceOf_30 : decode cX11_pieceOf 30 = .ok (.iload 5, 2) := by decide +kernel
theorem dX11_pieceOf_32 : decode cX11_pieceOf 32 = .ok (.iconst 0, 1) := by decide +kernel
theorem dX11_pieceOf_33 : decode cX11_pieceOf 33 = .ok (.invokevirtual 317, 3) := by decide +kernel
theorem dX11_pieceOf_36 : decode cX11_pieceOf 36 = .ok (.ifCond .ne 7, 3) := by decide +kernel
theorem dX11_pieceOf_39 : decode cX11_pieceOf 39 = .ok (.iconst 1, 1) := by decide +kernel
theorem dX11_pieceOf_40 : decode cX11_pieceOf 40 = .ok (.goto 4, 3) := by decide +kernel
theorem dX11_pieceOf_43 : decode cX11_pieceOf 43 = .ok (.iconst 0, 1) := by decide +kernel
theorem dX11_pieceOf_44 : decode cX11_pieceOf 44 = .ok (.istore 6, 2) := by decide +kernel
theorem dX11_pieceOf_46 : decode cX11_pieceOf 46 = .ok (.iload 4, 2) := by decide +kernel
theorem dX11_pieceOf_48 : decode cX11_pieceOf 48 = .ok (.aload_n 0, 1) := by decide +kernel
theorem dX11_pieceOf_49 : decode cX11_pieceOf 49 = .ok (.iload 5, 2) := by decide +kernel
theorem dX11_pieceOf_51 : decode cX11_pieceOf 51 = .ok (.iconst 1, 1) := by decide +kernel
theorem dX11_pieceOf_52 : decode cX11_pieceOf 52 = .ok (.invokevirtual 317, 3) := by decide +kernel
theorem dX11_pieceOf_55 : decode cX11_pieceOf 55 = .ok (.iload 6, 2) := by decide +kernel
theorem dX11_pieceOf_57 : decode cX11_pieceOf 57 = .ok (.ifCond .eq 7, 3) := by decide +kernel
theorem dX11_pieceOf_60 : decode cX11_pieceOf 60 = .ok (.iload_n 2, 1) := by decide +kernel
theorem dX11_pieceOf_61 : decode cX11_pieceOf 61 = .ok (.goto 4, 3) := by decide +kernel
theorem dX11_pieceOf_64 : decode cX11_pieceOf 64 = .ok (.iload_n 3, 1) := by decide +kernel
theorem dX11_pieceOf_65 : decode cX11_pieceOf 65 = .ok (.if_icmp .gt 17, 3) := by decide +kernel
theorem dX11_pieceOf_68 : decode cX11_pieceOf 68 = .ok (.iload 6, 2) := by decide +kernel
theorem dX11_pieceOf_70 : decode cX11_pieceOf 70 = .ok (.ifCond .eq 7, 3) := by decide +kernel
theorem dX11_pieceOf_73 : decode cX11_pieceOf 73 = .ok (.iconst 1, 1) := by decide +kernel
theorem dX11_pieceOf_74 : decode cX11_pieceOf 74 = .ok (.goto 9, 3) := by decide +kernel
theorem dX11_pieceOf_77 : decode cX11_pieceOf 77 = .ok (.bipush 8, 2) := by decide +kernel
theorem dX11_pieceOf_79 : decode cX11_pieceOf 79 = .ok (.goto 4, 3) := by decide +kernel
theorem dX11_pieceOf_82 : decode cX11_pieceOf 82 = .ok (.iconst 0, 1) := by decide +kernel
theorem dX11_pieceOf_83 : decode cX11_pieceOf 83 = .ok (.iadd, 1) := by decide +kernel
theorem dX11_pieceOf_84 : decode cX11_pieceOf 84 = .ok (.istore 4, 2) := by decide +kernel
theorem dX11_pieceOf_86 : decode cX11_pieceOf 86 = .ok (.iinc 5 1, 3) := by decide +kernel
theorem dX11_pieceOf_89 : decode cX11_pieceOf 89 = .ok (.goto (-83), 3) := by decide +kernel
theorem dX11_pieceOf_92 : decode cX11_pieceOf 92 = .ok (.iload 4, 2) := by decide +kernel
theorem dX11_pieceOf_94 : decode cX11_pieceOf 94 = .ok (.ireturn, 1) := by decide +kernel
theorem dX11_piece_0 : decode cX11_piece 0 = .ok (.aload_n 0, 1) := by decide +kernel
theorem dX11_piece_1 : decode cX11_piece 1 = .ok (.iload_n 1, 1) := by decide +kernel
theorem dX11_piece_2 : decode cX11_piece 2 = .ok (.invokevirtual 311, 3) := by decide +kernel
theorem dX11_piece_5 : decode cX11_piece 5 = .ok (.ifCond .eq 22, 3) := by decide +kernel
theorem dX11_piece_8 : decode cX11_piece 8 = .ok (.aload_n 0, 1) := by decide +kernel
theorem dX11_piece_9 : decode cX11_piece 9 = .ok (.iload_n 2, 1) := by decide +kernel
theorem dX11_piece_10 : decode cX11_piece 10 = .ok (.iload_n 3, 1) := by decide +kernel
theorem dX11_piece_11 : decode cX11_piece 11 = .ok (.invokevirtual 281, 3) := by decide +kernel
theorem dX11_piece_14 : decode cX11_piece 14 = .ok (.ifCond .eq 13, 3) := by decide +kernel
theorem dX11_piece_17 : decode cX11_piece 17 = .ok (.aload_n 0, 1) := by decide +kernel
theorem dX11_piece_18 : decode cX11_piece 18 = .ok (.iload_n 1, 1) := by decide +kernel
theorem dX11_piece_19 : decode cX11_piece 19 = .ok (.iload_n 2, 1) := by decide +kernel
theorem dX11_piece_20 : decode cX11_piece 20 = .ok (.iload_n 3, 1) := by decide +kernel
theorem dX11_piece_21 : decode cX11_piece 21 = .ok (.invokevirtual 332, 3) := by decide +kernel
theorem dX11_piece_24 : decode cX11_piece 24 = .ok (.goto 5, 3) := by decide +kernel
theorem dX11_piece_27 : decode cX11_piece 27 = .ok (.bipush (-2), 2) := by decide +kernel
theorem dX11_piece_29 : decode cX11_piece 29 = .ok (.ireturn, 1) := by decide +kernel
theorem dX11_pieces_0 : decode cX11_pieces 0 = .ok (.aload_n 0, 1) := by decide +kernel
theorem dX11_pieces_1 : decode cX11_pieces 1 = .ok (.iload_n 1, 1) := by decide +kernel
theorem dX11_pieces_2 : decode cX11_pieces 2 = .ok (.invokevirtual 311, 3) := by decide +kernel
theorem dX11_pieces_5 : decode cX11_pieces 5 = .ok (.ifCond .ne 6, 3) := by decide +kernel
theorem dX11_pieces_8 : decode cX11_pieces 8 = .ok (.bipush (-2), 2) := by decide +kernel
theorem dX11_pieces_10 : decode cX11_pieces 10 = .ok (.ireturn, 1) := by decide +kernel
theorem dX11_pieces_11 : decode cX11_pieces 11 = .ok (.lconst 0, 1) := by decide +kernel
theorem dX11_pieces_12 : decode cX11_pieces 12 = .ok (.lstore_n 2, 1) := by decide +kernel
theorem dX11_pieces_13 : decode cX11_pieces 13 = .ok (.iconst 0, 1) := by decide +kernel
theorem dX11_pieces_14 : decode cX11_pieces 14 = .ok (.istore 4, 2) := by decide +kernel
theorem dX11_pieces_16 : decode cX11_pieces 16 = .ok (.iload 4, 2) := by decide +kernel
theorem dX11_pieces_18 : decode cX11_pieces 18 = .ok (.aload_n 0, 1) := by decide +kernel
theorem dX11_pieces_19 : decode cX11_pieces 19 = .ok (.getfield 13, 3) := by decide +kernel
theorem dX11_pieces_22 : decode cX11_pieces 22 = .ok (.iconst 2, 1) := by decide +kernel
theorem dX11_pieces_23 : decode cX11_pieces 23 = .ok (.iaload, 1) := by decide +kernel
theorem dX11_pieces_24 : decode cX11_pieces 24 = .ok (.if_icmp .ge 43, 3) := by decide +kernel
theorem dX11_pieces_27 : decode cX11_pieces 27 = .ok (.iconst 0, 1) := by decide +kernel
theorem dX11_pieces_28 : decode cX11_pieces 28 = .ok (.istore 5, 2) := by decide +kernel
theorem dX11_pieces_30 : decode cX11_pieces 30 = .ok (.iload 5, 2) := by decide +kernel
theorem dX11_pieces_32 : decode cX11_pieces 32 = .ok (.aload_n 0, 1) := by decide +kernel
theorem dX11_pieces_33 : decode cX11_pieces 33 = .ok (.getfield 13, 3) := by decide +kernel
theorem dX11_pieces_36 : decode cX11_pieces 36 = .ok (.iconst 1, 1) := by decide +kernel
theorem dX11_pieces_37 : decode cX11_pieces 37 = .ok (.iaload, 1) := by decide +kernel
theorem dX11_pieces_38 : decode cX11_pieces 38 = .ok (.if_icmp .ge 23, 3) := by decide +kernel
theorem dX11_pieces_41 : decode cX11_pieces 41 = .ok (.lload_n 2, 1) := by decide +kernel
theorem dX11_pieces_42 : decode cX11_pieces 42 = .ok (.lconst 1, 1) := by decide +kernel
theorem dX11_pieces_43 : decode cX11_pieces 43 = .ok (.aload_n 0, 1) := by decide +kernel
theorem dX11_pieces_44 : decode cX11_pieces 44 = .ok (.iload_n 1, 1) := by decide +kernel
theorem dX11_pieces_45 : decode cX11_pieces 45 = .ok (.iload 5, 2) := by decide +kernel
theorem dX11_pieces_47 : decode cX11_pieces 47 = .ok (.iload 4, 2) := by decide +kernel
theorem dX11_pieces_49 : decode cX11_pieces 49 = .ok (.invokevirtual 332, 3) := by decide +kernel
theorem dX11_pieces_52 : decode cX11_pieces 52 = .ok (.lshl, 1) := by decide +kernel
theorem dX11_pieces_53 : decode cX11_pieces 53 = .ok (.lor, 1) := by decide +kernel
theorem dX11_pieces_54 : decode cX11_pieces 54 = .ok (.lstore_n 2, 1) := by decide +kernel
theorem dX11_pieces_55 : decode cX11_pieces 55 = .ok (.iinc 5 1, 3) := by decide +kernel
theorem dX11_pieces_58 : decode cX11_pieces 58 = .ok (.goto (-28), 3) := by decide +kernel
theorem dX11_pieces_61 : decode cX11_pieces 61 = .ok (.iinc 4 1, 3) := by decide +kernel
theorem dX11_pieces_64 : decode cX11_pieces 64 = .ok (.goto (-48), 3) := by decide +kernel
theorem dX11_pieces_67 : decode cX11_pieces 67 = .ok (.iconst 0, 1) := by decide +kernel
theorem dX11_pieces_68 : decode cX11_pieces 68 = .ok (.istore 4, 2) := by decide +kernel
theorem dX11_pieces_70 : decode cX11_pieces 70 = .ok (.iconst 0, 1) := by decide +kernel
theorem dX11_pieces_71 : decode cX11_pieces 71 = .ok (.istore 5, 2) := by decide +kernel
theorem dX11_pieces_73 : decode cX11_pieces 73 = .ok (.iload 5, 2) := by decide +kernel
theorem dX11_pieces_75 : decode cX11_pieces 75 = .ok (.bipush 64, 2) := by decide +kernel
theorem dX11_pieces_77 : decode cX11_pieces 77 = .ok (.if_icmp .ge 21, 3) := by decide +kernel
theorem dX11_pieces_80 : decode cX11_pieces 80 = .ok (.iload 4, 2) := by decide +kernel
theorem dX11_pieces_82 : decode cX11_pieces 82 = .ok (.lload_n 2, 1) := by decide +kernel
theorem dX11_pieces_83 : decode cX11_pieces 83 = .ok (.iload 5, 2) := by decide +kernel
theorem dX11_pieces_85 : decode cX11_pieces 85 = .ok (.lshr, 1) := by decide +kernel
theorem dX11_pieces_86 : decode cX11_pieces 86 = .ok (.lconst 1, 1) := by decide +kernel
theorem dX11_pieces_87 : decode cX11_pieces 87 = .ok (.land, 1) := by decide +kernel
theorem dX11_pieces_88 : decode cX11_pieces 88 = .ok (.l2i, 1) := by decide +kernel
theorem dX11_pieces_89 : decode cX11_pieces 89 = .ok (.iadd, 1) := by decide +kernel
theorem dX11_pieces_90 : decode cX11_pieces 90 = .ok (.istore 4, 2) := by decide +kernel
theorem dX11_pieces_92 : decode cX11_pieces 92 = .ok (.iinc 5 1, 3) := by decide +kernel
theorem dX11_pieces_95 : decode cX11_pieces 95 = .ok (.goto (-22), 3) := by decide +kernel
theorem dX11_pieces_98 : decode cX11_pieces 98 = .ok (.iload 4, 2) := by decide +kernel
theorem dX11_pieces_100 : decode cX11_pieces 100 = .ok (.ireturn, 1) := by decide +kernel
theorem dX11_beginParts_0 : decode cX11_beginParts 0 = .ok (.iconst 0, 1) := by decide +kernel
theorem dX11_beginParts_1 : decode cX11_beginParts 1 = .ok (.istore_n 1, 1) := by decide +kernel
theorem dX11_beginParts_2 : decode cX11_beginParts 2 = .ok (.iload_n 1, 1) := by decide +kernel
theorem dX11_beginParts_3 : decode cX11_beginParts 3 = .ok (.sipush 128, 3) := by decide +kernel
theorem dX11_beginParts_6 : decode cX11_beginParts 6 = .ok (.if_icmp .ge 16, 3) := by decide +kernel
theorem dX11_beginParts_9 : decode cX11_beginParts 9 = .ok (.aload_n 0, 1) := by decide +kernel
theorem dX11_beginParts_10 : decode cX11_beginParts 10 = .ok (.getfield 37, 3) := by decide +kernel
theorem dX11_beginParts_13 : decode cX11_beginParts 13 = .ok (.iload_n 1, 1) := by decide +kernel
theorem dX11_beginParts_14 : decode cX11_beginParts 14 = .ok (.lconst 0, 1) := by decide +kernel
theorem dX11_beginParts_15 : decode cX11_beginParts 15 = .ok (.lastore, 1) := by decide +kernel
theorem dX11_beginParts_16 : decode cX11_beginParts 16 = .ok (.iinc 1 1, 3) := by decide +kernel
theorem dX11_beginParts_19 : decode cX11_beginParts 19 = .ok (.goto (-17), 3) := by decide +kernel
theorem dX11_beginParts_22 : decode cX11_beginParts 22 = .ok (.aload_n 0, 1) := by decide +kernel
theorem dX11_beginParts_23 : decode cX11_beginParts 23 = .ok (.getfield 37, 3) := by decide +kernel
theorem dX11_beginParts_26 : decode cX11_beginParts 26 = .ok (.aload_n 0, 1) := by decide +kernel
theorem dX11_beginParts_27 : decode cX11_beginParts 27 = .ok (.getfield 13, 3) := by decide +kernel
theorem dX11_beginParts_30 : decode cX11_beginParts 30 = .ok (.bipush 18, 2) := by decide +kernel
theorem dX11_beginParts_32 : decode cX11_beginParts 32 = .ok (.iaload, 1) := by decide +kernel
theorem dX11_beginParts_33 : decode cX11_beginParts 33 = .ok (.ldc2_w 336, 3) := by decide +kernel
theorem dX11_beginParts_36 : decode cX11_beginParts 36 = .ok (.lastore, 1) := by decide +kernel
theorem dX11_beginParts_37 : decode cX11_beginParts 37 = .ok (.iconst 0, 1) := by decide +kernel
theorem dX11_beginParts_38 : decode cX11_beginParts 38 = .ok (.istore_n 1, 1) := by decide +kernel
theorem dX11_beginParts_39 : decode cX11_beginParts 39 = .ok (.iload_n 1, 1) := by decide +kernel
theorem dX11_beginParts_40 : decode cX11_beginParts 40 = .ok (.aload_n 0, 1) := by decide +kernel
theorem dX11_beginParts_41 : decode cX11_beginParts 41 = .ok (.getfield 13, 3) := by decide +kernel
theorem dX11_beginParts_44 : decode cX11_beginParts 44 = .ok (.iconst 5, 1) := by decide +kernel
theorem dX11_beginParts_45 : decode cX11_beginParts 45 = .ok (.iaload, 1) := by decide +kernel
theorem dX11_beginParts_46 : decode cX11_beginParts 46 = .ok (.if_icmp .ge 20, 3) := by decide +kernel
theorem dX11_beginParts_49 : decode cX11_beginParts 49 = .ok (.aload_n 0, 1) := by decide +kernel
theorem dX11_beginParts_50 : decode cX11_beginParts 50 = .ok (.getfield 41, 3) := by decide +kernel
theorem dX11_beginParts_53 : decode cX11_beginParts 53 = .ok (.iload_n 1, 1) := by decide +kernel
theorem dX11_beginParts_54 : decode cX11_beginParts 54 = .ok (.aload_n 0, 1) := by decide +kernel
theorem dX11_beginParts_55 : decode cX11_beginParts 55 = .ok (.iload_n 1, 1) := by decide +kernel
theorem dX11_beginParts_56 : decode cX11_beginParts 56 = .ok (.invokevirtual 329, 3) := by decide +kernel
theorem dX11_beginParts_59 : decode cX11_beginParts 59 = .ok (.iastore, 1) := by decide +kernel
theorem dX11_beginParts_60 : decode cX11_beginParts 60 = .ok (.iinc 1 1, 3) := by decide +kernel
theorem dX11_beginParts_63 : decode cX11_beginParts 63 = .ok (.goto (-24), 3) := by decide +kernel
theorem dX11_beginParts_66 : decode cX11_beginParts 66 = .ok (.return_, 1) := by decide +kernel
theorem dX11_hour_0 : decode cX11_hour 0 = .ok (.iconst 0, 1) := by decide +kernel
theorem dX11_hour_1 : decode cX11_hour 1 = .ok (.istore_n 1, 1) := by decide +kernel
theorem dX11_hour_2 : decode cX11_hour 2 = .ok (.iload_n 1, 1) := by decide +kernel
theorem dX11_hour_3 : decode cX11_hour 3 = .ok (.aload_n 0, 1) := by decide +kernel
theorem dX11_hour_4 : decode cX11_hour 4 = .ok (.getfield 13, 3) := by decide +kernel
theorem dX11_hour_7 : decode cX11_hour 7 = .ok (.iconst 5, 1) := by decide +kernel
theorem dX11_hour_8 : decode cX11_hour 8 = .ok (.iaload, 1) := by decide +kernel
theorem dX11_hour_9 : decode cX11_hour 9 = .ok (.if_icmp .ge 111, 3) := by decide +kernel
theorem dX11_hour_12 : decode cX11_hour 12 = .ok (.iconst 0, 1) := by decide +kernel
theorem dX11_hour_13 : decode cX11_hour 13 = .ok (.istore_n 2, 1) := by decide +kernel
theorem dX11_hour_14 : decode cX11_hour 14 = .ok (.iload_n 2, 1) := by decide +kernel
theorem dX11_hour_15 : decode cX11_hour 15 = .ok (.aload_n 0, 1) := by decide +kernel
theorem dX11_hour_16 : decode cX11_hour 16 = .ok (.invokevirtual 274, 3) := by decide +kernel
theorem dX11_hour_19 : decode cX11_hour 19 = .ok (.if_icmp .ge 95, 3) := by decide +kernel
theorem dX11_hour_22 : decode cX11_hour 22 = .ok (.iload_n 2, 1) := by decide +kernel
theorem dX11_hour_23 : decode cX11_hour 23 = .ok (.iload_n 1, 1) := by decide +kernel
theorem dX11_hour_24 : decode cX11_hour 24 = .ok (.invokestatic 239, 3) := by decide +kernel
theorem dX11_hour_27 : decode cX11_hour 27 = .ok (.ifCond .eq 6, 3) := by decide +kernel
theorem dX11_hour_30 : decode cX11_hour 30 = .ok (.goto 78, 3) := by decide +kernel
theorem dX11_hour_33 : decode cX11_hour 33 = .ok (.iload_n 2, 1) := by decide +kernel
theorem dX11_hour_34 : decode cX11_hour 34 = .ok (.iconst 1, 1) := by decide +kernel
theorem dX11_hour_35 : decode cX11_hour 35 = .ok (.iload_n 1, 1) := by decide +kernel
theorem dX11_hour_36 : decode cX11_hour 36 = .ok (.ishl, 1) := by decide +kernel
theorem dX11_hour_37 : decode cX11_hour 37 = .ok (.ior, 1) := by decide +kernel
theorem dX11_hour_38 : decode cX11_hour 38 = .ok (.istore_n 3, 1) := by decide +kernel
theorem dX11_hour_39 : decode cX11_hour 39 = .ok (.aload_n 0, 1) := by decide +kernel
theorem dX11_hour_40 : decode cX11_hour 40 = .ok (.getfield 37, 3) := by decide +kernel
theorem dX11_hour_43 : decode cX11_hour 43 = .ok (.iload_n 2, 1) := by decide +kernel
theorem dX11_hour_44 : decode cX11_hour 44 = .ok (.laload, 1) := by decide +kernel
theorem dX11_hour_45 : decode cX11_hour 45 = .ok (.aload_n 0, 1) := by decide +kernel
theorem dX11_hour_46 : decode cX11_hour 46 = .ok (.getfield 41, 3) := by decide +kernel
theorem dX11_hour_49 : decode cX11_hour 49 = .ok (.iload_n 1, 1) := by decide +kernel
theorem dX11_hour_50 : decode cX11_hour 50 = .ok (.iaload, 1) := by decide +kernel
theorem dX11_hour_51 : decode cX11_hour 51 = .ok (.i2l, 1) := by decide +kernel
theorem dX11_hour_52 : decode cX11_hour 52 = .ok (.lmul, 1) := by decide +kernel
theorem dX11_hour_53 : decode cX11_hour 53 = .ok (.ldc2_w 338, 3) := by decide +kernel
theorem dX11_hour_56 : decode cX11_hour 56 = .ok (.ldiv, 1) := by decide +kernel
theorem dX11_hour_57 : decode cX11_hour 57 = .ok (.lstore 4, 2) := by decide +kernel
theorem dX11_hour_59 : decode cX11_hour 59 = .ok (.aload_n 0, 1) := by decide +kernel
theorem dX11_hour_60 : decode cX11_hour 60 = .ok (.getfield 37, 3) := by decide +kernel
theorem dX11_hour_63 : decode cX11_hour 63 = .ok (.iload_n 3, 1) := by decide +kernel
theorem dX11_hour_64 : decode cX11_hour 64 = .ok (.laload, 1) := by decide +kernel
theorem dX11_hour_65 : decode cX11_hour 65 = .ok (.aload_n 0, 1) := by decide +kernel
theorem dX11_hour_66 : decode cX11_hour 66 = .ok (.getfield 13, 3) := by decide +kernel
theorem dX11_hour_69 : decode cX11_hour 69 = .ok (.bipush 10, 2) := by decide +kernel
theorem dX11_hour_71 : decode cX11_hour 71 = .ok (.iaload, 1) := by decide +kernel
theorem dX11_hour_72 : decode cX11_hour 72 = .ok (.i2l, 1) := by decide +kernel
theorem dX11_hour_73 : decode cX11_hour 73 = .ok (.lmul, 1) := by decide +kernel
theorem dX11_hour_74 : decode cX11_hour 74 = .ok (.ldc2_w 340, 3) := by decide +kernel
theorem dX11_hour_77 : decode cX11_hour 77 = .ok (.ldiv, 1) := by decide +kernel
theorem dX11_hour_78 : decode cX11_hour 78 = .ok (.lstore 6, 2) := by decide +kernel
theorem dX11_hour_80 : decode cX11_hour 80 = .ok (.aload_n 0, 1) := by decide +kernel
theorem dX11_hour_81 : decode cX11_hour 81 = .ok (.getfield 37, 3) := by decide +kernel
theorem dX11_hour_84 : decode cX11_hour 84 = .ok (.iload_n 2, 1) := by decide +kernel
theorem dX11_hour_85 : decode cX11_hour 85 = .ok (.dup2, 1) := by decide +kernel
theorem dX11_hour_86 : decode cX11_hour 86 = .ok (.laload, 1) := by decide +kernel
theorem dX11_hour_87 : decode cX11_hour 87 = .ok (.lload 6, 2) := by decide +kernel
theorem dX11_hour_89 : decode cX11_hour 89 = .ok (.lload 4, 2) := by decide +kernel
theorem dX11_hour_91 : decode cX11_hour 91 = .ok (.lsub, 1) := by decide +kernel
theorem dX11_hour_92 : decode cX11_hour 92 = .ok (.ladd, 1) := by decide +kernel
theorem dX11_hour_93 : decode cX11_hour 93 = .ok (.lastore, 1) := by decide +kernel
theorem dX11_hour_94 : decode cX11_hour 94 = .ok (.aload_n 0, 1) := by decide +kernel
theorem dX11_hour_95 : decode cX11_hour 95 = .ok (.getfield 37, 3) := by decide +kernel
theorem dX11_hour_98 : decode cX11_hour 98 = .ok (.iload_n 3, 1) := by decide +kernel
theorem dX11_hour_99 : decode cX11_hour 99 = .ok (.dup2, 1) := by decide +kernel
theorem dX11_hour_100 : decode cX11_hour 100 = .ok (.laload, 1) := by decide +kernel
theorem dX11_hour_101 : decode cX11_hour 101 = .ok (.lload 4, 2) := by decide +kernel
theorem dX11_hour_103 : decode cX11_hour 103 = .ok (.lload 6, 2) := by decide +kernel
theorem dX11_hour_105 : decode cX11_hour 105 = .ok (.lsub, 1) := by decide +kernel
theorem dX11_hour_106 : decode cX11_hour 106 = .ok (.ladd, 1) := by decide +kernel
theorem dX11_hour_107 : decode cX11_hour 107 = .ok (.lastore, 1) := by decide +kernel
theorem dX11_hour_108 : decode cX11_hour 108 = .ok (.iinc 2 1, 3) := by decide +kernel
theorem dX11_hour_111 : decode cX11_hour 111 = .ok (.goto (-97), 3) := by decide +kernel
theorem dX11_hour_114 : decode cX11_hour 114 = .ok (.iinc 1 1, 3) := by decide +kernel
theorem dX11_hour_117 : decode cX11_hour 117 = .ok (.goto (-115), 3) := by decide +kernel
theorem dX11_hour_120 : decode cX11_hour 120 = .ok (.return_, 1) := by decide +kernel
theorem dX11_part_0 : decode cX11_part 0 = .ok (.aload_n 0, 1) := by decide +kernel
theorem dX11_part_1 : decode cX11_part 1 = .ok (.iload_n 1, 1) := by decide +kernel
theorem dX11_part_2 : decode cX11_part 2 = .ok (.invokevirtual 311, 3) := by decide +kernel
theorem dX11_part_5 : decode cX11_part 5 = .ok (.ifCond .ne 7, 3) := by decide +kernel
theorem dX11_part_8 : decode cX11_part 8 = .ok (.ldc2_w 342, 3) := by decide +kernel
theorem dX11_part_11 : decode cX11_part 11 = .ok (.lreturn, 1) := by decide +kernel
theorem dX11_part_12 : decode cX11_part 12 = .ok (.aload_n 0, 1) := by decide +kernel
theorem dX11_part_13 : decode cX11_part 13 = .ok (.invokevirtual 344, 3) := by decide +kernel
theorem dX11_part_16 : decode cX11_part 16 = .ok (.aload_n 0, 1) := by decide +kernel
theorem dX11_part_17 : decode cX11_part 17 = .ok (.invokevirtual 347, 3) := by decide +kernel
theorem dX11_part_20 : decode cX11_part 20 = .ok (.aload_n 0, 1) := by decide +kernel
theorem dX11_part_21 : decode cX11_part 21 = .ok (.getfield 37, 3) := by decide +kernel
theorem dX11_part_24 : decode cX11_part 24 = .ok (.iload_n 1, 1) := by decide +kernel
theorem dX11_part_25 : decode cX11_part 25 = .ok (.laload, 1) := by decide +kernel
theorem dX11_part_26 : decode cX11_part 26 = .ok (.lreturn, 1) := by decide +kernel
theorem dX11_ones_0 : decode cX11_ones 0 = .ok (.iconst 0, 1) := by decide +kernel
theorem dX11_ones_1 : decode cX11_ones 1 = .ok (.istore_n 1, 1) := by decide +kernel
theorem dX11_ones_2 : decode cX11_ones 2 = .ok (.iconst 0, 1) := by decide +kernel
theorem dX11_ones_3 : decode cX11_ones 3 = .ok (.istore_n 2, 1) := by decide +kernel
theorem dX11_ones_4 : decode cX11_ones 4 = .ok (.iload_n 2, 1) := by decide +kernel
theorem dX11_ones_5 : decode cX11_ones 5 = .ok (.bipush 7, 2) := by decide +kernel
theorem dX11_ones_7 : decode cX11_ones 7 = .ok (.if_icmp .ge 17, 3) := by decide +kernel
theorem dX11_ones_10 : decode cX11_ones 10 = .ok (.iload_n 1, 1) := by decide +kernel
theorem dX11_ones_11 : decode cX11_ones 11 = .ok (.iload_n 0, 1) := by decide +kernel
theorem dX11_ones_12 : decode cX11_ones 12 = .ok (.iload_n 2, 1) := by decide +kernel
theorem dX11_ones_13 : decode cX11_ones 13 = .ok (.ishr, 1) := by decide +kernel
theorem dX11_ones_14 : decode cX11_ones 14 = .ok (.iconst 1, 1) := by decide +kernel
theorem dX11_ones_15 : decode cX11_ones 15 = .ok (.iand, 1) := by decide +kernel
theorem dX11_ones_16 : decode cX11_ones 16 = .ok (.iadd, 1) := by decide +kernel
theorem dX11_ones_17 : decode cX11_ones 17 = .ok (.istore_n 1, 1) := by decide +kernel
theorem dX11_ones_18 : decode cX11_ones 18 = .ok (.iinc 2 1, 3) := by decide +kernel
theorem dX11_ones_21 : decode cX11_ones 21 = .ok (.goto (-17), 3) := by decide +kernel
theorem dX11_ones_24 : decode cX11_ones 24 = .ok (.iload_n 1, 1) := by decide +kernel
theorem dX11_ones_25 : decode cX11_ones 25 = .ok (.ireturn, 1) := by decide +kernel
theorem dX11_with_0 : decode cX11_with 0 = .ok (.aload_n 0, 1) := by decide +kernel
theorem dX11_with_1 : decode cX11_with 1 = .ok (.invokevirtual 271, 3) := by decide +kernel
theorem dX11_with_4 : decode cX11_with 4 = .ok (.ifCond .eq 19, 3) := by decide +kernel
theorem dX11_with_7 : decode cX11_with 7 = .ok (.iload_n 1, 1) := by decide +kernel
theorem dX11_with_8 : decode cX11_with 8 = .ok (.i2l, 1) := by decide +kernel
theorem dX11_with_9 : decode cX11_with 9 = .ok (.lconst 0, 1) := by decide +kernel
theorem dX11_with_10 : decode cX11_with 10 = .ok (.aload_n 0, 1) := by decide +kernel
theorem dX11_with_11 : decode cX11_with 11 = .ok (.getfield 13, 3) := by decide +kernel
theorem dX11_with_14 : decode cX11_with 14 = .ok (.iconst 5, 1) := by decide +kernel
theorem dX11_with_15 : decode cX11_with 15 = .ok (.iaload, 1) := by decide +kernel
theorem dX11_with_16 : decode cX11_with 16 = .ok (.i2l, 1) := by decide +kernel
theorem dX11_with_17 : decode cX11_with 17 = .ok (.invokestatic 84, 3) := by decide +kernel
theorem dX11_with_20 : decode cX11_with 20 = .ok (.ifCond .ne 7, 3) := by decide +kernel
theorem dX11_with_23 : decode cX11_with 23 = .ok (.ldc2_w 342, 3) := by decide +kernel
theorem dX11_with_26 : decode cX11_with 26 = .ok (.lreturn, 1) := by decide +kernel
theorem dX11_with_27 : decode cX11_with 27 = .ok (.aload_n 0, 1) := by decide +kernel
theorem dX11_with_28 : decode cX11_with 28 = .ok (.invokevirtual 344, 3) := by decide +kernel
theorem dX11_with_31 : decode cX11_with 31 = .ok (.aload_n 0, 1) := by decide +kernel
theorem dX11_with_32 : decode cX11_with 32 = .ok (.invokevirtual 347, 3) := by decide +kernel
theorem dX11_with_35 : decode cX11_with 35 = .ok (.lconst 0, 1) := by decide +kernel
theorem dX11_with_36 : decode cX11_with 36 = .ok (.lstore_n 3, 1) := by decide +kernel
theorem dX11_with_37 : decode cX11_with 37 = .ok (.iconst 0, 1) := by decide +kernel
theorem dX11_with_38 : decode cX11_with 38 = .ok (.istore 5, 2) := by decide +kernel
theorem dX11_with_40 : decode cX11_with 40 = .ok (.iload 5, 2) := by decide +kernel
theorem dX11_with_42 : decode cX11_with 42 = .ok (.aload_n 0, 1) := by decide +kernel
theorem dX11_with_43 : decode cX11_with 43 = .ok (.invokevirtual 274, 3) := by decide +kernel
theorem dX11_with_46 : decode cX11_with 46 = .ok (.if_icmp .ge 41, 3) := by decide +kernel
theorem dX11_with_49 : decode cX11_with 49 = .ok (.iload 5, 2) := by decide +kernel
theorem dX11_with_51 : decode cX11_with 51 = .ok (.invokestatic 350, 3) := by decide +kernel
theorem dX11_with_54 : decode cX11_with 54 = .ok (.iload_n 1, 1) := by decide +kernel
theorem dX11_with_55 : decode cX11_with 55 = .ok (.if_icmp .ne 26, 3) := by decide +kernel
theorem dX11_with_58 : decode cX11_with 58 = .ok (.iload_n 2, 1) := by decide +kernel
theorem dX11_with_59 : decode cX11_with 59 = .ok (.ifCond .eq 12, 3) := by decide +kernel
theorem dX11_with_62 : decode cX11_with 62 = .ok (.aload_n 0, 1) := by decide +kernel
theorem dX11_with_63 : decode cX11_with 63 = .ok (.iload 5, 2) := by decide +kernel
theorem dX11_with_65 : decode cX11_with 65 = .ok (.invokevirtual 353, 3) := by decide +kernel
theorem dX11_with_68 : decode cX11_with 68 = .ok (.ifCond .ne 13, 3) := by decide +kernel
theorem dX11_with_71 : decode cX11_with 71 = .ok (.lload_n 3, 1) := by decide +kernel
theorem dX11_with_72 : decode cX11_with 72 = .ok (.aload_n 0, 1) := by decide +kernel
theorem dX11_with_73 : decode cX11_with 73 = .ok (.getfield 37, 3) := by decide +kernel
theorem dX11_with_76 : decode cX11_with 76 = .ok (.iload 5, 2) := by decide +kernel
theorem dX11_with_78 : decode cX11_with 78 = .ok (.laload, 1) := by decide +kernel
theorem dX11_with_79 : decode cX11_with 79 = .ok (.ladd, 1) := by decide +kernel
theorem dX11_with_80 : decode cX11_with 80 = .ok (.lstore_n 3, 1) := by decide +kernel
theorem dX11_with_81 : decode cX11_with 81 = .ok (.iinc 5 1, 3) := by decide +kernel
theorem dX11_with_84 : decode cX11_with 84 = .ok (.goto (-44), 3) := by decide +kernel
theorem dX11_with_87 : decode cX11_with 87 = .ok (.lload_n 3, 1) := by decide +kernel
theorem dX11_with_88 : decode cX11_with 88 = .ok (.lreturn, 1) := by decide +kernel
theorem dX11_isTold_0 : decode cX11_isTold 0 = .ok (.iconst 0, 1) := by decide +kernel
theorem dX11_isTold_1 : decode cX11_isTold 1 = .ok (.istore_n 2, 1) := by decide +kernel
theorem dX11_isTold_2 : decode cX11_isTold 2 = .ok (.iload_n 2, 1) := by decide +kernel
theorem dX11_isTold_3 : decode cX11_isTold 3 = .ok (.aload_n 0, 1) := by decide +kernel
theorem dX11_isTold_4 : decode cX11_isTold 4 = .ok (.getfield 13, 3) := by decide +kernel
theorem dX11_isTold_7 : decode cX11_isTold 7 = .ok (.bipush 6, 2) := by decide +kernel
theorem dX11_isTold_9 : decode cX11_isTold 9 = .ok (.iaload, 1) := by decide +kernel
theorem dX11_isTold_10 : decode cX11_isTold 10 = .ok (.if_icmp .ge 21, 3) := by decide +kernel
theorem dX11_isTold_13 : decode cX11_isTold 13 = .ok (.aload_n 0, 1) := by decide +kernel
theorem dX11_isTold_14 : decode cX11_isTold 14 = .ok (.iload_n 2, 1) := by decide +kernel
theorem dX11_isTold_15 : decode cX11_isTold 15 = .ok (.iconst 0, 1) := by decide +kernel
theorem dX11_isTold_16 : decode cX11_isTold 16 = .ok (.invokevirtual 297, 3) := by decide +kernel
theorem dX11_isTold_19 : decode cX11_isTold 19 = .ok (.iload_n 1, 1) := by decide +kernel
theorem dX11_isTold_20 : decode cX11_isTold 20 = .ok (.if_icmp .ne 5, 3) := by decide +kernel
theorem dX11_isTold_23 : decode cX11_isTold 23 = .ok (.iconst 1, 1) := by decide +kernel
theorem dX11_isTold_24 : decode cX11_isTold 24 = .ok (.ireturn, 1) := by decide +kernel
theorem dX11_isTold_25 : decode cX11_isTold 25 = .ok (.iinc 2 1, 3) := by decide +kernel
theorem dX11_isTold_28 : decode cX11_isTold 28 = .ok (.goto (-26), 3) := by decide +kernel
theorem dX11_isTold_31 : decode cX11_isTold 31 = .ok (.iconst 0, 1) := by decide +kernel
theorem dX11_isTold_32 : decode cX11_isTold 32 = .ok (.ireturn, 1) := by decide +kernel
theorem dX11_peopleOn_0 : decode cX11_peopleOn 0 = .ok (.iconst 0, 1) := by decide +kernel
theorem dX11_peopleOn_1 : decode cX11_peopleOn 1 = .ok (.istore_n 3, 1) := by decide +kernel
theorem dX11_peopleOn_2 : decode cX11_peopleOn 2 = .ok (.iconst 0, 1) := by decide +kernel
theorem dX11_peopleOn_3 : decode cX11_peopleOn 3 = .ok (.istore 4, 2) := by decide +kernel
theorem dX11_peopleOn_5 : decode cX11_peopleOn 5 = .ok (.iload 4, 2) := by decide +kernel
theorem dX11_peopleOn_7 : decode cX11_peopleOn 7 = .ok (.iconst 4, 1) := by decide +kernel
theorem dX11_peopleOn_8 : decode cX11_peopleOn 8 = .ok (.if_icmp .ge 46, 3) := by decide +kernel
theorem dX11_peopleOn_11 : decode cX11_peopleOn 11 = .ok (.iload_n 3, 1) := by decide +kernel
theorem dX11_peopleOn_12 : decode cX11_peopleOn 12 = .ok (.aload_n 0, 1) := by decide +kernel
theorem dX11_peopleOn_13 : decode cX11_peopleOn 13 = .ok (.iload_n 1, 1) := by decide +kernel
theorem dX11_peopleOn_14 : decode cX11_peopleOn 14 = .ok (.aload_n 0, 1) := by decide +kernel
theorem dX11_peopleOn_15 : decode cX11_peopleOn 15 = .ok (.iload 4, 2) := by decide +kernel
theorem dX11_peopleOn_17 : decode cX11_peopleOn 17 = .ok (.iconst 0, 1) := by decide +kernel
theorem dX11_peopleOn_18 : decode cX11_peopleOn 18 = .ok (.invokevirtual 300, 3) := by decide +kernel
theorem dX11_peopleOn_21 : decode cX11_peopleOn 21 = .ok (.aload_n 0, 1) := by decide +kernel
theorem dX11_peopleOn_22 : decode cX11_peopleOn 22 = .ok (.iload 4, 2) := by decide +kernel
theorem dX11_peopleOn_24 : decode cX11_peopleOn 24 = .ok (.iconst 1, 1) := by decide +kernel
theorem dX11_peopleOn_25 : decode cX11_peopleOn 25 = .ok (.invokevirtual 300, 3) := by decide +kernel
theorem dX11_peopleOn_28 : decode cX11_peopleOn 28 = .ok (.invokevirtual 332, 3) := by decide +kernel
theorem dX11_peopleOn_31 : decode cX11_peopleOn 31 = .ok (.iload_n 2, 1) := by decide +kernel
theorem dX11_peopleOn_32 : decode cX11_peopleOn 32 = .ok (.if_icmp .ne 13, 3) := by decide +kernel
theorem dX11_peopleOn_35 : decode cX11_peopleOn 35 = .ok (.aload_n 0, 1) := by decide +kernel
theorem dX11_peopleOn_36 : decode cX11_peopleOn 36 = .ok (.iload 4, 2) := by decide +kernel
theorem dX11_peopleOn_38 : decode cX11_peopleOn 38 = .ok (.iconst 2, 1) := by decide +kernel
theorem dX11_peopleOn_39 : decode cX11_peopleOn 39 = .ok (.invokevirtual 300, 3) := by decide +kernel
theorem dX11_peopleOn_42 : decode cX11_peopleOn 42 = .ok (.goto 4, 3) := by decide +kernel
theorem dX11_peopleOn_45 : decode cX11_peopleOn 45 = .ok (.iconst 0, 1) := by decide +kernel
theorem dX11_peopleOn_46 : decode cX11_peopleOn 46 = .ok (.iadd, 1) := by decide +kernel
theorem dX11_peopleOn_47 : decode cX11_peopleOn 47 = .ok (.istore_n 3, 1) := by decide +kernel
theorem dX11_peopleOn_48 : decode cX11_peopleOn 48 = .ok (.iinc 4 1, 3) := by decide +kernel
theorem dX11_peopleOn_51 : decode cX11_peopleOn 51 = .ok (.goto (-46), 3) := by decide +kernel
theorem dX11_peopleOn_54 : decode cX11_peopleOn 54 = .ok (.iload_n 3, 1) := by decide +kernel
theorem dX11_peopleOn_55 : decode cX11_peopleOn 55 = .ok (.ireturn, 1) := by decide +kernel
theorem dX11_givesIn_0 : decode cX11_givesIn 0 = .ok (.iconst 0, 1) := by decide +kernel
theorem dX11_givesIn_1 : decode cX11_givesIn 1 = .ok (.istore_n 3, 1) := by decide +kernel
theorem dX11_givesIn_2 : decode cX11_givesIn 2 = .ok (.iconst 0, 1) := by decide +kernel
theorem dX11_givesIn_3 : decode cX11_givesIn 3 = .ok (.istore 4, 2) := by decide +kernel
theorem dX11_givesIn_5 : decode cX11_givesIn 5 = .ok (.iload 4, 2) := by decide +kernel
theorem dX11_givesIn_7 : decode cX11_givesIn 7 = .ok (.aload_n 0, 1) := by decide +kernel
theorem dX11_givesIn_8 : decode cX11_givesIn 8 = .ok (.getfield 13, 3) := by decide +kernel
theorem dX11_givesIn_11 : decode cX11_givesIn 11 = .ok (.bipush 6, 2) := by decide +kernel
theorem dX11_givesIn_13 : decode cX11_givesIn 13 = .ok (.iaload, 1) := by decide +kernel
theorem dX11_givesIn_14 : decode cX11_givesIn 14 = .ok (.if_icmp .ge 44, 3) := by decide +kernel
theorem dX11_givesIn_17 : decode cX11_givesIn 17 = .ok (.iload_n 3, 1) := by decide +kernel
theorem dX11_givesIn_18 : decode cX11_givesIn 18 = .ok (.aload_n 0, 1) := by decide +kernel
theorem dX11_givesIn_19 : decode cX11_givesIn 19 = .ok (.iload 4, 2) := by decide +kernel
theorem dX11_givesIn_21 : decode cX11_givesIn 21 = .ok (.iconst 0, 1) := by decide +kernel
theorem dX11_givesIn_22 : decode cX11_givesIn 22 = .ok (.invokevirtual 297, 3) := by decide +kernel
theorem dX11_givesIn_25 : decode cX11_givesIn 25 = .ok (.iload_n 2, 1) := by decide +kernel
theorem dX11_givesIn_26 : decode cX11_givesIn 26 = .ok (.if_icmp .ne 23, 3) := by decide +kernel
theorem dX11_givesIn_29 : decode cX11_givesIn 29 = .ok (.aload_n 0, 1) := by decide +kernel
theorem dX11_givesIn_30 : decode cX11_givesIn 30 = .ok (.iload_n 1, 1) := by decide +kernel
theorem dX11_givesIn_31 : decode cX11_givesIn 31 = .ok (.iconst 3, 1) := by decide +kernel
theorem dX11_givesIn_32 : decode cX11_givesIn 32 = .ok (.iload 4, 2) := by decide +kernel
theorem dX11_givesIn_34 : decode cX11_givesIn 34 = .ok (.iadd, 1) := by decide +kernel
theorem dX11_givesIn_35 : decode cX11_givesIn 35 = .ok (.invokevirtual 88, 3) := by decide +kernel
theorem dX11_givesIn_38 : decode cX11_givesIn 38 = .ok (.aload_n 0, 1) := by decide +kernel
theorem dX11_givesIn_39 : decode cX11_givesIn 39 = .ok (.iload 4, 2) := by decide +kernel
theorem dX11_givesIn_41 : decode cX11_givesIn 41 = .ok (.iconst 1, 1) := by decide +kernel
theorem dX11_givesIn_42 : decode cX11_givesIn 42 = .ok (.invokevirtual 297, 3) := by decide +kernel
theorem dX11_givesIn_45 : decode cX11_givesIn 45 = .ok (.imul, 1) := by decide +kernel
theorem dX11_givesIn_46 : decode cX11_givesIn 46 = .ok (.goto 4, 3) := by decide +kernel
theorem dX11_givesIn_49 : decode cX11_givesIn 49 = .ok (.iconst 0, 1) := by decide +kernel
theorem dX11_givesIn_50 : decode cX11_givesIn 50 = .ok (.iadd, 1) := by decide +kernel
theorem dX11_givesIn_51 : decode cX11_givesIn 51 = .ok (.istore_n 3, 1) := by decide +kernel
theorem dX11_givesIn_52 : decode cX11_givesIn 52 = .ok (.iinc 4 1, 3) := by decide +kernel
theorem dX11_givesIn_55 : decode cX11_givesIn 55 = .ok (.goto (-50), 3) := by decide +kernel
theorem dX11_givesIn_58 : decode cX11_givesIn 58 = .ok (.iload_n 3, 1) := by decide +kernel
theorem dX11_givesIn_59 : decode cX11_givesIn 59 = .ok (.ireturn, 1) := by decide +kernel
theorem dX11_givenOn_0 : decode cX11_givenOn 0 = .ok (.iconst 0, 1) := by decide +kernel
theorem dX11_givenOn_1 : decode cX11_givenOn 1 = .ok (.istore 4, 2) := by decide +kernel
theorem dX11_givenOn_3 : decode cX11_givenOn 3 = .ok (.iconst 0, 1) := by decide +kernel
theorem dX11_givenOn_4 : decode cX11_givenOn 4 = .ok (.istore 5, 2) := by decide +kernel
theorem dX11_givenOn_6 : decode cX11_givenOn 6 = .ok (.iload 5, 2) := by decide +kernel
theorem dX11_givenOn_8 : decode cX11_givenOn 8 = .ok (.bipush 8, 2) := by decide +kernel
theorem dX11_givenOn_10 : decode cX11_givenOn 10 = .ok (.if_icmp .ge 57, 3) := by decide +kernel
theorem dX11_givenOn_13 : decode cX11_givenOn 13 = .ok (.iload 4, 2) := by decide +kernel
theorem dX11_givenOn_15 : decode cX11_givenOn 15 = .ok (.aload_n 0, 1) := by decide +kernel
theorem dX11_givenOn_16 : decode cX11_givenOn 16 = .ok (.iload 5, 2) := by decide +kernel
theorem dX11_givenOn_18 : decode cX11_givenOn 18 = .ok (.invokevirtual 288, 3) := by decide +kernel
theorem dX11_givenOn_21 : decode cX11_givenOn 21 = .ok (.ifCond .eq 36, 3) := by decide +kernel
theorem dX11_givenOn_24 : decode cX11_givenOn 24 = .ok (.aload_n 0, 1) := by decide +kernel
theorem dX11_givenOn_25 : decode cX11_givenOn 25 = .ok (.iload_n 1, 1) := by decide +kernel
theorem dX11_givenOn_26 : decode cX11_givenOn 26 = .ok (.aload_n 0, 1) := by decide +kernel
theorem dX11_givenOn_27 : decode cX11_givenOn 27 = .ok (.iload 5, 2) := by decide +kernel
theorem dX11_givenOn_29 : decode cX11_givenOn 29 = .ok (.iconst 1, 1) := by decide +kernel
theorem dX11_givenOn_30 : decode cX11_givenOn 30 = .ok (.invokevirtual 88, 3) := by decide +kernel
theorem dX11_givenOn_33 : decode cX11_givenOn 33 = .ok (.aload_n 0, 1) := by decide +kernel
theorem dX11_givenOn_34 : decode cX11_givenOn 34 = .ok (.iload 5, 2) := by decide +kernel
theorem dX11_givenOn_36 : decode cX11_givenOn 36 = .ok (.iconst 2, 1) := by decide +kernel
theorem dX11_givenOn_37 : decode cX11_givenOn 37 = .ok (.invokevirtual 88, 3) := by decide +kernel
theorem dX11_givenOn_40 : decode cX11_givenOn 40 = .ok (.invokevirtual 332, 3) := by decide +kernel
theorem dX11_givenOn_43 : decode cX11_givenOn 43 = .ok (.iload_n 2, 1) := by decide +kernel
theorem dX11_givenOn_44 : decode cX11_givenOn 44 = .ok (.if_icmp .ne 13, 3) := by decide +kernel
theorem dX11_givenOn_47 : decode cX11_givenOn 47 = .ok (.aload_n 0, 1) := by decide +kernel
theorem dX11_givenOn_48 : decode cX11_givenOn 48 = .ok (.iload 5, 2) := by decide +kernel
theorem dX11_givenOn_50 : decode cX11_givenOn 50 = .ok (.iload_n 3, 1) := by decide +kernel
theorem dX11_givenOn_51 : decode cX11_givenOn 51 = .ok (.invokevirtual 356, 3) := by decide +kernel
theorem dX11_givenOn_54 : decode cX11_givenOn 54 = .ok (.goto 4, 3) := by decide +kernel
theorem dX11_givenOn_57 : decode cX11_givenOn 57 = .ok (.iconst 0, 1) := by decide +kernel
theorem dX11_givenOn_58 : decode cX11_givenOn 58 = .ok (.iadd, 1) := by decide +kernel
theorem dX11_givenOn_59 : decode cX11_givenOn 59 = .ok (.istore 4, 2) := by decide +kernel
theorem dX11_givenOn_61 : decode cX11_givenOn 61 = .ok (.iinc 5 1, 3) := by decide +kernel
theorem dX11_givenOn_64 : decode cX11_givenOn 64 = .ok (.goto (-58), 3) := by decide +kernel
theorem dX11_givenOn_67 : decode cX11_givenOn 67 = .ok (.iload 4, 2) := by decide +kernel
theorem dX11_givenOn_69 : decode cX11_givenOn 69 = .ok (.ireturn, 1) := by decide +kernel
theorem dX11_needOf_0 : decode cX11_needOf 0 = .ok (.iload_n 2, 1) := by decide +kernel
theorem dX11_needOf_1 : decode cX11_needOf 1 = .ok (.ifCond .ne 9, 3) := by decide +kernel
theorem dX11_needOf_4 : decode cX11_needOf 4 = .ok (.iload_n 0, 1) := by decide +kernel
theorem dX11_needOf_5 : decode cX11_needOf 5 = .ok (.iload_n 1, 1) := by decide +kernel
theorem dX11_needOf_6 : decode cX11_needOf 6 = .ok (.imul, 1) := by decide +kernel
theorem dX11_needOf_7 : decode cX11_needOf 7 = .ok (.goto 4, 3) := by decide +kernel
theorem dX11_needOf_10 : decode cX11_needOf 10 = .ok (.iload_n 0, 1) := by decide +kernel
theorem dX11_needOf_11 : decode cX11_needOf 11 = .ok (.ireturn, 1) := by decide +kernel
theorem dX11_lacksAt_0 : decode cX11_lacksAt 0 = .ok (.aload_n 0, 1) := by decide +kernel
theorem dX11_lacksAt_1 : decode cX11_lacksAt 1 = .ok (.iload_n 1, 1) := by decide +kernel
theorem dX11_lacksAt_2 : decode cX11_lacksAt 2 = .ok (.aload_n 0, 1) := by decide +kernel
theorem dX11_lacksAt_3 : decode cX11_lacksAt 3 = .ok (.iload_n 2, 1) := by decide +kernel
theorem dX11_lacksAt_4 : decode cX11_lacksAt 4 = .ok (.iconst 0, 1) := by decide +kernel
theorem dX11_lacksAt_5 : decode cX11_lacksAt 5 = .ok (.invokevirtual 300, 3) := by decide +kernel
theorem dX11_lacksAt_8 : decode cX11_lacksAt 8 = .ok (.aload_n 0, 1) := by decide +kernel
theorem dX11_lacksAt_9 : decode cX11_lacksAt 9 = .ok (.iload_n 2, 1) := by decide +kernel
theorem dX11_lacksAt_10 : decode cX11_lacksAt 10 = .ok (.iconst 1, 1) := by decide +kernel
theorem dX11_lacksAt_11 : decode cX11_lacksAt 11 = .ok (.invokevirtual 300, 3) := by decide +kernel
theorem dX11_lacksAt_14 : decode cX11_lacksAt 14 = .ok (.invokevirtual 332, 3) := by decide +kernel
theorem dX11_lacksAt_17 : decode cX11_lacksAt 17 = .ok (.istore 4, 2) := by decide +kernel
theorem dX11_lacksAt_19 : decode cX11_lacksAt 19 = .ok (.iconst 0, 1) := by decide +kernel
theorem dX11_lacksAt_20 : decode cX11_lacksAt 20 = .ok (.istore 5, 2) := by decide +kernel
theorem dX11_lacksAt_22 : decode cX11_lacksAt 22 = .ok (.iload 5, 2) := by decide +kernel
theorem dX11_lacksAt_24 : decode cX11_lacksAt 24 = .ok (.iload_n 2, 1) := by decide +kernel
theorem dX11_lacksAt_25 : decode cX11_lacksAt 25 = .ok (.if_icmp .ge 45, 3) := by decide +kernel
theorem dX11_lacksAt_28 : decode cX11_lacksAt 28 = .ok (.aload_n 0, 1) := by decide +kernel
theorem dX11_lacksAt_29 : decode cX11_lacksAt 29 = .ok (.iload_n 1, 1) := by decide +kernel
theorem dX11_lacksAt_30 : decode cX11_lacksAt 30 = .ok (.aload_n 0, 1) := by decide +kernel
theorem dX11_lacksAt_31 : decode cX11_lacksAt 31 = .ok (.iload 5, 2) := by decide +kernel
theorem dX11_lacksAt_33 : decode cX11_lacksAt 33 = .ok (.iconst 0, 1) := by decide +kernel
theorem dX11_lacksAt_34 : decode cX11_lacksAt 34 = .ok (.invokevirtual 300, 3) := by decide +kernel
theorem dX11_lacksAt_37 : decode cX11_lacksAt 37 = .ok (.aload_n 0, 1) := by decide +kernel
theorem dX11_lacksAt_38 : decode cX11_lacksAt 38 = .ok (.iload 5, 2) := by decide +kernel
theorem dX11_lacksAt_40 : decode cX11_lacksAt 40 = .ok (.iconst 1, 1) := by decide +kernel
theorem dX11_lacksAt_41 : decode cX11_lacksAt 41 = .ok (.invokevirtual 300, 3) := by decide +kernel
theorem dX11_lacksAt_44 : decode cX11_lacksAt 44 = .ok (.invokevirtual 332, 3) := by decide +kernel
theorem dX11_lacksAt_47 : decode cX11_lacksAt 47 = .ok (.iload 4, 2) := by decide +kernel
theorem dX11_lacksAt_49 : decode cX11_lacksAt 49 = .ok (.if_icmp .ne 15, 3) := by decide +kernel
theorem dX11_lacksAt_52 : decode cX11_lacksAt 52 = .ok (.aload_n 0, 1) := by decide +kernel
theorem dX11_lacksAt_53 : decode cX11_lacksAt 53 = .ok (.iload 5, 2) := by decide +kernel
theorem dX11_lacksAt_55 : decode cX11_lacksAt 55 = .ok (.iconst 2, 1) := by decide +kernel
theorem dX11_lacksAt_56 : decode cX11_lacksAt 56 = .ok (.invokevirtual 300, 3) := by decide +kernel
theorem dX11_lacksAt_59 : decode cX11_lacksAt 59 = .ok (.ifCond .le 5, 3) := by decide +kernel
theorem dX11_lacksAt_62 : decode cX11_lacksAt 62 = .ok (.iconst 0, 1) := by decide +kernel
theorem dX11_lacksAt_63 : decode cX11_lacksAt 63 = .ok (.ireturn, 1) := by decide +kernel
theorem dX11_lacksAt_64 : decode cX11_lacksAt 64 = .ok (.iinc 5 1, 3) := by decide +kernel
theorem dX11_lacksAt_67 : decode cX11_lacksAt 67 = .ok (.goto (-45), 3) := by decide +kernel
theorem dX11_lacksAt_70 : decode cX11_lacksAt 70 = .ok (.aload_n 0, 1) := by decide +kernel
theorem dX11_lacksAt_71 : decode cX11_lacksAt 71 = .ok (.iload_n 1, 1) := by decide +kernel
theorem dX11_lacksAt_72 : decode cX11_lacksAt 72 = .ok (.iload 4, 2) := by decide +kernel
theorem dX11_lacksAt_74 : decode cX11_lacksAt 74 = .ok (.invokevirtual 359, 3) := by decide +kernel
theorem dX11_lacksAt_77 : decode cX11_lacksAt 77 = .ok (.istore 5, 2) := by decide +kernel
theorem dX11_lacksAt_79 : decode cX11_lacksAt 79 = .ok (.iload 5, 2) := by decide +kernel
theorem dX11_lacksAt_81 : decode cX11_lacksAt 81 = .ok (.ifCond .ne 7, 3) := by decide +kernel
theorem dX11_lacksAt_84 : decode cX11_lacksAt 84 = .ok (.iconst 0, 1) := by decide +kernel
theorem dX11_lacksAt_85 : decode cX11_lacksAt 85 = .ok (.goto 28, 3) := by decide +kernel
theorem dX11_lacksAt_88 : decode cX11_lacksAt 88 = .ok (.iconst 0, 1) := by decide +kernel
theorem dX11_lacksAt_89 : decode cX11_lacksAt 89 = .ok (.iload 5, 2) := by decide +kernel
theorem dX11_lacksAt_91 : decode cX11_lacksAt 91 = .ok (.aload_n 0, 1) := by decide +kernel
theorem dX11_lacksAt_92 : decode cX11_lacksAt 92 = .ok (.getfield 13, 3) := by decide +kernel
theorem dX11_lacksAt_95 : decode cX11_lacksAt 95 = .ok (.iconst 4, 1) := by decide +kernel
theorem dX11_lacksAt_96 : decode cX11_lacksAt 96 = .ok (.iaload, 1) := by decide +kernel
theorem dX11_lacksAt_97 : decode cX11_lacksAt 97 = .ok (.iload_n 3, 1) := by decide +kernel
theorem dX11_lacksAt_98 : decode cX11_lacksAt 98 = .ok (.invokestatic 362, 3) := by decide +kernel
theorem dX11_lacksAt_101 : decode cX11_lacksAt 101 = .ok (.aload_n 0, 1) := by decide +kernel
theorem dX11_lacksAt_102 : decode cX11_lacksAt 102 = .ok (.iload_n 1, 1) := by decide +kernel
theorem dX11_lacksAt_103 : decode cX11_lacksAt 103 = .ok (.iload 4, 2) := by decide +kernel
theorem dX11_lacksAt_105 : decode cX11_lacksAt 105 = .ok (.iload_n 3, 1) := by decide +kernel
theorem dX11_lacksAt_106 : decode cX11_lacksAt 106 = .ok (.invokevirtual 365, 3) := by decide +kernel
theorem dX11_lacksAt_109 : decode cX11_lacksAt 109 = .ok (.isub, 1) := by decide +kernel
theorem dX11_lacksAt_110 : decode cX11_lacksAt 110 = .ok (.invokestatic 368, 3) := by decide +kernel
theorem dX11_lacksAt_113 : decode cX11_lacksAt 113 = .ok (.ireturn, 1) := by decide +kernel
theorem dX11_lacksOf_0 : decode cX11_lacksOf 0 = .ok (.iconst 0, 1) := by decide +kernel
theorem dX11_lacksOf_1 : decode cX11_lacksOf 1 = .ok (.istore_n 3, 1) := by decide +kernel
theorem dX11_lacksOf_2 : decode cX11_lacksOf 2 = .ok (.iconst 0, 1) := by decide +kernel
theorem dX11_lacksOf_3 : decode cX11_lacksOf 3 = .ok (.istore 4, 2) := by decide +kernel
theorem dX11_lacksOf_5 : decode cX11_lacksOf 5 = .ok (.iload 4, 2) := by decide +kernel
theorem dX11_lacksOf_7 : decode cX11_lacksOf 7 = .ok (.iconst 4, 1) := by decide +kernel
theorem dX11_lacksOf_8 : decode cX11_lacksOf 8 = .ok (.if_icmp .ge 42, 3) := by decide +kernel
theorem dX11_lacksOf_11 : decode cX11_lacksOf 11 = .ok (.aload_n 0, 1) := by decide +kernel
theorem dX11_lacksOf_12 : decode cX11_lacksOf 12 = .ok (.iload_n 2, 1) := by decide +kernel
theorem dX11_lacksOf_13 : decode cX11_lacksOf 13 = .ok (.invokevirtual 371, 3) := by decide +kernel
theorem dX11_lacksOf_16 : decode cX11_lacksOf 16 = .ok (.ifCond .eq 34, 3) := by decide +kernel
theorem dX11_lacksOf_19 : decode cX11_lacksOf 19 = .ok (.iload_n 3, 1) := by decide +kernel
theorem dX11_lacksOf_20 : decode cX11_lacksOf 20 = .ok (.aload_n 0, 1) := by decide +kernel
theorem dX11_lacksOf_21 : decode cX11_lacksOf 21 = .ok (.iload 4, 2) := by decide +kernel
theorem dX11_lacksOf_23 : decode cX11_lacksOf 23 = .ok (.iconst 2, 1) := by decide +kernel
theorem dX11_lacksOf_24 : decode cX11_lacksOf 24 = .ok (.invokevirtual 300, 3) := by decide +kernel
theorem dX11_lacksOf_27 : decode cX11_lacksOf 27 = .ok (.ifCond .le 14, 3) := by decide +kernel
theorem dX11_lacksOf_30 : decode cX11_lacksOf 30 = .ok (.aload_n 0, 1) := by decide +kernel
theorem dX11_lacksOf_31 : decode cX11_lacksOf 31 = .ok (.iload_n 1, 1) := by decide +kernel
theorem dX11_lacksOf_32 : decode cX11_lacksOf 32 = .ok (.iload 4, 2) := by decide +kernel
theorem dX11_lacksOf_34 : decode cX11_lacksOf 34 = .ok (.iload_n 2, 1) := by decide +kernel
theorem dX11_lacksOf_35 : decode cX11_lacksOf 35 = .ok (.invokevirtual 374, 3) := by decide +kernel
theorem dX11_lacksOf_38 : decode cX11_lacksOf 38 = .ok (.goto 4, 3) := by decide +kernel
theorem dX11_lacksOf_41 : decode cX11_lacksOf 41 = .ok (.iconst 0, 1) := by decide +kernel
theorem dX11_lacksOf_42 : decode cX11_lacksOf 42 = .ok (.iadd, 1) := by decide +kernel
theorem dX11_lacksOf_43 : decode cX11_lacksOf 43 = .ok (.istore_n 3, 1) := by decide +kernel
theorem dX11_lacksOf_44 : decode cX11_lacksOf 44 = .ok (.iinc 4 1, 3) := by decide +kernel
theorem dX11_lacksOf_47 : decode cX11_lacksOf 47 = .ok (.goto (-42), 3) := by decide +kernel
theorem dX11_lacksOf_50 : decode cX11_lacksOf 50 = .ok (.iload_n 3, 1) := by decide +kernel
theorem dX11_lacksOf_51 : decode cX11_lacksOf 51 = .ok (.ireturn, 1) := by decide +kernel
theorem dX11_isEnough_0 : decode cX11_isEnough 0 = .ok (.iconst 0, 1) := by decide +kernel
theorem dX11_isEnough_1 : decode cX11_isEnough 1 = .ok (.istore_n 2, 1) := by decide +kernel
theorem dX11_isEnough_2 : decode cX11_isEnough 2 = .ok (.iload_n 2, 1) := by decide +kernel
theorem dX11_isEnough_3 : decode cX11_isEnough 3 = .ok (.iconst 4, 1) := by decide +kernel
theorem dX11_isEnough_4 : decode cX11_isEnough 4 = .ok (.if_icmp .ge 20, 3) := by decide +kernel
theorem dX11_isEnough_7 : decode cX11_isEnough 7 = .ok (.aload_n 0, 1) := by decide +kernel
theorem dX11_isEnough_8 : decode cX11_isEnough 8 = .ok (.iload_n 1, 1) := by decide +kernel
theorem dX11_isEnough_9 : decode cX11_isEnough 9 = .ok (.iload_n 2, 1) := by decide +kernel
theorem dX11_isEnough_10 : decode cX11_isEnough 10 = .ok (.invokevirtual 377, 3) := by decide +kernel
theorem dX11_isEnough_13 : decode cX11_isEnough 13 = .ok (.ifCond .le 5, 3) := by decide +kernel
theorem dX11_isEnough_16 : decode cX11_isEnough 16 = .ok (.iconst 0, 1) := by decide +kernel
theorem dX11_isEnough_17 : decode cX11_isEnough 17 = .ok (.ireturn, 1) := by decide +kernel
theorem dX11_isEnough_18 : decode cX11_isEnough 18 = .ok (.iinc 2 1, 3) := by decide +kernel
theorem dX11_isEnough_21 : decode cX11_isEnough 21 = .ok (.goto (-19), 3) := by decide +kernel
theorem dX11_isEnough_24 : decode cX11_isEnough 24 = .ok (.iconst 1, 1) := by decide +kernel
theorem dX11_isEnough_25 : decode cX11_isEnough 25 = .ok (.ireturn, 1) := by decide +kernel
theorem dX11_enough_0 : decode cX11_enough 0 = .ok (.aload_n 0, 1) := by decide +kernel
theorem dX11_enough_1 : decode cX11_enough 1 = .ok (.iload_n 1, 1) := by decide +kernel
theorem dX11_enough_2 : decode cX11_enough 2 = .ok (.invokevirtual 311, 3) := by decide +kernel
theorem dX11_enough_5 : decode cX11_enough 5 = .ok (.ifCond .eq 19, 3) := by decide +kernel
theorem dX11_enough_8 : decode cX11_enough 8 = .ok (.aload_n 0, 1) := by decide +kernel
theorem dX11_enough_9 : decode cX11_enough 9 = .ok (.iload_n 1, 1) := by decide +kernel
theorem dX11_enough_10 : decode cX11_enough 10 = .ok (.invokevirtual 353, 3) := by decide +kernel
theorem dX11_enough_13 : decode cX11_enough 13 = .ok (.ifCond .eq 7, 3) := by decide +kernel
theorem dX11_enough_16 : decode cX11_enough 16 = .ok (.iconst 1, 1) := by decide +kernel
theorem dX11_enough_17 : decode cX11_enough 17 = .ok (.goto 9, 3) := by decide +kernel
theorem dX11_enough_20 : decode cX11_enough 20 = .ok (.iconst 0, 1) := by decide +kernel
theorem dX11_enough_21 : decode cX11_enough 21 = .ok (.goto 5, 3) := by decide +kernel
theorem dX11_enough_24 : decode cX11_enough 24 = .ok (.bipush (-2), 2) := by decide +kernel
theorem dX11_enough_26 : decode cX11_enough 26 = .ok (.ireturn, 1) := by decide +kernel
theorem dX11_lacks_0 : decode cX11_lacks 0 = .ok (.aload_n 0, 1) := by decide +kernel
theorem dX11_lacks_1 : decode cX11_lacks 1 = .ok (.iload_n 1, 1) := by decide +kernel
theorem dX11_lacks_2 : decode cX11_lacks 2 = .ok (.invokevirtual 311, 3) := by decide +kernel
theorem dX11_lacks_5 : decode cX11_lacks 5 = .ok (.ifCond .eq 24, 3) := by decide +kernel
theorem dX11_lacks_8 : decode cX11_lacks 8 = .ok (.iload_n 2, 1) := by decide +kernel
theorem dX11_lacks_9 : decode cX11_lacks 9 = .ok (.i2l, 1) := by decide +kernel
theorem dX11_lacks_10 : decode cX11_lacks 10 = .ok (.lconst 0, 1) := by decide +kernel
theorem dX11_lacks_11 : decode cX11_lacks 11 = .ok (.ldc2_w 269, 3) := by decide +kernel
theorem dX11_lacks_14 : decode cX11_lacks 14 = .ok (.invokestatic 84, 3) := by decide +kernel
theorem dX11_lacks_17 : decode cX11_lacks 17 = .ok (.ifCond .eq 12, 3) := by decide +kernel
theorem dX11_lacks_20 : decode cX11_lacks 20 = .ok (.aload_n 0, 1) := by decide +kernel
theorem dX11_lacks_21 : decode cX11_lacks 21 = .ok (.iload_n 1, 1) := by decide +kernel
theorem dX11_lacks_22 : decode cX11_lacks 22 = .ok (.iload_n 2, 1) := by decide +kernel
theorem dX11_lacks_23 : decode cX11_lacks 23 = .ok (.invokevirtual 377, 3) := by decide +kernel
theorem dX11_lacks_26 : decode cX11_lacks 26 = .ok (.goto 5, 3) := by decide +kernel
theorem dX11_lacks_29 : decode cX11_lacks 29 = .ok (.bipush (-2), 2) := by decide +kernel
theorem dX11_lacks_31 : decode cX11_lacks 31 = .ok (.ireturn, 1) := by decide +kernel
theorem dX11_loses_0 : decode cX11_loses 0 = .ok (.aload_n 0, 1) := by decide +kernel
theorem dX11_loses_1 : decode cX11_loses 1 = .ok (.invokevirtual 347, 3) := by decide +kernel
theorem dX11_loses_4 : decode cX11_loses 4 = .ok (.lconst 0, 1) := by decide +kernel
theorem dX11_loses_5 : decode cX11_loses 5 = .ok (.lstore_n 1, 1) := by decide +kernel
theorem dX11_loses_6 : decode cX11_loses 6 = .ok (.iconst 0, 1) := by decide +kernel
theorem dX11_loses_7 : decode cX11_loses 7 = .ok (.istore_n 3, 1) := by decide +kernel
theorem dX11_loses_8 : decode cX11_loses 8 = .ok (.iload_n 3, 1) := by decide +kernel
theorem dX11_loses_9 : decode cX11_loses 9 = .ok (.aload_n 0, 1) := by decide +kernel
theorem dX11_loses_10 : decode cX11_loses 10 = .ok (.invokevirtual 274, 3) := by decide +kernel
theorem dX11_loses_13 : decode cX11_loses 13 = .ok (.if_icmp .ge 47, 3) := by decide +kernel
theorem dX11_loses_16 : decode cX11_loses 16 = .ok (.aload_n 0, 1) := by decide +kernel
theorem dX11_loses_17 : decode cX11_loses 17 = .ok (.getfield 37, 3) := by decide +kernel
theorem dX11_loses_20 : decode cX11_loses 20 = .ok (.iload_n 3, 1) := by decide +kernel
theorem dX11_loses_21 : decode cX11_loses 21 = .ok (.laload, 1) := by decide +kernel
theorem dX11_loses_22 : decode cX11_loses 22 = .ok (.lconst 0, 1) := by decide +kernel
theorem dX11_loses_23 : decode cX11_loses 23 = .ok (.lcmp, 1) := by decide +kernel
theorem dX11_loses_24 : decode cX11_loses 24 = .ok (.ifCond .eq 30, 3) := by decide +kernel
theorem dX11_loses_27 : decode cX11_loses 27 = .ok (.aload_n 0, 1) := by decide +kernel
theorem dX11_loses_28 : decode cX11_loses 28 = .ok (.iload_n 3, 1) := by decide +kernel
theorem dX11_loses_29 : decode cX11_loses 29 = .ok (.invokevirtual 353, 3) := by decide +kernel
theorem dX11_loses_32 : decode cX11_loses 32 = .ok (.ifCond .eq 6, 3) := by decide +kernel
theorem dX11_loses_35 : decode cX11_loses 35 = .ok (.goto 19, 3) := by decide +kernel
theorem dX11_loses_38 : decode cX11_loses 38 = .ok (.lload_n 1, 1) := by decide +kernel
theorem dX11_loses_39 : decode cX11_loses 39 = .ok (.aload_n 0, 1) := by decide +kernel
theorem dX11_loses_40 : decode cX11_loses 40 = .ok (.getfield 37, 3) := by decide +kernel
theorem dX11_loses_43 : decode cX11_loses 43 = .ok (.iload_n 3, 1) := by decide +kernel
theorem dX11_loses_44 : decode cX11_loses 44 = .ok (.laload, 1) := by decide +kernel
theorem dX11_loses_45 : decode cX11_loses 45 = .ok (.ladd, 1) := by decide +kernel
theorem dX11_loses_46 : decode cX11_loses 46 = .ok (.lstore_n 1, 1) := by decide +kernel
theorem dX11_loses_47 : decode cX11_loses 47 = .ok (.aload_n 0, 1) := by decide +kernel
theorem dX11_loses_48 : decode cX11_loses 48 = .ok (.getfield 37, 3) := by decide +kernel
theorem dX11_loses_51 : decode cX11_loses 51 = .ok (.iload_n 3, 1) := by decide +kernel
theorem dX11_loses_52 : decode cX11_loses 52 = .ok (.lconst 0, 1) := by decide +kernel
theorem dX11_loses_53 : decode cX11_loses 53 = .ok (.lastore, 1) := by decide +kernel
theorem dX11_loses_54 : decode cX11_loses 54 = .ok (.iinc 3 1, 3) := by decide +kernel
theorem dX11_loses_57 : decode cX11_loses 57 = .ok (.goto (-49), 3) := by decide +kernel
theorem dX11_loses_60 : decode cX11_loses 60 = .ok (.lload_n 1, 1) := by decide +kernel
theorem dX11_loses_61 : decode cX11_loses 61 = .ok (.lreturn, 1) := by decide +kernel
theorem dX11_lostIn_0 : decode cX11_lostIn 0 = .ok (.aload_n 0, 1) := by decide +kernel
theorem dX11_lostIn_1 : decode cX11_lostIn 1 = .ok (.invokevirtual 344, 3) := by decide +kernel
theorem dX11_lostIn_4 : decode cX11_lostIn 4 = .ok (.lconst 0, 1) := by decide +kernel
theorem dX11_lostIn_5 : decode cX11_lostIn 5 = .ok (.lstore_n 2, 1) := by decide +kernel
theorem dX11_lostIn_6 : decode cX11_lostIn 6 = .ok (.iconst 0, 1) := by decide +kernel
theorem dX11_lostIn_7 : decode cX11_lostIn 7 = .ok (.istore 4, 2) := by decide +kernel
theorem dX11_lostIn_9 : decode cX11_lostIn 9 = .ok (.iload 4, 2) := by decide +kernel
theorem dX11_lostIn_11 : decode cX11_lostIn 11 = .ok (.iload_n 1, 1) := by decide +kernel
theorem dX11_lostIn_12 : decode cX11_lostIn 12 = .ok (.if_icmp .ge 16, 3) := by decide +kernel
theorem dX11_lostIn_15 : decode cX11_lostIn 15 = .ok (.lload_n 2, 1) := by decide +kernel
theorem dX11_lostIn_16 : decode cX11_lostIn 16 = .ok (.aload_n 0, 1) := by decide +kernel
theorem dX11_lostIn_17 : decode cX11_lostIn 17 = .ok (.invokevirtual 380, 3) := by decide +kernel
theorem dX11_lostIn_20 : decode cX11_lostIn 20 = .ok (.ladd, 1) := by decide +kernel
theorem dX11_lostIn_21 : decode cX11_lostIn 21 = .ok (.lstore_n 2, 1) := by decide +kernel
theorem dX11_lostIn_22 : decode cX11_lostIn 22 = .ok (.iinc 4 1, 3) := by decide +kernel
theorem dX11_lostIn_25 : decode cX11_lostIn 25 = .ok (.goto (-16), 3) := by decide +kernel
theorem dX11_lostIn_28 : decode cX11_lostIn 28 = .ok (.lload_n 2, 1) := by decide +kernel
theorem dX11_lostIn_29 : decode cX11_lostIn 29 = .ok (.lreturn, 1) := by decide +kernel
theorem dX11_lost_0 : decode cX11_lost 0 = .ok (.aload_n 0, 1) := by decide +kernel
theorem dX11_lost_1 : decode cX11_lost 1 = .ok (.invokevirtual 271, 3) := by decide +kernel
theorem dX11_lost_4 : decode cX11_lost 4 = .ok (.ifCond .eq 23, 3) := by decide +kernel
theorem dX11_lost_7 : decode cX11_lost 7 = .ok (.iload_n 1, 1) := by decide +kernel
theorem dX11_lost_8 : decode cX11_lost 8 = .ok (.i2l, 1) := by decide +kernel
theorem dX11_lost_9 : decode cX11_lost 9 = .ok (.lconst 1, 1) := by decide +kernel
theorem dX11_lost_10 : decode cX11_lost 10 = .ok (.ldc2_w 115, 3) := by decide +kernel
theorem dX11_lost_13 : decode cX11_lost 13 = .ok (.invokestatic 84, 3) := by decide +kernel
theorem dX11_lost_16 : decode cX11_lost 16 = .ok (.ifCond .eq 11, 3) := by decide +kernel
theorem dX11_lost_19 : decode cX11_lost 19 = .ok (.aload_n 0, 1) := by decide +kernel
theorem dX11_lost_20 : decode cX11_lost 20 = .ok (.iload_n 1, 1) := by decide +kernel
theorem dX11_lost_21 : decode cX11_lost 21 = .ok (.invokevirtual 384, 3) := by decide +kernel
theorem dX11_lost_24 : decode cX11_lost 24 = .ok (.goto 6, 3) := by decide +kernel
theorem dX11_lost_27 : decode cX11_lost 27 = .ok (.ldc2_w 342, 3) := by decide +kernel
theorem dX11_lost_30 : decode cX11_lost 30 = .ok (.lreturn, 1) := by decide +kernel
theorem dX11_safe_0 : decode cX11_safe 0 = .ok (.aload_n 0, 1) := by decide +kernel
theorem dX11_safe_1 : decode cX11_safe 1 = .ok (.invokevirtual 271, 3) := by decide +kernel
theorem dX11_safe_4 : decode cX11_safe 4 = .ok (.ifCond .eq 15, 3) := by decide +kernel
theorem dX11_safe_7 : decode cX11_safe 7 = .ok (.iload_n 1, 1) := by decide +kernel
theorem dX11_safe_8 : decode cX11_safe 8 = .ok (.i2l, 1) := by decide +kernel
theorem dX11_safe_9 : decode cX11_safe 9 = .ok (.lconst 0, 1) := by decide +kernel
theorem dX11_safe_10 : decode cX11_safe 10 = .ok (.ldc2_w 388, 3) := by decide +kernel
theorem dX11_safe_13 : decode cX11_safe 13 = .ok (.invokestatic 84, 3) := by decide +kernel
theorem dX11_safe_16 : decode cX11_safe 16 = .ok (.ifCond .ne 6, 3) := by decide +kernel
theorem dX11_safe_19 : decode cX11_safe 19 = .ok (.bipush (-2), 2) := by decide +kernel
theorem dX11_safe_21 : decode cX11_safe 21 = .ok (.ireturn, 1) := by decide +kernel
theorem dX11_safe_22 : decode cX11_safe 22 = .ok (.aload_n 0, 1) := by decide +kernel
theorem dX11_safe_23 : decode cX11_safe 23 = .ok (.invokevirtual 344, 3) := by decide +kernel
theorem dX11_safe_26 : decode cX11_safe 26 = .ok (.lconst 0, 1) := by decide +kernel
theorem dX11_safe_27 : decode cX11_safe 27 = .ok (.lstore_n 2, 1) := by decide +kernel
theorem dX11_safe_28 : decode cX11_safe 28 = .ok (.iconst 1, 1) := by decide +kernel
theorem dX11_safe_29 : decode cX11_safe 29 = .ok (.istore 4, 2) := by decide +kernel
theorem dX11_safe_31 : decode cX11_safe 31 = .ok (.iload 4, 2) := by decide +kernel
theorem dX11_safe_33 : decode cX11_safe 33 = .ok (.bipush 48, 2) := by decide +kernel
theorem dX11_safe_35 : decode cX11_safe 35 = .ok (.if_icmp .gt 32, 3) := by decide +kernel
theorem dX11_safe_38 : decode cX11_safe 38 = .ok (.lload_n 2, 1) := by decide +kernel
theorem dX11_safe_39 : decode cX11_safe 39 = .ok (.aload_n 0, 1) := by decide +kernel
theorem dX11_safe_40 : decode cX11_safe 40 = .ok (.invokevirtual 380, 3) := by decide +kernel
theorem dX11_safe_43 : decode cX11_safe 43 = .ok (.ladd, 1) := by decide +kernel
theorem dX11_safe_44 : decode cX11_safe 44 = .ok (.lstore_n 2, 1) := by decide +kernel
theorem dX11_safe_45 : decode cX11_safe 45 = .ok (.lload_n 2, 1) := by decide +kernel
theorem dX11_safe_46 : decode cX11_safe 46 = .ok (.iload_n 1, 1) := by decide +kernel
theorem dX11_safe_47 : decode cX11_safe 47 = .ok (.i2l, 1) := by decide +kernel
theorem dX11_safe_48 : decode cX11_safe 48 = .ok (.ldc2_w 390, 3) := by decide +kernel
theorem dX11_safe_51 : decode cX11_safe 51 = .ok (.lmul, 1) := by decide +kernel
theorem dX11_safe_52 : decode cX11_safe 52 = .ok (.lcmp, 1) := by decide +kernel
theorem dX11_safe_53 : decode cX11_safe 53 = .ok (.ifCond .le 8, 3) := by decide +kernel
theorem dX11_safe_56 : decode cX11_safe 56 = .ok (.iload 4, 2) := by decide +kernel
theorem dX11_safe_58 : decode cX11_safe 58 = .ok (.iconst 1, 1) := by decide +kernel
theorem dX11_safe_59 : decode cX11_safe 59 = .ok (.isub, 1) := by decide +kernel
theorem dX11_safe_60 : decode cX11_safe 60 = .ok (.ireturn, 1) := by decide +kernel
theorem dX11_safe_61 : decode cX11_safe 61 = .ok (.iinc 4 1, 3) := by decide +kernel
theorem dX11_safe_64 : decode cX11_safe 64 = .ok (.goto (-33), 3) := by decide +kernel
theorem dX11_safe_67 : decode cX11_safe 67 = .ok (.bipush 48, 2) := by decide +kernel
theorem dX11_safe_69 : decode cX11_safe 69 = .ok (.ireturn, 1) := by decide +kernel
theorem dX11_judge_0 : decode cX11_judge 0 = .ok (.iload_n 1, 1) := by decide +kernel
theorem dX11_judge_1 : decode cX11_judge 1 = .ok (.invokestatic 392, 3) := by decide +kernel
theorem dX11_judge_4 : decode cX11_judge 4 = .ok (.ifCond .eq 10, 3) := by decide +kernel
theorem dX11_judge_7 : decode cX11_judge 7 = .ok (.aload_n 0, 1) := by decide +kernel
theorem dX11_judge_8 : decode cX11_judge 8 = .ok (.invokevirtual 271, 3) := by decide +kernel
theorem dX11_judge_11 : decode cX11_judge 11 = .ok (.ifCond .ne 6, 3) := by decide +kernel
theorem dX11_judge_14 : decode cX11_judge 14 = .ok (.bipush (-2), 2) := by decide +kernel
theorem dX11_judge_16 : decode cX11_judge 16 = .ok (.ireturn, 1) := by decide +kernel
theorem dX11_judge_17 : decode cX11_judge 17 = .ok (.aload_n 0, 1) := by decide +kernel
theorem dX11_judge_18 : decode cX11_judge 18 = .ok (.getfield 66, 3) := by decide +kernel
theorem dX11_judge_21 : decode cX11_judge 21 = .ok (.iload_n 1, 1) := by decide +kernel
theorem dX11_judge_22 : decode cX11_judge 22 = .ok (.iaload, 1) := by decide +kernel
theorem dX11_judge_23 : decode cX11_judge 23 = .ok (.iconst (-1), 1) := by decide +kernel
theorem dX11_judge_24 : decode cX11_judge 24 = .ok (.if_icmp .ne 6, 3) := by decide +kernel
theorem dX11_judge_27 : decode cX11_judge 27 = .ok (.bipush (-6), 2) := by decide +kernel
theorem dX11_judge_29 : decode cX11_judge 29 = .ok (.ireturn, 1) := by decide +kernel
theorem dX11_judge_30 : decode cX11_judge 30 = .ok (.iconst 0, 1) := by decide +kernel
theorem dX11_judge_31 : decode cX11_judge 31 = .ok (.istore_n 2, 1) := by decide +kernel
theorem dX11_judge_32 : decode cX11_judge 32 = .ok (.iload_n 2, 1) := by decide +kernel
theorem dX11_judge_33 : decode cX11_judge 33 = .ok (.aload_n 0, 1) := by decide +kernel
theorem dX11_judge_34 : decode cX11_judge 34 = .ok (.getfield 66, 3) := by decide +kernel
theorem dX11_judge_37 : decode cX11_judge 37 = .ok (.iload_n 1, 1) := by decide +kernel
theorem dX11_judge_38 : decode cX11_judge 38 = .ok (.iaload, 1) := by decide +kernel
theorem dX11_judge_39 : decode cX11_judge 39 = .ok (.if_icmp .ge 53, 3) := by decide +kernel
theorem dX11_judge_42 : decode cX11_judge 42 = .ok (.aload_n 0, 1) := by decide +kernel
theorem dX11_judge_43 : decode cX11_judge 43 = .ok (.getfield 72, 3) := by decide +kernel
theorem dX11_judge_46 : decode cX11_judge 46 = .ok (.bipush 60, 2) := by decide +kernel
theorem dX11_judge_48 : decode cX11_judge 48 = .ok (.iload_n 1, 1) := by decide +kernel
theorem dX11_judge_49 : decode cX11_judge 49 = .ok (.imul, 1) := by decide +kernel
theorem dX11_judge_50 : decode cX11_judge 50 = .ok (.iload_n 2, 1) := by decide +kernel
theorem dX11_judge_51 : decode cX11_judge 51 = .ok (.iadd, 1) := by decide +kernel
theorem dX11_judge_52 : decode cX11_judge 52 = .ok (.laload, 1) := by decide +kernel
theorem dX11_judge_53 : decode cX11_judge 53 = .ok (.lconst 0, 1) := by decide +kernel
theorem dX11_judge_54 : decode cX11_judge 54 = .ok (.aload_n 0, 1) := by decide +kernel
theorem dX11_judge_55 : decode cX11_judge 55 = .ok (.invokevirtual 274, 3) := by decide +kernel
theorem dX11_judge_58 : decode cX11_judge 58 = .ok (.iconst 1, 1) := by decide +kernel
theorem dX11_judge_59 : decode cX11_judge 59 = .ok (.isub, 1) := by decide +kernel
theorem dX11_judge_60 : decode cX11_judge 60 = .ok (.i2l, 1) := by decide +kernel
theorem dX11_judge_61 : decode cX11_judge 61 = .ok (.invokestatic 84, 3) := by decide +kernel
theorem dX11_judge_64 : decode cX11_judge 64 = .ok (.ifCond .eq 28, 3) := by decide +kernel
theorem dX11_judge_67 : decode cX11_judge 67 = .ok (.aload_n 0, 1) := by decide +kernel
theorem dX11_judge_68 : decode cX11_judge 68 = .ok (.aload_n 0, 1) := by decide +kernel
theorem dX11_judge_69 : decode cX11_judge 69 = .ok (.getfield 72, 3) := by decide +kernel
theorem dX11_judge_72 : decode cX11_judge 72 = .ok (.bipush 60, 2) := by decide +kernel
theorem dX11_judge_74 : decode cX11_judge 74 = .ok (.iload_n 1, 1) := by decide +kernel
theorem dX11_judge_75 : decode cX11_judge 75 = .ok (.imul, 1) := by decide +kernel
theorem dX11_judge_76 : decode cX11_judge 76 = .ok (.iload_n 2, 1) := by decide +kernel
theorem dX11_judge_77 : decode cX11_judge 77 = .ok (.iadd, 1) := by decide +kernel
theorem dX11_judge_78 : decode cX11_judge 78 = .ok (.laload, 1) := by decide +kernel
theorem dX11_judge_79 : decode cX11_judge 79 = .ok (.l2i, 1) := by decide +kernel
theorem dX11_judge_80 : decode cX11_judge 80 = .ok (.invokevirtual 353, 3) := by decide +kernel
theorem dX11_judge_83 : decode cX11_judge 83 = .ok (.ifCond .eq 9, 3) := by decide +kernel
theorem dX11_judge_86 : decode cX11_judge 86 = .ok (.iinc 2 1, 3) := by decide +kernel
theorem dX11_judge_89 : decode cX11_judge 89 = .ok (.goto (-57), 3) := by decide +kernel
theorem dX11_judge_92 : decode cX11_judge 92 = .ok (.iload_n 2, 1) := by decide +kernel
theorem dX11_judge_93 : decode cX11_judge 93 = .ok (.ireturn, 1) := by decide +kernel
theorem dX11_heapMany_0 : decode cX11_heapMany 0 = .ok (.iconst 0, 1) := by decide +kernel
theorem dX11_heapMany_1 : decode cX11_heapMany 1 = .ok (.istore_n 1, 1) := by decide +kernel
theorem dX11_heapMany_2 : decode cX11_heapMany 2 = .ok (.iconst 0, 1) := by decide +kernel
theorem dX11_heapMany_3 : decode cX11_heapMany 3 = .ok (.istore_n 2, 1) := by decide +kernel
theorem dX11_heapMany_4 : decode cX11_heapMany 4 = .ok (.iload_n 2, 1) := by decide +kernel
theorem dX11_heapMany_5 : decode cX11_heapMany 5 = .ok (.bipush 8, 2) := by decide +kernel
theorem dX11_heapMany_7 : decode cX11_heapMany 7 = .ok (.if_icmp .ge 25, 3) := by decide +kernel
theorem dX11_heapMany_10 : decode cX11_heapMany 10 = .ok (.iload_n 1, 1) := by decide +kernel
theorem dX11_heapMany_11 : decode cX11_heapMany 11 = .ok (.aload_n 0, 1) := by decide +kernel
theorem dX11_heapMany_12 : decode cX11_heapMany 12 = .ok (.iload_n 2, 1) := by decide +kernel
theorem dX11_heapMany_13 : decode cX11_heapMany 13 = .ok (.invokevirtual 288, 3) := by decide +kernel
theorem dX11_heapMany_16 : decode cX11_heapMany 16 = .ok (.ifCond .eq 7, 3) := by decide +kernel
theorem dX11_heapMany_19 : decode cX11_heapMany 19 = .ok (.iconst 1, 1) := by decide +kernel
theorem dX11_heapMany_20 : decode cX11_heapMany 20 = .ok (.goto 4, 3) := by decide +kernel
theorem dX11_heapMany_23 : decode cX11_heapMany 23 = .ok (.iconst 0, 1) := by decide +kernel
theorem dX11_heapMany_24 : decode cX11_heapMany 24 = .ok (.iadd, 1) := by decide +kernel
theorem dX11_heapMany_25 : decode cX11_heapMany 25 = .ok (.istore_n 1, 1) := by decide +kernel
theorem dX11_heapMany_26 : decode cX11_heapMany 26 = .ok (.iinc 2 1, 3) := by decide +kernel
theorem dX11_heapMany_29 : decode cX11_heapMany 29 = .ok (.goto (-25), 3) := by decide +kernel
theorem dX11_heapMany_32 : decode cX11_heapMany 32 = .ok (.iload_n 1, 1) := by decide +kernel
theorem dX11_heapMany_33 : decode cX11_heapMany 33 = .ok (.ireturn, 1) := by decide +kernel
theorem dX11_round_0 : decode cX11_round 0 = .ok (.iload_n 1, 1) := by decide +kernel
theorem dX11_round_1 : decode cX11_round 1 = .ok (.iconst 1, 1) := by decide +kernel
theorem dX11_round_2 : decode cX11_round 2 = .ok (.iadd, 1) := by decide +kernel
theorem dX11_round_3 : decode cX11_round 3 = .ok (.bipush 8, 2) := by decide +kernel
theorem dX11_round_5 : decode cX11_round 5 = .ok (.irem, 1) := by decide +kernel
theorem dX11_round_6 : decode cX11_round 6 = .ok (.istore_n 2, 1) := by decide +kernel
theorem dX11_round_7 : decode cX11_round 7 = .ok (.iload_n 0, 1) := by decide +kernel
theorem dX11_round_8 : decode cX11_round 8 = .ok (.iload_n 2, 1) := by decide +kernel
theorem dX11_round_9 : decode cX11_round 9 = .ok (.invokestatic 239, 3) := by decide +kernel
theorem dX11_round_12 : decode cX11_round 12 = .ok (.ifCond .ne 13, 3) := by decide +kernel
theorem dX11_round_15 : decode cX11_round 15 = .ok (.iload_n 2, 1) := by decide +kernel
theorem dX11_round_16 : decode cX11_round 16 = .ok (.iconst 1, 1) := by decide +kernel
theorem dX11_round_17 : decode cX11_round 17 = .ok (.iadd, 1) := by decide +kernel
theorem dX11_round_18 : decode cX11_round 18 = .ok (.bipush 8, 2) := by decide +kernel
theorem dX11_round_20 : decode cX11_round 20 = .ok (.irem, 1) := by decide +kernel
theorem dX11_round_21 : decode cX11_round 21 = .ok (.istore_n 2, 1) := by decide +kernel
theorem dX11_round_22 : decode cX11_round 22 = .ok (.goto (-15), 3) := by decide +kernel
theorem dX11_round_25 : decode cX11_round 25 = .ok (.iload_n 2, 1) := by decide +kernel
theorem dX11_round_26 : decode cX11_round 26 = .ok (.ireturn, 1) := by decide +kernel
theorem dX11_firstOf_0 : decode cX11_firstOf 0 = .ok (.iload_n 0, 1) := by decide +kernel
theorem dX11_firstOf_1 : decode cX11_firstOf 1 = .ok (.bipush 7, 2) := by decide +kernel
theorem dX11_firstOf_3 : decode cX11_firstOf 3 = .ok (.invokestatic 395, 3) := by decide +kernel
theorem dX11_firstOf_6 : decode cX11_firstOf 6 = .ok (.ireturn, 1) := by decide +kernel
theorem dX11_thereSet_0 : decode cX11_thereSet 0 = .ok (.iconst 0, 1) := by decide +kernel
theorem dX11_thereSet_1 : decode cX11_thereSet 1 = .ok (.istore_n 1, 1) := by decide +kernel
theorem dX11_thereSet_2 : decode cX11_thereSet 2 = .ok (.iconst 0, 1) := by decide +kernel
theorem dX11_thereSet_3 : decode cX11_thereSet 3 = .ok (.istore_n 2, 1) := by decide +kernel
theorem dX11_thereSet_4 : decode cX11_thereSet 4 = .ok (.iload_n 2, 1) := by decide +kernel
theorem dX11_thereSet_5 : decode cX11_thereSet 5 = .ok (.bipush 8, 2) := by decide +kernel
theorem dX11_thereSet_7 : decode cX11_thereSet 7 = .ok (.if_icmp .ge 27, 3) := by decide +kernel
theorem dX11_thereSet_10 : decode cX11_thereSet 10 = .ok (.iload_n 1, 1) := by decide +kernel
theorem dX11_thereSet_11 : decode cX11_thereSet 11 = .ok (.aload_n 0, 1) := by decide +kernel
theorem dX11_thereSet_12 : decode cX11_thereSet 12 = .ok (.iload_n 2, 1) := by decide +kernel
theorem dX11_thereSet_13 : decode cX11_thereSet 13 = .ok (.invokevirtual 288, 3) := by decide +kernel
theorem dX11_thereSet_16 : decode cX11_thereSet 16 = .ok (.ifCond .eq 9, 3) := by decide +kernel
theorem dX11_thereSet_19 : decode cX11_thereSet 19 = .ok (.iconst 1, 1) := by decide +kernel
theorem dX11_thereSet_20 : decode cX11_thereSet 20 = .ok (.iload_n 2, 1) := by decide +kernel
theorem dX11_thereSet_21 : decode cX11_thereSet 21 = .ok (.ishl, 1) := by decide +kernel
theorem dX11_thereSet_22 : decode cX11_thereSet 22 = .ok (.goto 4, 3) := by decide +kernel
theorem dX11_thereSet_25 : decode cX11_thereSet 25 = .ok (.iconst 0, 1) := by decide +kernel
theorem dX11_thereSet_26 : decode cX11_thereSet 26 = .ok (.ior, 1) := by decide +kernel
theorem dX11_thereSet_27 : decode cX11_thereSet 27 = .ok (.istore_n 1, 1) := by decide +kernel
theorem dX11_thereSet_28 : decode cX11_thereSet 28 = .ok (.iinc 2 1, 3) := by decide +kernel
theorem dX11_thereSet_31 : decode cX11_thereSet 31 = .ok (.goto (-27), 3) := by decide +kernel
theorem dX11_thereSet_34 : decode cX11_thereSet 34 = .ok (.iload_n 1, 1) := by decide +kernel
theorem dX11_thereSet_35 : decode cX11_thereSet 35 = .ok (.ireturn, 1) := by decide +kernel
theorem dX11_goesRound_0 : decode cX11_goesRound 0 = .ok (.iload_n 3, 1) := by decide +kernel
theorem dX11_goesRound_1 : decode cX11_goesRound 1 = .ok (.istore 4, 2) := by decide +kernel
theorem dX11_goesRound_3 : decode cX11_goesRound 3 = .ok (.iconst 0, 1) := by decide +kernel
theorem dX11_goesRound_4 : decode cX11_goesRound 4 = .ok (.istore 5, 2) := by decide +kernel
theorem dX11_goesRound_6 : decode cX11_goesRound 6 = .ok (.iload 5, 2) := by decide +kernel
theorem dX11_goesRound_8 : decode cX11_goesRound 8 = .ok (.aload_n 0, 1) := by decide +kernel
theorem dX11_goesRound_9 : decode cX11_goesRound 9 = .ok (.iload_n 1, 1) := by decide +kernel
theorem dX11_goesRound_10 : decode cX11_goesRound 10 = .ok (.iconst 3, 1) := by decide +kernel
theorem dX11_goesRound_11 : decode cX11_goesRound 11 = .ok (.invokevirtual 297, 3) := by decide +kernel
theorem dX11_goesRound_14 : decode cX11_goesRound 14 = .ok (.if_icmp .ge 37, 3) := by decide +kernel
theorem dX11_goesRound_17 : decode cX11_goesRound 17 = .ok (.aload_n 0, 1) := by decide +kernel
theorem dX11_goesRound_18 : decode cX11_goesRound 18 = .ok (.iload 4, 2) := by decide +kernel
theorem dX11_goesRound_20 : decode cX11_goesRound 20 = .ok (.iconst 3, 1) := by decide +kernel
theorem dX11_goesRound_21 : decode cX11_goesRound 21 = .ok (.iload_n 1, 1) := by decide +kernel
theorem dX11_goesRound_22 : decode cX11_goesRound 22 = .ok (.iadd, 1) := by decide +kernel
theorem dX11_goesRound_23 : decode cX11_goesRound 23 = .ok (.aload_n 0, 1) := by decide +kernel
theorem dX11_goesRound_24 : decode cX11_goesRound 24 = .ok (.iload 4, 2) := by decide +kernel
theorem dX11_goesRound_26 : decode cX11_goesRound 26 = .ok (.iconst 3, 1) := by decide +kernel
theorem dX11_goesRound_27 : decode cX11_goesRound 27 = .ok (.iload_n 1, 1) := by decide +kernel
theorem dX11_goesRound_28 : decode cX11_goesRound 28 = .ok (.iadd, 1) := by decide +kernel
theorem dX11_goesRound_29 : decode cX11_goesRound 29 = .ok (.invokevirtual 88, 3) := by decide +kernel
theorem dX11_goesRound_32 : decode cX11_goesRound 32 = .ok (.iconst 1, 1) := by decide +kernel
theorem dX11_goesRound_33 : decode cX11_goesRound 33 = .ok (.iadd, 1) := by decide +kernel
theorem dX11_goesRound_34 : decode cX11_goesRound 34 = .ok (.invokevirtual 284, 3) := by decide +kernel
theorem dX11_goesRound_37 : decode cX11_goesRound 37 = .ok (.iload_n 2, 1) := by decide +kernel
theorem dX11_goesRound_38 : decode cX11_goesRound 38 = .ok (.iload 4, 2) := by decide +kernel
theorem dX11_goesRound_40 : decode cX11_goesRound 40 = .ok (.invokestatic 395, 3) := by decide +kernel
theorem dX11_goesRound_43 : decode cX11_goesRound 43 = .ok (.istore 4, 2) := by decide +kernel
theorem dX11_goesRound_45 : decode cX11_goesRound 45 = .ok (.iinc 5 1, 3) := by decide +kernel
theorem dX11_goesRound_48 : decode cX11_goesRound 48 = .ok (.goto (-42), 3) := by decide +kernel
theorem dX11_goesRound_51 : decode cX11_goesRound 51 = .ok (.iload 4, 2) := by decide +kernel
theorem dX11_goesRound_53 : decode cX11_goesRound 53 = .ok (.ireturn, 1) := by decide +kernel
theorem dX11_takeUp_0 : decode cX11_takeUp 0 = .ok (.iconst 0, 1) := by decide +kernel
theorem dX11_takeUp_1 : decode cX11_takeUp 1 = .ok (.istore_n 1, 1) := by decide +kernel
theorem dX11_takeUp_2 : decode cX11_takeUp 2 = .ok (.iload_n 1, 1) := by decide +kernel
theorem dX11_takeUp_3 : decode cX11_takeUp 3 = .ok (.bipush 8, 2) := by decide +kernel
theorem dX11_takeUp_5 : decode cX11_takeUp 5 = .ok (.if_icmp .ge 32, 3) := by decide +kernel
theorem dX11_takeUp_8 : decode cX11_takeUp 8 = .ok (.iconst 0, 1) := by decide +kernel
theorem dX11_takeUp_9 : decode cX11_takeUp 9 = .ok (.istore_n 2, 1) := by decide +kernel
theorem dX11_takeUp_10 : decode cX11_takeUp 10 = .ok (.iload_n 2, 1) := by decide +kernel
theorem dX11_takeUp_11 : decode cX11_takeUp 11 = .ok (.bipush 6, 2) := by decide +kernel
theorem dX11_takeUp_13 : decode cX11_takeUp 13 = .ok (.if_icmp .ge 18, 3) := by decide +kernel
theorem dX11_takeUp_16 : decode cX11_takeUp 16 = .ok (.aload_n 0, 1) := by decide +kernel
theorem dX11_takeUp_17 : decode cX11_takeUp 17 = .ok (.iload_n 1, 1) := by decide +kernel
theorem dX11_takeUp_18 : decode cX11_takeUp 18 = .ok (.iconst 3, 1) := by decide +kernel
theorem dX11_takeUp_19 : decode cX11_takeUp 19 = .ok (.iload_n 2, 1) := by decide +kernel
theorem dX11_takeUp_20 : decode cX11_takeUp 20 = .ok (.iadd, 1) := by decide +kernel
theorem dX11_takeUp_21 : decode cX11_takeUp 21 = .ok (.iconst 0, 1) := by decide +kernel
theorem dX11_takeUp_22 : decode cX11_takeUp 22 = .ok (.invokevirtual 284, 3) := by decide +kernel
theorem dX11_takeUp_25 : decode cX11_takeUp 25 = .ok (.iinc 2 1, 3) := by decide +kernel
theorem dX11_takeUp_28 : decode cX11_takeUp 28 = .ok (.goto (-18), 3) := by decide +kernel
theorem dX11_takeUp_31 : decode cX11_takeUp 31 = .ok (.iinc 1 1, 3) := by decide +kernel
theorem dX11_takeUp_34 : decode cX11_takeUp 34 = .ok (.goto (-32), 3) := by decide +kernel
theorem dX11_takeUp_37 : decode cX11_takeUp 37 = .ok (.return_, 1) := by decide +kernel
theorem dX11_seatHeaps_0 : decode cX11_seatHeaps 0 = .ok (.iconst 0, 1) := by decide +kernel
theorem dX11_seatHeaps_1 : decode cX11_seatHeaps 1 = .ok (.istore_n 1, 1) := by decide +kernel
theorem dX11_seatHeaps_2 : decode cX11_seatHeaps 2 = .ok (.iconst 0, 1) := by decide +kernel
theorem dX11_seatHeaps_3 : decode cX11_seatHeaps 3 = .ok (.istore_n 2, 1) := by decide +kernel
theorem dX11_seatHeaps_4 : decode cX11_seatHeaps 4 = .ok (.iload_n 2, 1) := by decide +kernel
theorem dX11_seatHeaps_5 : decode cX11_seatHeaps 5 = .ok (.bipush 8, 2) := by decide +kernel
theorem dX11_seatHeaps_7 : decode cX11_seatHeaps 7 = .ok (.if_icmp .ge 59, 3) := by decide +kernel
theorem dX11_seatHeaps_10 : decode cX11_seatHeaps 10 = .ok (.iconst 0, 1) := by decide +kernel
theorem dX11_seatHeaps_11 : decode cX11_seatHeaps 11 = .ok (.istore_n 3, 1) := by decide +kernel
theorem dX11_seatHeaps_12 : decode cX11_seatHeaps 12 = .ok (.iload_n 3, 1) := by decide +kernel
theorem dX11_seatHeaps_13 : decode cX11_seatHeaps 13 = .ok (.aload_n 0, 1) := by decide +kernel
theorem dX11_seatHeaps_14 : decode cX11_seatHeaps 14 = .ok (.getfield 13, 3) := by decide +kernel
theorem dX11_seatHeaps_17 : decode cX11_seatHeaps 17 = .ok (.bipush 6, 2) := by decide +kernel
theorem dX11_seatHeaps_19 : decode cX11_seatHeaps 19 = .ok (.iaload, 1) := by decide +kernel
theorem dX11_seatHeaps_20 : decode cX11_seatHeaps 20 = .ok (.if_icmp .ge 40, 3) := by decide +kernel
theorem dX11_seatHeaps_23 : decode cX11_seatHeaps 23 = .ok (.iload_n 1, 1) := by decide +kernel
theorem dX11_seatHeaps_24 : decode cX11_seatHeaps 24 = .ok (.aload_n 0, 1) := by decide +kernel
theorem dX11_seatHeaps_25 : decode cX11_seatHeaps 25 = .ok (.iload_n 3, 1) := by decide +kernel
theorem dX11_seatHeaps_26 : decode cX11_seatHeaps 26 = .ok (.iconst 0, 1) := by decide +kernel
theorem dX11_seatHeaps_27 : decode cX11_seatHeaps 27 = .ok (.invokevirtual 297, 3) := by decide +kernel
theorem dX11_seatHeaps_30 : decode cX11_seatHeaps 30 = .ok (.iconst 2, 1) := by decide +kernel
theorem dX11_seatHeaps_31 : decode cX11_seatHeaps 31 = .ok (.if_icmp .ne 20, 3) := by decide +kernel
theorem dX11_seatHeaps_34 : decode cX11_seatHeaps 34 = .ok (.aload_n 0, 1) := by decide +kernel
theorem dX11_seatHeaps_35 : decode cX11_seatHeaps 35 = .ok (.iload_n 2, 1) := by decide +kernel
theorem dX11_seatHeaps_36 : decode cX11_seatHeaps 36 = .ok (.iconst 3, 1) := by decide +kernel
theorem dX11_seatHeaps_37 : decode cX11_seatHeaps 37 = .ok (.iload_n 3, 1) := by decide +kernel
theorem dX11_seatHeaps_38 : decode cX11_seatHeaps 38 = .ok (.iadd, 1) := by decide +kernel
theorem dX11_seatHeaps_39 : decode cX11_seatHeaps 39 = .ok (.invokevirtual 88, 3) := by decide +kernel
theorem dX11_seatHeaps_42 : decode cX11_seatHeaps 42 = .ok (.ifCond .le 9, 3) := by decide +kernel
theorem dX11_seatHeaps_45 : decode cX11_seatHeaps 45 = .ok (.iconst 1, 1) := by decide +kernel
theorem dX11_seatHeaps_46 : decode cX11_seatHeaps 46 = .ok (.iload_n 2, 1) := by decide +kernel
theorem dX11_seatHeaps_47 : decode cX11_seatHeaps 47 = .ok (.ishl, 1) := by decide +kernel
theorem dX11_seatHeaps_48 : decode cX11_seatHeaps 48 = .ok (.goto 4, 3) := by decide +kernel
theorem dX11_seatHeaps_51 : decode cX11_seatHeaps 51 = .ok (.iconst 0, 1) := by decide +kernel
theorem dX11_seatHeaps_52 : decode cX11_seatHeaps 52 = .ok (.ior, 1) := by decide +kernel
theorem dX11_seatHeaps_53 : decode cX11_seatHeaps 53 = .ok (.istore_n 1, 1) := by decide +kernel
theorem dX11_seatHeaps_54 : decode cX11_seatHeaps 54 = .ok (.iinc 3 1, 3) := by decide +kernel
theorem dX11_seatHeaps_57 : decode cX11_seatHeaps 57 = .ok (.goto (-45), 3) := by decide +kernel
theorem dX11_seatHeaps_60 : decode cX11_seatHeaps 60 = .ok (.iinc 2 1, 3) := by decide +kernel
theorem dX11_seatHeaps_63 : decode cX11_seatHeaps 63 = .ok (.goto (-59), 3) := by decide +kernel
theorem dX11_seatHeaps_66 : decode cX11_seatHeaps 66 = .ok (.iload_n 1, 1) := by decide +kernel
theorem dX11_seatHeaps_67 : decode cX11_seatHeaps 67 = .ok (.ifCond .ne 10, 3) := by decide +kernel
theorem dX11_seatHeaps_70 : decode cX11_seatHeaps 70 = .ok (.aload_n 0, 1) := by decide +kernel
theorem dX11_seatHeaps_71 : decode cX11_seatHeaps 71 = .ok (.invokevirtual 398, 3) := by decide +kernel
theorem dX11_seatHeaps_74 : decode cX11_seatHeaps 74 = .ok (.goto 4, 3) := by decide +kernel
theorem dX11_seatHeaps_77 : decode cX11_seatHeaps 77 = .ok (.iload_n 1, 1) := by decide +kernel
theorem dX11_seatHeaps_78 : decode cX11_seatHeaps 78 = .ok (.ireturn, 1) := by decide +kernel
theorem dX11_lays_0 : decode cX11_lays 0 = .ok (.aload_n 0, 1) := by decide +kernel
theorem dX11_lays_1 : decode cX11_lays 1 = .ok (.invokevirtual 401, 3) := by decide +kernel
theorem dX11_lays_4 : decode cX11_lays 4 = .ok (.iload_n 2, 1) := by decide +kernel
theorem dX11_lays_5 : decode cX11_lays 5 = .ok (.invokestatic 404, 3) := by decide +kernel
theorem dX11_lays_8 : decode cX11_lays 8 = .ok (.istore_n 3, 1) := by decide +kernel
theorem dX11_lays_9 : decode cX11_lays 9 = .ok (.iconst 0, 1) := by decide +kernel
theorem dX11_lays_10 : decode cX11_lays 10 = .ok (.istore 4, 2) := by decide +kernel
theorem dX11_lays_12 : decode cX11_lays 12 = .ok (.iload 4, 2) := by decide +kernel
theorem dX11_lays_14 : decode cX11_lays 14 = .ok (.aload_n 0, 1) := by decide +kernel
theorem dX11_lays_15 : decode cX11_lays 15 = .ok (.getfield 13, 3) := by decide +kernel
theorem dX11_lays_18 : decode cX11_lays 18 = .ok (.bipush 6, 2) := by decide +kernel
theorem dX11_lays_20 : decode cX11_lays 20 = .ok (.iaload, 1) := by decide +kernel
theorem dX11_lays_21 : decode cX11_lays 21 = .ok (.if_icmp .ge 60, 3) := by decide +kernel
theorem dX11_lays_24 : decode cX11_lays 24 = .ok (.iload_n 1, 1) := by decide +kernel
theorem dX11_lays_25 : decode cX11_lays 25 = .ok (.iconst 3, 1) := by decide +kernel
theorem dX11_lays_26 : decode cX11_lays 26 = .ok (.if_icmp .ne 17, 3) := by decide +kernel
theorem dX11_lays_29 : decode cX11_lays 29 = .ok (.aload_n 0, 1) := by decide +kernel
theorem dX11_lays_30 : decode cX11_lays 30 = .ok (.iload 4, 2) := by decide +kernel
theorem dX11_lays_32 : decode cX11_lays 32 = .ok (.iconst 0, 1) := by decide +kernel
theorem dX11_lays_33 : decode cX11_lays 33 = .ok (.invokevirtual 297, 3) := by decide +kernel
theorem dX11_lays_36 : decode cX11_lays 36 = .ok (.iconst 2, 1) := by decide +kernel
theorem dX11_lays_37 : decode cX11_lays 37 = .ok (.if_icmp .eq 6, 3) := by decide +kernel
theorem dX11_lays_40 : decode cX11_lays 40 = .ok (.goto 35, 3) := by decide +kernel
theorem dX11_lays_43 : decode cX11_lays 43 = .ok (.iload_n 1, 1) := by decide +kernel
theorem dX11_lays_44 : decode cX11_lays 44 = .ok (.iconst 2, 1) := by decide +kernel
theorem dX11_lays_45 : decode cX11_lays 45 = .ok (.if_icmp .ne 8, 3) := by decide +kernel
theorem dX11_lays_48 : decode cX11_lays 48 = .ok (.iload_n 2, 1) := by decide +kernel
theorem dX11_lays_49 : decode cX11_lays 49 = .ok (.invokestatic 404, 3) := by decide +kernel
theorem dX11_lays_52 : decode cX11_lays 52 = .ok (.istore_n 3, 1) := by decide +kernel
theorem dX11_lays_53 : decode cX11_lays 53 = .ok (.aload_n 0, 1) := by decide +kernel
theorem dX11_lays_54 : decode cX11_lays 54 = .ok (.iload 4, 2) := by decide +kernel
theorem dX11_lays_56 : decode cX11_lays 56 = .ok (.iload_n 1, 1) := by decide +kernel
theorem dX11_lays_57 : decode cX11_lays 57 = .ok (.ifCond .ne 12, 3) := by decide +kernel
theorem dX11_lays_60 : decode cX11_lays 60 = .ok (.iconst 1, 1) := by decide +kernel
theorem dX11_lays_61 : decode cX11_lays 61 = .ok (.iload_n 2, 1) := by decide +kernel
theorem dX11_lays_62 : decode cX11_lays 62 = .ok (.invokestatic 404, 3) := by decide +kernel
theorem dX11_lays_65 : decode cX11_lays 65 = .ok (.ishl, 1) := by decide +kernel
theorem dX11_lays_66 : decode cX11_lays 66 = .ok (.goto 4, 3) := by decide +kernel
theorem dX11_lays_69 : decode cX11_lays 69 = .ok (.iload_n 2, 1) := by decide +kernel
theorem dX11_lays_70 : decode cX11_lays 70 = .ok (.iload_n 3, 1) := by decide +kernel
theorem dX11_lays_71 : decode cX11_lays 71 = .ok (.invokevirtual 407, 3) := by decide +kernel
theorem dX11_lays_74 : decode cX11_lays 74 = .ok (.istore_n 3, 1) := by decide +kernel
theorem dX11_lays_75 : decode cX11_lays 75 = .ok (.iinc 4 1, 3) := by decide +kernel
theorem dX11_lays_78 : decode cX11_lays 78 = .ok (.goto (-66), 3) := by decide +kernel
theorem dX11_lays_81 : decode cX11_lays 81 = .ok (.iload_n 1, 1) := by decide +kernel
theorem dX11_lays_82 : decode cX11_lays 82 = .ok (.iconst 3, 1) := by decide +kernel
theorem dX11_lays_83 : decode cX11_lays 83 = .ok (.if_icmp .eq 4, 3) := by decide +kernel
theorem dX11_lays_86 : decode cX11_lays 86 = .ok (.return_, 1) := by decide +kernel
theorem dX11_lays_87 : decode cX11_lays 87 = .ok (.aload_n 0, 1) := by decide +kernel
theorem dX11_lays_88 : decode cX11_lays 88 = .ok (.invokevirtual 410, 3) := by decide +kernel
theorem dX11_lays_91 : decode cX11_lays 91 = .ok (.istore 4, 2) := by decide +kernel
theorem dX11_lays_93 : decode cX11_lays 93 = .ok (.iload 4, 2) := by decide +kernel
theorem dX11_lays_95 : decode cX11_lays 95 = .ok (.invokestatic 404, 3) := by decide +kernel
theorem dX11_lays_98 : decode cX11_lays 98 = .ok (.istore_n 3, 1) := by decide +kernel
theorem dX11_lays_99 : decode cX11_lays 99 = .ok (.iconst 0, 1) := by decide +kernel
theorem dX11_lays_100 : decode cX11_lays 100 = .ok (.istore 5, 2) := by decide +kernel
theorem dX11_lays_102 : decode cX11_lays 102 = .ok (.iload 5, 2) := by decide +kernel
theorem dX11_lays_104 : decode cX11_lays 104 = .ok (.aload_n 0, 1) := by decide +kernel
theorem dX11_lays_105 : decode cX11_lays 105 = .ok (.getfield 13, 3) := by decide +kernel
theorem dX11_lays_108 : decode cX11_lays 108 = .ok (.bipush 6, 2) := by decide +kernel
theorem dX11_lays_110 : decode cX11_lays 110 = .ok (.iaload, 1) := by decide +kernel
theorem dX11_lays_111 : decode cX11_lays 111 = .ok (.if_icmp .ge 30, 3) := by decide +kernel
theorem dX11_lays_114 : decode cX11_lays 114 = .ok (.aload_n 0, 1) := by decide +kernel
theorem dX11_lays_115 : decode cX11_lays 115 = .ok (.iload 5, 2) := by decide +kernel
theorem dX11_lays_117 : decode cX11_lays 117 = .ok (.iconst 0, 1) := by decide +kernel
theorem dX11_lays_118 : decode cX11_lays 118 = .ok (.invokevirtual 297, 3) := by decide +kernel
theorem dX11_lays_121 : decode cX11_lays 121 = .ok (.iconst 2, 1) := by decide +kernel
theorem dX11_lays_122 : decode cX11_lays 122 = .ok (.if_icmp .eq 13, 3) := by decide +kernel
theorem dX11_lays_125 : decode cX11_lays 125 = .ok (.aload_n 0, 1) := by decide +kernel
theorem dX11_lays_126 : decode cX11_lays 126 = .ok (.iload 5, 2) := by decide +kernel
theorem dX11_lays_128 : decode cX11_lays 128 = .ok (.iload 4, 2) := by decide +kernel
theorem dX11_lays_130 : decode cX11_lays 130 = .ok (.iload_n 3, 1) := by decide +kernel
theorem dX11_lays_131 : decode cX11_lays 131 = .ok (.invokevirtual 407, 3) := by decide +kernel
theorem dX11_lays_134 : decode cX11_lays 134 = .ok (.istore_n 3, 1) := by decide +kernel
theorem dX11_lays_135 : decode cX11_lays 135 = .ok (.iinc 5 1, 3) := by decide +kernel
theorem dX11_lays_138 : decode cX11_lays 138 = .ok (.goto (-36), 3) := by decide +kernel
theorem dX11_lays_141 : decode cX11_lays 141 = .ok (.return_, 1) := by decide +kernel
theorem dX11_lay_0 : decode cX11_lay 0 = .ok (.aload_n 0, 1) := by decide +kernel
theorem dX11_lay_1 : decode cX11_lay 1 = .ok (.invokevirtual 271, 3) := by decide +kernel
theorem dX11_lay_4 : decode cX11_lay 4 = .ok (.ifCond .eq 15, 3) := by decide +kernel
theorem dX11_lay_7 : decode cX11_lay 7 = .ok (.iload_n 1, 1) := by decide +kernel
theorem dX11_lay_8 : decode cX11_lay 8 = .ok (.i2l, 1) := by decide +kernel
theorem dX11_lay_9 : decode cX11_lay 9 = .ok (.lconst 0, 1) := by decide +kernel
theorem dX11_lay_10 : decode cX11_lay 10 = .ok (.ldc2_w 269, 3) := by decide +kernel
theorem dX11_lay_13 : decode cX11_lay 13 = .ok (.invokestatic 84, 3) := by decide +kernel
theorem dX11_lay_16 : decode cX11_lay 16 = .ok (.ifCond .ne 6, 3) := by decide +kernel
theorem dX11_lay_19 : decode cX11_lay 19 = .ok (.bipush (-2), 2) := by decide +kernel
theorem dX11_lay_21 : decode cX11_lay 21 = .ok (.ireturn, 1) := by decide +kernel
theorem dX11_lay_22 : decode cX11_lay 22 = .ok (.aload_n 0, 1) := by decide +kernel
theorem dX11_lay_23 : decode cX11_lay 23 = .ok (.invokevirtual 413, 3) := by decide +kernel
theorem dX11_lay_26 : decode cX11_lay 26 = .ok (.ifCond .ne 6, 3) := by decide +kernel
theorem dX11_lay_29 : decode cX11_lay 29 = .ok (.bipush (-5), 2) := by decide +kernel
theorem dX11_lay_31 : decode cX11_lay 31 = .ok (.ireturn, 1) := by decide +kernel
theorem dX11_lay_32 : decode cX11_lay 32 = .ok (.aload_n 0, 1) := by decide +kernel
theorem dX11_lay_33 : decode cX11_lay 33 = .ok (.iload_n 1, 1) := by decide +kernel
theorem dX11_lay_34 : decode cX11_lay 34 = .ok (.aload_n 0, 1) := by decide +kernel
theorem dX11_lay_35 : decode cX11_lay 35 = .ok (.invokevirtual 398, 3) := by decide +kernel
theorem dX11_lay_38 : decode cX11_lay 38 = .ok (.invokevirtual 416, 3) := by decide +kernel
theorem dX11_lay_41 : decode cX11_lay 41 = .ok (.iconst 0, 1) := by decide +kernel
theorem dX11_lay_42 : decode cX11_lay 42 = .ok (.istore_n 2, 1) := by decide +kernel
theorem dX11_lay_43 : decode cX11_lay 43 = .ok (.iconst 0, 1) := by decide +kernel
theorem dX11_lay_44 : decode cX11_lay 44 = .ok (.istore_n 3, 1) := by decide +kernel
theorem dX11_lay_45 : decode cX11_lay 45 = .ok (.iload_n 3, 1) := by decide +kernel
theorem dX11_lay_46 : decode cX11_lay 46 = .ok (.bipush 8, 2) := by decide +kernel
theorem dX11_lay_48 : decode cX11_lay 48 = .ok (.if_icmp .ge 55, 3) := by decide +kernel
theorem dX11_lay_51 : decode cX11_lay 51 = .ok (.iconst 0, 1) := by decide +kernel
theorem dX11_lay_52 : decode cX11_lay 52 = .ok (.istore 4, 2) := by decide +kernel
theorem dX11_lay_54 : decode cX11_lay 54 = .ok (.iconst 0, 1) := by decide +kernel
theorem dX11_lay_55 : decode cX11_lay 55 = .ok (.istore 5, 2) := by decide +kernel
theorem dX11_lay_57 : decode cX11_lay 57 = .ok (.iload 5, 2) := by decide +kernel
theorem dX11_lay_59 : decode cX11_lay 59 = .ok (.bipush 6, 2) := by decide +kernel
theorem dX11_lay_61 : decode cX11_lay 61 = .ok (.if_icmp .ge 23, 3) := by decide +kernel
theorem dX11_lay_64 : decode cX11_lay 64 = .ok (.iload 4, 2) := by decide +kernel
theorem dX11_lay_66 : decode cX11_lay 66 = .ok (.aload_n 0, 1) := by decide +kernel
theorem dX11_lay_67 : decode cX11_lay 67 = .ok (.iload_n 3, 1) := by decide +kernel
theorem dX11_lay_68 : decode cX11_lay 68 = .ok (.iconst 3, 1) := by decide +kernel
theorem dX11_lay_69 : decode cX11_lay 69 = .ok (.iload 5, 2) := by decide +kernel
theorem dX11_lay_71 : decode cX11_lay 71 = .ok (.iadd, 1) := by decide +kernel
theorem dX11_lay_72 : decode cX11_lay 72 = .ok (.invokevirtual 88, 3) := by decide +kernel
theorem dX11_lay_75 : decode cX11_lay 75 = .ok (.iadd, 1) := by decide +kernel
theorem dX11_lay_76 : decode cX11_lay 76 = .ok (.istore 4, 2) := by decide +kernel
theorem dX11_lay_78 : decode cX11_lay 78 = .ok (.iinc 5 1, 3) := by decide +kernel
theorem dX11_lay_81 : decode cX11_lay 81 = .ok (.goto (-24), 3) := by decide +kernel
theorem dX11_lay_84 : decode cX11_lay 84 = .ok (.iload_n 2, 1) := by decide +kernel
theorem dX11_lay_85 : decode cX11_lay 85 = .ok (.iload 4, 2) := by decide +kernel
theorem dX11_lay_87 : decode cX11_lay 87 = .ok (.ifCond .le 7, 3) := by decide +kernel
theorem dX11_lay_90 : decode cX11_lay 90 = .ok (.iconst 1, 1) := by decide +kernel
theorem dX11_lay_91 : decode cX11_lay 91 = .ok (.goto 4, 3) := by decide +kernel
theorem dX11_lay_94 : decode cX11_lay 94 = .ok (.iconst 0, 1) := by decide +kernel
theorem dX11_lay_95 : decode cX11_lay 95 = .ok (.iadd, 1) := by decide +kernel
theorem dX11_lay_96 : decode cX11_lay 96 = .ok (.istore_n 2, 1) := by decide +kernel
theorem dX11_lay_97 : decode cX11_lay 97 = .ok (.iinc 3 1, 3) := by decide +kernel
theorem dX11_lay_100 : decode cX11_lay 100 = .ok (.goto (-55), 3) := by decide +kernel
theorem dX11_lay_103 : decode cX11_lay 103 = .ok (.iload_n 2, 1) := by decide +kernel
theorem dX11_lay_104 : decode cX11_lay 104 = .ok (.ireturn, 1) := by decide +kernel
theorem dX11_keepsHeaps_0 : decode cX11_keepsHeaps 0 = .ok (.iconst 0, 1) := by decide +kernel
theorem dX11_keepsHeaps_1 : decode cX11_keepsHeaps 1 = .ok (.istore_n 1, 1) := by decide +kernel
theorem dX11_keepsHeaps_2 : decode cX11_keepsHeaps 2 = .ok (.iload_n 1, 1) := by decide +kernel
theorem dX11_keepsHeaps_3 : decode cX11_keepsHeaps 3 = .ok (.bipush 72, 2) := by decide +kernel
theorem dX11_keepsHeaps_5 : decode cX11_keepsHeaps 5 = .ok (.if_icmp .ge 24, 3) := by decide +kernel
theorem dX11_keepsHeaps_8 : decode cX11_keepsHeaps 8 = .ok (.aload_n 0, 1) := by decide +kernel
theorem dX11_keepsHeaps_9 : decode cX11_keepsHeaps 9 = .ok (.getfield 44, 3) := by decide +kernel
theorem dX11_keepsHeaps_12 : decode cX11_keepsHeaps 12 = .ok (.iload_n 1, 1) := by decide +kernel
theorem dX11_keepsHeaps_13 : decode cX11_keepsHeaps 13 = .ok (.aload_n 0, 1) := by decide +kernel
theorem dX11_keepsHeaps_14 : decode cX11_keepsHeaps 14 = .ok (.getfield 13, 3) := by decide +kernel
theorem dX11_keepsHeaps_17 : decode cX11_keepsHeaps 17 = .ok (.bipush 116, 2) := by decide +kernel
theorem dX11_keepsHeaps_19 : decode cX11_keepsHeaps 19 = .ok (.iload_n 1, 1) := by decide +kernel
theorem dX11_keepsHeaps_20 : decode cX11_keepsHeaps 20 = .ok (.iadd, 1) := by decide +kernel
theorem dX11_keepsHeaps_21 : decode cX11_keepsHeaps 21 = .ok (.iaload, 1) := by decide +kernel
theorem dX11_keepsHeaps_22 : decode cX11_keepsHeaps 22 = .ok (.iastore, 1) := by decide +kernel
theorem dX11_keepsHeaps_23 : decode cX11_keepsHeaps 23 = .ok (.iinc 1 1, 3) := by decide +kernel
theorem dX11_keepsHeaps_26 : decode cX11_keepsHeaps 26 = .ok (.goto (-24), 3) := by decide +kernel
theorem dX11_keepsHeaps_29 : decode cX11_keepsHeaps 29 = .ok (.return_, 1) := by decide +kernel
theorem dX11_givesBack_0 : decode cX11_givesBack 0 = .ok (.iconst 0, 1) := by decide +kernel
theorem dX11_givesBack_1 : decode cX11_givesBack 1 = .ok (.istore_n 1, 1) := by decide +kernel
theorem dX11_givesBack_2 : decode cX11_givesBack 2 = .ok (.iload_n 1, 1) := by decide +kernel
theorem dX11_givesBack_3 : decode cX11_givesBack 3 = .ok (.bipush 72, 2) := by decide +kernel
theorem dX11_givesBack_5 : decode cX11_givesBack 5 = .ok (.if_icmp .ge 24, 3) := by decide +kernel
theorem dX11_givesBack_8 : decode cX11_givesBack 8 = .ok (.aload_n 0, 1) := by decide +kernel
theorem dX11_givesBack_9 : decode cX11_givesBack 9 = .ok (.getfield 13, 3) := by decide +kernel
theorem dX11_givesBack_12 : decode cX11_givesBack 12 = .ok (.bipush 116, 2) := by decide +kernel
theorem dX11_givesBack_14 : decode cX11_givesBack 14 = .ok (.iload_n 1, 1) := by decide +kernel
theorem dX11_givesBack_15 : decode cX11_givesBack 15 = .ok (.iadd, 1) := by decide +kernel
theorem dX11_givesBack_16 : decode cX11_givesBack 16 = .ok (.aload_n 0, 1) := by decide +kernel
theorem dX11_givesBack_17 : decode cX11_givesBack 17 = .ok (.getfield 44, 3) := by decide +kernel
theorem dX11_givesBack_20 : decode cX11_givesBack 20 = .ok (.iload_n 1, 1) := by decide +kernel
theorem dX11_givesBack_21 : decode cX11_givesBack 21 = .ok (.iaload, 1) := by decide +kernel
theorem dX11_givesBack_22 : decode cX11_givesBack 22 = .ok (.iastore, 1) := by decide +kernel
theorem dX11_givesBack_23 : decode cX11_givesBack 23 = .ok (.iinc 1 1, 3) := by decide +kernel
theorem dX11_givesBack_26 : decode cX11_givesBack 26 = .ok (.goto (-24), 3) := by decide +kernel
theorem dX11_givesBack_29 : decode cX11_givesBack 29 = .ok (.return_, 1) := by decide +kernel
theorem dX11_trialOf_0 : decode cX11_trialOf 0 = .ok (.aload_n 0, 1) := by decide +kernel
theorem dX11_trialOf_1 : decode cX11_trialOf 1 = .ok (.invokevirtual 420, 3) := by decide +kernel
theorem dX11_trialOf_4 : decode cX11_trialOf 4 = .ok (.aload_n 0, 1) := by decide +kernel
theorem dX11_trialOf_5 : decode cX11_trialOf 5 = .ok (.iload_n 1, 1) := by decide +kernel
theorem dX11_trialOf_6 : decode cX11_trialOf 6 = .ok (.iload_n 2, 1) := by decide +kernel
theorem dX11_trialOf_7 : decode cX11_trialOf 7 = .ok (.invokevirtual 416, 3) := by decide +kernel
theorem dX11_trialOf_10 : decode cX11_trialOf 10 = .ok (.aload_n 0, 1) := by decide +kernel
theorem dX11_trialOf_11 : decode cX11_trialOf 11 = .ok (.iconst 1, 1) := by decide +kernel
theorem dX11_trialOf_12 : decode cX11_trialOf 12 = .ok (.invokevirtual 384, 3) := by decide +kernel
theorem dX11_trialOf_15 : decode cX11_trialOf 15 = .ok (.lstore_n 3, 1) := by decide +kernel
theorem dX11_trialOf_16 : decode cX11_trialOf 16 = .ok (.aload_n 0, 1) := by decide +kernel
theorem dX11_trialOf_17 : decode cX11_trialOf 17 = .ok (.invokevirtual 423, 3) := by decide +kernel
theorem dX11_trialOf_20 : decode cX11_trialOf 20 = .ok (.lload_n 3, 1) := by decide +kernel
theorem dX11_trialOf_21 : decode cX11_trialOf 21 = .ok (.lreturn, 1) := by decide +kernel
theorem dX11_trial_0 : decode cX11_trial 0 = .ok (.aload_n 0, 1) := by decide +kernel
theorem dX11_trial_1 : decode cX11_trial 1 = .ok (.invokevirtual 271, 3) := by decide +kernel
theorem dX11_trial_4 : decode cX11_trial 4 = .ok (.ifCond .eq 15, 3) := by decide +kernel
theorem dX11_trial_7 : decode cX11_trial 7 = .ok (.iload_n 1, 1) := by decide +kernel
theorem dX11_trial_8 : decode cX11_trial 8 = .ok (.i2l, 1) := by decide +kernel
theorem dX11_trial_9 : decode cX11_trial 9 = .ok (.lconst 0, 1) := by decide +kernel
theorem dX11_trial_10 : decode cX11_trial 10 = .ok (.ldc2_w 269, 3) := by decide +kernel
theorem dX11_trial_13 : decode cX11_trial 13 = .ok (.invokestatic 84, 3) := by decide +kernel
theorem dX11_trial_16 : decode cX11_trial 16 = .ok (.ifCond .ne 7, 3) := by decide +kernel
theorem dX11_trial_19 : decode cX11_trial 19 = .ok (.ldc2_w 342, 3) := by decide +kernel
theorem dX11_trial_22 : decode cX11_trial 22 = .ok (.lreturn, 1) := by decide +kernel
theorem dX11_trial_23 : decode cX11_trial 23 = .ok (.aload_n 0, 1) := by decide +kernel
theorem dX11_trial_24 : decode cX11_trial 24 = .ok (.invokevirtual 413, 3) := by decide +kernel
theorem dX11_trial_27 : decode cX11_trial 27 = .ok (.ifCond .ne 9, 3) := by decide +kernel
theorem dX11_trial_30 : decode cX11_trial 30 = .ok (.ldc2_w 426, 3) := by decide +kernel
theorem dX11_trial_33 : decode cX11_trial 33 = .ok (.goto 12, 3) := by decide +kernel
theorem dX11_trial_36 : decode cX11_trial 36 = .ok (.aload_n 0, 1) := by decide +kernel
theorem dX11_trial_37 : decode cX11_trial 37 = .ok (.iload_n 1, 1) := by decide +kernel
theorem dX11_trial_38 : decode cX11_trial 38 = .ok (.aload_n 0, 1) := by decide +kernel
theorem dX11_trial_39 : decode cX11_trial 39 = .ok (.invokevirtual 398, 3) := by decide +kernel
theorem dX11_trial_42 : decode cX11_trial 42 = .ok (.invokevirtual 428, 3) := by decide +kernel
theorem dX11_trial_45 : decode cX11_trial 45 = .ok (.lreturn, 1) := by decide +kernel
theorem dX11_best_0 : decode cX11_best 0 = .ok (.aload_n 0, 1) := by decide +kernel
theorem dX11_best_1 : decode cX11_best 1 = .ok (.invokevirtual 271, 3) := by decide +kernel
theorem dX11_best_4 : decode cX11_best 4 = .ok (.ifCond .ne 6, 3) := by decide +kernel
theorem dX11_best_7 : decode cX11_best 7 = .ok (.bipush (-2), 2) := by decide +kernel
theorem dX11_best_9 : decode cX11_best 9 = .ok (.ireturn, 1) := by decide +kernel
theorem dX11_best_10 : decode cX11_best 10 = .ok (.aload_n 0, 1) := by decide +kernel
theorem dX11_best_11 : decode cX11_best 11 = .ok (.invokevirtual 413, 3) := by decide +kernel
theorem dX11_best_14 : decode cX11_best 14 = .ok (.ifCond .ne 6, 3) := by decide +kernel
theorem dX11_best_17 : decode cX11_best 17 = .ok (.bipush (-5), 2) := by decide +kernel
theorem dX11_best_19 : decode cX11_best 19 = .ok (.ireturn, 1) := by decide +kernel
theorem dX11_best_20 : decode cX11_best 20 = .ok (.iconst 0, 1) := by decide +kernel
theorem dX11_best_21 : decode cX11_best 21 = .ok (.istore_n 1, 1) := by decide +kernel
theorem dX11_best_22 : decode cX11_best 22 = .ok (.aload_n 0, 1) := by decide +kernel
theorem dX11_best_23 : decode cX11_best 23 = .ok (.iconst 0, 1) := by decide +kernel
theorem dX11_best_24 : decode cX11_best 24 = .ok (.aload_n 0, 1) := by decide +kernel
theorem dX11_best_25 : decode cX11_best 25 = .ok (.invokevirtual 398, 3) := by decide +kernel
theorem dX11_best_28 : decode cX11_best 28 = .ok (.invokevirtual 428, 3) := by decide +kernel
theorem dX11_best_31 : decode cX11_best 31 = .ok (.lstore_n 2, 1) := by decide +kernel
theorem dX11_best_32 : decode cX11_best 32 = .ok (.iconst 1, 1) := by decide +kernel
theorem dX11_best_33 : decode cX11_best 33 = .ok (.istore 4, 2) := by decide +kernel
theorem dX11_best_35 : decode cX11_best 35 = .ok (.iload 4, 2) := by decide +kernel
theorem dX11_best_37 : decode cX11_best 37 = .ok (.iconst 4, 1) := by decide +kernel
theorem dX11_best_38 : decode cX11_best 38 = .ok (.if_icmp .ge 37, 3) := by decide +kernel
theorem dX11_best_41 : decode cX11_best 41 = .ok (.aload_n 0, 1) := by decide +kernel
theorem dX11_best_42 : decode cX11_best 42 = .ok (.iload 4, 2) := by decide +kernel
theorem dX11_best_44 : decode cX11_best 44 = .ok (.aload_n 0, 1) := by decide +kernel
theorem dX11_best_45 : decode cX11_best 45 = .ok (.invokevirtual 398, 3) := by decide +kernel
theorem dX11_best_48 : decode cX11_best 48 = .ok (.invokevirtual 428, 3) := by decide +kernel
theorem dX11_best_51 : decode cX11_best 51 = .ok (.lstore 5, 2) := by decide +kernel
theorem dX11_best_53 : decode cX11_best 53 = .ok (.lload 5, 2) := by decide +kernel
theorem dX11_best_55 : decode cX11_best 55 = .ok (.lload_n 2, 1) := by decide +kernel
theorem dX11_best_56 : decode cX11_best 56 = .ok (.lcmp, 1) := by decide +kernel
theorem dX11_best_57 : decode cX11_best 57 = .ok (.ifCond .lt 6, 3) := by decide +kernel
theorem dX11_best_60 : decode cX11_best 60 = .ok (.goto 9, 3) := by decide +kernel
theorem dX11_best_63 : decode cX11_best 63 = .ok (.iload 4, 2) := by decide +kernel
theorem dX11_best_65 : decode cX11_best 65 = .ok (.istore_n 1, 1) := by decide +kernel
theorem dX11_best_66 : decode cX11_best 66 = .ok (.lload 5, 2) := by decide +kernel
theorem dX11_best_68 : decode cX11_best 68 = .ok (.lstore_n 2, 1) := by decide +kernel
theorem dX11_best_69 : decode cX11_best 69 = .ok (.iinc 4 1, 3) := by decide +kernel
theorem dX11_best_72 : decode cX11_best 72 = .ok (.goto (-37), 3) := by decide +kernel
theorem dX11_best_75 : decode cX11_best 75 = .ok (.iload_n 1, 1) := by decide +kernel
theorem dX11_best_76 : decode cX11_best 76 = .ok (.ireturn, 1) := by decide +kernel
theorem dX11_isBettered_0 : decode cX11_isBettered 0 = .ok (.aload_n 0, 1) := by decide +kernel
theorem dX11_isBettered_1 : decode cX11_isBettered 1 = .ok (.iconst 1, 1) := by decide +kernel
theorem dX11_isBettered_2 : decode cX11_isBettered 2 = .ok (.invokevirtual 384, 3) := by decide +kernel
theorem dX11_isBettered_5 : decode cX11_isBettered 5 = .ok (.lstore_n 1, 1) := by decide +kernel
theorem dX11_isBettered_6 : decode cX11_isBettered 6 = .ok (.iconst (-1), 1) := by decide +kernel
theorem dX11_isBettered_7 : decode cX11_isBettered 7 = .ok (.istore_n 3, 1) := by decide +kernel
theorem dX11_isBettered_8 : decode cX11_isBettered 8 = .ok (.iconst 0, 1) := by decide +kernel
theorem dX11_isBettered_9 : decode cX11_isBettered 9 = .ok (.istore 4, 2) := by decide +kernel
theorem dX11_isBettered_11 : decode cX11_isBettered 11 = .ok (.iconst 0, 1) := by decide +kernel
theorem dX11_isBettered_12 : decode cX11_isBettered 12 = .ok (.istore 5, 2) := by decide +kernel
theorem dX11_isBettered_14 : decode cX11_isBettered 14 = .ok (.iconst 0, 1) := by decide +kernel
theorem dX11_isBettered_15 : decode cX11_isBettered 15 = .ok (.istore 6, 2) := by decide +kernel
theorem dX11_isBettered_17 : decode cX11_isBettered 17 = .ok (.iload 6, 2) := by decide +kernel
theorem dX11_isBettered_19 : decode cX11_isBettered 19 = .ok (.bipush 8, 2) := by decide +kernel
theorem dX11_isBettered_21 : decode cX11_isBettered 21 = .ok (.if_icmp .ge 146, 3) := by decide +kernel
theorem dX11_isBettered_24 : decode cX11_isBettered 24 = .ok (.aload_n 0, 1) := by decide +kernel
theorem dX11_isBettered_25 : decode cX11_isBettered 25 = .ok (.iload 6, 2) := by decide +kernel
theorem dX11_isBettered_27 : decode cX11_isBettered 27 = .ok (.invokevirtual 288, 3) := by decide +kernel
theorem dX11_isBettered_30 : decode cX11_isBettered 30 = .ok (.ifCond .ne 6, 3) := by decide +kernel
theorem dX11_isBettered_33 : decode cX11_isBettered 33 = .ok (.goto 128, 3) := by decide +kernel
theorem dX11_isBettered_36 : decode cX11_isBettered 36 = .ok (.aload_n 0, 1) := by decide +kernel
theorem dX11_isBettered_37 : decode cX11_isBettered 37 = .ok (.iload 6, 2) := by decide +kernel
theorem dX11_isBettered_39 : decode cX11_isBettered 39 = .ok (.iconst 1, 1) := by decide +kernel
theorem dX11_isBettered_40 : decode cX11_isBettered 40 = .ok (.invokevirtual 88, 3) := by decide +kernel
theorem dX11_isBettered_43 : decode cX11_isBettered 43 = .ok (.istore 7, 2) := by decide +kernel
theorem dX11_isBettered_45 : decode cX11_isBettered 45 = .ok (.aload_n 0, 1) := by decide +kernel
theorem dX11_isBettered_46 : decode cX11_isBettered 46 = .ok (.iload 6, 2) := by decide +kernel
theorem dX11_isBettered_48 : decode cX11_isBettered 48 = .ok (.iconst 2, 1) := by decide +kernel
theorem dX11_isBettered_49 : decode cX11_isBettered 49 = .ok (.invokevirtual 88, 3) := by decide +kernel
theorem dX11_isBettered_52 : decode cX11_isBettered 52 = .ok (.istore 8, 2) := by decide +kernel
theorem dX11_isBettered_54 : decode cX11_isBettered 54 = .ok (.iconst 0, 1) := by decide +kernel
theorem dX11_isBettered_55 : decode cX11_isBettered 55 = .ok (.istore 9, 2) := by decide +kernel
theorem dX11_isBettered_57 : decode cX11_isBettered 57 = .ok (.iload 9, 2) := by decide +kernel
theorem dX11_isBettered_59 : decode cX11_isBettered 59 = .ok (.aload_n 0, 1) := by decide +kernel
theorem dX11_isBettered_60 : decode cX11_isBettered 60 = .ok (.getfield 13, 3) := by decide +kernel
theorem dX11_isBettered_63 : decode cX11_isBettered 63 = .ok (.iconst 2, 1) := by decide +kernel
theorem dX11_isBettered_64 : decode cX11_isBettered 64 = .ok (.iaload, 1) := by decide +kernel
theorem dX11_isBettered_65 : decode cX11_isBettered 65 = .ok (.if_icmp .ge 78, 3) := by decide +kernel
theorem dX11_isBettered_68 : decode cX11_isBettered 68 = .ok (.iconst 0, 1) := by decide +kernel
theorem dX11_isBettered_69 : decode cX11_isBettered 69 = .ok (.istore 10, 2) := by decide +kernel
theorem dX11_isBettered_71 : decode cX11_isBettered 71 = .ok (.iload 10, 2) := by decide +kernel
theorem dX11_isBettered_73 : decode cX11_isBettered 73 = .ok (.aload_n 0, 1) := by decide +kernel
theorem dX11_isBettered_74 : decode cX11_isBettered 74 = .ok (.getfield 13, 3) := by decide +kernel
theorem dX11_isBettered_77 : decode cX11_isBettered 77 = .ok (.iconst 1, 1) := by decide +kernel
theorem dX11_isBettered_78 : decode cX11_isBettered 78 = .ok (.iaload, 1) := by decide +kernel
theorem dX11_isBettered_79 : decode cX11_isBettered 79 = .ok (.if_icmp .ge 58, 3) := by decide +kernel
theorem dX11_isBettered_82 : decode cX11_isBettered 82 = .ok (.aload_n 0, 1) := by decide +kernel
theorem dX11_isBettered_83 : decode cX11_isBettered 83 = .ok (.iload 6, 2) := by decide +kernel
theorem dX11_isBettered_85 : decode cX11_isBettered 85 = .ok (.iconst 1, 1) := by decide +kernel
theorem dX11_isBettered_86 : decode cX11_isBettered 86 = .ok (.iload 10, 2) := by decide +kernel
theorem dX11_isBettered_88 : decode cX11_isBettered 88 = .ok (.invokevirtual 284, 3) := by decide +kernel
theorem dX11_isBettered_91 : decode cX11_isBettered 91 = .ok (.aload_n 0, 1) := by decide +kernel
theorem dX11_isBettered_92 : decode cX11_isBettered 92 = .ok (.iload 6, 2) := by decide +kernel
theorem dX11_isBettered_94 : decode cX11_isBettered 94 = .ok (.iconst 2, 1) := by decide +kernel
theorem dX11_isBettered_95 : decode cX11_isBettered 95 = .ok (.iload 9, 2) := by decide +kernel
theorem dX11_isBettered_97 : decode cX11_isBettered 97 = .ok (.invokevirtual 284, 3) := by decide +kernel
theorem dX11_isBettered_100 : decode cX11_isBettered 100 = .ok (.aload_n 0, 1) := by decide +kernel
theorem dX11_isBettered_101 : decode cX11_isBettered 101 = .ok (.iconst 1, 1) := by decide +kernel
theorem dX11_isBettered_102 : decode cX11_isBettered 102 = .ok (.invokevirtual 384, 3) := by decide +kernel
theorem dX11_isBettered_105 : decode cX11_isBettered 105 = .ok (.lstore 11, 2) := by decide +kernel
theorem dX11_isBettered_107 : decode cX11_isBettered 107 = .ok (.lload 11, 2) := by decide +kernel
theorem dX11_isBettered_109 : decode cX11_isBettered 109 = .ok (.lload_n 1, 1) := by decide +kernel
theorem dX11_isBettered_110 : decode cX11_isBettered 110 = .ok (.lcmp, 1) := by decide +kernel
theorem dX11_isBettered_111 : decode cX11_isBettered 111 = .ok (.ifCond .lt 6, 3) := by decide +kernel
theorem dX11_isBettered_114 : decode cX11_isBettered 114 = .ok (.goto 17, 3) := by decide +kernel
theorem dX11_isBettered_117 : decode cX11_isBettered 117 = .ok (.lload 11, 2) := by decide +kernel
theorem dX11_isBettered_119 : decode cX11_isBettered 119 = .ok (.lstore_n 1, 1) := by decide +kernel
theorem dX11_isBettered_120 : decode cX11_isBettered 120 = .ok (.iload 6, 2) := by decide +kernel
theorem dX11_isBettered_122 : decode cX11_isBettered 122 = .ok (.istore_n 3, 1) := by decide +kernel
theorem dX11_isBettered_123 : decode cX11_isBettered 123 = .ok (.iload 10, 2) := by decide +kernel
theorem dX11_isBettered_125 : decode cX11_isBettered 125 = .ok (.istore 4, 2) := by decide +kernel
theorem dX11_isBettered_127 : decode cX11_isBettered 127 = .ok (.iload 9, 2) := by decide +kernel
theorem dX11_isBettered_129 : decode cX11_isBettered 129 = .ok (.istore 5, 2) := by decide +kernel
theorem dX11_isBettered_131 : decode cX11_isBettered 131 = .ok (.iinc 10 1, 3) := by decide +kernel
theorem dX11_isBettered_134 : decode cX11_isBettered 134 = .ok (.goto (-63), 3) := by decide +kernel
theorem dX11_isBettered_137 : decode cX11_isBettered 137 = .ok (.iinc 9 1, 3) := by decide +kernel
theorem dX11_isBettered_140 : decode cX11_isBettered 140 = .ok (.goto (-83), 3) := by decide +kernel
theorem dX11_isBettered_143 : decode cX11_isBettered 143 = .ok (.aload_n 0, 1) := by decide +kernel
theorem dX11_isBettered_144 : decode cX11_isBettered 144 = .ok (.iload 6, 2) := by decide +kernel
theorem dX11_isBettered_146 : decode cX11_isBettered 146 = .ok (.iconst 1, 1) := by decide +kernel
theorem dX11_isBettered_147 : decode cX11_isBettered 147 = .ok (.iload 7, 2) := by decide +kernel
theorem dX11_isBettered_149 : decode cX11_isBettered 149 = .ok (.invokevirtual 284, 3) := by decide +kernel
theorem dX11_isBettered_152 : decode cX11_isBettered 152 = .ok (.aload_n 0, 1) := by decide +kernel
theorem dX11_isBettered_153 : decode cX11_isBettered 153 = .ok (.iload 6, 2) := by decide +kernel
theorem dX11_isBettered_155 : decode cX11_isBettered 155 = .ok (.iconst 2, 1) := by decide +kernel
theorem dX11_isBettered_156 : decode cX11_isBettered 156 = .ok (.iload 8, 2) := by decide +kernel
theorem dX11_isBettered_158 : decode cX11_isBettered 158 = .ok (.invokevirtual 284, 3) := by decide +kernel
theorem dX11_isBettered_161 : decode cX11_isBettered 161 = .ok (.iinc 6 1, 3) := by decide +kernel
theorem dX11_isBettered_164 : decode cX11_isBettered 164 = .ok (.goto (-147), 3) := by decide +kernel
theorem dX11_isBettered_167 : decode cX11_isBettered 167 = .ok (.iload_n 3, 1) := by decide +kernel
theorem dX11_isBettered_168 : decode cX11_isBettered 168 = .ok (.iconst (-1), 1) := by decide +kernel
theorem dX11_isBettered_169 : decode cX11_isBettered 169 = .ok (.if_icmp .ne 5, 3) := by decide +kernel
theorem dX11_isBettered_172 : decode cX11_isBettered 172 = .ok (.iconst 0, 1) := by decide +kernel
theorem dX11_isBettered_173 : decode cX11_isBettered 173 = .ok (.ireturn, 1) := by decide +kernel
theorem dX11_isBettered_174 : decode cX11_isBettered 174 = .ok (.aload_n 0, 1) := by decide +kernel
theorem dX11_isBettered_175 : decode cX11_isBettered 175 = .ok (.iload_n 3, 1) := by decide +kernel
theorem dX11_isBettered_176 : decode cX11_isBettered 176 = .ok (.iconst 1, 1) := by decide +kernel
theorem dX11_isBettered_177 : decode cX11_isBettered 177 = .ok (.iload 4, 2) := by decide +kernel
theorem dX11_isBettered_179 : decode cX11_isBettered 179 = .ok (.invokevirtual 284, 3) := by decide +kernel
theorem dX11_isBettered_182 : decode cX11_isBettered 182 = .ok (.aload_n 0, 1) := by decide +kernel
theorem dX11_isBettered_183 : decode cX11_isBettered 183 = .ok (.iload_n 3, 1) := by decide +kernel
theorem dX11_isBettered_184 : decode cX11_isBettered 184 = .ok (.iconst 2, 1) := by decide +kernel
theorem dX11_isBettered_185 : decode cX11_isBettered 185 = .ok (.iload 5, 2) := by decide +kernel
theorem dX11_isBettered_187 : decode cX11_isBettered 187 = .ok (.invokevirtual 284, 3) := by decide +kernel
theorem dX11_isBettered_190 : decode cX11_isBettered 190 = .ok (.iconst 1, 1) := by decide +kernel
theorem dX11_isBettered_191 : decode cX11_isBettered 191 = .ok (.ireturn, 1) := by decide +kernel
theorem dX11_bettersBy_0 : decode cX11_bettersBy 0 = .ok (.iconst 0, 1) := by decide +kernel
theorem dX11_bettersBy_1 : decode cX11_bettersBy 1 = .ok (.istore_n 2, 1) := by decide +kernel
theorem dX11_bettersBy_2 : decode cX11_bettersBy 2 = .ok (.iload_n 2, 1) := by decide +kernel
theorem dX11_bettersBy_3 : decode cX11_bettersBy 3 = .ok (.iload_n 1, 1) := by decide +kernel
theorem dX11_bettersBy_4 : decode cX11_bettersBy 4 = .ok (.if_icmp .ge 16, 3) := by decide +kernel
theorem dX11_bettersBy_7 : decode cX11_bettersBy 7 = .ok (.aload_n 0, 1) := by decide +kernel
theorem dX11_bettersBy_8 : decode cX11_bettersBy 8 = .ok (.invokevirtual 432, 3) := by decide +kernel
theorem dX11_bettersBy_11 : decode cX11_bettersBy 11 = .ok (.ifCond .eq 9, 3) := by decide +kernel
theorem dX11_bettersBy_14 : decode cX11_bettersBy 14 = .ok (.iinc 2 1, 3) := by decide +kernel
theorem dX11_bettersBy_17 : decode cX11_bettersBy 17 = .ok (.goto (-15), 3) := by decide +kernel
theorem dX11_bettersBy_20 : decode cX11_bettersBy 20 = .ok (.iload_n 2, 1) := by decide +kernel
theorem dX11_bettersBy_21 : decode cX11_bettersBy 21 = .ok (.ireturn, 1) := by decide +kernel
theorem dX11_betters_0 : decode cX11_betters 0 = .ok (.aload_n 0, 1) := by decide +kernel
theorem dX11_betters_1 : decode cX11_betters 1 = .ok (.invokevirtual 271, 3) := by decide +kernel
theorem dX11_betters_4 : decode cX11_betters 4 = .ok (.ifCond .eq 23, 3) := by decide +kernel
theorem dX11_betters_7 : decode cX11_betters 7 = .ok (.iload_n 1, 1) := by decide +kernel
theorem dX11_betters_8 : decode cX11_betters 8 = .ok (.i2l, 1) := by decide +kernel
theorem dX11_betters_9 : decode cX11_betters 9 = .ok (.lconst 0, 1) := by decide +kernel
theorem dX11_betters_10 : decode cX11_betters 10 = .ok (.ldc2_w 435, 3) := by decide +kernel
theorem dX11_betters_13 : decode cX11_betters 13 = .ok (.invokestatic 84, 3) := by decide +kernel
theorem dX11_betters_16 : decode cX11_betters 16 = .ok (.ifCond .eq 11, 3) := by decide +kernel
theorem dX11_betters_19 : decode cX11_betters 19 = .ok (.aload_n 0, 1) := by decide +kernel
theorem dX11_betters_20 : decode cX11_betters 20 = .ok (.iload_n 1, 1) := by decide +kernel
theorem dX11_betters_21 : decode cX11_betters 21 = .ok (.invokevirtual 437, 3) := by decide +kernel
theorem dX11_betters_24 : decode cX11_betters 24 = .ok (.goto 5, 3) := by decide +kernel
theorem dX11_betters_27 : decode cX11_betters 27 = .ok (.bipush (-2), 2) := by decide +kernel
theorem dX11_betters_29 : decode cX11_betters 29 = .ok (.ireturn, 1) := by decide +kernel
theorem dX11_gap_0 : decode cX11_gap 0 = .ok (.aload_n 0, 1) := by decide +kernel
theorem dX11_gap_1 : decode cX11_gap 1 = .ok (.invokevirtual 271, 3) := by decide +kernel
theorem dX11_gap_4 : decode cX11_gap 4 = .ok (.ifCond .ne 7, 3) := by decide +kernel
theorem dX11_gap_7 : decode cX11_gap 7 = .ok (.ldc2_w 342, 3) := by decide +kernel
theorem dX11_gap_10 : decode cX11_gap 10 = .ok (.lreturn, 1) := by decide +kernel
theorem dX11_gap_11 : decode cX11_gap 11 = .ok (.aload_n 0, 1) := by decide +kernel
theorem dX11_gap_12 : decode cX11_gap 12 = .ok (.iconst 1, 1) := by decide +kernel
theorem dX11_gap_13 : decode cX11_gap 13 = .ok (.invokevirtual 384, 3) := by decide +kernel
theorem dX11_gap_16 : decode cX11_gap 16 = .ok (.lstore_n 1, 1) := by decide +kernel
theorem dX11_gap_17 : decode cX11_gap 17 = .ok (.aload_n 0, 1) := by decide +kernel
theorem dX11_gap_18 : decode cX11_gap 18 = .ok (.invokevirtual 420, 3) := by decide +kernel
theorem dX11_gap_21 : decode cX11_gap 21 = .ok (.aload_n 0, 1) := by decide +kernel
theorem dX11_gap_22 : decode cX11_gap 22 = .ok (.iconst 5, 1) := by decide +kernel
theorem dX11_gap_23 : decode cX11_gap 23 = .ok (.invokevirtual 437, 3) := by decide +kernel
theorem dX11_gap_26 : decode cX11_gap 26 = .ok (.pop, 1) := by decide +kernel
theorem dX11_gap_27 : decode cX11_gap 27 = .ok (.aload_n 0, 1) := by decide +kernel
theorem dX11_gap_28 : decode cX11_gap 28 = .ok (.iconst 1, 1) := by decide +kernel
theorem dX11_gap_29 : decode cX11_gap 29 = .ok (.invokevirtual 384, 3) := by decide +kernel
theorem dX11_gap_32 : decode cX11_gap 32 = .ok (.lstore_n 3, 1) := by decide +kernel
theorem dX11_gap_33 : decode cX11_gap 33 = .ok (.aload_n 0, 1) := by decide +kernel
theorem dX11_gap_34 : decode cX11_gap 34 = .ok (.invokevirtual 423, 3) := by decide +kernel
theorem dX11_gap_37 : decode cX11_gap 37 = .ok (.lload_n 1, 1) := by decide +kernel
theorem dX11_gap_38 : decode cX11_gap 38 = .ok (.lload_n 3, 1) := by decide +kernel
theorem dX11_gap_39 : decode cX11_gap 39 = .ok (.lsub, 1) := by decide +kernel
theorem dX11_gap_40 : decode cX11_gap 40 = .ok (.lreturn, 1) := by decide +kernel
theorem dX11_heaps_0 : decode cX11_heaps 0 = .ok (.aload_n 0, 1) := by decide +kernel
theorem dX11_heaps_1 : decode cX11_heaps 1 = .ok (.invokevirtual 271, 3) := by decide +kernel
theorem dX11_heaps_4 : decode cX11_heaps 4 = .ok (.ifCond .ne 6, 3) := by decide +kernel
theorem dX11_heaps_7 : decode cX11_heaps 7 = .ok (.bipush (-2), 2) := by decide +kernel
theorem dX11_heaps_9 : decode cX11_heaps 9 = .ok (.ireturn, 1) := by decide +kernel
theorem dX11_heaps_10 : decode cX11_heaps 10 = .ok (.aload_n 0, 1) := by decide +kernel
theorem dX11_heaps_11 : decode cX11_heaps 11 = .ok (.invokevirtual 413, 3) := by decide +kernel
theorem dX11_heaps_14 : decode cX11_heaps 14 = .ok (.ifCond .ne 6, 3) := by decide +kernel
theorem dX11_heaps_17 : decode cX11_heaps 17 = .ok (.bipush (-5), 2) := by decide +kernel
theorem dX11_heaps_19 : decode cX11_heaps 19 = .ok (.ireturn, 1) := by decide +kernel
theorem dX11_heaps_20 : decode cX11_heaps 20 = .ok (.iconst 0, 1) := by decide +kernel
theorem dX11_heaps_21 : decode cX11_heaps 21 = .ok (.istore_n 1, 1) := by decide +kernel
theorem dX11_heaps_22 : decode cX11_heaps 22 = .ok (.lconst 0, 1) := by decide +kernel
theorem dX11_heaps_23 : decode cX11_heaps 23 = .ok (.lstore_n 2, 1) := by decide +kernel
theorem dX11_heaps_24 : decode cX11_heaps 24 = .ok (.iconst 0, 1) := by decide +kernel
theorem dX11_heaps_25 : decode cX11_heaps 25 = .ok (.istore 4, 2) := by decide +kernel
theorem dX11_heaps_27 : decode cX11_heaps 27 = .ok (.bipush 7, 2) := by decide +kernel
theorem dX11_heaps_29 : decode cX11_heaps 29 = .ok (.istore 5, 2) := by decide +kernel
theorem dX11_heaps_31 : decode cX11_heaps 31 = .ok (.iconst 1, 1) := by decide +kernel
theorem dX11_heaps_32 : decode cX11_heaps 32 = .ok (.istore 6, 2) := by decide +kernel
theorem dX11_heaps_34 : decode cX11_heaps 34 = .ok (.iload 6, 2) := by decide +kernel
theorem dX11_heaps_36 : decode cX11_heaps 36 = .ok (.aload_n 0, 1) := by decide +kernel
theorem dX11_heaps_37 : decode cX11_heaps 37 = .ok (.invokevirtual 413, 3) := by decide +kernel
theorem dX11_heaps_40 : decode cX11_heaps 40 = .ok (.if_icmp .gt 58, 3) := by decide +kernel
theorem dX11_heaps_43 : decode cX11_heaps 43 = .ok (.aload_n 0, 1) := by decide +kernel
theorem dX11_heaps_44 : decode cX11_heaps 44 = .ok (.invokevirtual 398, 3) := by decide +kernel
theorem dX11_heaps_47 : decode cX11_heaps 47 = .ok (.iload 5, 2) := by decide +kernel
theorem dX11_heaps_49 : decode cX11_heaps 49 = .ok (.invokestatic 395, 3) := by decide +kernel
theorem dX11_heaps_52 : decode cX11_heaps 52 = .ok (.istore 5, 2) := by decide +kernel
theorem dX11_heaps_54 : decode cX11_heaps 54 = .ok (.iload 4, 2) := by decide +kernel
theorem dX11_heaps_56 : decode cX11_heaps 56 = .ok (.iconst 1, 1) := by decide +kernel
theorem dX11_heaps_57 : decode cX11_heaps 57 = .ok (.iload 5, 2) := by decide +kernel
theorem dX11_heaps_59 : decode cX11_heaps 59 = .ok (.ishl, 1) := by decide +kernel
theorem dX11_heaps_60 : decode cX11_heaps 60 = .ok (.ior, 1) := by decide +kernel
theorem dX11_heaps_61 : decode cX11_heaps 61 = .ok (.istore 4, 2) := by decide +kernel
theorem dX11_heaps_63 : decode cX11_heaps 63 = .ok (.aload_n 0, 1) := by decide +kernel
theorem dX11_heaps_64 : decode cX11_heaps 64 = .ok (.iconst 1, 1) := by decide +kernel
theorem dX11_heaps_65 : decode cX11_heaps 65 = .ok (.iload 4, 2) := by decide +kernel
theorem dX11_heaps_67 : decode cX11_heaps 67 = .ok (.invokevirtual 428, 3) := by decide +kernel
theorem dX11_heaps_70 : decode cX11_heaps 70 = .ok (.lstore 7, 2) := by decide +kernel
theorem dX11_heaps_72 : decode cX11_heaps 72 = .ok (.iload_n 1, 1) := by decide +kernel
theorem dX11_heaps_73 : decode cX11_heaps 73 = .ok (.ifCond .le 13, 3) := by decide +kernel
theorem dX11_heaps_76 : decode cX11_heaps 76 = .ok (.lload 7, 2) := by decide +kernel
theorem dX11_heaps_78 : decode cX11_heaps 78 = .ok (.lload_n 2, 1) := by decide +kernel
theorem dX11_heaps_79 : decode cX11_heaps 79 = .ok (.lcmp, 1) := by decide +kernel
theorem dX11_heaps_80 : decode cX11_heaps 80 = .ok (.ifCond .lt 6, 3) := by decide +kernel
theorem dX11_heaps_83 : decode cX11_heaps 83 = .ok (.goto 9, 3) := by decide +kernel
theorem dX11_heaps_86 : decode cX11_heaps 86 = .ok (.iload 6, 2) := by decide +kernel
theorem dX11_heaps_88 : decode cX11_heaps 88 = .ok (.istore_n 1, 1) := by decide +kernel
theorem dX11_heaps_89 : decode cX11_heaps 89 = .ok (.lload 7, 2) := by decide +kernel
theorem dX11_heaps_91 : decode cX11_heaps 91 = .ok (.lstore_n 2, 1) := by decide +kernel
theorem dX11_heaps_92 : decode cX11_heaps 92 = .ok (.iinc 6 1, 3) := by decide +kernel
theorem dX11_heaps_95 : decode cX11_heaps 95 = .ok (.goto (-61), 3) := by decide +kernel
theorem dX11_heaps_98 : decode cX11_heaps 98 = .ok (.iload_n 1, 1) := by decide +kernel
theorem dX11_heaps_99 : decode cX11_heaps 99 = .ok (.ireturn, 1) := by decide +kernel
theorem dX11_where_0 : decode cX11_where 0 = .ok (.iload_n 1, 1) := by decide +kernel
theorem dX11_where_1 : decode cX11_where 1 = .ok (.invokestatic 303, 3) := by decide +kernel
theorem dX11_where_4 : decode cX11_where 4 = .ok (.ifCond .eq 10, 3) := by decide +kernel
theorem dX11_where_7 : decode cX11_where 7 = .ok (.aload_n 0, 1) := by decide +kernel
theorem dX11_where_8 : decode cX11_where 8 = .ok (.invokevirtual 271, 3) := by decide +kernel
theorem dX11_where_11 : decode cX11_where 11 = .ok (.ifCond .ne 6, 3) := by decide +kernel
theorem dX11_where_14 : decode cX11_where 14 = .ok (.bipush (-2), 2) := by decide +kernel
theorem dX11_where_16 : decode cX11_where 16 = .ok (.ireturn, 1) := by decide +kernel
theorem dX11_where_17 : decode cX11_where 17 = .ok (.aload_n 0, 1) := by decide +kernel
theorem dX11_where_18 : decode cX11_where 18 = .ok (.iload_n 1, 1) := by decide +kernel
theorem dX11_where_19 : decode cX11_where 19 = .ok (.iconst 0, 1) := by decide +kernel
theorem dX11_where_20 : decode cX11_where 20 = .ok (.invokevirtual 300, 3) := by decide +kernel
theorem dX11_where_23 : decode cX11_where 23 = .ok (.istore_n 2, 1) := by decide +kernel
theorem dX11_where_24 : decode cX11_where 24 = .ok (.aload_n 0, 1) := by decide +kernel
theorem dX11_where_25 : decode cX11_where 25 = .ok (.iload_n 1, 1) := by decide +kernel
theorem dX11_where_26 : decode cX11_where 26 = .ok (.iconst 1, 1) := by decide +kernel
theorem dX11_where_27 : decode cX11_where 27 = .ok (.invokevirtual 300, 3) := by decide +kernel
theorem dX11_where_30 : decode cX11_where 30 = .ok (.istore_n 3, 1) := by decide +kernel
theorem dX11_where_31 : decode cX11_where 31 = .ok (.iconst (-1), 1) := by decide +kernel
theorem dX11_where_32 : decode cX11_where 32 = .ok (.istore 4, 2) := by decide +kernel
theorem dX11_where_34 : decode cX11_where 34 = .ok (.lconst 0, 1) := by decide +kernel
theorem dX11_where_35 : decode cX11_where 35 = .ok (.lstore 5, 2) := by decide +kernel
theorem dX11_where_37 : decode cX11_where 37 = .ok (.iconst 0, 1) := by decide +kernel
theorem dX11_where_38 : decode cX11_where 38 = .ok (.istore 7, 2) := by decide +kernel
theorem dX11_where_40 : decode cX11_where 40 = .ok (.iload 7, 2) := by decide +kernel
theorem dX11_where_42 : decode cX11_where 42 = .ok (.aload_n 0, 1) := by decide +kernel
theorem dX11_where_43 : decode cX11_where 43 = .ok (.getfield 13, 3) := by decide +kernel
theorem dX11_where_46 : decode cX11_where 46 = .ok (.iconst 2, 1) := by decide +kernel
theorem dX11_where_47 : decode cX11_where 47 = .ok (.iaload, 1) := by decide +kernel
theorem dX11_where_48 : decode cX11_where 48 = .ok (.if_icmp .ge 97, 3) := by decide +kernel
theorem dX11_where_51 : decode cX11_where 51 = .ok (.iconst 0, 1) := by decide +kernel
theorem dX11_where_52 : decode cX11_where 52 = .ok (.istore 8, 2) := by decide +kernel
theorem dX11_where_54 : decode cX11_where 54 = .ok (.iload 8, 2) := by decide +kernel
theorem dX11_where_56 : decode cX11_where 56 = .ok (.aload_n 0, 1) := by decide +kernel
theorem dX11_where_57 : decode cX11_where 57 = .ok (.getfield 13, 3) := by decide +kernel
theorem dX11_where_60 : decode cX11_where 60 = .ok (.iconst 1, 1) := by decide +kernel
theorem dX11_where_61 : decode cX11_where 61 = .ok (.iaload, 1) := by decide +kernel
theorem dX11_where_62 : decode cX11_where 62 = .ok (.if_icmp .ge 77, 3) := by decide +kernel
theorem dX11_where_65 : decode cX11_where 65 = .ok (.aload_n 0, 1) := by decide +kernel
theorem dX11_where_66 : decode cX11_where 66 = .ok (.getfield 13, 3) := by decide +kernel
theorem dX11_where_69 : decode cX11_where 69 = .ok (.sipush 188, 3) := by decide +kernel
theorem dX11_where_72 : decode cX11_where 72 = .ok (.iconst 3, 1) := by decide +kernel
theorem dX11_where_73 : decode cX11_where 73 = .ok (.iload_n 1, 1) := by decide +kernel
theorem dX11_where_74 : decode cX11_where 74 = .ok (.imul, 1) := by decide +kernel
theorem dX11_where_75 : decode cX11_where 75 = .ok (.iadd, 1) := by decide +kernel
theorem dX11_where_76 : decode cX11_where 76 = .ok (.iload 8, 2) := by decide +kernel
theorem dX11_where_78 : decode cX11_where 78 = .ok (.iastore, 1) := by decide +kernel
theorem dX11_where_79 : decode cX11_where 79 = .ok (.aload_n 0, 1) := by decide +kernel
theorem dX11_where_80 : decode cX11_where 80 = .ok (.getfield 13, 3) := by decide +kernel
theorem dX11_where_83 : decode cX11_where 83 = .ok (.sipush 188, 3) := by decide +kernel
theorem dX11_where_86 : decode cX11_where 86 = .ok (.iconst 3, 1) := by decide +kernel
theorem dX11_where_87 : decode cX11_where 87 = .ok (.iload_n 1, 1) := by decide +kernel
theorem dX11_where_88 : decode cX11_where 88 = .ok (.imul, 1) := by decide +kernel
theorem dX11_where_89 : decode cX11_where 89 = .ok (.iadd, 1) := by decide +kernel
theorem dX11_where_90 : decode cX11_where 90 = .ok (.iconst 1, 1) := by decide +kernel
theorem dX11_where_91 : decode cX11_where 91 = .ok (.iadd, 1) := by decide +kernel
theorem dX11_where_92 : decode cX11_where 92 = .ok (.iload 7, 2) := by decide +kernel
theorem dX11_where_94 : decode cX11_where 94 = .ok (.iastore, 1) := by decide +kernel
theorem dX11_where_95 : decode cX11_where 95 = .ok (.aload_n 0, 1) := by decide +kernel
theorem dX11_where_96 : decode cX11_where 96 = .ok (.iconst 1, 1) := by decide +kernel
theorem dX11_where_97 : decode cX11_where 97 = .ok (.invokevirtual 384, 3) := by decide +kernel
theorem dX11_where_100 : decode cX11_where 100 = .ok (.lstore 9, 2) := by decide +kernel
theorem dX11_where_102 : decode cX11_where 102 = .ok (.iload 4, 2) := by decide +kernel
theorem dX11_where_104 : decode cX11_where 104 = .ok (.iconst (-1), 1) := by decide +kernel
theorem dX11_where_105 : decode cX11_where 105 = .ok (.if_icmp .eq 14, 3) := by decide +kernel
theorem dX11_where_108 : decode cX11_where 108 = .ok (.lload 9, 2) := by decide +kernel
theorem dX11_where_110 : decode cX11_where 110 = .ok (.lload 5, 2) := by decide +kernel
theorem dX11_where_112 : decode cX11_where 112 = .ok (.lcmp, 1) := by decide +kernel
theorem dX11_where_113 : decode cX11_where 113 = .ok (.ifCond .lt 6, 3) := by decide +kernel
theorem dX11_where_116 : decode cX11_where 116 = .ok (.goto 17, 3) := by decide +kernel
theorem dX11_where_119 : decode cX11_where 119 = .ok (.iload 8, 2) := by decide +kernel
theorem dX11_where_121 : decode cX11_where 121 = .ok (.bipush 12, 2) := by decide +kernel
theorem dX11_where_123 : decode cX11_where 123 = .ok (.iload 7, 2) := by decide +kernel
theorem dX11_where_125 : decode cX11_where 125 = .ok (.imul, 1) := by decide +kernel
theorem dX11_where_126 : decode cX11_where 126 = .ok (.iadd, 1) := by decide +kernel
theorem dX11_where_127 : decode cX11_where 127 = .ok (.istore 4, 2) := by decide +kernel
theorem dX11_where_129 : decode cX11_where 129 = .ok (.lload 9, 2) := by decide +kernel
theorem dX11_where_131 : decode cX11_where 131 = .ok (.lstore 5, 2) := by decide +kernel
theorem dX11_where_133 : decode cX11_where 133 = .ok (.iinc 8 1, 3) := by decide +kernel
theorem dX11_where_136 : decode cX11_where 136 = .ok (.goto (-82), 3) := by decide +kernel
theorem dX11_where_139 : decode cX11_where 139 = .ok (.iinc 7 1, 3) := by decide +kernel
theorem dX11_where_142 : decode cX11_where 142 = .ok (.goto (-102), 3) := by decide +kernel
theorem dX11_where_145 : decode cX11_where 145 = .ok (.aload_n 0, 1) := by decide +kernel
theorem dX11_where_146 : decode cX11_where 146 = .ok (.getfield 13, 3) := by decide +kernel
theorem dX11_where_149 : decode cX11_where 149 = .ok (.sipush 188, 3) := by decide +kernel
theorem dX11_where_152 : decode cX11_where 152 = .ok (.iconst 3, 1) := by decide +kernel
theorem dX11_where_153 : decode cX11_where 153 = .ok (.iload_n 1, 1) := by decide +kernel
theorem dX11_where_154 : decode cX11_where 154 = .ok (.imul, 1) := by decide +kernel
theorem dX11_where_155 : decode cX11_where 155 = .ok (.iadd, 1) := by decide +kernel
theorem dX11_where_156 : decode cX11_where 156 = .ok (.iload_n 2, 1) := by decide +kernel
theorem dX11_where_157 : decode cX11_where 157 = .ok (.iastore, 1) := by decide +kernel
theorem dX11_where_158 : decode cX11_where 158 = .ok (.aload_n 0, 1) := by decide +kernel
theorem dX11_where_159 : decode cX11_where 159 = .ok (.getfield 13, 3) := by decide +kernel
theorem dX11_where_162 : decode cX11_where 162 = .ok (.sipush 188, 3) := by decide +kernel
theorem dX11_where_165 : decode cX11_where 165 = .ok (.iconst 3, 1) := by decide +kernel
theorem dX11_where_166 : decode cX11_where 166 = .ok (.iload_n 1, 1) := by decide +kernel
theorem dX11_where_167 : decode cX11_where 167 = .ok (.imul, 1) := by decide +kernel
theorem dX11_where_168 : decode cX11_where 168 = .ok (.iadd, 1) := by decide +kernel
theorem dX11_where_169 : decode cX11_where 169 = .ok (.iconst 1, 1) := by decide +kernel
theorem dX11_where_170 : decode cX11_where 170 = .ok (.iadd, 1) := by decide +kernel
theorem dX11_where_171 : decode cX11_where 171 = .ok (.iload_n 3, 1) := by decide +kernel
theorem dX11_where_172 : decode cX11_where 172 = .ok (.iastore, 1) := by decide +kernel
theorem dX11_where_173 : decode cX11_where 173 = .ok (.iload 4, 2) := by decide +kernel
theorem dX11_where_175 : decode cX11_where 175 = .ok (.ireturn, 1) := by decide +kernel
theorem dX11_watchOf_0 : decode cX11_watchOf 0 = .ok (.ldc2_w 336, 3) := by decide +kernel
theorem dX11_watchOf_3 : decode cX11_watchOf 3 = .ok (.lstore_n 2, 1) := by decide +kernel
theorem dX11_watchOf_4 : decode cX11_watchOf 4 = .ok (.iconst 0, 1) := by decide +kernel
theorem dX11_watchOf_5 : decode cX11_watchOf 5 = .ok (.istore 4, 2) := by decide +kernel
theorem dX11_watchOf_7 : decode cX11_watchOf 7 = .ok (.iload 4, 2) := by decide +kernel
theorem dX11_watchOf_9 : decode cX11_watchOf 9 = .ok (.iload_n 1, 1) := by decide +kernel
theorem dX11_watchOf_10 : decode cX11_watchOf 10 = .ok (.if_icmp .ge 27, 3) := by decide +kernel
theorem dX11_watchOf_13 : decode cX11_watchOf 13 = .ok (.lload_n 2, 1) := by decide +kernel
theorem dX11_watchOf_14 : decode cX11_watchOf 14 = .ok (.bipush 100, 2) := by decide +kernel
theorem dX11_watchOf_16 : decode cX11_watchOf 16 = .ok (.aload_n 0, 1) := by decide +kernel
theorem dX11_watchOf_17 : decode cX11_watchOf 17 = .ok (.getfield 13, 3) := by decide +kernel
theorem dX11_watchOf_20 : decode cX11_watchOf 20 = .ok (.bipush 13, 2) := by decide +kernel
theorem dX11_watchOf_22 : decode cX11_watchOf 22 = .ok (.iaload, 1) := by decide +kernel
theorem dX11_watchOf_23 : decode cX11_watchOf 23 = .ok (.isub, 1) := by decide +kernel
theorem dX11_watchOf_24 : decode cX11_watchOf 24 = .ok (.i2l, 1) := by decide +kernel
theorem dX11_watchOf_25 : decode cX11_watchOf 25 = .ok (.lmul, 1) := by decide +kernel
theorem dX11_watchOf_26 : decode cX11_watchOf 26 = .ok (.ldc2_w 340, 3) := by decide +kernel
theorem dX11_watchOf_29 : decode cX11_watchOf 29 = .ok (.ldiv, 1) := by decide +kernel
theorem dX11_watchOf_30 : decode cX11_watchOf 30 = .ok (.lstore_n 2, 1) := by decide +kernel
theorem dX11_watchOf_31 : decode cX11_watchOf 31 = .ok (.iinc 4 1, 3) := by decide +kernel
theorem dX11_watchOf_34 : decode cX11_watchOf 34 = .ok (.goto (-27), 3) := by decide +kernel
theorem dX11_watchOf_37 : decode cX11_watchOf 37 = .ok (.lload_n 2, 1) := by decide +kernel
theorem dX11_watchOf_38 : decode cX11_watchOf 38 = .ok (.lreturn, 1) := by decide +kernel
theorem dX11_watch_0 : decode cX11_watch 0 = .ok (.iload_n 1, 1) := by decide +kernel
theorem dX11_watch_1 : decode cX11_watch 1 = .ok (.i2l, 1) := by decide +kernel
theorem dX11_watch_2 : decode cX11_watch 2 = .ok (.lconst 0, 1) := by decide +kernel
theorem dX11_watch_3 : decode cX11_watch 3 = .ok (.ldc2_w 306, 3) := by decide +kernel
theorem dX11_watch_6 : decode cX11_watch 6 = .ok (.invokestatic 84, 3) := by decide +kernel
theorem dX11_watch_9 : decode cX11_watch 9 = .ok (.ifCond .eq 11, 3) := by decide +kernel
theorem dX11_watch_12 : decode cX11_watch 12 = .ok (.aload_n 0, 1) := by decide +kernel
theorem dX11_watch_13 : decode cX11_watch 13 = .ok (.iload_n 1, 1) := by decide +kernel
theorem dX11_watch_14 : decode cX11_watch 14 = .ok (.invokevirtual 440, 3) := by decide +kernel
theorem dX11_watch_17 : decode cX11_watch 17 = .ok (.goto 6, 3) := by decide +kernel
theorem dX11_watch_20 : decode cX11_watch 20 = .ok (.ldc2_w 342, 3) := by decide +kernel
theorem dX11_watch_23 : decode cX11_watch 23 = .ok (.lreturn, 1) := by decide +kernel
theorem dX11_watches_0 : decode cX11_watches 0 = .ok (.iload_n 1, 1) := by decide +kernel
theorem dX11_watches_1 : decode cX11_watches 1 = .ok (.i2l, 1) := by decide +kernel
theorem dX11_watches_2 : decode cX11_watches 2 = .ok (.lconst 0, 1) := by decide +kernel
theorem dX11_watches_3 : decode cX11_watches 3 = .ok (.ldc2_w 388, 3) := by decide +kernel
theorem dX11_watches_6 : decode cX11_watches 6 = .ok (.invokestatic 84, 3) := by decide +kernel
theorem dX11_watches_9 : decode cX11_watches 9 = .ok (.ifCond .ne 6, 3) := by decide +kernel
theorem dX11_watches_12 : decode cX11_watches 12 = .ok (.bipush (-2), 2) := by decide +kernel
theorem dX11_watches_14 : decode cX11_watches 14 = .ok (.ireturn, 1) := by decide +kernel
theorem dX11_watches_15 : decode cX11_watches 15 = .ok (.iconst 0, 1) := by decide +kernel
theorem dX11_watches_16 : decode cX11_watches 16 = .ok (.istore_n 2, 1) := by decide +kernel
theorem dX11_watches_17 : decode cX11_watches 17 = .ok (.iload_n 2, 1) := by decide +kernel
theorem dX11_watches_18 : decode cX11_watches 18 = .ok (.bipush 28, 2) := by decide +kernel
theorem dX11_watches_20 : decode cX11_watches 20 = .ok (.if_icmp .gt 26, 3) := by decide +kernel
theorem dX11_watches_23 : decode cX11_watches 23 = .ok (.aload_n 0, 1) := by decide +kernel
theorem dX11_watches_24 : decode cX11_watches 24 = .ok (.iload_n 2, 1) := by decide +kernel
theorem dX11_watches_25 : decode cX11_watches 25 = .ok (.invokevirtual 440, 3) := by decide +kernel
theorem dX11_watches_28 : decode cX11_watches 28 = .ok (.iload_n 1, 1) := by decide +kernel
theorem dX11_watches_29 : decode cX11_watches 29 = .ok (.i2l, 1) := by decide +kernel
theorem dX11_watches_30 : decode cX11_watches 30 = .ok (.ldc2_w 390, 3) := by decide +kernel
theorem dX11_watches_33 : decode cX11_watches 33 = .ok (.lmul, 1) := by decide +kernel
theorem dX11_watches_34 : decode cX11_watches 34 = .ok (.lcmp, 1) := by decide +kernel
theorem dX11_watches_35 : decode cX11_watches 35 = .ok (.ifCond .gt 5, 3) := by decide +kernel
theorem dX11_watches_38 : decode cX11_watches 38 = .ok (.iload_n 2, 1) := by decide +kernel
theorem dX11_watches_39 : decode cX11_watches 39 = .ok (.ireturn, 1) := by decide +kernel
theorem dX11_watches_40 : decode cX11_watches 40 = .ok (.iinc 2 1, 3) := by decide +kernel
theorem dX11_watches_43 : decode cX11_watches 43 = .ok (.goto (-26), 3) := by decide +kernel
theorem dX11_watches_46 : decode cX11_watches 46 = .ok (.iconst (-1), 1) := by decide +kernel
theorem dX11_watches_47 : decode cX11_watches 47 = .ok (.ireturn, 1) := by decide +kernel
theorem dX11_ofOther_0 : decode cX11_ofOther 0 = .ok (.aload_n 0, 1) := by decide +kernel
theorem dX11_ofOther_1 : decode cX11_ofOther 1 = .ok (.getfield 13, 3) := by decide +kernel
theorem dX11_ofOther_4 : decode cX11_ofOther 4 = .ok (.bipush 104, 2) := by decide +kernel
theorem dX11_ofOther_6 : decode cX11_ofOther 6 = .ok (.iconst 3, 1) := by decide +kernel
theorem dX11_ofOther_7 : decode cX11_ofOther 7 = .ok (.iload_n 1, 1) := by decide +kernel
theorem dX11_ofOther_8 : decode cX11_ofOther 8 = .ok (.imul, 1) := by decide +kernel
theorem dX11_ofOther_9 : decode cX11_ofOther 9 = .ok (.iadd, 1) := by decide +kernel
theorem dX11_ofOther_10 : decode cX11_ofOther 10 = .ok (.iload_n 2, 1) := by decide +kernel
theorem dX11_ofOther_11 : decode cX11_ofOther 11 = .ok (.iadd, 1) := by decide +kernel
theorem dX11_ofOther_12 : decode cX11_ofOther 12 = .ok (.iaload, 1) := by decide +kernel
theorem dX11_ofOther_13 : decode cX11_ofOther 13 = .ok (.ireturn, 1) := by decide +kernel
theorem dX11_breaksOf_0 : decode cX11_breaksOf 0 = .ok (.iload_n 1, 1) := by decide +kernel
theorem dX11_breaksOf_1 : decode cX11_breaksOf 1 = .ok (.ifCond .ne 13, 3) := by decide +kernel
theorem dX11_breaksOf_4 : decode cX11_breaksOf 4 = .ok (.aload_n 0, 1) := by decide +kernel
theorem dX11_breaksOf_5 : decode cX11_breaksOf 5 = .ok (.getfield 13, 3) := by decide +kernel
theorem dX11_breaksOf_8 : decode cX11_breaksOf 8 = .ok (.bipush 16, 2) := by decide +kernel
theorem dX11_breaksOf_10 : decode cX11_breaksOf 10 = .ok (.iaload, 1) := by decide +kernel
theorem dX11_breaksOf_11 : decode cX11_breaksOf 11 = .ok (.goto 11, 3) := by decide +kernel
theorem dX11_breaksOf_14 : decode cX11_breaksOf 14 = .ok (.aload_n 0, 1) := by decide +kernel
theorem dX11_breaksOf_15 : decode cX11_breaksOf 15 = .ok (.iload_n 1, 1) := by decide +kernel
theorem dX11_breaksOf_16 : decode cX11_breaksOf 16 = .ok (.iconst 1, 1) := by decide +kernel
theorem dX11_breaksOf_17 : decode cX11_breaksOf 17 = .ok (.isub, 1) := by decide +kernel
theorem dX11_breaksOf_18 : decode cX11_breaksOf 18 = .ok (.iconst 2, 1) := by decide +kernel
theorem dX11_breaksOf_19 : decode cX11_breaksOf 19 = .ok (.invokevirtual 443, 3) := by decide +kernel
theorem dX11_breaksOf_22 : decode cX11_breaksOf 22 = .ok (.ireturn, 1) := by decide +kernel
theorem dX11_spot_0 : decode cX11_spot 0 = .ok (.bipush 80, 2) := by decide +kernel
theorem dX11_spot_2 : decode cX11_spot 2 = .ok (.iload_n 0, 1) := by decide +kernel
theorem dX11_spot_3 : decode cX11_spot 3 = .ok (.imul, 1) := by decide +kernel
theorem dX11_spot_4 : decode cX11_spot 4 = .ok (.bipush 16, 2) := by decide +kernel
theorem dX11_spot_6 : decode cX11_spot 6 = .ok (.iload_n 1, 1) := by decide +kernel
theorem dX11_spot_7 : decode cX11_spot 7 = .ok (.imul, 1) := by decide +kernel
theorem dX11_spot_8 : decode cX11_spot 8 = .ok (.iadd, 1) := by decide +kernel
theorem dX11_spot_9 : decode cX11_spot 9 = .ok (.iload_n 2, 1) := by decide +kernel
theorem dX11_spot_10 : decode cX11_spot 10 = .ok (.iadd, 1) := by decide +kernel
theorem dX11_spot_11 : decode cX11_spot 11 = .ok (.ireturn, 1) := by decide +kernel
theorem dX11_staysOn_0 : decode cX11_staysOn 0 = .ok (.aload_n 0, 1) := by decide +kernel
theorem dX11_staysOn_1 : decode cX11_staysOn 1 = .ok (.getfield 47, 3) := by decide +kernel
theorem dX11_staysOn_4 : decode cX11_staysOn 4 = .ok (.iload_n 1, 1) := by decide +kernel
theorem dX11_staysOn_5 : decode cX11_staysOn 5 = .ok (.iconst 1, 1) := by decide +kernel
theorem dX11_staysOn_6 : decode cX11_staysOn 6 = .ok (.iadd, 1) := by decide +kernel
theorem dX11_staysOn_7 : decode cX11_staysOn 7 = .ok (.iload_n 2, 1) := by decide +kernel
theorem dX11_staysOn_8 : decode cX11_staysOn 8 = .ok (.iload_n 3, 1) := by decide +kernel
theorem dX11_staysOn_9 : decode cX11_staysOn 9 = .ok (.invokestatic 446, 3) := by decide +kernel
theorem dX11_staysOn_12 : decode cX11_staysOn 12 = .ok (.laload, 1) := by decide +kernel
theorem dX11_staysOn_13 : decode cX11_staysOn 13 = .ok (.sipush 10000, 3) := by decide +kernel
theorem dX11_staysOn_16 : decode cX11_staysOn 16 = .ok (.aload_n 0, 1) := by decide +kernel
theorem dX11_staysOn_17 : decode cX11_staysOn 17 = .ok (.iload_n 2, 1) := by decide +kernel
theorem dX11_staysOn_18 : decode cX11_staysOn 18 = .ok (.invokevirtual 449, 3) := by decide +kernel
theorem dX11_staysOn_21 : decode cX11_staysOn 21 = .ok (.isub, 1) := by decide +kernel
theorem dX11_staysOn_22 : decode cX11_staysOn 22 = .ok (.i2l, 1) := by decide +kernel
theorem dX11_staysOn_23 : decode cX11_staysOn 23 = .ok (.lmul, 1) := by decide +kernel
theorem dX11_staysOn_24 : decode cX11_staysOn 24 = .ok (.ldc2_w 338, 3) := by decide +kernel
theorem dX11_staysOn_27 : decode cX11_staysOn 27 = .ok (.ldiv, 1) := by decide +kernel
theorem dX11_staysOn_28 : decode cX11_staysOn 28 = .ok (.lreturn, 1) := by decide +kernel
theorem dX11_isNear_0 : decode cX11_isNear 0 = .ok (.iload_n 1, 1) := by decide +kernel
theorem dX11_isNear_1 : decode cX11_isNear 1 = .ok (.ifCond .eq 13, 3) := by decide +kernel
theorem dX11_isNear_4 : decode cX11_isNear 4 = .ok (.iload_n 2, 1) := by decide +kernel
theorem dX11_isNear_5 : decode cX11_isNear 5 = .ok (.iload_n 1, 1) := by decide +kernel
theorem dX11_isNear_6 : decode cX11_isNear 6 = .ok (.iconst 1, 1) := by decide +kernel
theorem dX11_isNear_7 : decode cX11_isNear 7 = .ok (.isub, 1) := by decide +kernel
theorem dX11_isNear_8 : decode cX11_isNear 8 = .ok (.invokestatic 239, 3) := by decide +kernel
theorem dX11_isNear_11 : decode cX11_isNear 11 = .ok (.ifCond .eq 7, 3) := by decide +kernel
theorem dX11_isNear_14 : decode cX11_isNear 14 = .ok (.iconst 1, 1) := by decide +kernel
theorem dX11_isNear_15 : decode cX11_isNear 15 = .ok (.goto 4, 3) := by decide +kernel
theorem dX11_isNear_18 : decode cX11_isNear 18 = .ok (.iconst 0, 1) := by decide +kernel
theorem dX11_isNear_19 : decode cX11_isNear 19 = .ok (.ireturn, 1) := by decide +kernel
theorem dX11_goesTo_0 : decode cX11_goesTo 0 = .ok (.iload_n 2, 1) := by decide +kernel
theorem dX11_goesTo_1 : decode cX11_goesTo 1 = .ok (.istore 4, 2) := by decide +kernel
theorem dX11_goesTo_3 : decode cX11_goesTo 3 = .ok (.aload_n 0, 1) := by decide +kernel
theorem dX11_goesTo_4 : decode cX11_goesTo 4 = .ok (.iload_n 1, 1) := by decide +kernel
theorem dX11_goesTo_5 : decode cX11_goesTo 5 = .ok (.iload_n 2, 1) := by decide +kernel
theorem dX11_goesTo_6 : decode cX11_goesTo 6 = .ok (.iload_n 3, 1) := by decide +kernel
theorem dX11_goesTo_7 : decode cX11_goesTo 7 = .ok (.invokevirtual 452, 3) := by decide +kernel
theorem dX11_goesTo_10 : decode cX11_goesTo 10 = .ok (.lstore 5, 2) := by decide +kernel
theorem dX11_goesTo_12 : decode cX11_goesTo 12 = .ok (.iconst 1, 1) := by decide +kernel
theorem dX11_goesTo_13 : decode cX11_goesTo 13 = .ok (.istore 7, 2) := by decide +kernel
theorem dX11_goesTo_15 : decode cX11_goesTo 15 = .ok (.iload 7, 2) := by decide +kernel
theorem dX11_goesTo_17 : decode cX11_goesTo 17 = .ok (.aload_n 0, 1) := by decide +kernel
theorem dX11_goesTo_18 : decode cX11_goesTo 18 = .ok (.getfield 13, 3) := by decide +kernel
theorem dX11_goesTo_21 : decode cX11_goesTo 21 = .ok (.bipush 7, 2) := by decide +kernel
theorem dX11_goesTo_23 : decode cX11_goesTo 23 = .ok (.iaload, 1) := by decide +kernel
theorem dX11_goesTo_24 : decode cX11_goesTo 24 = .ok (.if_icmp .gt 74, 3) := by decide +kernel
theorem dX11_goesTo_27 : decode cX11_goesTo 27 = .ok (.iload 7, 2) := by decide +kernel
theorem dX11_goesTo_29 : decode cX11_goesTo 29 = .ok (.iload_n 2, 1) := by decide +kernel
theorem dX11_goesTo_30 : decode cX11_goesTo 30 = .ok (.if_icmp .eq 62, 3) := by decide +kernel
theorem dX11_goesTo_33 : decode cX11_goesTo 33 = .ok (.aload_n 0, 1) := by decide +kernel
theorem dX11_goesTo_34 : decode cX11_goesTo 34 = .ok (.iload 7, 2) := by decide +kernel
theorem dX11_goesTo_36 : decode cX11_goesTo 36 = .ok (.iload_n 3, 1) := by decide +kernel
theorem dX11_goesTo_37 : decode cX11_goesTo 37 = .ok (.invokevirtual 456, 3) := by decide +kernel
theorem dX11_goesTo_40 : decode cX11_goesTo 40 = .ok (.ifCond .ne 6, 3) := by decide +kernel
theorem dX11_goesTo_43 : decode cX11_goesTo 43 = .ok (.goto 49, 3) := by decide +kernel
theorem dX11_goesTo_46 : decode cX11_goesTo 46 = .ok (.aload_n 0, 1) := by decide +kernel
theorem dX11_goesTo_47 : decode cX11_goesTo 47 = .ok (.iload_n 1, 1) := by decide +kernel
theorem dX11_goesTo_48 : decode cX11_goesTo 48 = .ok (.iload 7, 2) := by decide +kernel
theorem dX11_goesTo_50 : decode cX11_goesTo 50 = .ok (.iload_n 3, 1) := by decide +kernel
theorem dX11_goesTo_51 : decode cX11_goesTo 51 = .ok (.invokevirtual 452, 3) := by decide +kernel
theorem dX11_goesTo_54 : decode cX11_goesTo 54 = .ok (.sipush 10000, 3) := by decide +kernel
theorem dX11_goesTo_57 : decode cX11_goesTo 57 = .ok (.aload_n 0, 1) := by decide +kernel
theorem dX11_goesTo_58 : decode cX11_goesTo 58 = .ok (.getfield 13, 3) := by decide +kernel
theorem dX11_goesTo_61 : decode cX11_goesTo 61 = .ok (.bipush 17, 2) := by decide +kernel
theorem dX11_goesTo_63 : decode cX11_goesTo 63 = .ok (.iaload, 1) := by decide +kernel
theorem dX11_goesTo_64 : decode cX11_goesTo 64 = .ok (.isub, 1) := by decide +kernel
theorem dX11_goesTo_65 : decode cX11_goesTo 65 = .ok (.i2l, 1) := by decide +kernel
theorem dX11_goesTo_66 : decode cX11_goesTo 66 = .ok (.lmul, 1) := by decide +kernel
theorem dX11_goesTo_67 : decode cX11_goesTo 67 = .ok (.ldc2_w 338, 3) := by decide +kernel
theorem dX11_goesTo_70 : decode cX11_goesTo 70 = .ok (.ldiv, 1) := by decide +kernel
theorem dX11_goesTo_71 : decode cX11_goesTo 71 = .ok (.lstore 8, 2) := by decide +kernel
theorem dX11_goesTo_73 : decode cX11_goesTo 73 = .ok (.lload 8, 2) := by decide +kernel
theorem dX11_goesTo_75 : decode cX11_goesTo 75 = .ok (.lload 5, 2) := by decide +kernel
theorem dX11_goesTo_77 : decode cX11_goesTo 77 = .ok (.lcmp, 1) := by decide +kernel
theorem dX11_goesTo_78 : decode cX11_goesTo 78 = .ok (.ifCond .gt 6, 3) := by decide +kernel
theorem dX11_goesTo_81 : decode cX11_goesTo 81 = .ok (.goto 11, 3) := by decide +kernel
theorem dX11_goesTo_84 : decode cX11_goesTo 84 = .ok (.iload 7, 2) := by decide +kernel
theorem dX11_goesTo_86 : decode cX11_goesTo 86 = .ok (.istore 4, 2) := by decide +kernel
theorem dX11_goesTo_88 : decode cX11_goesTo 88 = .ok (.lload 8, 2) := by decide +kernel
theorem dX11_goesTo_90 : decode cX11_goesTo 90 = .ok (.lstore 5, 2) := by decide +kernel
theorem dX11_goesTo_92 : decode cX11_goesTo 92 = .ok (.iinc 7 1, 3) := by decide +kernel
theorem dX11_goesTo_95 : decode cX11_goesTo 95 = .ok (.goto (-80), 3) := by decide +kernel
theorem dX11_goesTo_98 : decode cX11_goesTo 98 = .ok (.iload 4, 2) := by decide +kernel
theorem dX11_goesTo_100 : decode cX11_goesTo 100 = .ok (.ireturn, 1) := by decide +kernel
theorem dX11_endOf_0 : decode cX11_endOf 0 = .ok (.aload_n 0, 1) := by decide +kernel
theorem dX11_endOf_1 : decode cX11_endOf 1 = .ok (.iload_n 1, 1) := by decide +kernel
theorem dX11_endOf_2 : decode cX11_endOf 2 = .ok (.iload_n 2, 1) := by decide +kernel
theorem dX11_endOf_3 : decode cX11_endOf 3 = .ok (.iload_n 3, 1) := by decide +kernel
theorem dX11_endOf_4 : decode cX11_endOf 4 = .ok (.invokevirtual 459, 3) := by decide +kernel
theorem dX11_endOf_7 : decode cX11_endOf 7 = .ok (.istore 4, 2) := by decide +kernel
theorem dX11_endOf_9 : decode cX11_endOf 9 = .ok (.iload 4, 2) := by decide +kernel
theorem dX11_endOf_11 : decode cX11_endOf 11 = .ok (.iload_n 2, 1) := by decide +kernel
theorem dX11_endOf_12 : decode cX11_endOf 12 = .ok (.if_icmp .ne 13, 3) := by decide +kernel
theorem dX11_endOf_15 : decode cX11_endOf 15 = .ok (.aload_n 0, 1) := by decide +kernel
theorem dX11_endOf_16 : decode cX11_endOf 16 = .ok (.iload_n 1, 1) := by decide +kernel
theorem dX11_endOf_17 : decode cX11_endOf 17 = .ok (.iload_n 2, 1) := by decide +kernel
theorem dX11_endOf_18 : decode cX11_endOf 18 = .ok (.iload_n 3, 1) := by decide +kernel
theorem dX11_endOf_19 : decode cX11_endOf 19 = .ok (.invokevirtual 452, 3) := by decide +kernel
theorem dX11_endOf_22 : decode cX11_endOf 22 = .ok (.goto 28, 3) := by decide +kernel
theorem dX11_endOf_25 : decode cX11_endOf 25 = .ok (.aload_n 0, 1) := by decide +kernel
theorem dX11_endOf_26 : decode cX11_endOf 26 = .ok (.iload_n 1, 1) := by decide +kernel
theorem dX11_endOf_27 : decode cX11_endOf 27 = .ok (.iload 4, 2) := by decide +kernel
theorem dX11_endOf_29 : decode cX11_endOf 29 = .ok (.iload_n 3, 1) := by decide +kernel
theorem dX11_endOf_30 : decode cX11_endOf 30 = .ok (.invokevirtual 452, 3) := by decide +kernel
theorem dX11_endOf_33 : decode cX11_endOf 33 = .ok (.sipush 10000, 3) := by decide +kernel
theorem dX11_endOf_36 : decode cX11_endOf 36 = .ok (.aload_n 0, 1) := by decide +kernel
theorem dX11_endOf_37 : decode cX11_endOf 37 = .ok (.getfield 13, 3) := by decide +kernel
theorem dX11_endOf_40 : decode cX11_endOf 40 = .ok (.bipush 17, 2) := by decide +kernel
theorem dX11_endOf_42 : decode cX11_endOf 42 = .ok (.iaload, 1) := by decide +kernel
theorem dX11_endOf_43 : decode cX11_endOf 43 = .ok (.isub, 1) := by decide +kernel
theorem dX11_endOf_44 : decode cX11_endOf 44 = .ok (.i2l, 1) := by decide +kernel
theorem dX11_endOf_45 : decode cX11_endOf 45 = .ok (.lmul, 1) := by decide +kernel
theorem dX11_endOf_46 : decode cX11_endOf 46 = .ok (.ldc2_w 338, 3) := by decide +kernel
theorem dX11_endOf_49 : decode cX11_endOf 49 = .ok (.ldiv, 1) := by decide +kernel
theorem dX11_endOf_50 : decode cX11_endOf 50 = .ok (.lreturn, 1) := by decide +kernel
theorem dX11_goesThrough_0 : decode cX11_goesThrough 0 = .ok (.iconst 1, 1) := by decide +kernel
theorem dX11_goesThrough_1 : decode cX11_goesThrough 1 = .ok (.aload_n 0, 1) := by decide +kernel
theorem dX11_goesThrough_2 : decode cX11_goesThrough 2 = .ok (.getfield 13, 3) := by decide +kernel
theorem dX11_goesThrough_5 : decode cX11_goesThrough 5 = .ok (.bipush 7, 2) := by decide +kernel
theorem dX11_goesThrough_7 : decode cX11_goesThrough 7 = .ok (.iaload, 1) := by decide +kernel
theorem dX11_goesThrough_8 : decode cX11_goesThrough 8 = .ok (.ishl, 1) := by decide +kernel
theorem dX11_goesThrough_9 : decode cX11_goesThrough 9 = .ok (.istore_n 1, 1) := by decide +kernel
theorem dX11_goesThrough_10 : decode cX11_goesThrough 10 = .ok (.iconst 0, 1) := by decide +kernel
theorem dX11_goesThrough_11 : decode cX11_goesThrough 11 = .ok (.istore_n 2, 1) := by decide +kernel
theorem dX11_goesThrough_12 : decode cX11_goesThrough 12 = .ok (.iload_n 2, 1) := by decide +kernel
theorem dX11_goesThrough_13 : decode cX11_goesThrough 13 = .ok (.bipush 80, 2) := by decide +kernel
theorem dX11_goesThrough_15 : decode cX11_goesThrough 15 = .ok (.if_icmp .ge 30, 3) := by decide +kernel
theorem dX11_goesThrough_18 : decode cX11_goesThrough 18 = .ok (.aload_n 0, 1) := by decide +kernel
theorem dX11_goesThrough_19 : decode cX11_goesThrough 19 = .ok (.getfield 47, 3) := by decide +kernel
theorem dX11_goesThrough_22 : decode cX11_goesThrough 22 = .ok (.bipush 80, 2) := by decide +kernel
theorem dX11_goesThrough_24 : decode cX11_goesThrough 24 = .ok (.aload_n 0, 1) := by decide +kernel
theorem dX11_goesThrough_25 : decode cX11_goesThrough 25 = .ok (.getfield 13, 3) := by decide +kernel
theorem dX11_goesThrough_28 : decode cX11_goesThrough 28 = .ok (.iconst 4, 1) := by decide +kernel
theorem dX11_goesThrough_29 : decode cX11_goesThrough 29 = .ok (.iaload, 1) := by decide +kernel
theorem dX11_goesThrough_30 : decode cX11_goesThrough 30 = .ok (.iconst 1, 1) := by decide +kernel
theorem dX11_goesThrough_31 : decode cX11_goesThrough 31 = .ok (.iadd, 1) := by decide +kernel
theorem dX11_goesThrough_32 : decode cX11_goesThrough 32 = .ok (.imul, 1) := by decide +kernel
theorem dX11_goesThrough_33 : decode cX11_goesThrough 33 = .ok (.iload_n 2, 1) := by decide +kernel
theorem dX11_goesThrough_34 : decode cX11_goesThrough 34 = .ok (.iadd, 1) := by decide +kernel
theorem dX11_goesThrough_35 : decode cX11_goesThrough 35 = .ok (.ldc2_w 336, 3) := by decide +kernel
theorem dX11_goesThrough_38 : decode cX11_goesThrough 38 = .ok (.lastore, 1) := by decide +kernel
theorem dX11_goesThrough_39 : decode cX11_goesThrough 39 = .ok (.iinc 2 1, 3) := by decide +kernel
theorem dX11_goesThrough_42 : decode cX11_goesThrough 42 = .ok (.goto (-30), 3) := by decide +kernel
theorem dX11_goesThrough_45 : decode cX11_goesThrough 45 = .ok (.aload_n 0, 1) := by decide +kernel
theorem dX11_goesThrough_46 : decode cX11_goesThrough 46 = .ok (.getfield 13, 3) := by decide +kernel
theorem dX11_goesThrough_49 : decode cX11_goesThrough 49 = .ok (.iconst 4, 1) := by decide +kernel
theorem dX11_goesThrough_50 : decode cX11_goesThrough 50 = .ok (.iaload, 1) := by decide +kernel
theorem dX11_goesThrough_51 : decode cX11_goesThrough 51 = .ok (.istore_n 2, 1) := by decide +kernel
theorem dX11_goesThrough_52 : decode cX11_goesThrough 52 = .ok (.iload_n 2, 1) := by decide +kernel
theorem dX11_goesThrough_53 : decode cX11_goesThrough 53 = .ok (.iconst 1, 1) := by decide +kernel
theorem dX11_goesThrough_54 : decode cX11_goesThrough 54 = .ok (.if_icmp .lt 219, 3) := by decide +kernel
theorem dX11_goesThrough_57 : decode cX11_goesThrough 57 = .ok (.iconst 0, 1) := by decide +kernel
theorem dX11_goesThrough_58 : decode cX11_goesThrough 58 = .ok (.istore_n 3, 1) := by decide +kernel
theorem dX11_goesThrough_59 : decode cX11_goesThrough 59 = .ok (.iload_n 3, 1) := by decide +kernel
theorem dX11_goesThrough_60 : decode cX11_goesThrough 60 = .ok (.aload_n 0, 1) := by decide +kernel
theorem dX11_goesThrough_61 : decode cX11_goesThrough 61 = .ok (.getfield 13, 3) := by decide +kernel
theorem dX11_goesThrough_64 : decode cX11_goesThrough 64 = .ok (.bipush 7, 2) := by decide +kernel
theorem dX11_goesThrough_66 : decode cX11_goesThrough 66 = .ok (.iaload, 1) := by decide +kernel
theorem dX11_goesThrough_67 : decode cX11_goesThrough 67 = .ok (.if_icmp .gt 200, 3) := by decide +kernel
theorem dX11_goesThrough_70 : decode cX11_goesThrough 70 = .ok (.iconst 0, 1) := by decide +kernel
theorem dX11_goesThrough_71 : decode cX11_goesThrough 71 = .ok (.istore 4, 2) := by decide +kernel
theorem dX11_goesThrough_73 : decode cX11_goesThrough 73 = .ok (.iload 4, 2) := by decide +kernel
theorem dX11_goesThrough_75 : decode cX11_goesThrough 75 = .ok (.iload_n 1, 1) := by decide +kernel
theorem dX11_goesThrough_76 : decode cX11_goesThrough 76 = .ok (.if_icmp .ge 38, 3) := by decide +kernel
theorem dX11_goesThrough_79 : decode cX11_goesThrough 79 = .ok (.aload_n 0, 1) := by decide +kernel
theorem dX11_goesThrough_80 : decode cX11_goesThrough 80 = .ok (.getfield 50, 3) := by decide +kernel
theorem dX11_goesThrough_83 : decode cX11_goesThrough 83 = .ok (.iload 4, 2) := by decide +kernel
theorem dX11_goesThrough_85 : decode cX11_goesThrough 85 = .ok (.aload_n 0, 1) := by decide +kernel
theorem dX11_goesThrough_86 : decode cX11_goesThrough 86 = .ok (.iload_n 3, 1) := by decide +kernel
theorem dX11_goesThrough_87 : decode cX11_goesThrough 87 = .ok (.iload 4, 2) := by decide +kernel
theorem dX11_goesThrough_89 : decode cX11_goesThrough 89 = .ok (.invokevirtual 456, 3) := by decide +kernel
theorem dX11_goesThrough_92 : decode cX11_goesThrough 92 = .ok (.ifCond .eq 14, 3) := by decide +kernel
theorem dX11_goesThrough_95 : decode cX11_goesThrough 95 = .ok (.aload_n 0, 1) := by decide +kernel
theorem dX11_goesThrough_96 : decode cX11_goesThrough 96 = .ok (.iload_n 2, 1) := by decide +kernel
theorem dX11_goesThrough_97 : decode cX11_goesThrough 97 = .ok (.iload_n 3, 1) := by decide +kernel
theorem dX11_goesThrough_98 : decode cX11_goesThrough 98 = .ok (.iload 4, 2) := by decide +kernel
theorem dX11_goesThrough_100 : decode cX11_goesThrough 100 = .ok (.invokevirtual 462, 3) := by decide +kernel
theorem dX11_goesThrough_103 : decode cX11_goesThrough 103 = .ok (.goto 4, 3) := by decide +kernel
theorem dX11_goesThrough_106 : decode cX11_goesThrough 106 = .ok (.lconst 0, 1) := by decide +kernel
theorem dX11_goesThrough_107 : decode cX11_goesThrough 107 = .ok (.lastore, 1) := by decide +kernel
theorem dX11_goesThrough_108 : decode cX11_goesThrough 108 = .ok (.iinc 4 1, 3) := by decide +kernel
theorem dX11_goesThrough_111 : decode cX11_goesThrough 111 = .ok (.goto (-38), 3) := by decide +kernel
theorem dX11_goesThrough_114 : decode cX11_goesThrough 114 = .ok (.aload_n 0, 1) := by decide +kernel
theorem dX11_goesThrough_115 : decode cX11_goesThrough 115 = .ok (.getfield 13, 3) := by decide +kernel
theorem dX11_goesThrough_118 : decode cX11_goesThrough 118 = .ok (.bipush 7, 2) := by decide +kernel
theorem dX11_goesThrough_120 : decode cX11_goesThrough 120 = .ok (.iaload, 1) := by decide +kernel
theorem dX11_goesThrough_121 : decode cX11_goesThrough 121 = .ok (.iconst 1, 1) := by decide +kernel
theorem dX11_goesThrough_122 : decode cX11_goesThrough 122 = .ok (.isub, 1) := by decide +kernel
theorem dX11_goesThrough_123 : decode cX11_goesThrough 123 = .ok (.istore 4, 2) := by decide +kernel
theorem dX11_goesThrough_125 : decode cX11_goesThrough 125 = .ok (.iload 4, 2) := by decide +kernel
theorem dX11_goesThrough_127 : decode cX11_goesThrough 127 = .ok (.ifCond .lt 100, 3) := by decide +kernel
theorem dX11_goesThrough_130 : decode cX11_goesThrough 130 = .ok (.iconst 0, 1) := by decide +kernel
theorem dX11_goesThrough_131 : decode cX11_goesThrough 131 = .ok (.istore 5, 2) := by decide +kernel
theorem dX11_goesThrough_133 : decode cX11_goesThrough 133 = .ok (.iload 5, 2) := by decide +kernel
theorem dX11_goesThrough_135 : decode cX11_goesThrough 135 = .ok (.iload_n 1, 1) := by decide +kernel
theorem dX11_goesThrough_136 : decode cX11_goesThrough 136 = .ok (.if_icmp .ge 85, 3) := by decide +kernel
theorem dX11_goesThrough_139 : decode cX11_goesThrough 139 = .ok (.iload 5, 2) := by decide +kernel
theorem dX11_goesThrough_141 : decode cX11_goesThrough 141 = .ok (.iload 4, 2) := by decide +kernel
theorem dX11_goesThrough_143 : decode cX11_goesThrough 143 = .ok (.invokestatic 239, 3) := by decide +kernel
theorem dX11_goesThrough_146 : decode cX11_goesThrough 146 = .ok (.ifCond .ne 69, 3) := by decide +kernel
theorem dX11_goesThrough_149 : decode cX11_goesThrough 149 = .ok (.aload_n 0, 1) := by decide +kernel
theorem dX11_goesThrough_150 : decode cX11_goesThrough 150 = .ok (.iload 4, 2) := by decide +kernel
theorem dX11_goesThrough_152 : decode cX11_goesThrough 152 = .ok (.iconst 0, 1) := by decide +kernel
theorem dX11_goesThrough_153 : decode cX11_goesThrough 153 = .ok (.invokevirtual 443, 3) := by decide +kernel
theorem dX11_goesThrough_156 : decode cX11_goesThrough 156 = .ok (.iload_n 2, 1) := by decide +kernel
theorem dX11_goesThrough_157 : decode cX11_goesThrough 157 = .ok (.if_icmp .le 6, 3) := by decide +kernel
theorem dX11_goesThrough_160 : decode cX11_goesThrough 160 = .ok (.goto 55, 3) := by decide +kernel
theorem dX11_goesThrough_163 : decode cX11_goesThrough 163 = .ok (.aload_n 0, 1) := by decide +kernel
theorem dX11_goesThrough_164 : decode cX11_goesThrough 164 = .ok (.getfield 50, 3) := by decide +kernel
theorem dX11_goesThrough_167 : decode cX11_goesThrough 167 = .ok (.iload 5, 2) := by decide +kernel
theorem dX11_goesThrough_169 : decode cX11_goesThrough 169 = .ok (.aload_n 0, 1) := by decide +kernel
theorem dX11_goesThrough_170 : decode cX11_goesThrough 170 = .ok (.iload 4, 2) := by decide +kernel
theorem dX11_goesThrough_172 : decode cX11_goesThrough 172 = .ok (.iconst 1, 1) := by decide +kernel
theorem dX11_goesThrough_173 : decode cX11_goesThrough 173 = .ok (.invokevirtual 443, 3) := by decide +kernel
theorem dX11_goesThrough_176 : decode cX11_goesThrough 176 = .ok (.i2l, 1) := by decide +kernel
theorem dX11_goesThrough_177 : decode cX11_goesThrough 177 = .ok (.aload_n 0, 1) := by decide +kernel
theorem dX11_goesThrough_178 : decode cX11_goesThrough 178 = .ok (.getfield 50, 3) := by decide +kernel
theorem dX11_goesThrough_181 : decode cX11_goesThrough 181 = .ok (.iload 5, 2) := by decide +kernel
theorem dX11_goesThrough_183 : decode cX11_goesThrough 183 = .ok (.iconst 1, 1) := by decide +kernel
theorem dX11_goesThrough_184 : decode cX11_goesThrough 184 = .ok (.iload 4, 2) := by decide +kernel
theorem dX11_goesThrough_186 : decode cX11_goesThrough 186 = .ok (.ishl, 1) := by decide +kernel
theorem dX11_goesThrough_187 : decode cX11_goesThrough 187 = .ok (.ior, 1) := by decide +kernel
theorem dX11_goesThrough_188 : decode cX11_goesThrough 188 = .ok (.laload, 1) := by decide +kernel
theorem dX11_goesThrough_189 : decode cX11_goesThrough 189 = .ok (.lmul, 1) := by decide +kernel
theorem dX11_goesThrough_190 : decode cX11_goesThrough 190 = .ok (.bipush 100, 2) := by decide +kernel
theorem dX11_goesThrough_192 : decode cX11_goesThrough 192 = .ok (.aload_n 0, 1) := by decide +kernel
theorem dX11_goesThrough_193 : decode cX11_goesThrough 193 = .ok (.iload 4, 2) := by decide +kernel
theorem dX11_goesThrough_195 : decode cX11_goesThrough 195 = .ok (.iconst 1, 1) := by decide +kernel
theorem dX11_goesThrough_196 : decode cX11_goesThrough 196 = .ok (.invokevirtual 443, 3) := by decide +kernel
theorem dX11_goesThrough_199 : decode cX11_goesThrough 199 = .ok (.isub, 1) := by decide +kernel
theorem dX11_goesThrough_200 : decode cX11_goesThrough 200 = .ok (.i2l, 1) := by decide +kernel
theorem dX11_goesThrough_201 : decode cX11_goesThrough 201 = .ok (.aload_n 0, 1) := by decide +kernel
theorem dX11_goesThrough_202 : decode cX11_goesThrough 202 = .ok (.getfield 50, 3) := by decide +kernel
theorem dX11_goesThrough_205 : decode cX11_goesThrough 205 = .ok (.iload 5, 2) := by decide +kernel
theorem dX11_goesThrough_207 : decode cX11_goesThrough 207 = .ok (.laload, 1) := by decide +kernel
theorem dX11_goesThrough_208 : decode cX11_goesThrough 208 = .ok (.lmul, 1) := by decide +kernel
theorem dX11_goesThrough_209 : decode cX11_goesThrough 209 = .ok (.ladd, 1) := by decide +kernel
theorem dX11_goesThrough_210 : decode cX11_goesThrough 210 = .ok (.ldc2_w 340, 3) := by decide +kernel
theorem dX11_goesThrough_213 : decode cX11_goesThrough 213 = .ok (.ldiv, 1) := by decide +kernel
theorem dX11_goesThrough_214 : decode cX11_goesThrough 214 = .ok (.lastore, 1) := by decide +kernel
theorem dX11_goesThrough_215 : decode cX11_goesThrough 215 = .ok (.iinc 5 1, 3) := by decide +kernel
theorem dX11_goesThrough_218 : decode cX11_goesThrough 218 = .ok (.goto (-85), 3) := by decide +kernel
theorem dX11_goesThrough_221 : decode cX11_goesThrough 221 = .ok (.iinc 4 (-1), 3) := by decide +kernel
theorem dX11_goesThrough_224 : decode cX11_goesThrough 224 = .ok (.goto (-99), 3) := by decide +kernel
theorem dX11_goesThrough_227 : decode cX11_goesThrough 227 = .ok (.iconst 0, 1) := by decide +kernel
theorem dX11_goesThrough_228 : decode cX11_goesThrough 228 = .ok (.istore 4, 2) := by decide +kernel
theorem dX11_goesThrough_230 : decode cX11_goesThrough 230 = .ok (.iload 4, 2) := by decide +kernel
theorem dX11_goesThrough_232 : decode cX11_goesThrough 232 = .ok (.iload_n 1, 1) := by decide +kernel
theorem dX11_goesThrough_233 : decode cX11_goesThrough 233 = .ok (.if_icmp .ge 28, 3) := by decide +kernel
theorem dX11_goesThrough_236 : decode cX11_goesThrough 236 = .ok (.aload_n 0, 1) := by decide +kernel
theorem dX11_goesThrough_237 : decode cX11_goesThrough 237 = .ok (.getfield 47, 3) := by decide +kernel
theorem dX11_goesThrough_240 : decode cX11_goesThrough 240 = .ok (.iload_n 2, 1) := by decide +kernel
theorem dX11_goesThrough_241 : decode cX11_goesThrough 241 = .ok (.iload_n 3, 1) := by decide +kernel
theorem dX11_goesThrough_242 : decode cX11_goesThrough 242 = .ok (.iload 4, 2) := by decide +kernel
theorem dX11_goesThrough_244 : decode cX11_goesThrough 244 = .ok (.invokestatic 446, 3) := by decide +kernel
theorem dX11_goesThrough_247 : decode cX11_goesThrough 247 = .ok (.aload_n 0, 1) := by decide +kernel
theorem dX11_goesThrough_248 : decode cX11_goesThrough 248 = .ok (.getfield 50, 3) := by decide +kernel
theorem dX11_goesThrough_251 : decode cX11_goesThrough 251 = .ok (.iload 4, 2) := by decide +kernel
theorem dX11_goesThrough_253 : decode cX11_goesThrough 253 = .ok (.laload, 1) := by decide +kernel
theorem dX11_goesThrough_254 : decode cX11_goesThrough 254 = .ok (.lastore, 1) := by decide +kernel
theorem dX11_goesThrough_255 : decode cX11_goesThrough 255 = .ok (.iinc 4 1, 3) := by decide +kernel
theorem dX11_goesThrough_258 : decode cX11_goesThrough 258 = .ok (.goto (-28), 3) := by decide +kernel
theorem dX11_goesThrough_261 : decode cX11_goesThrough 261 = .ok (.iinc 3 1, 3) := by decide +kernel
theorem dX11_goesThrough_264 : decode cX11_goesThrough 264 = .ok (.goto (-205), 3) := by decide +kernel
theorem dX11_goesThrough_267 : decode cX11_goesThrough 267 = .ok (.iinc 2 (-1), 3) := by decide +kernel
theorem dX11_goesThrough_270 : decode cX11_goesThrough 270 = .ok (.goto (-218), 3) := by decide +kernel
theorem dX11_goesThrough_273 : decode cX11_goesThrough 273 = .ok (.return_, 1) := by decide +kernel
theorem dX11_isMorning_0 : decode cX11_isMorning 0 = .ok (.aload_n 0, 1) := by decide +kernel
theorem dX11_isMorning_1 : decode cX11_isMorning 1 = .ok (.invokevirtual 271, 3) := by decide +kernel
theorem dX11_isMorning_4 : decode cX11_isMorning 4 = .ok (.ifCond .eq 70, 3) := by decide +kernel
theorem dX11_isMorning_7 : decode cX11_isMorning 7 = .ok (.iload_n 1, 1) := by decide +kernel
theorem dX11_isMorning_8 : decode cX11_isMorning 8 = .ok (.i2l, 1) := by decide +kernel
theorem dX11_isMorning_9 : decode cX11_isMorning 9 = .ok (.lconst 1, 1) := by decide +kernel
theorem dX11_isMorning_10 : decode cX11_isMorning 10 = .ok (.aload_n 0, 1) := by decide +kernel
theorem dX11_isMorning_11 : decode cX11_isMorning 11 = .ok (.getfield 13, 3) := by decide +kernel
theorem dX11_isMorning_14 : decode cX11_isMorning 14 = .ok (.iconst 4, 1) := by decide +kernel
theorem dX11_isMorning_15 : decode cX11_isMorning 15 = .ok (.iaload, 1) := by decide +kernel
theorem dX11_isMorning_16 : decode cX11_isMorning 16 = .ok (.i2l, 1) := by decide +kernel
theorem dX11_isMorning_17 : decode cX11_isMorning 17 = .ok (.invokestatic 84, 3) := by decide +kernel
theorem dX11_isMorning_20 : decode cX11_isMorning 20 = .ok (.ifCond .eq 54, 3) := by decide +kernel
theorem dX11_isMorning_23 : decode cX11_isMorning 23 = .ok (.iload_n 2, 1) := by decide +kernel
theorem dX11_isMorning_24 : decode cX11_isMorning 24 = .ok (.i2l, 1) := by decide +kernel
theorem dX11_isMorning_25 : decode cX11_isMorning 25 = .ok (.lconst 0, 1) := by decide +kernel
theorem dX11_isMorning_26 : decode cX11_isMorning 26 = .ok (.aload_n 0, 1) := by decide +kernel
theorem dX11_isMorning_27 : decode cX11_isMorning 27 = .ok (.getfield 13, 3) := by decide +kernel
theorem dX11_isMorning_30 : decode cX11_isMorning 30 = .ok (.bipush 7, 2) := by decide +kernel
theorem dX11_isMorning_32 : decode cX11_isMorning 32 = .ok (.iaload, 1) := by decide +kernel
theorem dX11_isMorning_33 : decode cX11_isMorning 33 = .ok (.i2l, 1) := by decide +kernel
theorem dX11_isMorning_34 : decode cX11_isMorning 34 = .ok (.invokestatic 84, 3) := by decide +kernel
theorem dX11_isMorning_37 : decode cX11_isMorning 37 = .ok (.ifCond .eq 37, 3) := by decide +kernel
theorem dX11_isMorning_40 : decode cX11_isMorning 40 = .ok (.iload_n 3, 1) := by decide +kernel
theorem dX11_isMorning_41 : decode cX11_isMorning 41 = .ok (.i2l, 1) := by decide +kernel
theorem dX11_isMorning_42 : decode cX11_isMorning 42 = .ok (.lconst 0, 1) := by decide +kernel
theorem dX11_isMorning_43 : decode cX11_isMorning 43 = .ok (.iconst 1, 1) := by decide +kernel
theorem dX11_isMorning_44 : decode cX11_isMorning 44 = .ok (.aload_n 0, 1) := by decide +kernel
theorem dX11_isMorning_45 : decode cX11_isMorning 45 = .ok (.getfield 13, 3) := by decide +kernel
theorem dX11_isMorning_48 : decode cX11_isMorning 48 = .ok (.bipush 7, 2) := by decide +kernel
theorem dX11_isMorning_50 : decode cX11_isMorning 50 = .ok (.iaload, 1) := by decide +kernel
theorem dX11_isMorning_51 : decode cX11_isMorning 51 = .ok (.ishl, 1) := by decide +kernel
theorem dX11_isMorning_52 : decode cX11_isMorning 52 = .ok (.iconst 1, 1) := by decide +kernel
theorem dX11_isMorning_53 : decode cX11_isMorning 53 = .ok (.isub, 1) := by decide +kernel
theorem dX11_isMorning_54 : decode cX11_isMorning 54 = .ok (.i2l, 1) := by decide +kernel
theorem dX11_isMorning_55 : decode cX11_isMorning 55 = .ok (.invokestatic 84, 3) := by decide +kernel
theorem dX11_isMorning_58 : decode cX11_isMorning 58 = .ok (.ifCond .eq 16, 3) := by decide +kernel
theorem dX11_isMorning_61 : decode cX11_isMorning 61 = .ok (.aload_n 0, 1) := by decide +kernel
theorem dX11_isMorning_62 : decode cX11_isMorning 62 = .ok (.iload_n 2, 1) := by decide +kernel
theorem dX11_isMorning_63 : decode cX11_isMorning 63 = .ok (.iload_n 3, 1) := by decide +kernel
theorem dX11_isMorning_64 : decode cX11_isMorning 64 = .ok (.invokevirtual 456, 3) := by decide +kernel
theorem dX11_isMorning_67 : decode cX11_isMorning 67 = .ok (.ifCond .eq 7, 3) := by decide +kernel
theorem dX11_isMorning_70 : decode cX11_isMorning 70 = .ok (.iconst 1, 1) := by decide +kernel
theorem dX11_isMorning_71 : decode cX11_isMorning 71 = .ok (.goto 4, 3) := by decide +kernel
theorem dX11_isMorning_74 : decode cX11_isMorning 74 = .ok (.iconst 0, 1) := by decide +kernel
theorem dX11_isMorning_75 : decode cX11_isMorning 75 = .ok (.ireturn, 1) := by decide +kernel
theorem dX11_alive_0 : decode cX11_alive 0 = .ok (.aload_n 0, 1) := by decide +kernel
theorem dX11_alive_1 : decode cX11_alive 1 = .ok (.iload_n 1, 1) := by decide +kernel
theorem dX11_alive_2 : decode cX11_alive 2 = .ok (.iload_n 2, 1) := by decide +kernel
theorem dX11_alive_3 : decode cX11_alive 3 = .ok (.iload_n 3, 1) := by decide +kernel
theorem dX11_alive_4 : decode cX11_alive 4 = .ok (.invokevirtual 465, 3) := by decide +kernel
theorem dX11_alive_7 : decode cX11_alive 7 = .ok (.ifCond .ne 7, 3) := by decide +kernel
theorem dX11_alive_10 : decode cX11_alive 10 = .ok (.ldc2_w 342, 3) := by decide +kernel
theorem dX11_alive_13 : decode cX11_alive 13 = .ok (.lreturn, 1) := by decide +kernel
theorem dX11_alive_14 : decode cX11_alive 14 = .ok (.aload_n 0, 1) := by decide +kernel
theorem dX11_alive_15 : decode cX11_alive 15 = .ok (.invokevirtual 469, 3) := by decide +kernel
theorem dX11_alive_18 : decode cX11_alive 18 = .ok (.aload_n 0, 1) := by decide +kernel
theorem dX11_alive_19 : decode cX11_alive 19 = .ok (.getfield 47, 3) := by decide +kernel
theorem dX11_alive_22 : decode cX11_alive 22 = .ok (.iload_n 1, 1) := by decide +kernel
theorem dX11_alive_23 : decode cX11_alive 23 = .ok (.iload_n 2, 1) := by decide +kernel
theorem dX11_alive_24 : decode cX11_alive 24 = .ok (.iload_n 3, 1) := by decide +kernel
theorem dX11_alive_25 : decode cX11_alive 25 = .ok (.invokestatic 446, 3) := by decide +kernel
theorem dX11_alive_28 : decode cX11_alive 28 = .ok (.laload, 1) := by decide +kernel
theorem dX11_alive_29 : decode cX11_alive 29 = .ok (.lreturn, 1) := by decide +kernel
theorem dX11_go_0 : decode cX11_go 0 = .ok (.aload_n 0, 1) := by decide +kernel
theorem dX11_go_1 : decode cX11_go 1 = .ok (.iload_n 1, 1) := by decide +kernel
theorem dX11_go_2 : decode cX11_go 2 = .ok (.iload_n 2, 1) := by decide +kernel
theorem dX11_go_3 : decode cX11_go 3 = .ok (.iload_n 3, 1) := by decide +kernel
theorem dX11_go_4 : decode cX11_go 4 = .ok (.invokevirtual 465, 3) := by decide +kernel
theorem dX11_go_7 : decode cX11_go 7 = .ok (.ifCond .ne 6, 3) := by decide +kernel
theorem dX11_go_10 : decode cX11_go 10 = .ok (.bipush (-2), 2) := by decide +kernel
theorem dX11_go_12 : decode cX11_go 12 = .ok (.ireturn, 1) := by decide +kernel
theorem dX11_go_13 : decode cX11_go 13 = .ok (.aload_n 0, 1) := by decide +kernel
theorem dX11_go_14 : decode cX11_go 14 = .ok (.invokevirtual 469, 3) := by decide +kernel
theorem dX11_go_17 : decode cX11_go 17 = .ok (.aload_n 0, 1) := by decide +kernel
theorem dX11_go_18 : decode cX11_go 18 = .ok (.iload_n 1, 1) := by decide +kernel
theorem dX11_go_19 : decode cX11_go 19 = .ok (.iload_n 2, 1) := by decide +kernel
theorem dX11_go_20 : decode cX11_go 20 = .ok (.iload_n 3, 1) := by decide +kernel
theorem dX11_go_21 : decode cX11_go 21 = .ok (.invokevirtual 459, 3) := by decide +kernel
theorem dX11_go_24 : decode cX11_go 24 = .ok (.ireturn, 1) := by decide +kernel
theorem dX11_leave_0 : decode cX11_leave 0 = .ok (.aload_n 0, 1) := by decide +kernel
theorem dX11_leave_1 : decode cX11_leave 1 = .ok (.invokevirtual 271, 3) := by decide +kernel
theorem dX11_leave_4 : decode cX11_leave 4 = .ok (.ifCond .ne 6, 3) := by decide +kernel
theorem dX11_leave_7 : decode cX11_leave 7 = .ok (.bipush (-2), 2) := by decide +kernel
theorem dX11_leave_9 : decode cX11_leave 9 = .ok (.ireturn, 1) := by decide +kernel
theorem dX11_leave_10 : decode cX11_leave 10 = .ok (.aload_n 0, 1) := by decide +kernel
theorem dX11_leave_11 : decode cX11_leave 11 = .ok (.invokevirtual 469, 3) := by decide +kernel
theorem dX11_leave_14 : decode cX11_leave 14 = .ok (.iconst 1, 1) := by decide +kernel
theorem dX11_leave_15 : decode cX11_leave 15 = .ok (.istore_n 1, 1) := by decide +kernel
theorem dX11_leave_16 : decode cX11_leave 16 = .ok (.iload_n 1, 1) := by decide +kernel
theorem dX11_leave_17 : decode cX11_leave 17 = .ok (.aload_n 0, 1) := by decide +kernel
theorem dX11_leave_18 : decode cX11_leave 18 = .ok (.getfield 13, 3) := by decide +kernel
theorem dX11_leave_21 : decode cX11_leave 21 = .ok (.iconst 4, 1) := by decide +kernel
theorem dX11_leave_22 : decode cX11_leave 22 = .ok (.iaload, 1) := by decide +kernel
theorem dX11_leave_23 : decode cX11_leave 23 = .ok (.if_icmp .gt 62, 3) := by decide +kernel
theorem dX11_leave_26 : decode cX11_leave 26 = .ok (.iconst 0, 1) := by decide +kernel
theorem dX11_leave_27 : decode cX11_leave 27 = .ok (.istore_n 2, 1) := by decide +kernel
theorem dX11_leave_28 : decode cX11_leave 28 = .ok (.iconst 0, 1) := by decide +kernel
theorem dX11_leave_29 : decode cX11_leave 29 = .ok (.istore_n 3, 1) := by decide +kernel
theorem dX11_leave_30 : decode cX11_leave 30 = .ok (.iload_n 3, 1) := by decide +kernel
theorem dX11_leave_31 : decode cX11_leave 31 = .ok (.aload_n 0, 1) := by decide +kernel
theorem dX11_leave_32 : decode cX11_leave 32 = .ok (.getfield 13, 3) := by decide +kernel
theorem dX11_leave_35 : decode cX11_leave 35 = .ok (.bipush 7, 2) := by decide +kernel
theorem dX11_leave_37 : decode cX11_leave 37 = .ok (.iaload, 1) := by decide +kernel
theorem dX11_leave_38 : decode cX11_leave 38 = .ok (.if_icmp .ge 29, 3) := by decide +kernel
theorem dX11_leave_41 : decode cX11_leave 41 = .ok (.iload_n 2, 1) := by decide +kernel
theorem dX11_leave_42 : decode cX11_leave 42 = .ok (.aload_n 0, 1) := by decide +kernel
theorem dX11_leave_43 : decode cX11_leave 43 = .ok (.iload_n 3, 1) := by decide +kernel
theorem dX11_leave_44 : decode cX11_leave 44 = .ok (.iconst 0, 1) := by decide +kernel
theorem dX11_leave_45 : decode cX11_leave 45 = .ok (.invokevirtual 443, 3) := by decide +kernel
theorem dX11_leave_48 : decode cX11_leave 48 = .ok (.iload_n 1, 1) := by decide +kernel
theorem dX11_leave_49 : decode cX11_leave 49 = .ok (.if_icmp .gt 9, 3) := by decide +kernel
theorem dX11_leave_52 : decode cX11_leave 52 = .ok (.iconst 1, 1) := by decide +kernel
theorem dX11_leave_53 : decode cX11_leave 53 = .ok (.iload_n 3, 1) := by decide +kernel
theorem dX11_leave_54 : decode cX11_leave 54 = .ok (.ishl, 1) := by decide +kernel
theorem dX11_leave_55 : decode cX11_leave 55 = .ok (.goto 4, 3) := by decide +kernel
theorem dX11_leave_58 : decode cX11_leave 58 = .ok (.iconst 0, 1) := by decide +kernel
theorem dX11_leave_59 : decode cX11_leave 59 = .ok (.ior, 1) := by decide +kernel
theorem dX11_leave_60 : decode cX11_leave 60 = .ok (.istore_n 2, 1) := by decide +kernel
theorem dX11_leave_61 : decode cX11_leave 61 = .ok (.iinc 3 1, 3) := by decide +kernel
theorem dX11_leave_64 : decode cX11_leave 64 = .ok (.goto (-34), 3) := by decide +kernel
theorem dX11_leave_67 : decode cX11_leave 67 = .ok (.aload_n 0, 1) := by decide +kernel
theorem dX11_leave_68 : decode cX11_leave 68 = .ok (.iload_n 1, 1) := by decide +kernel
theorem dX11_leave_69 : decode cX11_leave 69 = .ok (.iconst 0, 1) := by decide +kernel
theorem dX11_leave_70 : decode cX11_leave 70 = .ok (.iload_n 2, 1) := by decide +kernel
theorem dX11_leave_71 : decode cX11_leave 71 = .ok (.invokevirtual 459, 3) := by decide +kernel
theorem dX11_leave_74 : decode cX11_leave 74 = .ok (.ifCond .eq 5, 3) := by decide +kernel
theorem dX11_leave_77 : decode cX11_leave 77 = .ok (.iload_n 1, 1) := by decide +kernel
theorem dX11_leave_78 : decode cX11_leave 78 = .ok (.ireturn, 1) := by decide +kernel
theorem dX11_leave_79 : decode cX11_leave 79 = .ok (.iinc 1 1, 3) := by decide +kernel
theorem dX11_leave_82 : decode cX11_leave 82 = .ok (.goto (-66), 3) := by decide +kernel
theorem dX11_leave_85 : decode cX11_leave 85 = .ok (.iconst (-1), 1) := by decide +kernel
theorem dX11_leave_86 : decode cX11_leave 86 = .ok (.ireturn, 1) := by decide +kernel
theorem dX11_loads_0 : decode cX11_loads 0 = .ok (.aload_n 0, 1) := by decide +kernel
theorem dX11_loads_1 : decode cX11_loads 1 = .ok (.getfield 13, 3) := by decide +kernel
theorem dX11_loads_4 : decode cX11_loads 4 = .ok (.bipush 6, 2) := by decide +kernel
theorem dX11_loads_6 : decode cX11_loads 6 = .ok (.iaload, 1) := by decide +kernel
theorem dX11_loads_7 : decode cX11_loads 7 = .ok (.istore_n 3, 1) := by decide +kernel
theorem dX11_loads_8 : decode cX11_loads 8 = .ok (.iconst 0, 1) := by decide +kernel
theorem dX11_loads_9 : decode cX11_loads 9 = .ok (.istore 4, 2) := by decide +kernel
theorem dX11_loads_11 : decode cX11_loads 11 = .ok (.iload 4, 2) := by decide +kernel
theorem dX11_loads_13 : decode cX11_loads 13 = .ok (.iload_n 2, 1) := by decide +kernel
theorem dX11_loads_14 : decode cX11_loads 14 = .ok (.if_icmp .gt 34, 3) := by decide +kernel
theorem dX11_loads_17 : decode cX11_loads 17 = .ok (.aload_n 0, 1) := by decide +kernel
theorem dX11_loads_18 : decode cX11_loads 18 = .ok (.getfield 53, 3) := by decide +kernel
theorem dX11_loads_21 : decode cX11_loads 21 = .ok (.sipush 1681, 3) := by decide +kernel
theorem dX11_loads_24 : decode cX11_loads 24 = .ok (.iload_n 3, 1) := by decide +kernel
theorem dX11_loads_25 : decode cX11_loads 25 = .ok (.imul, 1) := by decide +kernel
theorem dX11_loads_26 : decode cX11_loads 26 = .ok (.iload 4, 2) := by decide +kernel
theorem dX11_loads_28 : decode cX11_loads 28 = .ok (.iadd, 1) := by decide +kernel
theorem dX11_loads_29 : decode cX11_loads 29 = .ok (.iload 4, 2) := by decide +kernel
theorem dX11_loads_31 : decode cX11_loads 31 = .ok (.ifCond .ne 7, 3) := by decide +kernel
theorem dX11_loads_34 : decode cX11_loads 34 = .ok (.iconst 0, 1) := by decide +kernel
theorem dX11_loads_35 : decode cX11_loads 35 = .ok (.goto 6, 3) := by decide +kernel
theorem dX11_loads_38 : decode cX11_loads 38 = .ok (.ldc_w 472, 3) := by decide +kernel
theorem dX11_loads_41 : decode cX11_loads 41 = .ok (.iastore, 1) := by decide +kernel
theorem dX11_loads_42 : decode cX11_loads 42 = .ok (.iinc 4 1, 3) := by decide +kernel
theorem dX11_loads_45 : decode cX11_loads 45 = .ok (.goto (-34), 3) := by decide +kernel
theorem dX11_loads_48 : decode cX11_loads 48 = .ok (.iload_n 3, 1) := by decide +kernel
theorem dX11_loads_49 : decode cX11_loads 49 = .ok (.iconst 1, 1) := by decide +kernel
theorem dX11_loads_50 : decode cX11_loads 50 = .ok (.isub, 1) := by decide +kernel
theorem dX11_loads_51 : decode cX11_loads 51 = .ok (.istore 4, 2) := by decide +kernel
theorem dX11_loads_53 : decode cX11_loads 53 = .ok (.iload 4, 2) := by decide +kernel
theorem dX11_loads_55 : decode cX11_loads 55 = .ok (.ifCond .lt 145, 3) := by decide +kernel
theorem dX11_loads_58 : decode cX11_loads 58 = .ok (.iconst 0, 1) := by decide +kernel
theorem dX11_loads_59 : decode cX11_loads 59 = .ok (.istore 5, 2) := by decide +kernel
theorem dX11_loads_61 : decode cX11_loads 61 = .ok (.iload 5, 2) := by decide +kernel
theorem dX11_loads_63 : decode cX11_loads 63 = .ok (.iload_n 2, 1) := by decide +kernel
theorem dX11_loads_64 : decode cX11_loads 64 = .ok (.if_icmp .gt 130, 3) := by decide +kernel
theorem dX11_loads_67 : decode cX11_loads 67 = .ok (.aload_n 0, 1) := by decide +kernel
theorem dX11_loads_68 : decode cX11_loads 68 = .ok (.getfield 53, 3) := by decide +kernel
theorem dX11_loads_71 : decode cX11_loads 71 = .ok (.sipush 1681, 3) := by decide +kernel
theorem dX11_loads_74 : decode cX11_loads 74 = .ok (.iload 4, 2) := by decide +kernel
theorem dX11_loads_76 : decode cX11_loads 76 = .ok (.iconst 1, 1) := by decide +kernel
theorem dX11_loads_77 : decode cX11_loads 77 = .ok (.iadd, 1) := by decide +kernel
theorem dX11_loads_78 : decode cX11_loads 78 = .ok (.imul, 1) := by decide +kernel
theorem dX11_loads_79 : decode cX11_loads 79 = .ok (.iload 5, 2) := by decide +kernel
theorem dX11_loads_81 : decode cX11_loads 81 = .ok (.iadd, 1) := by decide +kernel
theorem dX11_loads_82 : decode cX11_loads 82 = .ok (.iaload, 1) := by decide +kernel
theorem dX11_loads_83 : decode cX11_loads 83 = .ok (.istore 6, 2) := by decide +kernel
theorem dX11_loads_85 : decode cX11_loads 85 = .ok (.iconst 1, 1) := by decide +kernel
theorem dX11_loads_86 : decode cX11_loads 86 = .ok (.istore 7, 2) := by decide +kernel
theorem dX11_loads_88 : decode cX11_loads 88 = .ok (.iload 7, 2) := by decide +kernel
theorem dX11_loads_90 : decode cX11_loads 90 = .ok (.aload_n 0, 1) := by decide +kernel
theorem dX11_loads_91 : decode cX11_loads 91 = .ok (.iload 4, 2) := by decide +kernel
theorem dX11_loads_93 : decode cX11_loads 93 = .ok (.iconst 3, 1) := by decide +kernel
theorem dX11_loads_94 : decode cX11_loads 94 = .ok (.invokevirtual 297, 3) := by decide +kernel
theorem dX11_loads_97 : decode cX11_loads 97 = .ok (.if_icmp .gt 69, 3) := by decide +kernel
theorem dX11_loads_100 : decode cX11_loads 100 = .ok (.aload_n 0, 1) := by decide +kernel
theorem dX11_loads_101 : decode cX11_loads 101 = .ok (.iload 4, 2) := by decide +kernel
theorem dX11_loads_103 : decode cX11_loads 103 = .ok (.iconst 0, 1) := by decide +kernel
theorem dX11_loads_104 : decode cX11_loads 104 = .ok (.invokevirtual 297, 3) := by decide +kernel
theorem dX11_loads_107 : decode cX11_loads 107 = .ok (.iload_n 1, 1) := by decide +kernel
theorem dX11_loads_108 : decode cX11_loads 108 = .ok (.if_icmp .ne 58, 3) := by decide +kernel
theorem dX11_loads_111 : decode cX11_loads 111 = .ok (.iload 6, 2) := by decide +kernel
theorem dX11_loads_113 : decode cX11_loads 113 = .ok (.iload 7, 2) := by decide +kernel
theorem dX11_loads_115 : decode cX11_loads 115 = .ok (.aload_n 0, 1) := by decide +kernel
theorem dX11_loads_116 : decode cX11_loads 116 = .ok (.iload 4, 2) := by decide +kernel
theorem dX11_loads_118 : decode cX11_loads 118 = .ok (.iconst 2, 1) := by decide +kernel
theorem dX11_loads_119 : decode cX11_loads 119 = .ok (.invokevirtual 297, 3) := by decide +kernel
theorem dX11_loads_122 : decode cX11_loads 122 = .ok (.imul, 1) := by decide +kernel
theorem dX11_loads_123 : decode cX11_loads 123 = .ok (.aload_n 0, 1) := by decide +kernel
theorem dX11_loads_124 : decode cX11_loads 124 = .ok (.getfield 53, 3) := by decide +kernel
theorem dX11_loads_127 : decode cX11_loads 127 = .ok (.sipush 1681, 3) := by decide +kernel
theorem dX11_loads_130 : decode cX11_loads 130 = .ok (.iload 4, 2) := by decide +kernel
theorem dX11_loads_132 : decode cX11_loads 132 = .ok (.iconst 1, 1) := by decide +kernel
theorem dX11_loads_133 : decode cX11_loads 133 = .ok (.iadd, 1) := by decide +kernel
theorem dX11_loads_134 : decode cX11_loads 134 = .ok (.imul, 1) := by decide +kernel
theorem dX11_loads_135 : decode cX11_loads 135 = .ok (.iconst 0, 1) := by decide +kernel
theorem dX11_loads_136 : decode cX11_loads 136 = .ok (.iload 5, 2) := by decide +kernel
theorem dX11_loads_138 : decode cX11_loads 138 = .ok (.iload 7, 2) := by decide +kernel
theorem dX11_loads_140 : decode cX11_loads 140 = .ok (.aload_n 0, 1) := by decide +kernel
theorem dX11_loads_141 : decode cX11_loads 141 = .ok (.iload 4, 2) := by decide +kernel
theorem dX11_loads_143 : decode cX11_loads 143 = .ok (.iconst 1, 1) := by decide +kernel
theorem dX11_loads_144 : decode cX11_loads 144 = .ok (.invokevirtual 297, 3) := by decide +kernel
theorem dX11_loads_147 : decode cX11_loads 147 = .ok (.imul, 1) := by decide +kernel
theorem dX11_loads_148 : decode cX11_loads 148 = .ok (.isub, 1) := by decide +kernel
theorem dX11_loads_149 : decode cX11_loads 149 = .ok (.invokestatic 368, 3) := by decide +kernel
theorem dX11_loads_152 : decode cX11_loads 152 = .ok (.iadd, 1) := by decide +kernel
theorem dX11_loads_153 : decode cX11_loads 153 = .ok (.iaload, 1) := by decide +kernel
theorem dX11_loads_154 : decode cX11_loads 154 = .ok (.iadd, 1) := by decide +kernel
theorem dX11_loads_155 : decode cX11_loads 155 = .ok (.invokestatic 123, 3) := by decide +kernel
theorem dX11_loads_158 : decode cX11_loads 158 = .ok (.istore 6, 2) := by decide +kernel
theorem dX11_loads_160 : decode cX11_loads 160 = .ok (.iinc 7 1, 3) := by decide +kernel
theorem dX11_loads_163 : decode cX11_loads 163 = .ok (.goto (-75), 3) := by decide +kernel
theorem dX11_loads_166 : decode cX11_loads 166 = .ok (.aload_n 0, 1) := by decide +kernel
theorem dX11_loads_167 : decode cX11_loads 167 = .ok (.getfield 53, 3) := by decide +kernel
theorem dX11_loads_170 : decode cX11_loads 170 = .ok (.sipush 1681, 3) := by decide +kernel
theorem dX11_loads_173 : decode cX11_loads 173 = .ok (.iload 4, 2) := by decide +kernel
theorem dX11_loads_175 : decode cX11_loads 175 = .ok (.imul, 1) := by decide +kernel
theorem dX11_loads_176 : decode cX11_loads 176 = .ok (.iload 5, 2) := by decide +kernel
theorem dX11_loads_178 : decode cX11_loads 178 = .ok (.iadd, 1) := by decide +kernel
theorem dX11_loads_179 : decode cX11_loads 179 = .ok (.ldc_w 472, 3) := by decide +kernel
theorem dX11_loads_182 : decode cX11_loads 182 = .ok (.iload 6, 2) := by decide +kernel
theorem dX11_loads_184 : decode cX11_loads 184 = .ok (.invokestatic 123, 3) := by decide +kernel
theorem dX11_loads_187 : decode cX11_loads 187 = .ok (.iastore, 1) := by decide +kernel
theorem dX11_loads_188 : decode cX11_loads 188 = .ok (.iinc 5 1, 3) := by decide +kernel
theorem dX11_loads_191 : decode cX11_loads 191 = .ok (.goto (-130), 3) := by decide +kernel
theorem dX11_loads_194 : decode cX11_loads 194 = .ok (.iinc 4 (-1), 3) := by decide +kernel
theorem dX11_loads_197 : decode cX11_loads 197 = .ok (.goto (-144), 3) := by decide +kernel
theorem dX11_loads_200 : decode cX11_loads 200 = .ok (.return_, 1) := by decide +kernel
theorem dX11_loadOf_0 : decode cX11_loadOf 0 = .ok (.aload_n 0, 1) := by decide +kernel
theorem dX11_loadOf_1 : decode cX11_loadOf 1 = .ok (.iload_n 3, 1) := by decide +kernel
theorem dX11_loadOf_2 : decode cX11_loadOf 2 = .ok (.invokevirtual 371, 3) := by decide +kernel
theorem dX11_loadOf_5 : decode cX11_loadOf 5 = .ok (.ifCond .ne 5, 3) := by decide +kernel
theorem dX11_loadOf_8 : decode cX11_loadOf 8 = .ok (.iconst 0, 1) := by decide +kernel
theorem dX11_loadOf_9 : decode cX11_loadOf 9 = .ok (.ireturn, 1) := by decide +kernel
theorem dX11_loadOf_10 : decode cX11_loadOf 10 = .ok (.iload_n 1, 1) := by decide +kernel
theorem dX11_loadOf_11 : decode cX11_loadOf 11 = .ok (.iload_n 2, 1) := by decide +kernel
theorem dX11_loadOf_12 : decode cX11_loadOf 12 = .ok (.iload_n 3, 1) := by decide +kernel
theorem dX11_loadOf_13 : decode cX11_loadOf 13 = .ok (.invokestatic 362, 3) := by decide +kernel
theorem dX11_loadOf_16 : decode cX11_loadOf 16 = .ok (.istore 4, 2) := by decide +kernel
theorem dX11_loadOf_18 : decode cX11_loadOf 18 = .ok (.aload_n 0, 1) := by decide +kernel
theorem dX11_loadOf_19 : decode cX11_loadOf 19 = .ok (.iload_n 3, 1) := by decide +kernel
theorem dX11_loadOf_20 : decode cX11_loadOf 20 = .ok (.iload 4, 2) := by decide +kernel
theorem dX11_loadOf_22 : decode cX11_loadOf 22 = .ok (.invokevirtual 473, 3) := by decide +kernel
theorem dX11_loadOf_25 : decode cX11_loadOf 25 = .ok (.aload_n 0, 1) := by decide +kernel
theorem dX11_loadOf_26 : decode cX11_loadOf 26 = .ok (.getfield 53, 3) := by decide +kernel
theorem dX11_loadOf_29 : decode cX11_loadOf 29 = .ok (.iload 4, 2) := by decide +kernel
theorem dX11_loadOf_31 : decode cX11_loadOf 31 = .ok (.iaload, 1) := by decide +kernel
theorem dX11_loadOf_32 : decode cX11_loadOf 32 = .ok (.ldc_w 472, 3) := by decide +kernel
theorem dX11_loadOf_35 : decode cX11_loadOf 35 = .ok (.if_icmp .lt 7, 3) := by decide +kernel
theorem dX11_loadOf_38 : decode cX11_loadOf 38 = .ok (.iconst (-1), 1) := by decide +kernel
theorem dX11_loadOf_39 : decode cX11_loadOf 39 = .ok (.goto 10, 3) := by decide +kernel
theorem dX11_loadOf_42 : decode cX11_loadOf 42 = .ok (.aload_n 0, 1) := by decide +kernel
theorem dX11_loadOf_43 : decode cX11_loadOf 43 = .ok (.getfield 53, 3) := by decide +kernel
theorem dX11_loadOf_46 : decode cX11_loadOf 46 = .ok (.iload 4, 2) := by decide +kernel
theorem dX11_loadOf_48 : decode cX11_loadOf 48 = .ok (.iaload, 1) := by decide +kernel
theorem dX11_loadOf_49 : decode cX11_loadOf 49 = .ok (.ireturn, 1) := by decide +kernel
theorem dX11_loadOfAll_0 : decode cX11_loadOfAll 0 = .ok (.iconst 0, 1) := by decide +kernel
theorem dX11_loadOfAll_1 : decode cX11_loadOfAll 1 = .ok (.istore_n 3, 1) := by decide +kernel
theorem dX11_loadOfAll_2 : decode cX11_loadOfAll 2 = .ok (.iconst 0, 1) := by decide +kernel
theorem dX11_loadOfAll_3 : decode cX11_loadOfAll 3 = .ok (.istore 4, 2) := by decide +kernel
theorem dX11_loadOfAll_5 : decode cX11_loadOfAll 5 = .ok (.iload 4, 2) := by decide +kernel
theorem dX11_loadOfAll_7 : decode cX11_loadOfAll 7 = .ok (.iconst 4, 1) := by decide +kernel
theorem dX11_loadOfAll_8 : decode cX11_loadOfAll 8 = .ok (.if_icmp .ge 32, 3) := by decide +kernel
theorem dX11_loadOfAll_11 : decode cX11_loadOfAll 11 = .ok (.aload_n 0, 1) := by decide +kernel
theorem dX11_loadOfAll_12 : decode cX11_loadOfAll 12 = .ok (.iload_n 1, 1) := by decide +kernel
theorem dX11_loadOfAll_13 : decode cX11_loadOfAll 13 = .ok (.iload_n 2, 1) := by decide +kernel
theorem dX11_loadOfAll_14 : decode cX11_loadOfAll 14 = .ok (.iload 4, 2) := by decide +kernel
theorem dX11_loadOfAll_16 : decode cX11_loadOfAll 16 = .ok (.invokevirtual 476, 3) := by decide +kernel
theorem dX11_loadOfAll_19 : decode cX11_loadOfAll 19 = .ok (.istore 5, 2) := by decide +kernel
theorem dX11_loadOfAll_21 : decode cX11_loadOfAll 21 = .ok (.iload 5, 2) := by decide +kernel
theorem dX11_loadOfAll_23 : decode cX11_loadOfAll 23 = .ok (.iconst (-1), 1) := by decide +kernel
theorem dX11_loadOfAll_24 : decode cX11_loadOfAll 24 = .ok (.if_icmp .ne 5, 3) := by decide +kernel
theorem dX11_loadOfAll_27 : decode cX11_loadOfAll 27 = .ok (.iconst (-1), 1) := by decide +kernel
theorem dX11_loadOfAll_28 : decode cX11_loadOfAll 28 = .ok (.ireturn, 1) := by decide +kernel
theorem dX11_loadOfAll_29 : decode cX11_loadOfAll 29 = .ok (.iload_n 3, 1) := by decide +kernel
theorem dX11_loadOfAll_30 : decode cX11_loadOfAll 30 = .ok (.iload 5, 2) := by decide +kernel
theorem dX11_loadOfAll_32 : decode cX11_loadOfAll 32 = .ok (.iadd, 1) := by decide +kernel
theorem dX11_loadOfAll_33 : decode cX11_loadOfAll 33 = .ok (.istore_n 3, 1) := by decide +kernel
theorem dX11_loadOfAll_34 : decode cX11_loadOfAll 34 = .ok (.iinc 4 1, 3) := by decide +kernel
theorem dX11_loadOfAll_37 : decode cX11_loadOfAll 37 = .ok (.goto (-32), 3) := by decide +kernel
theorem dX11_loadOfAll_40 : decode cX11_loadOfAll 40 = .ok (.iload_n 3, 1) := by decide +kernel
theorem dX11_loadOfAll_41 : decode cX11_loadOfAll 41 = .ok (.ireturn, 1) := by decide +kernel
theorem dX11_isLoad_0 : decode cX11_isLoad 0 = .ok (.iload_n 0, 1) := by decide +kernel
theorem dX11_isLoad_1 : decode cX11_isLoad 1 = .ok (.i2l, 1) := by decide +kernel
theorem dX11_isLoad_2 : decode cX11_isLoad 2 = .ok (.lconst 0, 1) := by decide +kernel
theorem dX11_isLoad_3 : decode cX11_isLoad 3 = .ok (.ldc2_w 306, 3) := by decide +kernel
theorem dX11_isLoad_6 : decode cX11_isLoad 6 = .ok (.invokestatic 84, 3) := by decide +kernel
theorem dX11_isLoad_9 : decode cX11_isLoad 9 = .ok (.ifCond .eq 19, 3) := by decide +kernel
theorem dX11_isLoad_12 : decode cX11_isLoad 12 = .ok (.iload_n 1, 1) := by decide +kernel
theorem dX11_isLoad_13 : decode cX11_isLoad 13 = .ok (.i2l, 1) := by decide +kernel
theorem dX11_isLoad_14 : decode cX11_isLoad 14 = .ok (.lconst 0, 1) := by decide +kernel
theorem dX11_isLoad_15 : decode cX11_isLoad 15 = .ok (.ldc2_w 479, 3) := by decide +kernel
theorem dX11_isLoad_18 : decode cX11_isLoad 18 = .ok (.invokestatic 84, 3) := by decide +kernel
theorem dX11_isLoad_21 : decode cX11_isLoad 21 = .ok (.ifCond .eq 7, 3) := by decide +kernel
theorem dX11_isLoad_24 : decode cX11_isLoad 24 = .ok (.iconst 1, 1) := by decide +kernel
theorem dX11_isLoad_25 : decode cX11_isLoad 25 = .ok (.goto 4, 3) := by decide +kernel
theorem dX11_isLoad_28 : decode cX11_isLoad 28 = .ok (.iconst 0, 1) := by decide +kernel
theorem dX11_isLoad_29 : decode cX11_isLoad 29 = .ok (.ireturn, 1) := by decide +kernel
theorem dX11_least_0 : decode cX11_least 0 = .ok (.iload_n 1, 1) := by decide +kernel
theorem dX11_least_1 : decode cX11_least 1 = .ok (.iload_n 2, 1) := by decide +kernel
theorem dX11_least_2 : decode cX11_least 2 = .ok (.invokestatic 481, 3) := by decide +kernel
theorem dX11_least_5 : decode cX11_least 5 = .ok (.ifCond .eq 17, 3) := by decide +kernel
theorem dX11_least_8 : decode cX11_least 8 = .ok (.iload_n 3, 1) := by decide +kernel
theorem dX11_least_9 : decode cX11_least 9 = .ok (.i2l, 1) := by decide +kernel
theorem dX11_least_10 : decode cX11_least 10 = .ok (.ldc2_w 484, 3) := by decide +kernel
theorem dX11_least_13 : decode cX11_least 13 = .ok (.ldc2_w 269, 3) := by decide +kernel
theorem dX11_least_16 : decode cX11_least 16 = .ok (.invokestatic 84, 3) := by decide +kernel
theorem dX11_least_19 : decode cX11_least 19 = .ok (.ifCond .ne 6, 3) := by decide +kernel
theorem dX11_least_22 : decode cX11_least 22 = .ok (.bipush (-2), 2) := by decide +kernel
theorem dX11_least_24 : decode cX11_least 24 = .ok (.ireturn, 1) := by decide +kernel
theorem dX11_least_25 : decode cX11_least 25 = .ok (.iload_n 3, 1) := by decide +kernel
theorem dX11_least_26 : decode cX11_least 26 = .ok (.iconst (-1), 1) := by decide +kernel
theorem dX11_least_27 : decode cX11_least 27 = .ok (.if_icmp .ne 12, 3) := by decide +kernel
theorem dX11_least_30 : decode cX11_least 30 = .ok (.aload_n 0, 1) := by decide +kernel
theorem dX11_least_31 : decode cX11_least 31 = .ok (.iload_n 1, 1) := by decide +kernel
theorem dX11_least_32 : decode cX11_least 32 = .ok (.iload_n 2, 1) := by decide +kernel
theorem dX11_least_33 : decode cX11_least 33 = .ok (.invokevirtual 486, 3) := by decide +kernel
theorem dX11_least_36 : decode cX11_least 36 = .ok (.goto 10, 3) := by decide +kernel
theorem dX11_least_39 : decode cX11_least 39 = .ok (.aload_n 0, 1) := by decide +kernel
theorem dX11_least_40 : decode cX11_least 40 = .ok (.iload_n 1, 1) := by decide +kernel
theorem dX11_least_41 : decode cX11_least 41 = .ok (.iload_n 2, 1) := by decide +kernel
theorem dX11_least_42 : decode cX11_least 42 = .ok (.iload_n 3, 1) := by decide +kernel
theorem dX11_least_43 : decode cX11_least 43 = .ok (.invokevirtual 476, 3) := by decide +kernel
theorem dX11_least_46 : decode cX11_least 46 = .ok (.ireturn, 1) := by decide +kernel
theorem dX11_load_0 : decode cX11_load 0 = .ok (.iload_n 1, 1) := by decide +kernel
theorem dX11_load_1 : decode cX11_load 1 = .ok (.iload_n 2, 1) := by decide +kernel
theorem dX11_load_2 : decode cX11_load 2 = .ok (.invokestatic 481, 3) := by decide +kernel
theorem dX11_load_5 : decode cX11_load 5 = .ok (.ifCond .eq 11, 3) := by decide +kernel
theorem dX11_load_8 : decode cX11_load 8 = .ok (.aload_n 0, 1) := by decide +kernel
theorem dX11_load_9 : decode cX11_load 9 = .ok (.iload_n 3, 1) := by decide +kernel
theorem dX11_load_10 : decode cX11_load 10 = .ok (.invokevirtual 291, 3) := by decide +kernel
theorem dX11_load_13 : decode cX11_load 13 = .ok (.ifCond .ne 6, 3) := by decide +kernel
theorem dX11_load_16 : decode cX11_load 16 = .ok (.bipush (-2), 2) := by decide +kernel
theorem dX11_load_18 : decode cX11_load 18 = .ok (.ireturn, 1) := by decide +kernel
theorem dX11_load_19 : decode cX11_load 19 = .ok (.aload_n 0, 1) := by decide +kernel
theorem dX11_load_20 : decode cX11_load 20 = .ok (.iload_n 3, 1) := by decide +kernel
theorem dX11_load_21 : decode cX11_load 21 = .ok (.iconst 0, 1) := by decide +kernel
theorem dX11_load_22 : decode cX11_load 22 = .ok (.invokevirtual 297, 3) := by decide +kernel
theorem dX11_load_25 : decode cX11_load 25 = .ok (.istore 4, 2) := by decide +kernel
theorem dX11_load_27 : decode cX11_load 27 = .ok (.aload_n 0, 1) := by decide +kernel
theorem dX11_load_28 : decode cX11_load 28 = .ok (.iload_n 1, 1) := by decide +kernel
theorem dX11_load_29 : decode cX11_load 29 = .ok (.iload_n 2, 1) := by decide +kernel
theorem dX11_load_30 : decode cX11_load 30 = .ok (.iload 4, 2) := by decide +kernel
theorem dX11_load_32 : decode cX11_load 32 = .ok (.invokevirtual 476, 3) := by decide +kernel
theorem dX11_load_35 : decode cX11_load 35 = .ok (.iconst (-1), 1) := by decide +kernel
theorem dX11_load_36 : decode cX11_load 36 = .ok (.if_icmp .ne 5, 3) := by decide +kernel
theorem dX11_load_39 : decode cX11_load 39 = .ok (.iconst (-1), 1) := by decide +kernel
theorem dX11_load_40 : decode cX11_load 40 = .ok (.ireturn, 1) := by decide +kernel
theorem dX11_load_41 : decode cX11_load 41 = .ok (.iload_n 1, 1) := by decide +kernel
theorem dX11_load_42 : decode cX11_load 42 = .ok (.iload_n 2, 1) := by decide +kernel
theorem dX11_load_43 : decode cX11_load 43 = .ok (.iload 4, 2) := by decide +kernel
theorem dX11_load_45 : decode cX11_load 45 = .ok (.invokestatic 362, 3) := by decide +kernel
theorem dX11_load_48 : decode cX11_load 48 = .ok (.istore 5, 2) := by decide +kernel
theorem dX11_load_50 : decode cX11_load 50 = .ok (.iconst 0, 1) := by decide +kernel
theorem dX11_load_51 : decode cX11_load 51 = .ok (.istore 6, 2) := by decide +kernel
theorem dX11_load_53 : decode cX11_load 53 = .ok (.iload 6, 2) := by decide +kernel
theorem dX11_load_55 : decode cX11_load 55 = .ok (.iload_n 3, 1) := by decide +kernel
theorem dX11_load_56 : decode cX11_load 56 = .ok (.if_icmp .gt 120, 3) := by decide +kernel
theorem dX11_load_59 : decode cX11_load 59 = .ok (.aload_n 0, 1) := by decide +kernel
theorem dX11_load_60 : decode cX11_load 60 = .ok (.iload 6, 2) := by decide +kernel
theorem dX11_load_62 : decode cX11_load 62 = .ok (.iconst 0, 1) := by decide +kernel
theorem dX11_load_63 : decode cX11_load 63 = .ok (.invokevirtual 297, 3) := by decide +kernel
theorem dX11_load_66 : decode cX11_load 66 = .ok (.iload 4, 2) := by decide +kernel
theorem dX11_load_68 : decode cX11_load 68 = .ok (.if_icmp .eq 6, 3) := by decide +kernel
theorem dX11_load_71 : decode cX11_load 71 = .ok (.goto 99, 3) := by decide +kernel
theorem dX11_load_74 : decode cX11_load 74 = .ok (.iconst 0, 1) := by decide +kernel
theorem dX11_load_75 : decode cX11_load 75 = .ok (.istore 7, 2) := by decide +kernel
theorem dX11_load_77 : decode cX11_load 77 = .ok (.iload 7, 2) := by decide +kernel
theorem dX11_load_79 : decode cX11_load 79 = .ok (.aload_n 0, 1) := by decide +kernel
theorem dX11_load_80 : decode cX11_load 80 = .ok (.iload 6, 2) := by decide +kernel
theorem dX11_load_82 : decode cX11_load 82 = .ok (.iconst 2, 1) := by decide +kernel
theorem dX11_load_83 : decode cX11_load 83 = .ok (.invokevirtual 297, 3) := by decide +kernel
theorem dX11_load_86 : decode cX11_load 86 = .ok (.imul, 1) := by decide +kernel
theorem dX11_load_87 : decode cX11_load 87 = .ok (.aload_n 0, 1) := by decide +kernel
theorem dX11_load_88 : decode cX11_load 88 = .ok (.getfield 53, 3) := by decide +kernel
theorem dX11_load_91 : decode cX11_load 91 = .ok (.sipush 1681, 3) := by decide +kernel
theorem dX11_load_94 : decode cX11_load 94 = .ok (.iload 6, 2) := by decide +kernel
theorem dX11_load_96 : decode cX11_load 96 = .ok (.iconst 1, 1) := by decide +kernel
theorem dX11_load_97 : decode cX11_load 97 = .ok (.iadd, 1) := by decide +kernel
theorem dX11_load_98 : decode cX11_load 98 = .ok (.imul, 1) := by decide +kernel
theorem dX11_load_99 : decode cX11_load 99 = .ok (.iconst 0, 1) := by decide +kernel
theorem dX11_load_100 : decode cX11_load 100 = .ok (.iload 5, 2) := by decide +kernel
theorem dX11_load_102 : decode cX11_load 102 = .ok (.iload 7, 2) := by decide +kernel
theorem dX11_load_104 : decode cX11_load 104 = .ok (.aload_n 0, 1) := by decide +kernel
theorem dX11_load_105 : decode cX11_load 105 = .ok (.iload 6, 2) := by decide +kernel
theorem dX11_load_107 : decode cX11_load 107 = .ok (.iconst 1, 1) := by decide +kernel
theorem dX11_load_108 : decode cX11_load 108 = .ok (.invokevirtual 297, 3) := by decide +kernel
theorem dX11_load_111 : decode cX11_load 111 = .ok (.imul, 1) := by decide +kernel
theorem dX11_load_112 : decode cX11_load 112 = .ok (.isub, 1) := by decide +kernel
theorem dX11_load_113 : decode cX11_load 113 = .ok (.invokestatic 368, 3) := by decide +kernel
theorem dX11_load_116 : decode cX11_load 116 = .ok (.iadd, 1) := by decide +kernel
theorem dX11_load_117 : decode cX11_load 117 = .ok (.iaload, 1) := by decide +kernel
theorem dX11_load_118 : decode cX11_load 118 = .ok (.iadd, 1) := by decide +kernel
theorem dX11_load_119 : decode cX11_load 119 = .ok (.aload_n 0, 1) := by decide +kernel
theorem dX11_load_120 : decode cX11_load 120 = .ok (.getfield 53, 3) := by decide +kernel
theorem dX11_load_123 : decode cX11_load 123 = .ok (.sipush 1681, 3) := by decide +kernel
theorem dX11_load_126 : decode cX11_load 126 = .ok (.iload 6, 2) := by decide +kernel
theorem dX11_load_128 : decode cX11_load 128 = .ok (.imul, 1) := by decide +kernel
theorem dX11_load_129 : decode cX11_load 129 = .ok (.iload 5, 2) := by decide +kernel
theorem dX11_load_131 : decode cX11_load 131 = .ok (.iadd, 1) := by decide +kernel
theorem dX11_load_132 : decode cX11_load 132 = .ok (.iaload, 1) := by decide +kernel
theorem dX11_load_133 : decode cX11_load 133 = .ok (.if_icmp .eq 9, 3) := by decide +kernel
theorem dX11_load_136 : decode cX11_load 136 = .ok (.iinc 7 1, 3) := by decide +kernel
theorem dX11_load_139 : decode cX11_load 139 = .ok (.goto (-62), 3) := by decide +kernel
theorem dX11_load_142 : decode cX11_load 142 = .ok (.iload 6, 2) := by decide +kernel
theorem dX11_load_144 : decode cX11_load 144 = .ok (.iload_n 3, 1) := by decide +kernel
theorem dX11_load_145 : decode cX11_load 145 = .ok (.if_icmp .ne 6, 3) := by decide +kernel
theorem dX11_load_148 : decode cX11_load 148 = .ok (.iload 7, 2) := by decide +kernel
theorem dX11_load_150 : decode cX11_load 150 = .ok (.ireturn, 1) := by decide +kernel
theorem dX11_load_151 : decode cX11_load 151 = .ok (.iconst 0, 1) := by decide +kernel
theorem dX11_load_152 : decode cX11_load 152 = .ok (.iload 5, 2) := by decide +kernel
theorem dX11_load_154 : decode cX11_load 154 = .ok (.iload 7, 2) := by decide +kernel
theorem dX11_load_156 : decode cX11_load 156 = .ok (.aload_n 0, 1) := by decide +kernel
theorem dX11_load_157 : decode cX11_load 157 = .ok (.iload 6, 2) := by decide +kernel
theorem dX11_load_159 : decode cX11_load 159 = .ok (.iconst 1, 1) := by decide +kernel
theorem dX11_load_160 : decode cX11_load 160 = .ok (.invokevirtual 297, 3) := by decide +kernel
theorem dX11_load_163 : decode cX11_load 163 = .ok (.imul, 1) := by decide +kernel
theorem dX11_load_164 : decode cX11_load 164 = .ok (.isub, 1) := by decide +kernel
theorem dX11_load_165 : decode cX11_load 165 = .ok (.invokestatic 368, 3) := by decide +kernel
theorem dX11_load_168 : decode cX11_load 168 = .ok (.istore 5, 2) := by decide +kernel
theorem dX11_load_170 : decode cX11_load 170 = .ok (.iinc 6 1, 3) := by decide +kernel
theorem dX11_load_173 : decode cX11_load 173 = .ok (.goto (-120), 3) := by decide +kernel
theorem dX11_load_176 : decode cX11_load 176 = .ok (.iconst 0, 1) := by decide +kernel
theorem dX11_load_177 : decode cX11_load 177 = .ok (.ireturn, 1) := by decide +kernel
theorem dX11_lasts_0 : decode cX11_lasts 0 = .ok (.iload_n 1, 1) := by decide +kernel
theorem dX11_lasts_1 : decode cX11_lasts 1 = .ok (.iconst 0, 1) := by decide +kernel
theorem dX11_lasts_2 : decode cX11_lasts 2 = .ok (.invokestatic 481, 3) := by decide +kernel
theorem dX11_lasts_5 : decode cX11_lasts 5 = .ok (.ifCond .eq 15, 3) := by decide +kernel
theorem dX11_lasts_8 : decode cX11_lasts 8 = .ok (.iload_n 2, 1) := by decide +kernel
theorem dX11_lasts_9 : decode cX11_lasts 9 = .ok (.i2l, 1) := by decide +kernel
theorem dX11_lasts_10 : decode cX11_lasts 10 = .ok (.lconst 0, 1) := by decide +kernel
theorem dX11_lasts_11 : decode cX11_lasts 11 = .ok (.ldc2_w 489, 3) := by decide +kernel
theorem dX11_lasts_14 : decode cX11_lasts 14 = .ok (.invokestatic 84, 3) := by decide +kernel
theorem dX11_lasts_17 : decode cX11_lasts 17 = .ok (.ifCond .ne 6, 3) := by decide +kernel
theorem dX11_lasts_20 : decode cX11_lasts 20 = .ok (.bipush (-2), 2) := by decide +kernel
theorem dX11_lasts_22 : decode cX11_lasts 22 = .ok (.ireturn, 1) := by decide +kernel
theorem dX11_lasts_23 : decode cX11_lasts 23 = .ok (.bipush 60, 2) := by decide +kernel
theorem dX11_lasts_25 : decode cX11_lasts 25 = .ok (.istore_n 3, 1) := by decide +kernel
theorem dX11_lasts_26 : decode cX11_lasts 26 = .ok (.iload_n 3, 1) := by decide +kernel
theorem dX11_lasts_27 : decode cX11_lasts 27 = .ok (.ifCond .lt 31, 3) := by decide +kernel
theorem dX11_lasts_30 : decode cX11_lasts 30 = .ok (.aload_n 0, 1) := by decide +kernel
theorem dX11_lasts_31 : decode cX11_lasts 31 = .ok (.iload_n 1, 1) := by decide +kernel
theorem dX11_lasts_32 : decode cX11_lasts 32 = .ok (.iload_n 3, 1) := by decide +kernel
theorem dX11_lasts_33 : decode cX11_lasts 33 = .ok (.invokevirtual 486, 3) := by decide +kernel
theorem dX11_lasts_36 : decode cX11_lasts 36 = .ok (.istore 4, 2) := by decide +kernel
theorem dX11_lasts_38 : decode cX11_lasts 38 = .ok (.iload 4, 2) := by decide +kernel
theorem dX11_lasts_40 : decode cX11_lasts 40 = .ok (.iconst (-1), 1) := by decide +kernel
theorem dX11_lasts_41 : decode cX11_lasts 41 = .ok (.if_icmp .eq 11, 3) := by decide +kernel
theorem dX11_lasts_44 : decode cX11_lasts 44 = .ok (.iload 4, 2) := by decide +kernel
theorem dX11_lasts_46 : decode cX11_lasts 46 = .ok (.iload_n 2, 1) := by decide +kernel
theorem dX11_lasts_47 : decode cX11_lasts 47 = .ok (.if_icmp .gt 5, 3) := by decide +kernel
theorem dX11_lasts_50 : decode cX11_lasts 50 = .ok (.iload_n 3, 1) := by decide +kernel
theorem dX11_lasts_51 : decode cX11_lasts 51 = .ok (.ireturn, 1) := by decide +kernel
theorem dX11_lasts_52 : decode cX11_lasts 52 = .ok (.iinc 3 (-1), 3) := by decide +kernel
theorem dX11_lasts_55 : decode cX11_lasts 55 = .ok (.goto (-29), 3) := by decide +kernel
theorem dX11_lasts_58 : decode cX11_lasts 58 = .ok (.iconst (-1), 1) := by decide +kernel
theorem dX11_lasts_59 : decode cX11_lasts 59 = .ok (.ireturn, 1) := by decide +kernel
theorem dX11_acrossOf_0 : decode cX11_acrossOf 0 = .ok (.iconst 0, 1) := by decide +kernel
theorem dX11_acrossOf_1 : decode cX11_acrossOf 1 = .ok (.istore 4, 2) := by decide +kernel
theorem dX11_acrossOf_3 : decode cX11_acrossOf 3 = .ok (.iconst 0, 1) := by decide +kernel
theorem dX11_acrossOf_4 : decode cX11_acrossOf 4 = .ok (.istore 5, 2) := by decide +kernel
theorem dX11_acrossOf_6 : decode cX11_acrossOf 6 = .ok (.iload 5, 2) := by decide +kernel
theorem dX11_acrossOf_8 : decode cX11_acrossOf 8 = .ok (.aload_n 0, 1) := by decide +kernel
theorem dX11_acrossOf_9 : decode cX11_acrossOf 9 = .ok (.getfield 13, 3) := by decide +kernel
theorem dX11_acrossOf_12 : decode cX11_acrossOf 12 = .ok (.iconst 5, 1) := by decide +kernel
theorem dX11_acrossOf_13 : decode cX11_acrossOf 13 = .ok (.iaload, 1) := by decide +kernel
theorem dX11_acrossOf_14 : decode cX11_acrossOf 14 = .ok (.if_icmp .ge 99, 3) := by decide +kernel
theorem dX11_acrossOf_17 : decode cX11_acrossOf 17 = .ok (.aload_n 0, 1) := by decide +kernel
theorem dX11_acrossOf_18 : decode cX11_acrossOf 18 = .ok (.iload 5, 2) := by decide +kernel
theorem dX11_acrossOf_20 : decode cX11_acrossOf 20 = .ok (.iconst 0, 1) := by decide +kernel
theorem dX11_acrossOf_21 : decode cX11_acrossOf 21 = .ok (.invokevirtual 317, 3) := by decide +kernel
theorem dX11_acrossOf_24 : decode cX11_acrossOf 24 = .ok (.ifCond .ne 7, 3) := by decide +kernel
theorem dX11_acrossOf_27 : decode cX11_acrossOf 27 = .ok (.iconst 0, 1) := by decide +kernel
theorem dX11_acrossOf_28 : decode cX11_acrossOf 28 = .ok (.goto 4, 3) := by decide +kernel
theorem dX11_acrossOf_31 : decode cX11_acrossOf 31 = .ok (.iconst 1, 1) := by decide +kernel
theorem dX11_acrossOf_32 : decode cX11_acrossOf 32 = .ok (.istore 6, 2) := by decide +kernel
theorem dX11_acrossOf_34 : decode cX11_acrossOf 34 = .ok (.aload_n 0, 1) := by decide +kernel
theorem dX11_acrossOf_35 : decode cX11_acrossOf 35 = .ok (.iload_n 2, 1) := by decide +kernel
theorem dX11_acrossOf_36 : decode cX11_acrossOf 36 = .ok (.iconst 1, 1) := by decide +kernel
theorem dX11_acrossOf_37 : decode cX11_acrossOf 37 = .ok (.iload 6, 2) := by decide +kernel
theorem dX11_acrossOf_39 : decode cX11_acrossOf 39 = .ok (.iadd, 1) := by decide +kernel
theorem dX11_acrossOf_40 : decode cX11_acrossOf 40 = .ok (.invokevirtual 88, 3) := by decide +kernel
theorem dX11_acrossOf_43 : decode cX11_acrossOf 43 = .ok (.istore 7, 2) := by decide +kernel
theorem dX11_acrossOf_45 : decode cX11_acrossOf 45 = .ok (.aload_n 0, 1) := by decide +kernel
theorem dX11_acrossOf_46 : decode cX11_acrossOf 46 = .ok (.iload_n 3, 1) := by decide +kernel
theorem dX11_acrossOf_47 : decode cX11_acrossOf 47 = .ok (.iload 6, 2) := by decide +kernel
theorem dX11_acrossOf_49 : decode cX11_acrossOf 49 = .ok (.invokevirtual 300, 3) := by decide +kernel
theorem dX11_acrossOf_52 : decode cX11_acrossOf 52 = .ok (.istore 8, 2) := by decide +kernel
theorem dX11_acrossOf_54 : decode cX11_acrossOf 54 = .ok (.iload 4, 2) := by decide +kernel
theorem dX11_acrossOf_56 : decode cX11_acrossOf 56 = .ok (.iload_n 1, 1) := by decide +kernel
theorem dX11_acrossOf_57 : decode cX11_acrossOf 57 = .ok (.iload 5, 2) := by decide +kernel
theorem dX11_acrossOf_59 : decode cX11_acrossOf 59 = .ok (.invokestatic 239, 3) := by decide +kernel
theorem dX11_acrossOf_62 : decode cX11_acrossOf 62 = .ok (.ifCond .eq 41, 3) := by decide +kernel
theorem dX11_acrossOf_65 : decode cX11_acrossOf 65 = .ok (.aload_n 0, 1) := by decide +kernel
theorem dX11_acrossOf_66 : decode cX11_acrossOf 66 = .ok (.iload 5, 2) := by decide +kernel
theorem dX11_acrossOf_68 : decode cX11_acrossOf 68 = .ok (.iconst 1, 1) := by decide +kernel
theorem dX11_acrossOf_69 : decode cX11_acrossOf 69 = .ok (.invokevirtual 317, 3) := by decide +kernel
theorem dX11_acrossOf_72 : decode cX11_acrossOf 72 = .ok (.iload 7, 2) := by decide +kernel
theorem dX11_acrossOf_74 : decode cX11_acrossOf 74 = .ok (.iload 8, 2) := by decide +kernel
theorem dX11_acrossOf_76 : decode cX11_acrossOf 76 = .ok (.invokestatic 123, 3) := by decide +kernel
theorem dX11_acrossOf_79 : decode cX11_acrossOf 79 = .ok (.if_icmp .le 24, 3) := by decide +kernel
theorem dX11_acrossOf_82 : decode cX11_acrossOf 82 = .ok (.aload_n 0, 1) := by decide +kernel
theorem dX11_acrossOf_83 : decode cX11_acrossOf 83 = .ok (.iload 5, 2) := by decide +kernel
theorem dX11_acrossOf_85 : decode cX11_acrossOf 85 = .ok (.iconst 1, 1) := by decide +kernel
theorem dX11_acrossOf_86 : decode cX11_acrossOf 86 = .ok (.invokevirtual 317, 3) := by decide +kernel
theorem dX11_acrossOf_89 : decode cX11_acrossOf 89 = .ok (.iload 7, 2) := by decide +kernel
theorem dX11_acrossOf_91 : decode cX11_acrossOf 91 = .ok (.iload 8, 2) := by decide +kernel
theorem dX11_acrossOf_93 : decode cX11_acrossOf 93 = .ok (.invokestatic 368, 3) := by decide +kernel
theorem dX11_acrossOf_96 : decode cX11_acrossOf 96 = .ok (.if_icmp .gt 7, 3) := by decide +kernel
theorem dX11_acrossOf_99 : decode cX11_acrossOf 99 = .ok (.iconst 1, 1) := by decide +kernel
theorem dX11_acrossOf_100 : decode cX11_acrossOf 100 = .ok (.goto 4, 3) := by decide +kernel
theorem dX11_acrossOf_103 : decode cX11_acrossOf 103 = .ok (.iconst 0, 1) := by decide +kernel
theorem dX11_acrossOf_104 : decode cX11_acrossOf 104 = .ok (.iadd, 1) := by decide +kernel
theorem dX11_acrossOf_105 : decode cX11_acrossOf 105 = .ok (.istore 4, 2) := by decide +kernel
theorem dX11_acrossOf_107 : decode cX11_acrossOf 107 = .ok (.iinc 5 1, 3) := by decide +kernel
theorem dX11_acrossOf_110 : decode cX11_acrossOf 110 = .ok (.goto (-104), 3) := by decide +kernel
theorem dX11_acrossOf_113 : decode cX11_acrossOf 113 = .ok (.iload 4, 2) := by decide +kernel
theorem dX11_acrossOf_115 : decode cX11_acrossOf 115 = .ok (.ireturn, 1) := by decide +kernel
theorem dX11_minutesOf_0 : decode cX11_minutesOf 0 = .ok (.aload_n 0, 1) := by decide +kernel
theorem dX11_minutesOf_1 : decode cX11_minutesOf 1 = .ok (.iload_n 2, 1) := by decide +kernel
theorem dX11_minutesOf_2 : decode cX11_minutesOf 2 = .ok (.iconst 1, 1) := by decide +kernel
theorem dX11_minutesOf_3 : decode cX11_minutesOf 3 = .ok (.invokevirtual 88, 3) := by decide +kernel
theorem dX11_minutesOf_6 : decode cX11_minutesOf 6 = .ok (.aload_n 0, 1) := by decide +kernel
theorem dX11_minutesOf_7 : decode cX11_minutesOf 7 = .ok (.iload 4, 2) := by decide +kernel
theorem dX11_minutesOf_9 : decode cX11_minutesOf 9 = .ok (.iconst 0, 1) := by decide +kernel
theorem dX11_minutesOf_10 : decode cX11_minutesOf 10 = .ok (.invokevirtual 300, 3) := by decide +kernel
theorem dX11_minutesOf_13 : decode cX11_minutesOf 13 = .ok (.isub, 1) := by decide +kernel
theorem dX11_minutesOf_14 : decode cX11_minutesOf 14 = .ok (.invokestatic 491, 3) := by decide +kernel
theorem dX11_minutesOf_17 : decode cX11_minutesOf 17 = .ok (.aload_n 0, 1) := by decide +kernel
theorem dX11_minutesOf_18 : decode cX11_minutesOf 18 = .ok (.iload_n 2, 1) := by decide +kernel
theorem dX11_minutesOf_19 : decode cX11_minutesOf 19 = .ok (.iconst 2, 1) := by decide +kernel
theorem dX11_minutesOf_20 : decode cX11_minutesOf 20 = .ok (.invokevirtual 88, 3) := by decide +kernel
theorem dX11_minutesOf_23 : decode cX11_minutesOf 23 = .ok (.aload_n 0, 1) := by decide +kernel
theorem dX11_minutesOf_24 : decode cX11_minutesOf 24 = .ok (.iload 4, 2) := by decide +kernel
theorem dX11_minutesOf_26 : decode cX11_minutesOf 26 = .ok (.iconst 1, 1) := by decide +kernel
theorem dX11_minutesOf_27 : decode cX11_minutesOf 27 = .ok (.invokevirtual 300, 3) := by decide +kernel
theorem dX11_minutesOf_30 : decode cX11_minutesOf 30 = .ok (.isub, 1) := by decide +kernel
theorem dX11_minutesOf_31 : decode cX11_minutesOf 31 = .ok (.invokestatic 491, 3) := by decide +kernel
theorem dX11_minutesOf_34 : decode cX11_minutesOf 34 = .ok (.iadd, 1) := by decide +kernel
theorem dX11_minutesOf_35 : decode cX11_minutesOf 35 = .ok (.istore 5, 2) := by decide +kernel
theorem dX11_minutesOf_37 : decode cX11_minutesOf 37 = .ok (.aload_n 0, 1) := by decide +kernel
theorem dX11_minutesOf_38 : decode cX11_minutesOf 38 = .ok (.iload_n 3, 1) := by decide +kernel
theorem dX11_minutesOf_39 : decode cX11_minutesOf 39 = .ok (.iconst 2, 1) := by decide +kernel
theorem dX11_minutesOf_40 : decode cX11_minutesOf 40 = .ok (.invokevirtual 297, 3) := by decide +kernel
theorem dX11_minutesOf_43 : decode cX11_minutesOf 43 = .ok (.iload 5, 2) := by decide +kernel
theorem dX11_minutesOf_45 : decode cX11_minutesOf 45 = .ok (.imul, 1) := by decide +kernel
theorem dX11_minutesOf_46 : decode cX11_minutesOf 46 = .ok (.aload_n 0, 1) := by decide +kernel
theorem dX11_minutesOf_47 : decode cX11_minutesOf 47 = .ok (.getfield 13, 3) := by decide +kernel
theorem dX11_minutesOf_50 : decode cX11_minutesOf 50 = .ok (.bipush 11, 2) := by decide +kernel
theorem dX11_minutesOf_52 : decode cX11_minutesOf 52 = .ok (.iaload, 1) := by decide +kernel
theorem dX11_minutesOf_53 : decode cX11_minutesOf 53 = .ok (.imul, 1) := by decide +kernel
theorem dX11_minutesOf_54 : decode cX11_minutesOf 54 = .ok (.aload_n 0, 1) := by decide +kernel
theorem dX11_minutesOf_55 : decode cX11_minutesOf 55 = .ok (.getfield 13, 3) := by decide +kernel
theorem dX11_minutesOf_58 : decode cX11_minutesOf 58 = .ok (.bipush 12, 2) := by decide +kernel
theorem dX11_minutesOf_60 : decode cX11_minutesOf 60 = .ok (.iaload, 1) := by decide +kernel
theorem dX11_minutesOf_61 : decode cX11_minutesOf 61 = .ok (.aload_n 0, 1) := by decide +kernel
theorem dX11_minutesOf_62 : decode cX11_minutesOf 62 = .ok (.iload_n 1, 1) := by decide +kernel
theorem dX11_minutesOf_63 : decode cX11_minutesOf 63 = .ok (.iload_n 2, 1) := by decide +kernel
theorem dX11_minutesOf_64 : decode cX11_minutesOf 64 = .ok (.iload 4, 2) := by decide +kernel
theorem dX11_minutesOf_66 : decode cX11_minutesOf 66 = .ok (.invokevirtual 494, 3) := by decide +kernel
theorem dX11_minutesOf_69 : decode cX11_minutesOf 69 = .ok (.imul, 1) := by decide +kernel
theorem dX11_minutesOf_70 : decode cX11_minutesOf 70 = .ok (.iadd, 1) := by decide +kernel
theorem dX11_minutesOf_71 : decode cX11_minutesOf 71 = .ok (.ireturn, 1) := by decide +kernel
theorem dX11_across_0 : decode cX11_across 0 = .ok (.aload_n 0, 1) := by decide +kernel
theorem dX11_across_1 : decode cX11_across 1 = .ok (.iload_n 1, 1) := by decide +kernel
theorem dX11_across_2 : decode cX11_across 2 = .ok (.invokevirtual 311, 3) := by decide +kernel
theorem dX11_across_5 : decode cX11_across 5 = .ok (.ifCond .eq 17, 3) := by decide +kernel
theorem dX11_across_8 : decode cX11_across 8 = .ok (.iload_n 2, 1) := by decide +kernel
theorem dX11_across_9 : decode cX11_across 9 = .ok (.invokestatic 277, 3) := by decide +kernel
theorem dX11_across_12 : decode cX11_across 12 = .ok (.ifCond .eq 10, 3) := by decide +kernel
theorem dX11_across_15 : decode cX11_across 15 = .ok (.iload_n 3, 1) := by decide +kernel
theorem dX11_across_16 : decode cX11_across 16 = .ok (.invokestatic 303, 3) := by decide +kernel
theorem dX11_across_19 : decode cX11_across 19 = .ok (.ifCond .ne 6, 3) := by decide +kernel
theorem dX11_across_22 : decode cX11_across 22 = .ok (.bipush (-2), 2) := by decide +kernel
theorem dX11_across_24 : decode cX11_across 24 = .ok (.ireturn, 1) := by decide +kernel
theorem dX11_across_25 : decode cX11_across 25 = .ok (.aload_n 0, 1) := by decide +kernel
theorem dX11_across_26 : decode cX11_across 26 = .ok (.iload_n 2, 1) := by decide +kernel
theorem dX11_across_27 : decode cX11_across 27 = .ok (.invokevirtual 288, 3) := by decide +kernel
theorem dX11_across_30 : decode cX11_across 30 = .ok (.ifCond .eq 13, 3) := by decide +kernel
theorem dX11_across_33 : decode cX11_across 33 = .ok (.aload_n 0, 1) := by decide +kernel
theorem dX11_across_34 : decode cX11_across 34 = .ok (.iload_n 1, 1) := by decide +kernel
theorem dX11_across_35 : decode cX11_across 35 = .ok (.iload_n 2, 1) := by decide +kernel
theorem dX11_across_36 : decode cX11_across 36 = .ok (.iload_n 3, 1) := by decide +kernel
theorem dX11_across_37 : decode cX11_across 37 = .ok (.invokevirtual 494, 3) := by decide +kernel
theorem dX11_across_40 : decode cX11_across 40 = .ok (.goto 4, 3) := by decide +kernel
theorem dX11_across_43 : decode cX11_across 43 = .ok (.iconst (-1), 1) := by decide +kernel
theorem dX11_across_44 : decode cX11_across 44 = .ok (.ireturn, 1) := by decide +kernel
theorem dX11_minutes_0 : decode cX11_minutes 0 = .ok (.aload_n 0, 1) := by decide +kernel
theorem dX11_minutes_1 : decode cX11_minutes 1 = .ok (.iload_n 1, 1) := by decide +kernel
theorem dX11_minutes_2 : decode cX11_minutes 2 = .ok (.invokevirtual 311, 3) := by decide +kernel
theorem dX11_minutes_5 : decode cX11_minutes 5 = .ok (.ifCond .eq 26, 3) := by decide +kernel
theorem dX11_minutes_8 : decode cX11_minutes 8 = .ok (.iload_n 2, 1) := by decide +kernel
theorem dX11_minutes_9 : decode cX11_minutes 9 = .ok (.invokestatic 277, 3) := by decide +kernel
theorem dX11_minutes_12 : decode cX11_minutes 12 = .ok (.ifCond .eq 19, 3) := by decide +kernel
theorem dX11_minutes_15 : decode cX11_minutes 15 = .ok (.aload_n 0, 1) := by decide +kernel
theorem dX11_minutes_16 : decode cX11_minutes 16 = .ok (.iload_n 3, 1) := by decide +kernel
theorem dX11_minutes_17 : decode cX11_minutes 17 = .ok (.invokevirtual 291, 3) := by decide +kernel
theorem dX11_minutes_20 : decode cX11_minutes 20 = .ok (.ifCond .eq 11, 3) := by decide +kernel
theorem dX11_minutes_23 : decode cX11_minutes 23 = .ok (.iload 4, 2) := by decide +kernel
theorem dX11_minutes_25 : decode cX11_minutes 25 = .ok (.invokestatic 303, 3) := by decide +kernel
theorem dX11_minutes_28 : decode cX11_minutes 28 = .ok (.ifCond .ne 6, 3) := by decide +kernel
theorem dX11_minutes_31 : decode cX11_minutes 31 = .ok (.bipush (-2), 2) := by decide +kernel
theorem dX11_minutes_33 : decode cX11_minutes 33 = .ok (.ireturn, 1) := by decide +kernel
theorem dX11_minutes_34 : decode cX11_minutes 34 = .ok (.aload_n 0, 1) := by decide +kernel
theorem dX11_minutes_35 : decode cX11_minutes 35 = .ok (.iload_n 2, 1) := by decide +kernel
theorem dX11_minutes_36 : decode cX11_minutes 36 = .ok (.invokevirtual 288, 3) := by decide +kernel
theorem dX11_minutes_39 : decode cX11_minutes 39 = .ok (.ifCond .eq 15, 3) := by decide +kernel
theorem dX11_minutes_42 : decode cX11_minutes 42 = .ok (.aload_n 0, 1) := by decide +kernel
theorem dX11_minutes_43 : decode cX11_minutes 43 = .ok (.iload_n 1, 1) := by decide +kernel
theorem dX11_minutes_44 : decode cX11_minutes 44 = .ok (.iload_n 2, 1) := by decide +kernel
theorem dX11_minutes_45 : decode cX11_minutes 45 = .ok (.iload_n 3, 1) := by decide +kernel
theorem dX11_minutes_46 : decode cX11_minutes 46 = .ok (.iload 4, 2) := by decide +kernel
theorem dX11_minutes_48 : decode cX11_minutes 48 = .ok (.invokevirtual 497, 3) := by decide +kernel
theorem dX11_minutes_51 : decode cX11_minutes 51 = .ok (.goto 4, 3) := by decide +kernel
theorem dX11_minutes_54 : decode cX11_minutes 54 = .ok (.iconst (-1), 1) := by decide +kernel
theorem dX11_minutes_55 : decode cX11_minutes 55 = .ok (.ireturn, 1) := by decide +kernel
theorem dX11_pieceOfGroup_0 : decode cX11_pieceOfGroup 0 = .ok (.aload_n 0, 1) := by decide +kernel
theorem dX11_pieceOfGroup_1 : decode cX11_pieceOfGroup 1 = .ok (.iload_n 1, 1) := by decide +kernel
theorem dX11_pieceOfGroup_2 : decode cX11_pieceOfGroup 2 = .ok (.aload_n 0, 1) := by decide +kernel
theorem dX11_pieceOfGroup_3 : decode cX11_pieceOfGroup 3 = .ok (.iload_n 2, 1) := by decide +kernel
theorem dX11_pieceOfGroup_4 : decode cX11_pieceOfGroup 4 = .ok (.iconst 0, 1) := by decide +kernel
theorem dX11_pieceOfGroup_5 : decode cX11_pieceOfGroup 5 = .ok (.invokevirtual 300, 3) := by decide +kernel
theorem dX11_pieceOfGroup_8 : decode cX11_pieceOfGroup 8 = .ok (.aload_n 0, 1) := by decide +kernel
theorem dX11_pieceOfGroup_9 : decode cX11_pieceOfGroup 9 = .ok (.iload_n 2, 1) := by decide +kernel
theorem dX11_pieceOfGroup_10 : decode cX11_pieceOfGroup 10 = .ok (.iconst 1, 1) := by decide +kernel
theorem dX11_pieceOfGroup_11 : decode cX11_pieceOfGroup 11 = .ok (.invokevirtual 300, 3) := by decide +kernel
theorem dX11_pieceOfGroup_14 : decode cX11_pieceOfGroup 14 = .ok (.invokevirtual 332, 3) := by decide +kernel
theorem dX11_pieceOfGroup_17 : decode cX11_pieceOfGroup 17 = .ok (.ireturn, 1) := by decide +kernel
theorem dX11_fetchable_0 : decode cX11_fetchable 0 = .ok (.iload_n 3, 1) := by decide +kernel
theorem dX11_fetchable_1 : decode cX11_fetchable 1 = .ok (.bipush 6, 2) := by decide +kernel
theorem dX11_fetchable_3 : decode cX11_fetchable 3 = .ok (.idiv, 1) := by decide +kernel
theorem dX11_fetchable_4 : decode cX11_fetchable 4 = .ok (.istore 5, 2) := by decide +kernel
theorem dX11_fetchable_6 : decode cX11_fetchable 6 = .ok (.iload_n 3, 1) := by decide +kernel
theorem dX11_fetchable_7 : decode cX11_fetchable 7 = .ok (.bipush 6, 2) := by decide +kernel
theorem dX11_fetchable_9 : decode cX11_fetchable 9 = .ok (.irem, 1) := by decide +kernel
theorem dX11_fetchable_10 : decode cX11_fetchable 10 = .ok (.istore 6, 2) := by decide +kernel
theorem dX11_fetchable_12 : decode cX11_fetchable 12 = .ok (.aload_n 0, 1) := by decide +kernel
theorem dX11_fetchable_13 : decode cX11_fetchable 13 = .ok (.iload 6, 2) := by decide +kernel
theorem dX11_fetchable_15 : decode cX11_fetchable 15 = .ok (.invokevirtual 291, 3) := by decide +kernel
theorem dX11_fetchable_18 : decode cX11_fetchable 18 = .ok (.ifCond .eq 56, 3) := by decide +kernel
theorem dX11_fetchable_21 : decode cX11_fetchable 21 = .ok (.aload_n 0, 1) := by decide +kernel
theorem dX11_fetchable_22 : decode cX11_fetchable 22 = .ok (.iload 5, 2) := by decide +kernel
theorem dX11_fetchable_24 : decode cX11_fetchable 24 = .ok (.invokevirtual 288, 3) := by decide +kernel
theorem dX11_fetchable_27 : decode cX11_fetchable 27 = .ok (.ifCond .eq 47, 3) := by decide +kernel
theorem dX11_fetchable_30 : decode cX11_fetchable 30 = .ok (.aload_n 0, 1) := by decide +kernel
theorem dX11_fetchable_31 : decode cX11_fetchable 31 = .ok (.iload 6, 2) := by decide +kernel
theorem dX11_fetchable_33 : decode cX11_fetchable 33 = .ok (.iconst 0, 1) := by decide +kernel
theorem dX11_fetchable_34 : decode cX11_fetchable 34 = .ok (.invokevirtual 297, 3) := by decide +kernel
theorem dX11_fetchable_37 : decode cX11_fetchable 37 = .ok (.iload 4, 2) := by decide +kernel
theorem dX11_fetchable_39 : decode cX11_fetchable 39 = .ok (.if_icmp .ne 35, 3) := by decide +kernel
theorem dX11_fetchable_42 : decode cX11_fetchable 42 = .ok (.aload_n 0, 1) := by decide +kernel
theorem dX11_fetchable_43 : decode cX11_fetchable 43 = .ok (.iload_n 1, 1) := by decide +kernel
theorem dX11_fetchable_44 : decode cX11_fetchable 44 = .ok (.aload_n 0, 1) := by decide +kernel
theorem dX11_fetchable_45 : decode cX11_fetchable 45 = .ok (.iload 5, 2) := by decide +kernel
theorem dX11_fetchable_47 : decode cX11_fetchable 47 = .ok (.iconst 1, 1) := by decide +kernel
theorem dX11_fetchable_48 : decode cX11_fetchable 48 = .ok (.invokevirtual 88, 3) := by decide +kernel
theorem dX11_fetchable_51 : decode cX11_fetchable 51 = .ok (.aload_n 0, 1) := by decide +kernel
theorem dX11_fetchable_52 : decode cX11_fetchable 52 = .ok (.iload 5, 2) := by decide +kernel
theorem dX11_fetchable_54 : decode cX11_fetchable 54 = .ok (.iconst 2, 1) := by decide +kernel
theorem dX11_fetchable_55 : decode cX11_fetchable 55 = .ok (.invokevirtual 88, 3) := by decide +kernel
theorem dX11_fetchable_58 : decode cX11_fetchable 58 = .ok (.invokevirtual 332, 3) := by decide +kernel
theorem dX11_fetchable_61 : decode cX11_fetchable 61 = .ok (.aload_n 0, 1) := by decide +kernel
theorem dX11_fetchable_62 : decode cX11_fetchable 62 = .ok (.iload_n 1, 1) := by decide +kernel
theorem dX11_fetchable_63 : decode cX11_fetchable 63 = .ok (.iload_n 2, 1) := by decide +kernel
theorem dX11_fetchable_64 : decode cX11_fetchable 64 = .ok (.invokevirtual 501, 3) := by decide +kernel
theorem dX11_fetchable_67 : decode cX11_fetchable 67 = .ok (.if_icmp .eq 7, 3) := by decide +kernel
theorem dX11_fetchable_70 : decode cX11_fetchable 70 = .ok (.iconst 1, 1) := by decide +kernel
theorem dX11_fetchable_71 : decode cX11_fetchable 71 = .ok (.goto 4, 3) := by decide +kernel
theorem dX11_fetchable_74 : decode cX11_fetchable 74 = .ok (.iconst 0, 1) := by decide +kernel
theorem dX11_fetchable_75 : decode cX11_fetchable 75 = .ok (.istore 7, 2) := by decide +kernel
theorem dX11_fetchable_77 : decode cX11_fetchable 77 = .ok (.iload 7, 2) := by decide +kernel
theorem dX11_fetchable_79 : decode cX11_fetchable 79 = .ok (.ifCond .eq 16, 3) := by decide +kernel
theorem dX11_fetchable_82 : decode cX11_fetchable 82 = .ok (.aload_n 0, 1) := by decide +kernel
theorem dX11_fetchable_83 : decode cX11_fetchable 83 = .ok (.iload 5, 2) := by decide +kernel
theorem dX11_fetchable_85 : decode cX11_fetchable 85 = .ok (.iconst 3, 1) := by decide +kernel
theorem dX11_fetchable_86 : decode cX11_fetchable 86 = .ok (.iload 6, 2) := by decide +kernel
theorem dX11_fetchable_88 : decode cX11_fetchable 88 = .ok (.iadd, 1) := by decide +kernel
theorem dX11_fetchable_89 : decode cX11_fetchable 89 = .ok (.invokevirtual 88, 3) := by decide +kernel
theorem dX11_fetchable_92 : decode cX11_fetchable 92 = .ok (.goto 4, 3) := by decide +kernel
theorem dX11_fetchable_95 : decode cX11_fetchable 95 = .ok (.iconst 0, 1) := by decide +kernel
theorem dX11_fetchable_96 : decode cX11_fetchable 96 = .ok (.ireturn, 1) := by decide +kernel
theorem dX11_needFor_0 : decode cX11_needFor 0 = .ok (.aload_n 0, 1) := by decide +kernel
theorem dX11_needFor_1 : decode cX11_needFor 1 = .ok (.iload_n 1, 1) := by decide +kernel
theorem dX11_needFor_2 : decode cX11_needFor 2 = .ok (.iload_n 2, 1) := by decide +kernel
theorem dX11_needFor_3 : decode cX11_needFor 3 = .ok (.invokevirtual 501, 3) := by decide +kernel
theorem dX11_needFor_6 : decode cX11_needFor 6 = .ok (.istore 4, 2) := by decide +kernel
theorem dX11_needFor_8 : decode cX11_needFor 8 = .ok (.aload_n 0, 1) := by decide +kernel
theorem dX11_needFor_9 : decode cX11_needFor 9 = .ok (.iload_n 1, 1) := by decide +kernel
theorem dX11_needFor_10 : decode cX11_needFor 10 = .ok (.iload 4, 2) := by decide +kernel
theorem dX11_needFor_12 : decode cX11_needFor 12 = .ok (.invokevirtual 359, 3) := by decide +kernel
theorem dX11_needFor_15 : decode cX11_needFor 15 = .ok (.istore 5, 2) := by decide +kernel
theorem dX11_needFor_17 : decode cX11_needFor 17 = .ok (.iconst 0, 1) := by decide +kernel
theorem dX11_needFor_18 : decode cX11_needFor 18 = .ok (.iload 5, 2) := by decide +kernel
theorem dX11_needFor_20 : decode cX11_needFor 20 = .ok (.aload_n 0, 1) := by decide +kernel
theorem dX11_needFor_21 : decode cX11_needFor 21 = .ok (.getfield 13, 3) := by decide +kernel
theorem dX11_needFor_24 : decode cX11_needFor 24 = .ok (.iconst 4, 1) := by decide +kernel
theorem dX11_needFor_25 : decode cX11_needFor 25 = .ok (.iaload, 1) := by decide +kernel
theorem dX11_needFor_26 : decode cX11_needFor 26 = .ok (.iload_n 3, 1) := by decide +kernel
theorem dX11_needFor_27 : decode cX11_needFor 27 = .ok (.invokestatic 362, 3) := by decide +kernel
theorem dX11_needFor_30 : decode cX11_needFor 30 = .ok (.aload_n 0, 1) := by decide +kernel
theorem dX11_needFor_31 : decode cX11_needFor 31 = .ok (.iload_n 1, 1) := by decide +kernel
theorem dX11_needFor_32 : decode cX11_needFor 32 = .ok (.iload 4, 2) := by decide +kernel
theorem dX11_needFor_34 : decode cX11_needFor 34 = .ok (.iload_n 3, 1) := by decide +kernel
theorem dX11_needFor_35 : decode cX11_needFor 35 = .ok (.invokevirtual 365, 3) := by decide +kernel
theorem dX11_needFor_38 : decode cX11_needFor 38 = .ok (.isub, 1) := by decide +kernel
theorem dX11_needFor_39 : decode cX11_needFor 39 = .ok (.invokestatic 368, 3) := by decide +kernel
theorem dX11_needFor_42 : decode cX11_needFor 42 = .ok (.ireturn, 1) := by decide +kernel
theorem dX11_fetches_0 : decode cX11_fetches 0 = .ok (.aload_n 0, 1) := by decide +kernel
theorem dX11_fetches_1 : decode cX11_fetches 1 = .ok (.iload_n 3, 1) := by decide +kernel
theorem dX11_fetches_2 : decode cX11_fetches 2 = .ok (.invokevirtual 371, 3) := by decide +kernel
theorem dX11_fetches_5 : decode cX11_fetches 5 = .ok (.ifCond .eq 13, 3) := by decide +kernel
theorem dX11_fetches_8 : decode cX11_fetches 8 = .ok (.aload_n 0, 1) := by decide +kernel
theorem dX11_fetches_9 : decode cX11_fetches 9 = .ok (.iload_n 1, 1) := by decide +kernel
theorem dX11_fetches_10 : decode cX11_fetches 10 = .ok (.iload_n 2, 1) := by decide +kernel
theorem dX11_fetches_11 : decode cX11_fetches 11 = .ok (.iload_n 3, 1) := by decide +kernel
theorem dX11_fetches_12 : decode cX11_fetches 12 = .ok (.invokevirtual 504, 3) := by decide +kernel
theorem dX11_fetches_15 : decode cX11_fetches 15 = .ok (.goto 4, 3) := by decide +kernel
theorem dX11_fetches_18 : decode cX11_fetches 18 = .ok (.iconst 0, 1) := by decide +kernel
theorem dX11_fetches_19 : decode cX11_fetches 19 = .ok (.istore 4, 2) := by decide +kernel
theorem dX11_fetches_21 : decode cX11_fetches 21 = .ok (.iconst 0, 1) := by decide +kernel
theorem dX11_fetches_22 : decode cX11_fetches 22 = .ok (.istore 5, 2) := by decide +kernel
theorem dX11_fetches_24 : decode cX11_fetches 24 = .ok (.iload 5, 2) := by decide +kernel
theorem dX11_fetches_26 : decode cX11_fetches 26 = .ok (.iload 4, 2) := by decide +kernel
theorem dX11_fetches_28 : decode cX11_fetches 28 = .ok (.if_icmp .gt 32, 3) := by decide +kernel
theorem dX11_fetches_31 : decode cX11_fetches 31 = .ok (.aload_n 0, 1) := by decide +kernel
theorem dX11_fetches_32 : decode cX11_fetches 32 = .ok (.getfield 57, 3) := by decide +kernel
theorem dX11_fetches_35 : decode cX11_fetches 35 = .ok (.ldc_w 507, 3) := by decide +kernel
theorem dX11_fetches_38 : decode cX11_fetches 38 = .ok (.iload 5, 2) := by decide +kernel
theorem dX11_fetches_40 : decode cX11_fetches 40 = .ok (.iadd, 1) := by decide +kernel
theorem dX11_fetches_41 : decode cX11_fetches 41 = .ok (.iload 5, 2) := by decide +kernel
theorem dX11_fetches_43 : decode cX11_fetches 43 = .ok (.ifCond .ne 7, 3) := by decide +kernel
theorem dX11_fetches_46 : decode cX11_fetches 46 = .ok (.iconst 0, 1) := by decide +kernel
theorem dX11_fetches_47 : decode cX11_fetches 47 = .ok (.goto 6, 3) := by decide +kernel
theorem dX11_fetches_50 : decode cX11_fetches 50 = .ok (.ldc_w 472, 3) := by decide +kernel
theorem dX11_fetches_53 : decode cX11_fetches 53 = .ok (.iastore, 1) := by decide +kernel
theorem dX11_fetches_54 : decode cX11_fetches 54 = .ok (.iinc 5 1, 3) := by decide +kernel
theorem dX11_fetches_57 : decode cX11_fetches 57 = .ok (.goto (-33), 3) := by decide +kernel
theorem dX11_fetches_60 : decode cX11_fetches 60 = .ok (.bipush 47, 2) := by decide +kernel
theorem dX11_fetches_62 : decode cX11_fetches 62 = .ok (.istore 5, 2) := by decide +kernel
theorem dX11_fetches_64 : decode cX11_fetches 64 = .ok (.iload 5, 2) := by decide +kernel
theorem dX11_fetches_66 : decode cX11_fetches 66 = .ok (.ifCond .lt 153, 3) := by decide +kernel
theorem dX11_fetches_69 : decode cX11_fetches 69 = .ok (.aload_n 0, 1) := by decide +kernel
theorem dX11_fetches_70 : decode cX11_fetches 70 = .ok (.iload_n 1, 1) := by decide +kernel
theorem dX11_fetches_71 : decode cX11_fetches 71 = .ok (.iload_n 2, 1) := by decide +kernel
theorem dX11_fetches_72 : decode cX11_fetches 72 = .ok (.iload 5, 2) := by decide +kernel
theorem dX11_fetches_74 : decode cX11_fetches 74 = .ok (.iload_n 3, 1) := by decide +kernel
theorem dX11_fetches_75 : decode cX11_fetches 75 = .ok (.invokevirtual 508, 3) := by decide +kernel
theorem dX11_fetches_78 : decode cX11_fetches 78 = .ok (.istore 6, 2) := by decide +kernel
theorem dX11_fetches_80 : decode cX11_fetches 80 = .ok (.iconst 0, 1) := by decide +kernel
theorem dX11_fetches_81 : decode cX11_fetches 81 = .ok (.istore 7, 2) := by decide +kernel
theorem dX11_fetches_83 : decode cX11_fetches 83 = .ok (.iload 7, 2) := by decide +kernel
theorem dX11_fetches_85 : decode cX11_fetches 85 = .ok (.iload 4, 2) := by decide +kernel
theorem dX11_fetches_87 : decode cX11_fetches 87 = .ok (.if_icmp .gt 126, 3) := by decide +kernel
theorem dX11_fetches_90 : decode cX11_fetches 90 = .ok (.aload_n 0, 1) := by decide +kernel
theorem dX11_fetches_91 : decode cX11_fetches 91 = .ok (.getfield 57, 3) := by decide +kernel
theorem dX11_fetches_94 : decode cX11_fetches 94 = .ok (.sipush 1681, 3) := by decide +kernel
theorem dX11_fetches_97 : decode cX11_fetches 97 = .ok (.iload 5, 2) := by decide +kernel
theorem dX11_fetches_99 : decode cX11_fetches 99 = .ok (.iconst 1, 1) := by decide +kernel
theorem dX11_fetches_100 : decode cX11_fetches 100 = .ok (.iadd, 1) := by decide +kernel
theorem dX11_fetches_101 : decode cX11_fetches 101 = .ok (.imul, 1) := by decide +kernel
theorem dX11_fetches_102 : decode cX11_fetches 102 = .ok (.iload 7, 2) := by decide +kernel
theorem dX11_fetches_104 : decode cX11_fetches 104 = .ok (.iadd, 1) := by decide +kernel
theorem dX11_fetches_105 : decode cX11_fetches 105 = .ok (.iaload, 1) := by decide +kernel
theorem dX11_fetches_106 : decode cX11_fetches 106 = .ok (.istore 8, 2) := by decide +kernel
theorem dX11_fetches_108 : decode cX11_fetches 108 = .ok (.iconst 1, 1) := by decide +kernel
theorem dX11_fetches_109 : decode cX11_fetches 109 = .ok (.istore 9, 2) := by decide +kernel
theorem dX11_fetches_111 : decode cX11_fetches 111 = .ok (.iload 9, 2) := by decide +kernel
theorem dX11_fetches_113 : decode cX11_fetches 113 = .ok (.iload 6, 2) := by decide +kernel
theorem dX11_fetches_115 : decode cX11_fetches 115 = .ok (.if_icmp .gt 70, 3) := by decide +kernel
theorem dX11_fetches_118 : decode cX11_fetches 118 = .ok (.iload 8, 2) := by decide +kernel
theorem dX11_fetches_120 : decode cX11_fetches 120 = .ok (.iload 9, 2) := by decide +kernel
theorem dX11_fetches_122 : decode cX11_fetches 122 = .ok (.aload_n 0, 1) := by decide +kernel
theorem dX11_fetches_123 : decode cX11_fetches 123 = .ok (.iload_n 1, 1) := by decide +kernel
theorem dX11_fetches_124 : decode cX11_fetches 124 = .ok (.iload 5, 2) := by decide +kernel
theorem dX11_fetches_126 : decode cX11_fetches 126 = .ok (.bipush 6, 2) := by decide +kernel
theorem dX11_fetches_128 : decode cX11_fetches 128 = .ok (.idiv, 1) := by decide +kernel
theorem dX11_fetches_129 : decode cX11_fetches 129 = .ok (.iload 5, 2) := by decide +kernel
theorem dX11_fetches_131 : decode cX11_fetches 131 = .ok (.bipush 6, 2) := by decide +kernel
theorem dX11_fetches_133 : decode cX11_fetches 133 = .ok (.irem, 1) := by decide +kernel
theorem dX11_fetches_134 : decode cX11_fetches 134 = .ok (.iload_n 2, 1) := by decide +kernel
theorem dX11_fetches_135 : decode cX11_fetches 135 = .ok (.invokevirtual 497, 3) := by decide +kernel
theorem dX11_fetches_138 : decode cX11_fetches 138 = .ok (.imul, 1) := by decide +kernel
theorem dX11_fetches_139 : decode cX11_fetches 139 = .ok (.aload_n 0, 1) := by decide +kernel
theorem dX11_fetches_140 : decode cX11_fetches 140 = .ok (.getfield 57, 3) := by decide +kernel
theorem dX11_fetches_143 : decode cX11_fetches 143 = .ok (.sipush 1681, 3) := by decide +kernel
theorem dX11_fetches_146 : decode cX11_fetches 146 = .ok (.iload 5, 2) := by decide +kernel
theorem dX11_fetches_148 : decode cX11_fetches 148 = .ok (.iconst 1, 1) := by decide +kernel
theorem dX11_fetches_149 : decode cX11_fetches 149 = .ok (.iadd, 1) := by decide +kernel
theorem dX11_fetches_150 : decode cX11_fetches 150 = .ok (.imul, 1) := by decide +kernel
theorem dX11_fetches_151 : decode cX11_fetches 151 = .ok (.iconst 0, 1) := by decide +kernel
theorem dX11_fetches_152 : decode cX11_fetches 152 = .ok (.iload 7, 2) := by decide +kernel
theorem dX11_fetches_154 : decode cX11_fetches 154 = .ok (.iload 9, 2) := by decide +kernel
theorem dX11_fetches_156 : decode cX11_fetches 156 = .ok (.aload_n 0, 1) := by decide +kernel
theorem dX11_fetches_157 : decode cX11_fetches 157 = .ok (.iload 5, 2) := by decide +kernel
theorem dX11_fetches_159 : decode cX11_fetches 159 = .ok (.bipush 6, 2) := by decide +kernel
theorem dX11_fetches_161 : decode cX11_fetches 161 = .ok (.irem, 1) := by decide +kernel
theorem dX11_fetches_162 : decode cX11_fetches 162 = .ok (.iconst 1, 1) := by decide +kernel
theorem dX11_fetches_163 : decode cX11_fetches 163 = .ok (.invokevirtual 297, 3) := by decide +kernel
theorem dX11_fetches_166 : decode cX11_fetches 166 = .ok (.imul, 1) := by decide +kernel
theorem dX11_fetches_167 : decode cX11_fetches 167 = .ok (.isub, 1) := by decide +kernel
theorem dX11_fetches_168 : decode cX11_fetches 168 = .ok (.invokestatic 368, 3) := by decide +kernel
theorem dX11_fetches_171 : decode cX11_fetches 171 = .ok (.iadd, 1) := by decide +kernel
theorem dX11_fetches_172 : decode cX11_fetches 172 = .ok (.iaload, 1) := by decide +kernel
theorem dX11_fetches_173 : decode cX11_fetches 173 = .ok (.iadd, 1) := by decide +kernel
theorem dX11_fetches_174 : decode cX11_fetches 174 = .ok (.invokestatic 123, 3) := by decide +kernel
theorem dX11_fetches_177 : decode cX11_fetches 177 = .ok (.istore 8, 2) := by decide +kernel
theorem dX11_fetches_179 : decode cX11_fetches 179 = .ok (.iinc 9 1, 3) := by decide +kernel
theorem dX11_fetches_182 : decode cX11_fetches 182 = .ok (.goto (-71), 3) := by decide +kernel
theorem dX11_fetches_185 : decode cX11_fetches 185 = .ok (.aload_n 0, 1) := by decide +kernel
theorem dX11_fetches_186 : decode cX11_fetches 186 = .ok (.getfield 57, 3) := by decide +kernel
theorem dX11_fetches_189 : decode cX11_fetches 189 = .ok (.sipush 1681, 3) := by decide +kernel
theorem dX11_fetches_192 : decode cX11_fetches 192 = .ok (.iload 5, 2) := by decide +kernel
theorem dX11_fetches_194 : decode cX11_fetches 194 = .ok (.imul, 1) := by decide +kernel
theorem dX11_fetches_195 : decode cX11_fetches 195 = .ok (.iload 7, 2) := by decide +kernel
theorem dX11_fetches_197 : decode cX11_fetches 197 = .ok (.iadd, 1) := by decide +kernel
theorem dX11_fetches_198 : decode cX11_fetches 198 = .ok (.ldc_w 472, 3) := by decide +kernel
theorem dX11_fetches_201 : decode cX11_fetches 201 = .ok (.iload 8, 2) := by decide +kernel
theorem dX11_fetches_203 : decode cX11_fetches 203 = .ok (.invokestatic 123, 3) := by decide +kernel
theorem dX11_fetches_206 : decode cX11_fetches 206 = .ok (.iastore, 1) := by decide +kernel
theorem dX11_fetches_207 : decode cX11_fetches 207 = .ok (.iinc 7 1, 3) := by decide +kernel
theorem dX11_fetches_210 : decode cX11_fetches 210 = .ok (.goto (-127), 3) := by decide +kernel
theorem dX11_fetches_213 : decode cX11_fetches 213 = .ok (.iinc 5 (-1), 3) := by decide +kernel
theorem dX11_fetches_216 : decode cX11_fetches 216 = .ok (.goto (-152), 3) := by decide +kernel
theorem dX11_fetches_219 : decode cX11_fetches 219 = .ok (.aload_n 0, 1) := by decide +kernel
theorem dX11_fetches_220 : decode cX11_fetches 220 = .ok (.getfield 57, 3) := by decide +kernel
theorem dX11_fetches_223 : decode cX11_fetches 223 = .ok (.iload 4, 2) := by decide +kernel
theorem dX11_fetches_225 : decode cX11_fetches 225 = .ok (.iaload, 1) := by decide +kernel
theorem dX11_fetches_226 : decode cX11_fetches 226 = .ok (.ldc_w 472, 3) := by decide +kernel
theorem dX11_fetches_229 : decode cX11_fetches 229 = .ok (.if_icmp .lt 7, 3) := by decide +kernel
theorem dX11_fetches_232 : decode cX11_fetches 232 = .ok (.iconst (-1), 1) := by decide +kernel
theorem dX11_fetches_233 : decode cX11_fetches 233 = .ok (.goto 10, 3) := by decide +kernel
theorem dX11_fetches_236 : decode cX11_fetches 236 = .ok (.aload_n 0, 1) := by decide +kernel
theorem dX11_fetches_237 : decode cX11_fetches 237 = .ok (.getfield 57, 3) := by decide +kernel
theorem dX11_fetches_240 : decode cX11_fetches 240 = .ok (.iload 4, 2) := by decide +kernel
theorem dX11_fetches_242 : decode cX11_fetches 242 = .ok (.iaload, 1) := by decide +kernel
theorem dX11_fetches_243 : decode cX11_fetches 243 = .ok (.ireturn, 1) := by decide +kernel
theorem dX11_fetch_0 : decode cX11_fetch 0 = .ok (.aload_n 0, 1) := by decide +kernel
theorem dX11_fetch_1 : decode cX11_fetch 1 = .ok (.iload_n 1, 1) := by decide +kernel
theorem dX11_fetch_2 : decode cX11_fetch 2 = .ok (.invokevirtual 311, 3) := by decide +kernel
theorem dX11_fetch_5 : decode cX11_fetch 5 = .ok (.ifCond .eq 10, 3) := by decide +kernel
theorem dX11_fetch_8 : decode cX11_fetch 8 = .ok (.iload_n 2, 1) := by decide +kernel
theorem dX11_fetch_9 : decode cX11_fetch 9 = .ok (.invokestatic 303, 3) := by decide +kernel
theorem dX11_fetch_12 : decode cX11_fetch 12 = .ok (.ifCond .ne 6, 3) := by decide +kernel
theorem dX11_fetch_15 : decode cX11_fetch 15 = .ok (.bipush (-2), 2) := by decide +kernel
theorem dX11_fetch_17 : decode cX11_fetch 17 = .ok (.ireturn, 1) := by decide +kernel
theorem dX11_fetch_18 : decode cX11_fetch 18 = .ok (.iconst 0, 1) := by decide +kernel
theorem dX11_fetch_19 : decode cX11_fetch 19 = .ok (.istore_n 3, 1) := by decide +kernel
theorem dX11_fetch_20 : decode cX11_fetch 20 = .ok (.iconst 0, 1) := by decide +kernel
theorem dX11_fetch_21 : decode cX11_fetch 21 = .ok (.istore 4, 2) := by decide +kernel
theorem dX11_fetch_23 : decode cX11_fetch 23 = .ok (.iload 4, 2) := by decide +kernel
theorem dX11_fetch_25 : decode cX11_fetch 25 = .ok (.iconst 4, 1) := by decide +kernel
theorem dX11_fetch_26 : decode cX11_fetch 26 = .ok (.if_icmp .ge 32, 3) := by decide +kernel
theorem dX11_fetch_29 : decode cX11_fetch 29 = .ok (.aload_n 0, 1) := by decide +kernel
theorem dX11_fetch_30 : decode cX11_fetch 30 = .ok (.iload_n 1, 1) := by decide +kernel
theorem dX11_fetch_31 : decode cX11_fetch 31 = .ok (.iload_n 2, 1) := by decide +kernel
theorem dX11_fetch_32 : decode cX11_fetch 32 = .ok (.iload 4, 2) := by decide +kernel
theorem dX11_fetch_34 : decode cX11_fetch 34 = .ok (.invokevirtual 511, 3) := by decide +kernel
theorem dX11_fetch_37 : decode cX11_fetch 37 = .ok (.istore 5, 2) := by decide +kernel
theorem dX11_fetch_39 : decode cX11_fetch 39 = .ok (.iload 5, 2) := by decide +kernel
theorem dX11_fetch_41 : decode cX11_fetch 41 = .ok (.iconst (-1), 1) := by decide +kernel
theorem dX11_fetch_42 : decode cX11_fetch 42 = .ok (.if_icmp .ne 5, 3) := by decide +kernel
theorem dX11_fetch_45 : decode cX11_fetch 45 = .ok (.iconst (-1), 1) := by decide +kernel
theorem dX11_fetch_46 : decode cX11_fetch 46 = .ok (.ireturn, 1) := by decide +kernel
theorem dX11_fetch_47 : decode cX11_fetch 47 = .ok (.iload_n 3, 1) := by decide +kernel
theorem dX11_fetch_48 : decode cX11_fetch 48 = .ok (.iload 5, 2) := by decide +kernel
theorem dX11_fetch_50 : decode cX11_fetch 50 = .ok (.iadd, 1) := by decide +kernel
theorem dX11_fetch_51 : decode cX11_fetch 51 = .ok (.istore_n 3, 1) := by decide +kernel
theorem dX11_fetch_52 : decode cX11_fetch 52 = .ok (.iinc 4 1, 3) := by decide +kernel
theorem dX11_fetch_55 : decode cX11_fetch 55 = .ok (.goto (-32), 3) := by decide +kernel
theorem dX11_fetch_58 : decode cX11_fetch 58 = .ok (.iload_n 3, 1) := by decide +kernel
theorem dX11_fetch_59 : decode cX11_fetch 59 = .ok (.ireturn, 1) := by decide +kernel
theorem dX11_fetched_0 : decode cX11_fetched 0 = .ok (.aload_n 0, 1) := by decide +kernel
theorem dX11_fetched_1 : decode cX11_fetched 1 = .ok (.iload_n 1, 1) := by decide +kernel
theorem dX11_fetched_2 : decode cX11_fetched 2 = .ok (.invokevirtual 311, 3) := by decide +kernel
theorem dX11_fetched_5 : decode cX11_fetched 5 = .ok (.ifCond .eq 26, 3) := by decide +kernel
theorem dX11_fetched_8 : decode cX11_fetched 8 = .ok (.iload_n 2, 1) := by decide +kernel
theorem dX11_fetched_9 : decode cX11_fetched 9 = .ok (.invokestatic 303, 3) := by decide +kernel
theorem dX11_fetched_12 : decode cX11_fetched 12 = .ok (.ifCond .eq 19, 3) := by decide +kernel
theorem dX11_fetched_15 : decode cX11_fetched 15 = .ok (.iload_n 3, 1) := by decide +kernel
theorem dX11_fetched_16 : decode cX11_fetched 16 = .ok (.invokestatic 277, 3) := by decide +kernel
theorem dX11_fetched_19 : decode cX11_fetched 19 = .ok (.ifCond .eq 12, 3) := by decide +kernel
theorem dX11_fetched_22 : decode cX11_fetched 22 = .ok (.aload_n 0, 1) := by decide +kernel
theorem dX11_fetched_23 : decode cX11_fetched 23 = .ok (.iload 4, 2) := by decide +kernel
theorem dX11_fetched_25 : decode cX11_fetched 25 = .ok (.invokevirtual 291, 3) := by decide +kernel
theorem dX11_fetched_28 : decode cX11_fetched 28 = .ok (.ifCond .ne 6, 3) := by decide +kernel
theorem dX11_fetched_31 : decode cX11_fetched 31 = .ok (.bipush (-2), 2) := by decide +kernel
theorem dX11_fetched_33 : decode cX11_fetched 33 = .ok (.ireturn, 1) := by decide +kernel
theorem dX11_fetched_34 : decode cX11_fetched 34 = .ok (.aload_n 0, 1) := by decide +kernel
theorem dX11_fetched_35 : decode cX11_fetched 35 = .ok (.iload 4, 2) := by decide +kernel
theorem dX11_fetched_37 : decode cX11_fetched 37 = .ok (.iconst 0, 1) := by decide +kernel
theorem dX11_fetched_38 : decode cX11_fetched 38 = .ok (.invokevirtual 297, 3) := by decide +kernel
theorem dX11_fetched_41 : decode cX11_fetched 41 = .ok (.istore 5, 2) := by decide +kernel
theorem dX11_fetched_43 : decode cX11_fetched 43 = .ok (.aload_n 0, 1) := by decide +kernel
theorem dX11_fetched_44 : decode cX11_fetched 44 = .ok (.iload_n 1, 1) := by decide +kernel
theorem dX11_fetched_45 : decode cX11_fetched 45 = .ok (.iload_n 2, 1) := by decide +kernel
theorem dX11_fetched_46 : decode cX11_fetched 46 = .ok (.iload 5, 2) := by decide +kernel
theorem dX11_fetched_48 : decode cX11_fetched 48 = .ok (.invokevirtual 511, 3) := by decide +kernel
theorem dX11_fetched_51 : decode cX11_fetched 51 = .ok (.iconst (-1), 1) := by decide +kernel
theorem dX11_fetched_52 : decode cX11_fetched 52 = .ok (.if_icmp .ne 5, 3) := by decide +kernel
theorem dX11_fetched_55 : decode cX11_fetched 55 = .ok (.iconst (-1), 1) := by decide +kernel
theorem dX11_fetched_56 : decode cX11_fetched 56 = .ok (.ireturn, 1) := by decide +kernel
theorem dX11_fetched_57 : decode cX11_fetched 57 = .ok (.aload_n 0, 1) := by decide +kernel
theorem dX11_fetched_58 : decode cX11_fetched 58 = .ok (.iload_n 1, 1) := by decide +kernel
theorem dX11_fetched_59 : decode cX11_fetched 59 = .ok (.iload_n 2, 1) := by decide +kernel
theorem dX11_fetched_60 : decode cX11_fetched 60 = .ok (.iload 5, 2) := by decide +kernel
theorem dX11_fetched_62 : decode cX11_fetched 62 = .ok (.invokevirtual 504, 3) := by decide +kernel
theorem dX11_fetched_65 : decode cX11_fetched 65 = .ok (.istore 6, 2) := by decide +kernel
theorem dX11_fetched_67 : decode cX11_fetched 67 = .ok (.iconst 0, 1) := by decide +kernel
theorem dX11_fetched_68 : decode cX11_fetched 68 = .ok (.istore 7, 2) := by decide +kernel
theorem dX11_fetched_70 : decode cX11_fetched 70 = .ok (.iload 7, 2) := by decide +kernel
theorem dX11_fetched_72 : decode cX11_fetched 72 = .ok (.bipush 6, 2) := by decide +kernel
theorem dX11_fetched_74 : decode cX11_fetched 74 = .ok (.iload_n 3, 1) := by decide +kernel
theorem dX11_fetched_75 : decode cX11_fetched 75 = .ok (.imul, 1) := by decide +kernel
theorem dX11_fetched_76 : decode cX11_fetched 76 = .ok (.iload 4, 2) := by decide +kernel
theorem dX11_fetched_78 : decode cX11_fetched 78 = .ok (.iadd, 1) := by decide +kernel
theorem dX11_fetched_79 : decode cX11_fetched 79 = .ok (.if_icmp .gt 142, 3) := by decide +kernel
theorem dX11_fetched_82 : decode cX11_fetched 82 = .ok (.aload_n 0, 1) := by decide +kernel
theorem dX11_fetched_83 : decode cX11_fetched 83 = .ok (.iload_n 1, 1) := by decide +kernel
theorem dX11_fetched_84 : decode cX11_fetched 84 = .ok (.iload_n 2, 1) := by decide +kernel
theorem dX11_fetched_85 : decode cX11_fetched 85 = .ok (.iload 7, 2) := by decide +kernel
theorem dX11_fetched_87 : decode cX11_fetched 87 = .ok (.iload 5, 2) := by decide +kernel
theorem dX11_fetched_89 : decode cX11_fetched 89 = .ok (.invokevirtual 508, 3) := by decide +kernel
theorem dX11_fetched_92 : decode cX11_fetched 92 = .ok (.istore 8, 2) := by decide +kernel
theorem dX11_fetched_94 : decode cX11_fetched 94 = .ok (.iload 8, 2) := by decide +kernel
theorem dX11_fetched_96 : decode cX11_fetched 96 = .ok (.ifCond .ne 6, 3) := by decide +kernel
theorem dX11_fetched_99 : decode cX11_fetched 99 = .ok (.goto 116, 3) := by decide +kernel
theorem dX11_fetched_102 : decode cX11_fetched 102 = .ok (.aload_n 0, 1) := by decide +kernel
theorem dX11_fetched_103 : decode cX11_fetched 103 = .ok (.iload 7, 2) := by decide +kernel
theorem dX11_fetched_105 : decode cX11_fetched 105 = .ok (.bipush 6, 2) := by decide +kernel
theorem dX11_fetched_107 : decode cX11_fetched 107 = .ok (.irem, 1) := by decide +kernel
theorem dX11_fetched_108 : decode cX11_fetched 108 = .ok (.iconst 1, 1) := by decide +kernel
theorem dX11_fetched_109 : decode cX11_fetched 109 = .ok (.invokevirtual 297, 3) := by decide +kernel
theorem dX11_fetched_112 : decode cX11_fetched 112 = .ok (.istore 9, 2) := by decide +kernel
theorem dX11_fetched_114 : decode cX11_fetched 114 = .ok (.iconst 0, 1) := by decide +kernel
theorem dX11_fetched_115 : decode cX11_fetched 115 = .ok (.istore 10, 2) := by decide +kernel
theorem dX11_fetched_117 : decode cX11_fetched 117 = .ok (.iload 10, 2) := by decide +kernel
theorem dX11_fetched_119 : decode cX11_fetched 119 = .ok (.aload_n 0, 1) := by decide +kernel
theorem dX11_fetched_120 : decode cX11_fetched 120 = .ok (.iload_n 1, 1) := by decide +kernel
theorem dX11_fetched_121 : decode cX11_fetched 121 = .ok (.iload 7, 2) := by decide +kernel
theorem dX11_fetched_123 : decode cX11_fetched 123 = .ok (.bipush 6, 2) := by decide +kernel
theorem dX11_fetched_125 : decode cX11_fetched 125 = .ok (.idiv, 1) := by decide +kernel
theorem dX11_fetched_126 : decode cX11_fetched 126 = .ok (.iload 7, 2) := by decide +kernel
theorem dX11_fetched_128 : decode cX11_fetched 128 = .ok (.bipush 6, 2) := by decide +kernel
theorem dX11_fetched_130 : decode cX11_fetched 130 = .ok (.irem, 1) := by decide +kernel
theorem dX11_fetched_131 : decode cX11_fetched 131 = .ok (.iload_n 2, 1) := by decide +kernel
theorem dX11_fetched_132 : decode cX11_fetched 132 = .ok (.invokevirtual 497, 3) := by decide +kernel
theorem dX11_fetched_135 : decode cX11_fetched 135 = .ok (.imul, 1) := by decide +kernel
theorem dX11_fetched_136 : decode cX11_fetched 136 = .ok (.aload_n 0, 1) := by decide +kernel
theorem dX11_fetched_137 : decode cX11_fetched 137 = .ok (.getfield 57, 3) := by decide +kernel
theorem dX11_fetched_140 : decode cX11_fetched 140 = .ok (.sipush 1681, 3) := by decide +kernel
theorem dX11_fetched_143 : decode cX11_fetched 143 = .ok (.iload 7, 2) := by decide +kernel
theorem dX11_fetched_145 : decode cX11_fetched 145 = .ok (.iconst 1, 1) := by decide +kernel
theorem dX11_fetched_146 : decode cX11_fetched 146 = .ok (.iadd, 1) := by decide +kernel
theorem dX11_fetched_147 : decode cX11_fetched 147 = .ok (.imul, 1) := by decide +kernel
theorem dX11_fetched_148 : decode cX11_fetched 148 = .ok (.iconst 0, 1) := by decide +kernel
theorem dX11_fetched_149 : decode cX11_fetched 149 = .ok (.iload 6, 2) := by decide +kernel
theorem dX11_fetched_151 : decode cX11_fetched 151 = .ok (.iload 10, 2) := by decide +kernel
theorem dX11_fetched_153 : decode cX11_fetched 153 = .ok (.iload 9, 2) := by decide +kernel
theorem dX11_fetched_155 : decode cX11_fetched 155 = .ok (.imul, 1) := by decide +kernel
theorem dX11_fetched_156 : decode cX11_fetched 156 = .ok (.isub, 1) := by decide +kernel
theorem dX11_fetched_157 : decode cX11_fetched 157 = .ok (.invokestatic 368, 3) := by decide +kernel
theorem dX11_fetched_160 : decode cX11_fetched 160 = .ok (.iadd, 1) := by decide +kernel
theorem dX11_fetched_161 : decode cX11_fetched 161 = .ok (.iaload, 1) := by decide +kernel
theorem dX11_fetched_162 : decode cX11_fetched 162 = .ok (.iadd, 1) := by decide +kernel
theorem dX11_fetched_163 : decode cX11_fetched 163 = .ok (.aload_n 0, 1) := by decide +kernel
theorem dX11_fetched_164 : decode cX11_fetched 164 = .ok (.getfield 57, 3) := by decide +kernel
theorem dX11_fetched_167 : decode cX11_fetched 167 = .ok (.sipush 1681, 3) := by decide +kernel
theorem dX11_fetched_170 : decode cX11_fetched 170 = .ok (.iload 7, 2) := by decide +kernel
theorem dX11_fetched_172 : decode cX11_fetched 172 = .ok (.imul, 1) := by decide +kernel
theorem dX11_fetched_173 : decode cX11_fetched 173 = .ok (.iload 6, 2) := by decide +kernel
theorem dX11_fetched_175 : decode cX11_fetched 175 = .ok (.iadd, 1) := by decide +kernel
theorem dX11_fetched_176 : decode cX11_fetched 176 = .ok (.iaload, 1) := by decide +kernel
theorem dX11_fetched_177 : decode cX11_fetched 177 = .ok (.if_icmp .eq 9, 3) := by decide +kernel
theorem dX11_fetched_180 : decode cX11_fetched 180 = .ok (.iinc 10 1, 3) := by decide +kernel
theorem dX11_fetched_183 : decode cX11_fetched 183 = .ok (.goto (-66), 3) := by decide +kernel
theorem dX11_fetched_186 : decode cX11_fetched 186 = .ok (.iload 7, 2) := by decide +kernel
theorem dX11_fetched_188 : decode cX11_fetched 188 = .ok (.bipush 6, 2) := by decide +kernel
theorem dX11_fetched_190 : decode cX11_fetched 190 = .ok (.iload_n 3, 1) := by decide +kernel
theorem dX11_fetched_191 : decode cX11_fetched 191 = .ok (.imul, 1) := by decide +kernel
theorem dX11_fetched_192 : decode cX11_fetched 192 = .ok (.iload 4, 2) := by decide +kernel
theorem dX11_fetched_194 : decode cX11_fetched 194 = .ok (.iadd, 1) := by decide +kernel
theorem dX11_fetched_195 : decode cX11_fetched 195 = .ok (.if_icmp .ne 6, 3) := by decide +kernel
theorem dX11_fetched_198 : decode cX11_fetched 198 = .ok (.iload 10, 2) := by decide +kernel
theorem dX11_fetched_200 : decode cX11_fetched 200 = .ok (.ireturn, 1) := by decide +kernel
theorem dX11_fetched_201 : decode cX11_fetched 201 = .ok (.iconst 0, 1) := by decide +kernel
theorem dX11_fetched_202 : decode cX11_fetched 202 = .ok (.iload 6, 2) := by decide +kernel
theorem dX11_fetched_204 : decode cX11_fetched 204 = .ok (.iload 10, 2) := by decide +kernel
theorem dX11_fetched_206 : decode cX11_fetched 206 = .ok (.iload 9, 2) := by decide +kernel
theorem dX11_fetched_208 : decode cX11_fetched 208 = .ok (.imul, 1) := by decide +kernel
theorem dX11_fetched_209 : decode cX11_fetched 209 = .ok (.isub, 1) := by decide +kernel
theorem dX11_fetched_210 : decode cX11_fetched 210 = .ok (.invokestatic 368, 3) := by decide +kernel
theorem dX11_fetched_213 : decode cX11_fetched 213 = .ok (.istore 6, 2) := by decide +kernel
theorem dX11_fetched_215 : decode cX11_fetched 215 = .ok (.iinc 7 1, 3) := by decide +kernel
theorem dX11_fetched_218 : decode cX11_fetched 218 = .ok (.goto (-148), 3) := by decide +kernel
theorem dX11_fetched_221 : decode cX11_fetched 221 = .ok (.iconst 0, 1) := by decide +kernel
theorem dX11_fetched_222 : decode cX11_fetched 222 = .ok (.ireturn, 1) := by decide +kernel
theorem dX11_thin_0 : decode cX11_thin 0 = .ok (.aload_n 0, 1) := by decide +kernel
theorem dX11_thin_1 : decode cX11_thin 1 = .ok (.iload_n 1, 1) := by decide +kernel
theorem dX11_thin_2 : decode cX11_thin 2 = .ok (.invokevirtual 326, 3) := by decide +kernel
theorem dX11_thin_5 : decode cX11_thin 5 = .ok (.ifCond .eq 15, 3) := by decide +kernel
theorem dX11_thin_8 : decode cX11_thin 8 = .ok (.iload_n 2, 1) := by decide +kernel
theorem dX11_thin_9 : decode cX11_thin 9 = .ok (.i2l, 1) := by decide +kernel
theorem dX11_thin_10 : decode cX11_thin 10 = .ok (.lconst 0, 1) := by decide +kernel
theorem dX11_thin_11 : decode cX11_thin 11 = .ok (.ldc2_w 338, 3) := by decide +kernel
theorem dX11_thin_14 : decode cX11_thin 14 = .ok (.invokestatic 84, 3) := by decide +kernel
theorem dX11_thin_17 : decode cX11_thin 17 = .ok (.ifCond .ne 6, 3) := by decide +kernel
theorem dX11_thin_20 : decode cX11_thin 20 = .ok (.bipush (-2), 2) := by decide +kernel
theorem dX11_thin_22 : decode cX11_thin 22 = .ok (.ireturn, 1) := by decide +kernel
theorem dX11_thin_23 : decode cX11_thin 23 = .ok (.aload_n 0, 1) := by decide +kernel
theorem dX11_thin_24 : decode cX11_thin 24 = .ok (.iload_n 1, 1) := by decide +kernel
theorem dX11_thin_25 : decode cX11_thin 25 = .ok (.invokevirtual 320, 3) := by decide +kernel
theorem dX11_thin_28 : decode cX11_thin 28 = .ok (.istore_n 3, 1) := by decide +kernel
theorem dX11_thin_29 : decode cX11_thin 29 = .ok (.iconst 0, 1) := by decide +kernel
theorem dX11_thin_30 : decode cX11_thin 30 = .ok (.istore 4, 2) := by decide +kernel
theorem dX11_thin_32 : decode cX11_thin 32 = .ok (.iload 4, 2) := by decide +kernel
theorem dX11_thin_34 : decode cX11_thin 34 = .ok (.iload_n 3, 1) := by decide +kernel
theorem dX11_thin_35 : decode cX11_thin 35 = .ok (.if_icmp .gt 25, 3) := by decide +kernel
theorem dX11_thin_38 : decode cX11_thin 38 = .ok (.aload_n 0, 1) := by decide +kernel
theorem dX11_thin_39 : decode cX11_thin 39 = .ok (.iload_n 1, 1) := by decide +kernel
theorem dX11_thin_40 : decode cX11_thin 40 = .ok (.iload_n 3, 1) := by decide +kernel
theorem dX11_thin_41 : decode cX11_thin 41 = .ok (.iload 4, 2) := by decide +kernel
theorem dX11_thin_43 : decode cX11_thin 43 = .ok (.isub, 1) := by decide +kernel
theorem dX11_thin_44 : decode cX11_thin 44 = .ok (.invokevirtual 323, 3) := by decide +kernel
theorem dX11_thin_47 : decode cX11_thin 47 = .ok (.iload_n 2, 1) := by decide +kernel
theorem dX11_thin_48 : decode cX11_thin 48 = .ok (.if_icmp .gt 6, 3) := by decide +kernel
theorem dX11_thin_51 : decode cX11_thin 51 = .ok (.iload 4, 2) := by decide +kernel
theorem dX11_thin_53 : decode cX11_thin 53 = .ok (.ireturn, 1) := by decide +kernel
theorem dX11_thin_54 : decode cX11_thin 54 = .ok (.iinc 4 1, 3) := by decide +kernel
theorem dX11_thin_57 : decode cX11_thin 57 = .ok (.goto (-25), 3) := by decide +kernel
theorem dX11_thin_60 : decode cX11_thin 60 = .ok (.iconst (-1), 1) := by decide +kernel
theorem dX11_thin_61 : decode cX11_thin 61 = .ok (.ireturn, 1) := by decide +kernel
theorem dX11_apart_0 : decode cX11_apart 0 = .ok (.aload_n 0, 1) := by decide +kernel
theorem dX11_apart_1 : decode cX11_apart 1 = .ok (.iload_n 1, 1) := by decide +kernel
theorem dX11_apart_2 : decode cX11_apart 2 = .ok (.iload_n 2, 1) := by decide +kernel
theorem dX11_apart_3 : decode cX11_apart 3 = .ok (.invokevirtual 281, 3) := by decide +kernel
theorem dX11_apart_6 : decode cX11_apart 6 = .ok (.ifCond .ne 6, 3) := by decide +kernel
theorem dX11_apart_9 : decode cX11_apart 9 = .ok (.bipush (-2), 2) := by decide +kernel
theorem dX11_apart_11 : decode cX11_apart 11 = .ok (.ireturn, 1) := by decide +kernel
theorem dX11_apart_12 : decode cX11_apart 12 = .ok (.iconst (-1), 1) := by decide +kernel
theorem dX11_apart_13 : decode cX11_apart 13 = .ok (.istore_n 3, 1) := by decide +kernel
theorem dX11_apart_14 : decode cX11_apart 14 = .ok (.iconst 0, 1) := by decide +kernel
theorem dX11_apart_15 : decode cX11_apart 15 = .ok (.istore 4, 2) := by decide +kernel
theorem dX11_apart_17 : decode cX11_apart 17 = .ok (.iload 4, 2) := by decide +kernel
theorem dX11_apart_19 : decode cX11_apart 19 = .ok (.aload_n 0, 1) := by decide +kernel
theorem dX11_apart_20 : decode cX11_apart 20 = .ok (.getfield 13, 3) := by decide +kernel
theorem dX11_apart_23 : decode cX11_apart 23 = .ok (.iconst 5, 1) := by decide +kernel
theorem dX11_apart_24 : decode cX11_apart 24 = .ok (.iaload, 1) := by decide +kernel
theorem dX11_apart_25 : decode cX11_apart 25 = .ok (.if_icmp .ge 76, 3) := by decide +kernel
theorem dX11_apart_28 : decode cX11_apart 28 = .ok (.aload_n 0, 1) := by decide +kernel
theorem dX11_apart_29 : decode cX11_apart 29 = .ok (.iload 4, 2) := by decide +kernel
theorem dX11_apart_31 : decode cX11_apart 31 = .ok (.iconst 0, 1) := by decide +kernel
theorem dX11_apart_32 : decode cX11_apart 32 = .ok (.invokevirtual 317, 3) := by decide +kernel
theorem dX11_apart_35 : decode cX11_apart 35 = .ok (.ifCond .ne 7, 3) := by decide +kernel
theorem dX11_apart_38 : decode cX11_apart 38 = .ok (.iload_n 1, 1) := by decide +kernel
theorem dX11_apart_39 : decode cX11_apart 39 = .ok (.goto 4, 3) := by decide +kernel
theorem dX11_apart_42 : decode cX11_apart 42 = .ok (.iload_n 2, 1) := by decide +kernel
theorem dX11_apart_43 : decode cX11_apart 43 = .ok (.istore 5, 2) := by decide +kernel
theorem dX11_apart_45 : decode cX11_apart 45 = .ok (.aload_n 0, 1) := by decide +kernel
theorem dX11_apart_46 : decode cX11_apart 46 = .ok (.iload 4, 2) := by decide +kernel
theorem dX11_apart_48 : decode cX11_apart 48 = .ok (.iconst 1, 1) := by decide +kernel
theorem dX11_apart_49 : decode cX11_apart 49 = .ok (.invokevirtual 317, 3) := by decide +kernel
theorem dX11_apart_52 : decode cX11_apart 52 = .ok (.istore 6, 2) := by decide +kernel
theorem dX11_apart_54 : decode cX11_apart 54 = .ok (.iload 5, 2) := by decide +kernel
theorem dX11_apart_56 : decode cX11_apart 56 = .ok (.iload 6, 2) := by decide +kernel
theorem dX11_apart_58 : decode cX11_apart 58 = .ok (.if_icmp .lt 11, 3) := by decide +kernel
theorem dX11_apart_61 : decode cX11_apart 61 = .ok (.iload 5, 2) := by decide +kernel
theorem dX11_apart_63 : decode cX11_apart 63 = .ok (.iload 6, 2) := by decide +kernel
theorem dX11_apart_65 : decode cX11_apart 65 = .ok (.isub, 1) := by decide +kernel
theorem dX11_apart_66 : decode cX11_apart 66 = .ok (.goto 10, 3) := by decide +kernel
theorem dX11_apart_69 : decode cX11_apart 69 = .ok (.iload 6, 2) := by decide +kernel
theorem dX11_apart_71 : decode cX11_apart 71 = .ok (.iconst 1, 1) := by decide +kernel
theorem dX11_apart_72 : decode cX11_apart 72 = .ok (.isub, 1) := by decide +kernel
theorem dX11_apart_73 : decode cX11_apart 73 = .ok (.iload 5, 2) := by decide +kernel
theorem dX11_apart_75 : decode cX11_apart 75 = .ok (.isub, 1) := by decide +kernel
theorem dX11_apart_76 : decode cX11_apart 76 = .ok (.istore 7, 2) := by decide +kernel
theorem dX11_apart_78 : decode cX11_apart 78 = .ok (.iload_n 3, 1) := by decide +kernel
theorem dX11_apart_79 : decode cX11_apart 79 = .ok (.iconst (-1), 1) := by decide +kernel
theorem dX11_apart_80 : decode cX11_apart 80 = .ok (.if_icmp .ne 8, 3) := by decide +kernel
theorem dX11_apart_83 : decode cX11_apart 83 = .ok (.iload 7, 2) := by decide +kernel
theorem dX11_apart_85 : decode cX11_apart 85 = .ok (.goto 9, 3) := by decide +kernel
theorem dX11_apart_88 : decode cX11_apart 88 = .ok (.iload_n 3, 1) := by decide +kernel
theorem dX11_apart_89 : decode cX11_apart 89 = .ok (.iload 7, 2) := by decide +kernel
theorem dX11_apart_91 : decode cX11_apart 91 = .ok (.invokestatic 123, 3) := by decide +kernel
theorem dX11_apart_94 : decode cX11_apart 94 = .ok (.istore_n 3, 1) := by decide +kernel
theorem dX11_apart_95 : decode cX11_apart 95 = .ok (.iinc 4 1, 3) := by decide +kernel
theorem dX11_apart_98 : decode cX11_apart 98 = .ok (.goto (-81), 3) := by decide +kernel
theorem dX11_apart_101 : decode cX11_apart 101 = .ok (.iload_n 3, 1) := by decide +kernel
theorem dX11_apart_102 : decode cX11_apart 102 = .ok (.ireturn, 1) := by decide +kernel
theorem dX11_drifts_0 : decode cX11_drifts 0 = .ok (.iconst 0, 1) := by decide +kernel
theorem dX11_drifts_1 : decode cX11_drifts 1 = .ok (.istore_n 1, 1) := by decide +kernel
theorem dX11_drifts_2 : decode cX11_drifts 2 = .ok (.iload_n 1, 1) := by decide +kernel
theorem dX11_drifts_3 : decode cX11_drifts 3 = .ok (.bipush 100, 2) := by decide +kernel
theorem dX11_drifts_5 : decode cX11_drifts 5 = .ok (.if_icmp .ge 16, 3) := by decide +kernel
theorem dX11_drifts_8 : decode cX11_drifts 8 = .ok (.aload_n 0, 1) := by decide +kernel
theorem dX11_drifts_9 : decode cX11_drifts 9 = .ok (.getfield 63, 3) := by decide +kernel
theorem dX11_drifts_12 : decode cX11_drifts 12 = .ok (.iload_n 1, 1) := by decide +kernel
theorem dX11_drifts_13 : decode cX11_drifts 13 = .ok (.lconst 0, 1) := by decide +kernel
theorem dX11_drifts_14 : decode cX11_drifts 14 = .ok (.lastore, 1) := by decide +kernel
theorem dX11_drifts_15 : decode cX11_drifts 15 = .ok (.iinc 1 1, 3) := by decide +kernel
theorem dX11_drifts_18 : decode cX11_drifts 18 = .ok (.goto (-16), 3) := by decide +kernel
theorem dX11_drifts_21 : decode cX11_drifts 21 = .ok (.aload_n 0, 1) := by decide +kernel
theorem dX11_drifts_22 : decode cX11_drifts 22 = .ok (.getfield 63, 3) := by decide +kernel
theorem dX11_drifts_25 : decode cX11_drifts 25 = .ok (.iconst 0, 1) := by decide +kernel
theorem dX11_drifts_26 : decode cX11_drifts 26 = .ok (.aload_n 0, 1) := by decide +kernel
theorem dX11_drifts_27 : decode cX11_drifts 27 = .ok (.getfield 60, 3) := by decide +kernel
theorem dX11_drifts_30 : decode cX11_drifts 30 = .ok (.iconst 0, 1) := by decide +kernel
theorem dX11_drifts_31 : decode cX11_drifts 31 = .ok (.laload, 1) := by decide +kernel
theorem dX11_drifts_32 : decode cX11_drifts 32 = .ok (.lastore, 1) := by decide +kernel
theorem dX11_drifts_33 : decode cX11_drifts 33 = .ok (.iconst 1, 1) := by decide +kernel
theorem dX11_drifts_34 : decode cX11_drifts 34 = .ok (.istore_n 1, 1) := by decide +kernel
theorem dX11_drifts_35 : decode cX11_drifts 35 = .ok (.iload_n 1, 1) := by decide +kernel
theorem dX11_drifts_36 : decode cX11_drifts 36 = .ok (.bipush 100, 2) := by decide +kernel
theorem dX11_drifts_38 : decode cX11_drifts 38 = .ok (.if_icmp .ge 69, 3) := by decide +kernel
theorem dX11_drifts_41 : decode cX11_drifts 41 = .ok (.aload_n 0, 1) := by decide +kernel
theorem dX11_drifts_42 : decode cX11_drifts 42 = .ok (.getfield 60, 3) := by decide +kernel
theorem dX11_drifts_45 : decode cX11_drifts 45 = .ok (.iload_n 1, 1) := by decide +kernel
theorem dX11_drifts_46 : decode cX11_drifts 46 = .ok (.laload, 1) := by decide +kernel
theorem dX11_drifts_47 : decode cX11_drifts 47 = .ok (.aload_n 0, 1) := by decide +kernel
theorem dX11_drifts_48 : decode cX11_drifts 48 = .ok (.getfield 13, 3) := by decide +kernel
theorem dX11_drifts_51 : decode cX11_drifts 51 = .ok (.bipush 14, 2) := by decide +kernel
theorem dX11_drifts_53 : decode cX11_drifts 53 = .ok (.iaload, 1) := by decide +kernel
theorem dX11_drifts_54 : decode cX11_drifts 54 = .ok (.i2l, 1) := by decide +kernel
theorem dX11_drifts_55 : decode cX11_drifts 55 = .ok (.lmul, 1) := by decide +kernel
theorem dX11_drifts_56 : decode cX11_drifts 56 = .ok (.ldc2_w 340, 3) := by decide +kernel
theorem dX11_drifts_59 : decode cX11_drifts 59 = .ok (.ldiv, 1) := by decide +kernel
theorem dX11_drifts_60 : decode cX11_drifts 60 = .ok (.lstore_n 2, 1) := by decide +kernel
theorem dX11_drifts_61 : decode cX11_drifts 61 = .ok (.aload_n 0, 1) := by decide +kernel
theorem dX11_drifts_62 : decode cX11_drifts 62 = .ok (.getfield 63, 3) := by decide +kernel
theorem dX11_drifts_65 : decode cX11_drifts 65 = .ok (.iconst 0, 1) := by decide +kernel
theorem dX11_drifts_66 : decode cX11_drifts 66 = .ok (.iload_n 1, 1) := by decide +kernel
theorem dX11_drifts_67 : decode cX11_drifts 67 = .ok (.iconst 2, 1) := by decide +kernel
theorem dX11_drifts_68 : decode cX11_drifts 68 = .ok (.isub, 1) := by decide +kernel
theorem dX11_drifts_69 : decode cX11_drifts 69 = .ok (.invokestatic 368, 3) := by decide +kernel
theorem dX11_drifts_72 : decode cX11_drifts 72 = .ok (.dup2, 1) := by decide +kernel
theorem dX11_drifts_73 : decode cX11_drifts 73 = .ok (.laload, 1) := by decide +kernel
theorem dX11_drifts_74 : decode cX11_drifts 74 = .ok (.lload_n 2, 1) := by decide +kernel
theorem dX11_drifts_75 : decode cX11_drifts 75 = .ok (.ladd, 1) := by decide +kernel
theorem dX11_drifts_76 : decode cX11_drifts 76 = .ok (.lastore, 1) := by decide +kernel
theorem dX11_drifts_77 : decode cX11_drifts 77 = .ok (.aload_n 0, 1) := by decide +kernel
theorem dX11_drifts_78 : decode cX11_drifts 78 = .ok (.getfield 63, 3) := by decide +kernel
theorem dX11_drifts_81 : decode cX11_drifts 81 = .ok (.bipush 99, 2) := by decide +kernel
theorem dX11_drifts_83 : decode cX11_drifts 83 = .ok (.iload_n 1, 1) := by decide +kernel
theorem dX11_drifts_84 : decode cX11_drifts 84 = .ok (.iconst 1, 1) := by decide +kernel
theorem dX11_drifts_85 : decode cX11_drifts 85 = .ok (.iadd, 1) := by decide +kernel
theorem dX11_drifts_86 : decode cX11_drifts 86 = .ok (.invokestatic 123, 3) := by decide +kernel
theorem dX11_drifts_89 : decode cX11_drifts 89 = .ok (.dup2, 1) := by decide +kernel
theorem dX11_drifts_90 : decode cX11_drifts 90 = .ok (.laload, 1) := by decide +kernel
theorem dX11_drifts_91 : decode cX11_drifts 91 = .ok (.aload_n 0, 1) := by decide +kernel
theorem dX11_drifts_92 : decode cX11_drifts 92 = .ok (.getfield 60, 3) := by decide +kernel
theorem dX11_drifts_95 : decode cX11_drifts 95 = .ok (.iload_n 1, 1) := by decide +kernel
theorem dX11_drifts_96 : decode cX11_drifts 96 = .ok (.laload, 1) := by decide +kernel
theorem dX11_drifts_97 : decode cX11_drifts 97 = .ok (.lload_n 2, 1) := by decide +kernel
theorem dX11_drifts_98 : decode cX11_drifts 98 = .ok (.lsub, 1) := by decide +kernel
theorem dX11_drifts_99 : decode cX11_drifts 99 = .ok (.ladd, 1) := by decide +kernel
theorem dX11_drifts_100 : decode cX11_drifts 100 = .ok (.lastore, 1) := by decide +kernel
theorem dX11_drifts_101 : decode cX11_drifts 101 = .ok (.iinc 1 1, 3) := by decide +kernel
theorem dX11_drifts_104 : decode cX11_drifts 104 = .ok (.goto (-69), 3) := by decide +kernel
theorem dX11_drifts_107 : decode cX11_drifts 107 = .ok (.iconst 0, 1) := by decide +kernel
theorem dX11_drifts_108 : decode cX11_drifts 108 = .ok (.istore_n 1, 1) := by decide +kernel
theorem dX11_drifts_109 : decode cX11_drifts 109 = .ok (.iload_n 1, 1) := by decide +kernel
theorem dX11_drifts_110 : decode cX11_drifts 110 = .ok (.bipush 100, 2) := by decide +kernel
theorem dX11_drifts_112 : decode cX11_drifts 112 = .ok (.if_icmp .ge 21, 3) := by decide +kernel
theorem dX11_drifts_115 : decode cX11_drifts 115 = .ok (.aload_n 0, 1) := by decide +kernel
theorem dX11_drifts_116 : decode cX11_drifts 116 = .ok (.getfield 60, 3) := by decide +kernel
theorem dX11_drifts_119 : decode cX11_drifts 119 = .ok (.iload_n 1, 1) := by decide +kernel
theorem dX11_drifts_120 : decode cX11_drifts 120 = .ok (.aload_n 0, 1) := by decide +kernel
theorem dX11_drifts_121 : decode cX11_drifts 121 = .ok (.getfield 63, 3) := by decide +kernel
theorem dX11_drifts_124 : decode cX11_drifts 124 = .ok (.iload_n 1, 1) := by decide +kernel
theorem dX11_drifts_125 : decode cX11_drifts 125 = .ok (.laload, 1) := by decide +kernel
theorem dX11_drifts_126 : decode cX11_drifts 126 = .ok (.lastore, 1) := by decide +kernel
theorem dX11_drifts_127 : decode cX11_drifts 127 = .ok (.iinc 1 1, 3) := by decide +kernel
theorem dX11_drifts_130 : decode cX11_drifts 130 = .ok (.goto (-21), 3) := by decide +kernel
theorem dX11_drifts_133 : decode cX11_drifts 133 = .ok (.return_, 1) := by decide +kernel
theorem dX11_beginMiles_0 : decode cX11_beginMiles 0 = .ok (.iconst 0, 1) := by decide +kernel
theorem dX11_beginMiles_1 : decode cX11_beginMiles 1 = .ok (.istore_n 1, 1) := by decide +kernel
theorem dX11_beginMiles_2 : decode cX11_beginMiles 2 = .ok (.iload_n 1, 1) := by decide +kernel
theorem dX11_beginMiles_3 : decode cX11_beginMiles 3 = .ok (.bipush 100, 2) := by decide +kernel
theorem dX11_beginMiles_5 : decode cX11_beginMiles 5 = .ok (.if_icmp .ge 33, 3) := by decide +kernel
theorem dX11_beginMiles_8 : decode cX11_beginMiles 8 = .ok (.aload_n 0, 1) := by decide +kernel
theorem dX11_beginMiles_9 : decode cX11_beginMiles 9 = .ok (.getfield 60, 3) := by decide +kernel
theorem dX11_beginMiles_12 : decode cX11_beginMiles 12 = .ok (.iload_n 1, 1) := by decide +kernel
theorem dX11_beginMiles_13 : decode cX11_beginMiles 13 = .ok (.iload_n 1, 1) := by decide +kernel
theorem dX11_beginMiles_14 : decode cX11_beginMiles 14 = .ok (.aload_n 0, 1) := by decide +kernel
theorem dX11_beginMiles_15 : decode cX11_beginMiles 15 = .ok (.getfield 13, 3) := by decide +kernel
theorem dX11_beginMiles_18 : decode cX11_beginMiles 18 = .ok (.bipush 15, 2) := by decide +kernel
theorem dX11_beginMiles_20 : decode cX11_beginMiles 20 = .ok (.iaload, 1) := by decide +kernel
theorem dX11_beginMiles_21 : decode cX11_beginMiles 21 = .ok (.if_icmp .ne 9, 3) := by decide +kernel
theorem dX11_beginMiles_24 : decode cX11_beginMiles 24 = .ok (.ldc2_w 336, 3) := by decide +kernel
theorem dX11_beginMiles_27 : decode cX11_beginMiles 27 = .ok (.goto 4, 3) := by decide +kernel
theorem dX11_beginMiles_30 : decode cX11_beginMiles 30 = .ok (.lconst 0, 1) := by decide +kernel
theorem dX11_beginMiles_31 : decode cX11_beginMiles 31 = .ok (.lastore, 1) := by decide +kernel
theorem dX11_beginMiles_32 : decode cX11_beginMiles 32 = .ok (.iinc 1 1, 3) := by decide +kernel
theorem dX11_beginMiles_35 : decode cX11_beginMiles 35 = .ok (.goto (-33), 3) := by decide +kernel
theorem dX11_beginMiles_38 : decode cX11_beginMiles 38 = .ok (.return_, 1) := by decide +kernel
theorem dX11_miles_0 : decode cX11_miles 0 = .ok (.aload_n 0, 1) := by decide +kernel
theorem dX11_miles_1 : decode cX11_miles 1 = .ok (.invokevirtual 271, 3) := by decide +kernel
theorem dX11_miles_4 : decode cX11_miles 4 = .ok (.ifCond .eq 27, 3) := by decide +kernel
theorem dX11_miles_7 : decode cX11_miles 7 = .ok (.iload_n 1, 1) := by decide +kernel
theorem dX11_miles_8 : decode cX11_miles 8 = .ok (.i2l, 1) := by decide +kernel
theorem dX11_miles_9 : decode cX11_miles 9 = .ok (.lconst 0, 1) := by decide +kernel
theorem dX11_miles_10 : decode cX11_miles 10 = .ok (.ldc2_w 479, 3) := by decide +kernel
theorem dX11_miles_13 : decode cX11_miles 13 = .ok (.invokestatic 84, 3) := by decide +kernel
theorem dX11_miles_16 : decode cX11_miles 16 = .ok (.ifCond .eq 15, 3) := by decide +kernel
theorem dX11_miles_19 : decode cX11_miles 19 = .ok (.iload_n 2, 1) := by decide +kernel
theorem dX11_miles_20 : decode cX11_miles 20 = .ok (.i2l, 1) := by decide +kernel
theorem dX11_miles_21 : decode cX11_miles 21 = .ok (.lconst 0, 1) := by decide +kernel
theorem dX11_miles_22 : decode cX11_miles 22 = .ok (.ldc2_w 514, 3) := by decide +kernel
theorem dX11_miles_25 : decode cX11_miles 25 = .ok (.invokestatic 84, 3) := by decide +kernel
theorem dX11_miles_28 : decode cX11_miles 28 = .ok (.ifCond .ne 7, 3) := by decide +kernel
theorem dX11_miles_31 : decode cX11_miles 31 = .ok (.ldc2_w 342, 3) := by decide +kernel
theorem dX11_miles_34 : decode cX11_miles 34 = .ok (.lreturn, 1) := by decide +kernel
theorem dX11_miles_35 : decode cX11_miles 35 = .ok (.aload_n 0, 1) := by decide +kernel
theorem dX11_miles_36 : decode cX11_miles 36 = .ok (.invokevirtual 516, 3) := by decide +kernel
theorem dX11_miles_39 : decode cX11_miles 39 = .ok (.iconst 0, 1) := by decide +kernel
theorem dX11_miles_40 : decode cX11_miles 40 = .ok (.istore_n 3, 1) := by decide +kernel
theorem dX11_miles_41 : decode cX11_miles 41 = .ok (.iload_n 3, 1) := by decide +kernel
theorem dX11_miles_42 : decode cX11_miles 42 = .ok (.iload_n 1, 1) := by decide +kernel
theorem dX11_miles_43 : decode cX11_miles 43 = .ok (.if_icmp .ge 13, 3) := by decide +kernel
theorem dX11_miles_46 : decode cX11_miles 46 = .ok (.aload_n 0, 1) := by decide +kernel
theorem dX11_miles_47 : decode cX11_miles 47 = .ok (.invokevirtual 519, 3) := by decide +kernel
theorem dX11_miles_50 : decode cX11_miles 50 = .ok (.iinc 3 1, 3) := by decide +kernel
theorem dX11_miles_53 : decode cX11_miles 53 = .ok (.goto (-12), 3) := by decide +kernel
theorem dX11_miles_56 : decode cX11_miles 56 = .ok (.aload_n 0, 1) := by decide +kernel
theorem dX11_miles_57 : decode cX11_miles 57 = .ok (.getfield 60, 3) := by decide +kernel
theorem dX11_miles_60 : decode cX11_miles 60 = .ok (.iload_n 2, 1) := by decide +kernel
theorem dX11_miles_61 : decode cX11_miles 61 = .ok (.laload, 1) := by decide +kernel
theorem dX11_miles_62 : decode cX11_miles 62 = .ok (.lreturn, 1) := by decide +kernel
theorem dX11_boats_0 : decode cX11_boats 0 = .ok (.aload_n 0, 1) := by decide +kernel
theorem dX11_boats_1 : decode cX11_boats 1 = .ok (.invokevirtual 271, 3) := by decide +kernel
theorem dX11_boats_4 : decode cX11_boats 4 = .ok (.ifCond .eq 27, 3) := by decide +kernel
theorem dX11_boats_7 : decode cX11_boats 7 = .ok (.iload_n 1, 1) := by decide +kernel
theorem dX11_boats_8 : decode cX11_boats 8 = .ok (.i2l, 1) := by decide +kernel
theorem dX11_boats_9 : decode cX11_boats 9 = .ok (.lconst 0, 1) := by decide +kernel
theorem dX11_boats_10 : decode cX11_boats 10 = .ok (.ldc2_w 514, 3) := by decide +kernel
theorem dX11_boats_13 : decode cX11_boats 13 = .ok (.invokestatic 84, 3) := by decide +kernel
theorem dX11_boats_16 : decode cX11_boats 16 = .ok (.ifCond .eq 15, 3) := by decide +kernel
theorem dX11_boats_19 : decode cX11_boats 19 = .ok (.iload_n 2, 1) := by decide +kernel
theorem dX11_boats_20 : decode cX11_boats 20 = .ok (.i2l, 1) := by decide +kernel
theorem dX11_boats_21 : decode cX11_boats 21 = .ok (.lconst 1, 1) := by decide +kernel
theorem dX11_boats_22 : decode cX11_boats 22 = .ok (.ldc2_w 388, 3) := by decide +kernel
theorem dX11_boats_25 : decode cX11_boats 25 = .ok (.invokestatic 84, 3) := by decide +kernel
theorem dX11_boats_28 : decode cX11_boats 28 = .ok (.ifCond .ne 6, 3) := by decide +kernel
theorem dX11_boats_31 : decode cX11_boats 31 = .ok (.bipush (-2), 2) := by decide +kernel
theorem dX11_boats_33 : decode cX11_boats 33 = .ok (.ireturn, 1) := by decide +kernel
theorem dX11_boats_34 : decode cX11_boats 34 = .ok (.aload_n 0, 1) := by decide +kernel
theorem dX11_boats_35 : decode cX11_boats 35 = .ok (.invokevirtual 516, 3) := by decide +kernel
theorem dX11_boats_38 : decode cX11_boats 38 = .ok (.iconst 0, 1) := by decide +kernel
theorem dX11_boats_39 : decode cX11_boats 39 = .ok (.istore_n 3, 1) := by decide +kernel
theorem dX11_boats_40 : decode cX11_boats 40 = .ok (.iload_n 3, 1) := by decide +kernel
theorem dX11_boats_41 : decode cX11_boats 41 = .ok (.bipush 60, 2) := by decide +kernel
theorem dX11_boats_43 : decode cX11_boats 43 = .ok (.if_icmp .gt 57, 3) := by decide +kernel
theorem dX11_boats_46 : decode cX11_boats 46 = .ok (.lconst 0, 1) := by decide +kernel
theorem dX11_boats_47 : decode cX11_boats 47 = .ok (.lstore 4, 2) := by decide +kernel
theorem dX11_boats_49 : decode cX11_boats 49 = .ok (.iconst 0, 1) := by decide +kernel
theorem dX11_boats_50 : decode cX11_boats 50 = .ok (.istore 6, 2) := by decide +kernel
theorem dX11_boats_52 : decode cX11_boats 52 = .ok (.iload 6, 2) := by decide +kernel
theorem dX11_boats_54 : decode cX11_boats 54 = .ok (.iload_n 1, 1) := by decide +kernel
theorem dX11_boats_55 : decode cX11_boats 55 = .ok (.if_icmp .gt 21, 3) := by decide +kernel
theorem dX11_boats_58 : decode cX11_boats 58 = .ok (.lload 4, 2) := by decide +kernel
theorem dX11_boats_60 : decode cX11_boats 60 = .ok (.aload_n 0, 1) := by decide +kernel
theorem dX11_boats_61 : decode cX11_boats 61 = .ok (.getfield 60, 3) := by decide +kernel
theorem dX11_boats_64 : decode cX11_boats 64 = .ok (.iload 6, 2) := by decide +kernel
theorem dX11_boats_66 : decode cX11_boats 66 = .ok (.laload, 1) := by decide +kernel
theorem dX11_boats_67 : decode cX11_boats 67 = .ok (.ladd, 1) := by decide +kernel
theorem dX11_boats_68 : decode cX11_boats 68 = .ok (.lstore 4, 2) := by decide +kernel
theorem dX11_boats_70 : decode cX11_boats 70 = .ok (.iinc 6 1, 3) := by decide +kernel
theorem dX11_boats_73 : decode cX11_boats 73 = .ok (.goto (-21), 3) := by decide +kernel
theorem dX11_boats_76 : decode cX11_boats 76 = .ok (.lload 4, 2) := by decide +kernel
theorem dX11_boats_78 : decode cX11_boats 78 = .ok (.iload_n 2, 1) := by decide +kernel
theorem dX11_boats_79 : decode cX11_boats 79 = .ok (.i2l, 1) := by decide +kernel
theorem dX11_boats_80 : decode cX11_boats 80 = .ok (.ldc2_w 390, 3) := by decide +kernel
theorem dX11_boats_83 : decode cX11_boats 83 = .ok (.lmul, 1) := by decide +kernel
theorem dX11_boats_84 : decode cX11_boats 84 = .ok (.lcmp, 1) := by decide +kernel
theorem dX11_boats_85 : decode cX11_boats 85 = .ok (.ifCond .lt 5, 3) := by decide +kernel
theorem dX11_boats_88 : decode cX11_boats 88 = .ok (.iload_n 3, 1) := by decide +kernel
theorem dX11_boats_89 : decode cX11_boats 89 = .ok (.ireturn, 1) := by decide +kernel
theorem dX11_boats_90 : decode cX11_boats 90 = .ok (.aload_n 0, 1) := by decide +kernel
theorem dX11_boats_91 : decode cX11_boats 91 = .ok (.invokevirtual 519, 3) := by decide +kernel
theorem dX11_boats_94 : decode cX11_boats 94 = .ok (.iinc 3 1, 3) := by decide +kernel
theorem dX11_boats_97 : decode cX11_boats 97 = .ok (.goto (-57), 3) := by decide +kernel
theorem dX11_boats_100 : decode cX11_boats 100 = .ok (.iconst (-1), 1) := by decide +kernel
theorem dX11_boats_101 : decode cX11_boats 101 = .ok (.ireturn, 1) := by decide +kernel
theorem dX11_saw_0 : decode cX11_saw 0 = .ok (.aload_n 0, 1) := by decide +kernel
theorem dX11_saw_1 : decode cX11_saw 1 = .ok (.iload_n 1, 1) := by decide +kernel
theorem dX11_saw_2 : decode cX11_saw 2 = .ok (.invokevirtual 326, 3) := by decide +kernel
theorem dX11_saw_5 : decode cX11_saw 5 = .ok (.ifCond .ne 6, 3) := by decide +kernel
theorem dX11_saw_8 : decode cX11_saw 8 = .ok (.bipush (-2), 2) := by decide +kernel
theorem dX11_saw_10 : decode cX11_saw 10 = .ok (.ireturn, 1) := by decide +kernel
theorem dX11_saw_11 : decode cX11_saw 11 = .ok (.aload_n 0, 1) := by decide +kernel
theorem dX11_saw_12 : decode cX11_saw 12 = .ok (.iload_n 1, 1) := by decide +kernel
theorem dX11_saw_13 : decode cX11_saw 13 = .ok (.bipush 7, 2) := by decide +kernel
theorem dX11_saw_15 : decode cX11_saw 15 = .ok (.invokevirtual 317, 3) := by decide +kernel
theorem dX11_saw_18 : decode cX11_saw 18 = .ok (.bipush 99, 2) := by decide +kernel
theorem dX11_saw_20 : decode cX11_saw 20 = .ok (.if_icmp .ne 6, 3) := by decide +kernel
theorem dX11_saw_23 : decode cX11_saw 23 = .ok (.bipush (-3), 2) := by decide +kernel
theorem dX11_saw_25 : decode cX11_saw 25 = .ok (.ireturn, 1) := by decide +kernel
theorem dX11_saw_26 : decode cX11_saw 26 = .ok (.aload_n 0, 1) := by decide +kernel
theorem dX11_saw_27 : decode cX11_saw 27 = .ok (.getfield 13, 3) := by decide +kernel
theorem dX11_saw_30 : decode cX11_saw 30 = .ok (.bipush 24, 2) := by decide +kernel
theorem dX11_saw_32 : decode cX11_saw 32 = .ok (.bipush 8, 2) := by decide +kernel
theorem dX11_saw_34 : decode cX11_saw 34 = .ok (.iload_n 1, 1) := by decide +kernel
theorem dX11_saw_35 : decode cX11_saw 35 = .ok (.imul, 1) := by decide +kernel
theorem dX11_saw_36 : decode cX11_saw 36 = .ok (.iadd, 1) := by decide +kernel
theorem dX11_saw_37 : decode cX11_saw 37 = .ok (.bipush 7, 2) := by decide +kernel
theorem dX11_saw_39 : decode cX11_saw 39 = .ok (.iadd, 1) := by decide +kernel
theorem dX11_saw_40 : decode cX11_saw 40 = .ok (.dup2, 1) := by decide +kernel
theorem dX11_saw_41 : decode cX11_saw 41 = .ok (.iaload, 1) := by decide +kernel
theorem dX11_saw_42 : decode cX11_saw 42 = .ok (.iconst 1, 1) := by decide +kernel
theorem dX11_saw_43 : decode cX11_saw 43 = .ok (.iadd, 1) := by decide +kernel
theorem dX11_saw_44 : decode cX11_saw 44 = .ok (.iastore, 1) := by decide +kernel
theorem dX11_saw_45 : decode cX11_saw 45 = .ok (.aload_n 0, 1) := by decide +kernel
theorem dX11_saw_46 : decode cX11_saw 46 = .ok (.iload_n 1, 1) := by decide +kernel
theorem dX11_saw_47 : decode cX11_saw 47 = .ok (.bipush 7, 2) := by decide +kernel
theorem dX11_saw_49 : decode cX11_saw 49 = .ok (.invokevirtual 317, 3) := by decide +kernel
theorem dX11_saw_52 : decode cX11_saw 52 = .ok (.ireturn, 1) := by decide +kernel
theorem dX11_pass_0 : decode cX11_pass 0 = .ok (.aload_n 0, 1) := by decide +kernel
theorem dX11_pass_1 : decode cX11_pass 1 = .ok (.invokevirtual 271, 3) := by decide +kernel
theorem dX11_pass_4 : decode cX11_pass 4 = .ok (.ifCond .eq 30, 3) := by decide +kernel
theorem dX11_pass_7 : decode cX11_pass 7 = .ok (.iload_n 1, 1) := by decide +kernel
theorem dX11_pass_8 : decode cX11_pass 8 = .ok (.i2l, 1) := by decide +kernel
theorem dX11_pass_9 : decode cX11_pass 9 = .ok (.lconst 0, 1) := by decide +kernel
theorem dX11_pass_10 : decode cX11_pass 10 = .ok (.ldc2_w 514, 3) := by decide +kernel
theorem dX11_pass_13 : decode cX11_pass 13 = .ok (.invokestatic 84, 3) := by decide +kernel
theorem dX11_pass_16 : decode cX11_pass 16 = .ok (.ifCond .eq 18, 3) := by decide +kernel
theorem dX11_pass_19 : decode cX11_pass 19 = .ok (.aload_n 0, 1) := by decide +kernel
theorem dX11_pass_20 : decode cX11_pass 20 = .ok (.getfield 13, 3) := by decide +kernel
theorem dX11_pass_23 : decode cX11_pass 23 = .ok (.bipush 19, 2) := by decide +kernel
theorem dX11_pass_25 : decode cX11_pass 25 = .ok (.iaload, 1) := by decide +kernel
theorem dX11_pass_26 : decode cX11_pass 26 = .ok (.iload_n 1, 1) := by decide +kernel
theorem dX11_pass_27 : decode cX11_pass 27 = .ok (.iadd, 1) := by decide +kernel
theorem dX11_pass_28 : decode cX11_pass 28 = .ok (.sipush 9999, 3) := by decide +kernel
theorem dX11_pass_31 : decode cX11_pass 31 = .ok (.if_icmp .le 6, 3) := by decide +kernel
theorem dX11_pass_34 : decode cX11_pass 34 = .ok (.bipush (-2), 2) := by decide +kernel
theorem dX11_pass_36 : decode cX11_pass 36 = .ok (.ireturn, 1) := by decide +kernel
theorem dX11_pass_37 : decode cX11_pass 37 = .ok (.aload_n 0, 1) := by decide +kernel
theorem dX11_pass_38 : decode cX11_pass 38 = .ok (.getfield 13, 3) := by decide +kernel
theorem dX11_pass_41 : decode cX11_pass 41 = .ok (.bipush 19, 2) := by decide +kernel
theorem dX11_pass_43 : decode cX11_pass 43 = .ok (.dup2, 1) := by decide +kernel
theorem dX11_pass_44 : decode cX11_pass 44 = .ok (.iaload, 1) := by decide +kernel
theorem dX11_pass_45 : decode cX11_pass 45 = .ok (.iload_n 1, 1) := by decide +kernel
theorem dX11_pass_46 : decode cX11_pass 46 = .ok (.iadd, 1) := by decide +kernel
theorem dX11_pass_47 : decode cX11_pass 47 = .ok (.iastore, 1) := by decide +kernel
theorem dX11_pass_48 : decode cX11_pass 48 = .ok (.aload_n 0, 1) := by decide +kernel
theorem dX11_pass_49 : decode cX11_pass 49 = .ok (.getfield 13, 3) := by decide +kernel
theorem dX11_pass_52 : decode cX11_pass 52 = .ok (.bipush 19, 2) := by decide +kernel
theorem dX11_pass_54 : decode cX11_pass 54 = .ok (.iaload, 1) := by decide +kernel
theorem dX11_pass_55 : decode cX11_pass 55 = .ok (.ireturn, 1) := by decide +kernel
theorem dX11_seam_0 : decode cX11_seam 0 = .ok (.aload_n 0, 1) := by decide +kernel
theorem dX11_seam_1 : decode cX11_seam 1 = .ok (.iload_n 1, 1) := by decide +kernel
theorem dX11_seam_2 : decode cX11_seam 2 = .ok (.invokevirtual 326, 3) := by decide +kernel
theorem dX11_seam_5 : decode cX11_seam 5 = .ok (.ifCond .eq 37, 3) := by decide +kernel
theorem dX11_seam_8 : decode cX11_seam 8 = .ok (.bipush 100, 2) := by decide +kernel
theorem dX11_seam_10 : decode cX11_seam 10 = .ok (.aload_n 0, 1) := by decide +kernel
theorem dX11_seam_11 : decode cX11_seam 11 = .ok (.iload_n 1, 1) := by decide +kernel
theorem dX11_seam_12 : decode cX11_seam 12 = .ok (.invokevirtual 329, 3) := by decide +kernel
theorem dX11_seam_15 : decode cX11_seam 15 = .ok (.imul, 1) := by decide +kernel
theorem dX11_seam_16 : decode cX11_seam 16 = .ok (.sipush 10000, 3) := by decide +kernel
theorem dX11_seam_19 : decode cX11_seam 19 = .ok (.aload_n 0, 1) := by decide +kernel
theorem dX11_seam_20 : decode cX11_seam 20 = .ok (.iload_n 1, 1) := by decide +kernel
theorem dX11_seam_21 : decode cX11_seam 21 = .ok (.bipush 7, 2) := by decide +kernel
theorem dX11_seam_23 : decode cX11_seam 23 = .ok (.invokevirtual 317, 3) := by decide +kernel
theorem dX11_seam_26 : decode cX11_seam 26 = .ok (.imul, 1) := by decide +kernel
theorem dX11_seam_27 : decode cX11_seam 27 = .ok (.iadd, 1) := by decide +kernel
theorem dX11_seam_28 : decode cX11_seam 28 = .ok (.bipush 100, 2) := by decide +kernel
theorem dX11_seam_30 : decode cX11_seam 30 = .ok (.aload_n 0, 1) := by decide +kernel
theorem dX11_seam_31 : decode cX11_seam 31 = .ok (.getfield 13, 3) := by decide +kernel
theorem dX11_seam_34 : decode cX11_seam 34 = .ok (.bipush 19, 2) := by decide +kernel
theorem dX11_seam_36 : decode cX11_seam 36 = .ok (.iaload, 1) := by decide +kernel
theorem dX11_seam_37 : decode cX11_seam 37 = .ok (.iadd, 1) := by decide +kernel
theorem dX11_seam_38 : decode cX11_seam 38 = .ok (.idiv, 1) := by decide +kernel
theorem dX11_seam_39 : decode cX11_seam 39 = .ok (.goto 5, 3) := by decide +kernel
theorem dX11_seam_42 : decode cX11_seam 42 = .ok (.bipush (-2), 2) := by decide +kernel
theorem dX11_seam_44 : decode cX11_seam 44 = .ok (.ireturn, 1) := by decide +kernel
theorem dX11_draw_0 : decode cX11_draw 0 = .ok (.aload_n 0, 1) := by decide +kernel
theorem dX11_draw_1 : decode cX11_draw 1 = .ok (.ldc2_w 522, 3) := by decide +kernel
theorem dX11_draw_4 : decode cX11_draw 4 = .ok (.aload_n 0, 1) := by decide +kernel
theorem dX11_draw_5 : decode cX11_draw 5 = .ok (.getfield 524, 3) := by decide +kernel
theorem dX11_draw_8 : decode cX11_draw 8 = .ok (.lmul, 1) := by decide +kernel
theorem dX11_draw_9 : decode cX11_draw 9 = .ok (.ldc2_w 528, 3) := by decide +kernel
theorem dX11_draw_12 : decode cX11_draw 12 = .ok (.ladd, 1) := by decide +kernel
theorem dX11_draw_13 : decode cX11_draw 13 = .ok (.ldc2_w 530, 3) := by decide +kernel
theorem dX11_draw_16 : decode cX11_draw 16 = .ok (.lrem, 1) := by decide +kernel
theorem dX11_draw_17 : decode cX11_draw 17 = .ok (.putfield 524, 3) := by decide +kernel
theorem dX11_draw_20 : decode cX11_draw 20 = .ok (.aload_n 0, 1) := by decide +kernel
theorem dX11_draw_21 : decode cX11_draw 21 = .ok (.getfield 524, 3) := by decide +kernel
theorem dX11_draw_24 : decode cX11_draw 24 = .ok (.ldc2_w 532, 3) := by decide +kernel
theorem dX11_draw_27 : decode cX11_draw 27 = .ok (.ldiv, 1) := by decide +kernel
theorem dX11_draw_28 : decode cX11_draw 28 = .ok (.ldc2_w 338, 3) := by decide +kernel
theorem dX11_draw_31 : decode cX11_draw 31 = .ok (.lrem, 1) := by decide +kernel
theorem dX11_draw_32 : decode cX11_draw 32 = .ok (.l2i, 1) := by decide +kernel
theorem dX11_draw_33 : decode cX11_draw 33 = .ok (.ireturn, 1) := by decide +kernel
theorem dX11_springsOut_0 : decode cX11_springsOut 0 = .ok (.aload_n 0, 1) := by decide +kernel
theorem dX11_springsOut_1 : decode cX11_springsOut 1 = .ok (.lload_n 1, 1) := by decide +kernel
theorem dX11_springsOut_2 : decode cX11_springsOut 2 = .ok (.putfield 524, 3) := by decide +kernel
theorem dX11_springsOut_5 : decode cX11_springsOut 5 = .ok (.aload_n 0, 1) := by decide +kernel
theorem dX11_springsOut_6 : decode cX11_springsOut 6 = .ok (.aload_n 0, 1) := by decide +kernel
theorem dX11_springsOut_7 : decode cX11_springsOut 7 = .ok (.getfield 13, 3) := by decide +kernel
theorem dX11_springsOut_10 : decode cX11_springsOut 10 = .ok (.bipush 18, 2) := by decide +kernel
theorem dX11_springsOut_12 : decode cX11_springsOut 12 = .ok (.iaload, 1) := by decide +kernel
theorem dX11_springsOut_13 : decode cX11_springsOut 13 = .ok (.putfield 534, 3) := by decide +kernel
theorem dX11_springsOut_16 : decode cX11_springsOut 16 = .ok (.iconst 0, 1) := by decide +kernel
theorem dX11_springsOut_17 : decode cX11_springsOut 17 = .ok (.istore 4, 2) := by decide +kernel
theorem dX11_springsOut_19 : decode cX11_springsOut 19 = .ok (.iconst 1, 1) := by decide +kernel
theorem dX11_springsOut_20 : decode cX11_springsOut 20 = .ok (.istore 5, 2) := by decide +kernel
theorem dX11_springsOut_22 : decode cX11_springsOut 22 = .ok (.iload 5, 2) := by decide +kernel
theorem dX11_springsOut_24 : decode cX11_springsOut 24 = .ok (.iload_n 3, 1) := by decide +kernel
theorem dX11_springsOut_25 : decode cX11_springsOut 25 = .ok (.if_icmp .gt 133, 3) := by decide +kernel
theorem dX11_springsOut_28 : decode cX11_springsOut 28 = .ok (.iconst 0, 1) := by decide +kernel
theorem dX11_springsOut_29 : decode cX11_springsOut 29 = .ok (.istore 6, 2) := by decide +kernel
theorem dX11_springsOut_31 : decode cX11_springsOut 31 = .ok (.iload 6, 2) := by decide +kernel
theorem dX11_springsOut_33 : decode cX11_springsOut 33 = .ok (.aload_n 0, 1) := by decide +kernel
theorem dX11_springsOut_34 : decode cX11_springsOut 34 = .ok (.getfield 13, 3) := by decide +kernel
theorem dX11_springsOut_37 : decode cX11_springsOut 37 = .ok (.iconst 5, 1) := by decide +kernel
theorem dX11_springsOut_38 : decode cX11_springsOut 38 = .ok (.iaload, 1) := by decide +kernel
theorem dX11_springsOut_39 : decode cX11_springsOut 39 = .ok (.if_icmp .ge 93, 3) := by decide +kernel
theorem dX11_springsOut_42 : decode cX11_springsOut 42 = .ok (.aload_n 0, 1) := by decide +kernel
theorem dX11_springsOut_43 : decode cX11_springsOut 43 = .ok (.invokevirtual 537, 3) := by decide +kernel
theorem dX11_springsOut_46 : decode cX11_springsOut 46 = .ok (.istore 7, 2) := by decide +kernel
theorem dX11_springsOut_48 : decode cX11_springsOut 48 = .ok (.aload_n 0, 1) := by decide +kernel
theorem dX11_springsOut_49 : decode cX11_springsOut 49 = .ok (.getfield 534, 3) := by decide +kernel
theorem dX11_springsOut_52 : decode cX11_springsOut 52 = .ok (.iload 6, 2) := by decide +kernel
theorem dX11_springsOut_54 : decode cX11_springsOut 54 = .ok (.invokestatic 239, 3) := by decide +kernel
theorem dX11_springsOut_57 : decode cX11_springsOut 57 = .ok (.ifCond .eq 26, 3) := by decide +kernel
theorem dX11_springsOut_60 : decode cX11_springsOut 60 = .ok (.iload 7, 2) := by decide +kernel
theorem dX11_springsOut_62 : decode cX11_springsOut 62 = .ok (.bipush 100, 2) := by decide +kernel
theorem dX11_springsOut_64 : decode cX11_springsOut 64 = .ok (.aload_n 0, 1) := by decide +kernel
theorem dX11_springsOut_65 : decode cX11_springsOut 65 = .ok (.getfield 13, 3) := by decide +kernel
theorem dX11_springsOut_68 : decode cX11_springsOut 68 = .ok (.bipush 10, 2) := by decide +kernel
theorem dX11_springsOut_70 : decode cX11_springsOut 70 = .ok (.iaload, 1) := by decide +kernel
theorem dX11_springsOut_71 : decode cX11_springsOut 71 = .ok (.imul, 1) := by decide +kernel
theorem dX11_springsOut_72 : decode cX11_springsOut 72 = .ok (.if_icmp .ge 7, 3) := by decide +kernel
theorem dX11_springsOut_75 : decode cX11_springsOut 75 = .ok (.iconst 1, 1) := by decide +kernel
theorem dX11_springsOut_76 : decode cX11_springsOut 76 = .ok (.goto 23, 3) := by decide +kernel
theorem dX11_springsOut_79 : decode cX11_springsOut 79 = .ok (.iconst 0, 1) := by decide +kernel
theorem dX11_springsOut_80 : decode cX11_springsOut 80 = .ok (.goto 19, 3) := by decide +kernel
theorem dX11_springsOut_83 : decode cX11_springsOut 83 = .ok (.iload 7, 2) := by decide +kernel
theorem dX11_springsOut_85 : decode cX11_springsOut 85 = .ok (.aload_n 0, 1) := by decide +kernel
theorem dX11_springsOut_86 : decode cX11_springsOut 86 = .ok (.iload 6, 2) := by decide +kernel
theorem dX11_springsOut_88 : decode cX11_springsOut 88 = .ok (.invokevirtual 329, 3) := by decide +kernel
theorem dX11_springsOut_91 : decode cX11_springsOut 91 = .ok (.if_icmp .ge 7, 3) := by decide +kernel
theorem dX11_springsOut_94 : decode cX11_springsOut 94 = .ok (.iconst 1, 1) := by decide +kernel
theorem dX11_springsOut_95 : decode cX11_springsOut 95 = .ok (.goto 4, 3) := by decide +kernel
theorem dX11_springsOut_98 : decode cX11_springsOut 98 = .ok (.iconst 0, 1) := by decide +kernel
theorem dX11_springsOut_99 : decode cX11_springsOut 99 = .ok (.istore 8, 2) := by decide +kernel
theorem dX11_springsOut_101 : decode cX11_springsOut 101 = .ok (.aload_n 0, 1) := by decide +kernel
theorem dX11_springsOut_102 : decode cX11_springsOut 102 = .ok (.iload 8, 2) := by decide +kernel
theorem dX11_springsOut_104 : decode cX11_springsOut 104 = .ok (.ifCond .eq 15, 3) := by decide +kernel
theorem dX11_springsOut_107 : decode cX11_springsOut 107 = .ok (.aload_n 0, 1) := by decide +kernel
theorem dX11_springsOut_108 : decode cX11_springsOut 108 = .ok (.getfield 534, 3) := by decide +kernel
theorem dX11_springsOut_111 : decode cX11_springsOut 111 = .ok (.iconst 1, 1) := by decide +kernel
theorem dX11_springsOut_112 : decode cX11_springsOut 112 = .ok (.iload 6, 2) := by decide +kernel
theorem dX11_springsOut_114 : decode cX11_springsOut 114 = .ok (.ishl, 1) := by decide +kernel
theorem dX11_springsOut_115 : decode cX11_springsOut 115 = .ok (.ixor, 1) := by decide +kernel
theorem dX11_springsOut_116 : decode cX11_springsOut 116 = .ok (.goto 7, 3) := by decide +kernel
theorem dX11_springsOut_119 : decode cX11_springsOut 119 = .ok (.aload_n 0, 1) := by decide +kernel
theorem dX11_springsOut_120 : decode cX11_springsOut 120 = .ok (.getfield 534, 3) := by decide +kernel
theorem dX11_springsOut_123 : decode cX11_springsOut 123 = .ok (.putfield 534, 3) := by decide +kernel
theorem dX11_springsOut_126 : decode cX11_springsOut 126 = .ok (.iinc 6 1, 3) := by decide +kernel
theorem dX11_springsOut_129 : decode cX11_springsOut 129 = .ok (.goto (-98), 3) := by decide +kernel
theorem dX11_springsOut_132 : decode cX11_springsOut 132 = .ok (.iload 4, 2) := by decide +kernel
theorem dX11_springsOut_134 : decode cX11_springsOut 134 = .ok (.ifCond .ne 18, 3) := by decide +kernel
theorem dX11_springsOut_137 : decode cX11_springsOut 137 = .ok (.aload_n 0, 1) := by decide +kernel
theorem dX11_springsOut_138 : decode cX11_springsOut 138 = .ok (.aload_n 0, 1) := by decide +kernel
theorem dX11_springsOut_139 : decode cX11_springsOut 139 = .ok (.getfield 534, 3) := by decide +kernel
theorem dX11_springsOut_142 : decode cX11_springsOut 142 = .ok (.invokevirtual 353, 3) := by decide +kernel
theorem dX11_springsOut_145 : decode cX11_springsOut 145 = .ok (.ifCond .ne 7, 3) := by decide +kernel
theorem dX11_springsOut_148 : decode cX11_springsOut 148 = .ok (.iload 5, 2) := by decide +kernel
theorem dX11_springsOut_150 : decode cX11_springsOut 150 = .ok (.istore 4, 2) := by decide +kernel
theorem dX11_springsOut_152 : decode cX11_springsOut 152 = .ok (.iinc 5 1, 3) := by decide +kernel
theorem dX11_springsOut_155 : decode cX11_springsOut 155 = .ok (.goto (-133), 3) := by decide +kernel
theorem dX11_springsOut_158 : decode cX11_springsOut 158 = .ok (.iload 4, 2) := by decide +kernel
theorem dX11_springsOut_160 : decode cX11_springsOut 160 = .ok (.ireturn, 1) := by decide +kernel
theorem dX11_isSeed_0 : decode cX11_isSeed 0 = .ok (.iload_n 0, 1) := by decide +kernel
theorem dX11_isSeed_1 : decode cX11_isSeed 1 = .ok (.i2l, 1) := by decide +kernel
theorem dX11_isSeed_2 : decode cX11_isSeed 2 = .ok (.lconst 0, 1) := by decide +kernel
theorem dX11_isSeed_3 : decode cX11_isSeed 3 = .ok (.ldc2_w 540, 3) := by decide +kernel
theorem dX11_isSeed_6 : decode cX11_isSeed 6 = .ok (.invokestatic 84, 3) := by decide +kernel
theorem dX11_isSeed_9 : decode cX11_isSeed 9 = .ok (.ireturn, 1) := by decide +kernel
theorem dX11_run_0 : decode cX11_run 0 = .ok (.iload_n 1, 1) := by decide +kernel
theorem dX11_run_1 : decode cX11_run 1 = .ok (.invokestatic 542, 3) := by decide +kernel
theorem dX11_run_4 : decode cX11_run 4 = .ok (.ifCond .eq 22, 3) := by decide +kernel
theorem dX11_run_7 : decode cX11_run 7 = .ok (.iload_n 2, 1) := by decide +kernel
theorem dX11_run_8 : decode cX11_run 8 = .ok (.i2l, 1) := by decide +kernel
theorem dX11_run_9 : decode cX11_run 9 = .ok (.lconst 0, 1) := by decide +kernel
theorem dX11_run_10 : decode cX11_run 10 = .ok (.ldc2_w 514, 3) := by decide +kernel
theorem dX11_run_13 : decode cX11_run 13 = .ok (.invokestatic 84, 3) := by decide +kernel
theorem dX11_run_16 : decode cX11_run 16 = .ok (.ifCond .eq 10, 3) := by decide +kernel
theorem dX11_run_19 : decode cX11_run 19 = .ok (.aload_n 0, 1) := by decide +kernel
theorem dX11_run_20 : decode cX11_run 20 = .ok (.invokevirtual 271, 3) := by decide +kernel
theorem dX11_run_23 : decode cX11_run 23 = .ok (.ifCond .ne 6, 3) := by decide +kernel
theorem dX11_run_26 : decode cX11_run 26 = .ok (.bipush (-2), 2) := by decide +kernel
theorem dX11_run_28 : decode cX11_run 28 = .ok (.ireturn, 1) := by decide +kernel
theorem dX11_run_29 : decode cX11_run 29 = .ok (.aload_n 0, 1) := by decide +kernel
theorem dX11_run_30 : decode cX11_run 30 = .ok (.aload_n 0, 1) := by decide +kernel
theorem dX11_run_31 : decode cX11_run 31 = .ok (.iload_n 1, 1) := by decide +kernel
theorem dX11_run_32 : decode cX11_run 32 = .ok (.i2l, 1) := by decide +kernel
theorem dX11_run_33 : decode cX11_run 33 = .ok (.iload_n 2, 1) := by decide +kernel
theorem dX11_run_34 : decode cX11_run 34 = .ok (.invokevirtual 545, 3) := by decide +kernel
theorem dX11_run_37 : decode cX11_run 37 = .ok (.putfield 264, 3) := by decide +kernel
theorem dX11_run_40 : decode cX11_run 40 = .ok (.aload_n 0, 1) := by decide +kernel
theorem dX11_run_41 : decode cX11_run 41 = .ok (.getfield 13, 3) := by decide +kernel
theorem dX11_run_44 : decode cX11_run 44 = .ok (.bipush 18, 2) := by decide +kernel
theorem dX11_run_46 : decode cX11_run 46 = .ok (.aload_n 0, 1) := by decide +kernel
theorem dX11_run_47 : decode cX11_run 47 = .ok (.getfield 534, 3) := by decide +kernel
theorem dX11_run_50 : decode cX11_run 50 = .ok (.iastore, 1) := by decide +kernel
theorem dX11_run_51 : decode cX11_run 51 = .ok (.aload_n 0, 1) := by decide +kernel
theorem dX11_run_52 : decode cX11_run 52 = .ok (.getfield 534, 3) := by decide +kernel
theorem dX11_run_55 : decode cX11_run 55 = .ok (.ireturn, 1) := by decide +kernel
theorem dX11_struck_0 : decode cX11_struck 0 = .ok (.aload_n 0, 1) := by decide +kernel
theorem dX11_struck_1 : decode cX11_struck 1 = .ok (.getfield 264, 3) := by decide +kernel
theorem dX11_struck_4 : decode cX11_struck 4 = .ok (.ireturn, 1) := by decide +kernel
theorem dX11_springs_0 : decode cX11_springs 0 = .ok (.iload_n 1, 1) := by decide +kernel
theorem dX11_springs_1 : decode cX11_springs 1 = .ok (.invokestatic 542, 3) := by decide +kernel
theorem dX11_springs_4 : decode cX11_springs 4 = .ok (.ifCond .eq 34, 3) := by decide +kernel
theorem dX11_springs_7 : decode cX11_springs 7 = .ok (.iload_n 2, 1) := by decide +kernel
theorem dX11_springs_8 : decode cX11_springs 8 = .ok (.i2l, 1) := by decide +kernel
theorem dX11_springs_9 : decode cX11_springs 9 = .ok (.lconst 1, 1) := by decide +kernel
theorem dX11_springs_10 : decode cX11_springs 10 = .ok (.ldc2_w 479, 3) := by decide +kernel
theorem dX11_springs_13 : decode cX11_springs 13 = .ok (.invokestatic 84, 3) := by decide +kernel
theorem dX11_springs_16 : decode cX11_springs 16 = .ok (.ifCond .eq 22, 3) := by decide +kernel
theorem dX11_springs_19 : decode cX11_springs 19 = .ok (.iload_n 3, 1) := by decide +kernel
theorem dX11_springs_20 : decode cX11_springs 20 = .ok (.i2l, 1) := by decide +kernel
theorem dX11_springs_21 : decode cX11_springs 21 = .ok (.lconst 0, 1) := by decide +kernel
theorem dX11_springs_22 : decode cX11_springs 22 = .ok (.ldc2_w 514, 3) := by decide +kernel
theorem dX11_springs_25 : decode cX11_springs 25 = .ok (.invokestatic 84, 3) := by decide +kernel
theorem dX11_springs_28 : decode cX11_springs 28 = .ok (.ifCond .eq 10, 3) := by decide +kernel
theorem dX11_springs_31 : decode cX11_springs 31 = .ok (.aload_n 0, 1) := by decide +kernel
theorem dX11_springs_32 : decode cX11_springs 32 = .ok (.invokevirtual 271, 3) := by decide +kernel
theorem dX11_springs_35 : decode cX11_springs 35 = .ok (.ifCond .ne 6, 3) := by decide +kernel
theorem dX11_springs_38 : decode cX11_springs 38 = .ok (.bipush (-2), 2) := by decide +kernel
theorem dX11_springs_40 : decode cX11_springs 40 = .ok (.ireturn, 1) := by decide +kernel
theorem dX11_springs_41 : decode cX11_springs 41 = .ok (.iconst 0, 1) := by decide +kernel
theorem dX11_springs_42 : decode cX11_springs 42 = .ok (.istore 4, 2) := by decide +kernel
theorem dX11_springs_44 : decode cX11_springs 44 = .ok (.iconst 0, 1) := by decide +kernel
theorem dX11_springs_45 : decode cX11_springs 45 = .ok (.istore 5, 2) := by decide +kernel
theorem dX11_springs_47 : decode cX11_springs 47 = .ok (.iload 5, 2) := by decide +kernel
theorem dX11_springs_49 : decode cX11_springs 49 = .ok (.iload_n 2, 1) := by decide +kernel
theorem dX11_springs_50 : decode cX11_springs 50 = .ok (.if_icmp .ge 33, 3) := by decide +kernel
theorem dX11_springs_53 : decode cX11_springs 53 = .ok (.iload 4, 2) := by decide +kernel
theorem dX11_springs_55 : decode cX11_springs 55 = .ok (.aload_n 0, 1) := by decide +kernel
theorem dX11_springs_56 : decode cX11_springs 56 = .ok (.iload_n 1, 1) := by decide +kernel
theorem dX11_springs_57 : decode cX11_springs 57 = .ok (.i2l, 1) := by decide +kernel
theorem dX11_springs_58 : decode cX11_springs 58 = .ok (.iload 5, 2) := by decide +kernel
theorem dX11_springs_60 : decode cX11_springs 60 = .ok (.i2l, 1) := by decide +kernel
theorem dX11_springs_61 : decode cX11_springs 61 = .ok (.ladd, 1) := by decide +kernel
theorem dX11_springs_62 : decode cX11_springs 62 = .ok (.iload_n 3, 1) := by decide +kernel
theorem dX11_springs_63 : decode cX11_springs 63 = .ok (.invokevirtual 545, 3) := by decide +kernel
theorem dX11_springs_66 : decode cX11_springs 66 = .ok (.ifCond .le 7, 3) := by decide +kernel
theorem dX11_springs_69 : decode cX11_springs 69 = .ok (.iconst 1, 1) := by decide +kernel
theorem dX11_springs_70 : decode cX11_springs 70 = .ok (.goto 4, 3) := by decide +kernel
theorem dX11_springs_73 : decode cX11_springs 73 = .ok (.iconst 0, 1) := by decide +kernel
theorem dX11_springs_74 : decode cX11_springs 74 = .ok (.iadd, 1) := by decide +kernel
theorem dX11_springs_75 : decode cX11_springs 75 = .ok (.istore 4, 2) := by decide +kernel
theorem dX11_springs_77 : decode cX11_springs 77 = .ok (.iinc 5 1, 3) := by decide +kernel
theorem dX11_springs_80 : decode cX11_springs 80 = .ok (.goto (-33), 3) := by decide +kernel
theorem dX11_springs_83 : decode cX11_springs 83 = .ok (.iload 4, 2) := by decide +kernel
theorem dX11_springs_85 : decode cX11_springs 85 = .ok (.ireturn, 1) := by decide +kernel
theorem dX11_count_0 : decode cX11_count 0 = .ok (.iconst 0, 1) := by decide +kernel
theorem dX11_count_1 : decode cX11_count 1 = .ok (.istore_n 2, 1) := by decide +kernel
theorem dX11_count_2 : decode cX11_count 2 = .ok (.iload_n 1, 1) := by decide +kernel
theorem dX11_count_3 : decode cX11_count 3 = .ok (.tableswitch 191 0 13 #[69, 76, 83, 90, 97, 104, 112, 120, 125, 133, 140, 145, 153, 158], 69) := by decide +kernel
theorem dX11_count_72 : decode cX11_count 72 = .ok (.aload_n 0, 1) := by decide +kernel
theorem dX11_count_73 : decode cX11_count 73 = .ok (.getfield 13, 3) := by decide +kernel
theorem dX11_count_76 : decode cX11_count 76 = .ok (.iconst 1, 1) := by decide +kernel
theorem dX11_count_77 : decode cX11_count 77 = .ok (.iaload, 1) := by decide +kernel
theorem dX11_count_78 : decode cX11_count 78 = .ok (.ireturn, 1) := by decide +kernel
theorem dX11_count_79 : decode cX11_count 79 = .ok (.aload_n 0, 1) := by decide +kernel
theorem dX11_count_80 : decode cX11_count 80 = .ok (.getfield 13, 3) := by decide +kernel
theorem dX11_count_83 : decode cX11_count 83 = .ok (.iconst 2, 1) := by decide +kernel
theorem dX11_count_84 : decode cX11_count 84 = .ok (.iaload, 1) := by decide +kernel
theorem dX11_count_85 : decode cX11_count 85 = .ok (.ireturn, 1) := by decide +kernel
theorem dX11_count_86 : decode cX11_count 86 = .ok (.aload_n 0, 1) := by decide +kernel
theorem dX11_count_87 : decode cX11_count 87 = .ok (.getfield 13, 3) := by decide +kernel
theorem dX11_count_90 : decode cX11_count 90 = .ok (.iconst 3, 1) := by decide +kernel
theorem dX11_count_91 : decode cX11_count 91 = .ok (.iaload, 1) := by decide +kernel
theorem dX11_count_92 : decode cX11_count 92 = .ok (.ireturn, 1) := by decide +kernel
theorem dX11_count_93 : decode cX11_count 93 = .ok (.aload_n 0, 1) := by decide +kernel
theorem dX11_count_94 : decode cX11_count 94 = .ok (.getfield 13, 3) := by decide +kernel
theorem dX11_count_97 : decode cX11_count 97 = .ok (.iconst 4, 1) := by decide +kernel
theorem dX11_count_98 : decode cX11_count 98 = .ok (.iaload, 1) := by decide +kernel
theorem dX11_count_99 : decode cX11_count 99 = .ok (.ireturn, 1) := by decide +kernel
theorem dX11_count_100 : decode cX11_count 100 = .ok (.aload_n 0, 1) := by decide +kernel
theorem dX11_count_101 : decode cX11_count 101 = .ok (.getfield 13, 3) := by decide +kernel
theorem dX11_count_104 : decode cX11_count 104 = .ok (.iconst 5, 1) := by decide +kernel
theorem dX11_count_105 : decode cX11_count 105 = .ok (.iaload, 1) := by decide +kernel
theorem dX11_count_106 : decode cX11_count 106 = .ok (.ireturn, 1) := by decide +kernel
theorem dX11_count_107 : decode cX11_count 107 = .ok (.aload_n 0, 1) := by decide +kernel
theorem dX11_count_108 : decode cX11_count 108 = .ok (.getfield 13, 3) := by decide +kernel
theorem dX11_count_111 : decode cX11_count 111 = .ok (.bipush 6, 2) := by decide +kernel
theorem dX11_count_113 : decode cX11_count 113 = .ok (.iaload, 1) := by decide +kernel
theorem dX11_count_114 : decode cX11_count 114 = .ok (.ireturn, 1) := by decide +kernel
theorem dX11_count_115 : decode cX11_count 115 = .ok (.aload_n 0, 1) := by decide +kernel
theorem dX11_count_116 : decode cX11_count 116 = .ok (.getfield 13, 3) := by decide +kernel
theorem dX11_count_119 : decode cX11_count 119 = .ok (.bipush 7, 2) := by decide +kernel
theorem dX11_count_121 : decode cX11_count 121 = .ok (.iaload, 1) := by decide +kernel
theorem dX11_count_122 : decode cX11_count 122 = .ok (.ireturn, 1) := by decide +kernel
theorem dX11_count_123 : decode cX11_count 123 = .ok (.aload_n 0, 1) := by decide +kernel
theorem dX11_count_124 : decode cX11_count 124 = .ok (.invokevirtual 413, 3) := by decide +kernel
theorem dX11_count_127 : decode cX11_count 127 = .ok (.ireturn, 1) := by decide +kernel
theorem dX11_count_128 : decode cX11_count 128 = .ok (.aload_n 0, 1) := by decide +kernel
theorem dX11_count_129 : decode cX11_count 129 = .ok (.getfield 13, 3) := by decide +kernel
theorem dX11_count_132 : decode cX11_count 132 = .ok (.bipush 18, 2) := by decide +kernel
theorem dX11_count_134 : decode cX11_count 134 = .ok (.iaload, 1) := by decide +kernel
theorem dX11_count_135 : decode cX11_count 135 = .ok (.ireturn, 1) := by decide +kernel
theorem dX11_count_136 : decode cX11_count 136 = .ok (.aload_n 0, 1) := by decide +kernel
theorem dX11_count_137 : decode cX11_count 137 = .ok (.getfield 13, 3) := by decide +kernel
theorem dX11_count_140 : decode cX11_count 140 = .ok (.iconst 0, 1) := by decide +kernel
theorem dX11_count_141 : decode cX11_count 141 = .ok (.iaload, 1) := by decide +kernel
theorem dX11_count_142 : decode cX11_count 142 = .ok (.ireturn, 1) := by decide +kernel
theorem dX11_count_143 : decode cX11_count 143 = .ok (.aload_n 0, 1) := by decide +kernel
theorem dX11_count_144 : decode cX11_count 144 = .ok (.getfield 92, 3) := by decide +kernel
theorem dX11_count_147 : decode cX11_count 147 = .ok (.ireturn, 1) := by decide +kernel
theorem dX11_count_148 : decode cX11_count 148 = .ok (.aload_n 0, 1) := by decide +kernel
theorem dX11_count_149 : decode cX11_count 149 = .ok (.getfield 13, 3) := by decide +kernel
theorem dX11_count_152 : decode cX11_count 152 = .ok (.bipush 19, 2) := by decide +kernel
theorem dX11_count_154 : decode cX11_count 154 = .ok (.iaload, 1) := by decide +kernel
theorem dX11_count_155 : decode cX11_count 155 = .ok (.ireturn, 1) := by decide +kernel
theorem dX11_count_156 : decode cX11_count 156 = .ok (.aload_n 0, 1) := by decide +kernel
theorem dX11_count_157 : decode cX11_count 157 = .ok (.invokevirtual 308, 3) := by decide +kernel
theorem dX11_count_160 : decode cX11_count 160 = .ok (.ireturn, 1) := by decide +kernel
theorem dX11_count_161 : decode cX11_count 161 = .ok (.iconst 0, 1) := by decide +kernel
theorem dX11_count_162 : decode cX11_count 162 = .ok (.istore_n 3, 1) := by decide +kernel
theorem dX11_count_163 : decode cX11_count 163 = .ok (.iload_n 3, 1) := by decide +kernel
theorem dX11_count_164 : decode cX11_count 164 = .ok (.iconst 4, 1) := by decide +kernel
theorem dX11_count_165 : decode cX11_count 165 = .ok (.if_icmp .ge 27, 3) := by decide +kernel
theorem dX11_count_168 : decode cX11_count 168 = .ok (.iload_n 2, 1) := by decide +kernel
theorem dX11_count_169 : decode cX11_count 169 = .ok (.aload_n 0, 1) := by decide +kernel
theorem dX11_count_170 : decode cX11_count 170 = .ok (.getfield 66, 3) := by decide +kernel
theorem dX11_count_173 : decode cX11_count 173 = .ok (.iload_n 3, 1) := by decide +kernel
theorem dX11_count_174 : decode cX11_count 174 = .ok (.iaload, 1) := by decide +kernel
theorem dX11_count_175 : decode cX11_count 175 = .ok (.iconst (-1), 1) := by decide +kernel
theorem dX11_count_176 : decode cX11_count 176 = .ok (.if_icmp .ne 7, 3) := by decide +kernel
theorem dX11_count_179 : decode cX11_count 179 = .ok (.iconst 0, 1) := by decide +kernel
theorem dX11_count_180 : decode cX11_count 180 = .ok (.goto 4, 3) := by decide +kernel
theorem dX11_count_183 : decode cX11_count 183 = .ok (.iconst 1, 1) := by decide +kernel
theorem dX11_count_184 : decode cX11_count 184 = .ok (.iadd, 1) := by decide +kernel
theorem dX11_count_185 : decode cX11_count 185 = .ok (.istore_n 2, 1) := by decide +kernel
theorem dX11_count_186 : decode cX11_count 186 = .ok (.iinc 3 1, 3) := by decide +kernel
theorem dX11_count_189 : decode cX11_count 189 = .ok (.goto (-26), 3) := by decide +kernel
theorem dX11_count_192 : decode cX11_count 192 = .ok (.iload_n 2, 1) := by decide +kernel
theorem dX11_count_193 : decode cX11_count 193 = .ok (.ireturn, 1) := by decide +kernel
theorem dX11_count_194 : decode cX11_count 194 = .ok (.iconst (-1), 1) := by decide +kernel
theorem dX11_count_195 : decode cX11_count 195 = .ok (.ireturn, 1) := by decide +kernel
theorem dX11_isSlot_0 : decode cX11_isSlot 0 = .ok (.iload_n 0, 1) := by decide +kernel
theorem dX11_isSlot_1 : decode cX11_isSlot 1 = .ok (.i2l, 1) := by decide +kernel
theorem dX11_isSlot_2 : decode cX11_isSlot 2 = .ok (.lconst 0, 1) := by decide +kernel
theorem dX11_isSlot_3 : decode cX11_isSlot 3 = .ok (.ldc2_w 269, 3) := by decide +kernel
theorem dX11_isSlot_6 : decode cX11_isSlot 6 = .ok (.invokestatic 84, 3) := by decide +kernel
theorem dX11_isSlot_9 : decode cX11_isSlot 9 = .ok (.ireturn, 1) := by decide +kernel
theorem dX11_cut_0 : decode cX11_cut 0 = .ok (.bipush 64, 2) := by decide +kernel
theorem dX11_cut_2 : decode cX11_cut 2 = .ok (.bipush 8, 2) := by decide +kernel
theorem dX11_cut_4 : decode cX11_cut 4 = .ok (.iload_n 2, 1) := by decide +kernel
theorem dX11_cut_5 : decode cX11_cut 5 = .ok (.ishl, 1) := by decide +kernel
theorem dX11_cut_6 : decode cX11_cut 6 = .ok (.isub, 1) := by decide +kernel
theorem dX11_cut_7 : decode cX11_cut 7 = .ok (.istore_n 3, 1) := by decide +kernel
theorem dX11_cut_8 : decode cX11_cut 8 = .ok (.lload_n 0, 1) := by decide +kernel
theorem dX11_cut_9 : decode cX11_cut 9 = .ok (.iload_n 3, 1) := by decide +kernel
theorem dX11_cut_10 : decode cX11_cut 10 = .ok (.lshl, 1) := by decide +kernel
theorem dX11_cut_11 : decode cX11_cut 11 = .ok (.iload_n 3, 1) := by decide +kernel
theorem dX11_cut_12 : decode cX11_cut 12 = .ok (.lshr, 1) := by decide +kernel
theorem dX11_cut_13 : decode cX11_cut 13 = .ok (.lreturn, 1) := by decide +kernel
theorem dX11_row_0 : decode cX11_row 0 = .ok (.iload_n 1, 1) := by decide +kernel
theorem dX11_row_1 : decode cX11_row 1 = .ok (.invokestatic 392, 3) := by decide +kernel
theorem dX11_row_4 : decode cX11_row 4 = .ok (.ifCond .eq 21, 3) := by decide +kernel
theorem dX11_row_7 : decode cX11_row 7 = .ok (.iload_n 2, 1) := by decide +kernel
theorem dX11_row_8 : decode cX11_row 8 = .ok (.i2l, 1) := by decide +kernel
theorem dX11_row_9 : decode cX11_row 9 = .ok (.lconst 0, 1) := by decide +kernel
theorem dX11_row_10 : decode cX11_row 10 = .ok (.ldc2_w 269, 3) := by decide +kernel
theorem dX11_row_13 : decode cX11_row 13 = .ok (.invokestatic 84, 3) := by decide +kernel
theorem dX11_row_16 : decode cX11_row 16 = .ok (.ifCond .eq 9, 3) := by decide +kernel
theorem dX11_row_19 : decode cX11_row 19 = .ok (.iload_n 3, 1) := by decide +kernel
theorem dX11_row_20 : decode cX11_row 20 = .ok (.bipush 60, 2) := by decide +kernel
theorem dX11_row_22 : decode cX11_row 22 = .ok (.if_icmp .le 6, 3) := by decide +kernel
theorem dX11_row_25 : decode cX11_row 25 = .ok (.bipush (-2), 2) := by decide +kernel
theorem dX11_row_27 : decode cX11_row 27 = .ok (.ireturn, 1) := by decide +kernel
theorem dX11_row_28 : decode cX11_row 28 = .ok (.iload_n 3, 1) := by decide +kernel
theorem dX11_row_29 : decode cX11_row 29 = .ok (.ifCond .ge 6, 3) := by decide +kernel
theorem dX11_row_32 : decode cX11_row 32 = .ok (.bipush (-3), 2) := by decide +kernel
theorem dX11_row_34 : decode cX11_row 34 = .ok (.ireturn, 1) := by decide +kernel
theorem dX11_row_35 : decode cX11_row 35 = .ok (.aload_n 0, 1) := by decide +kernel
theorem dX11_row_36 : decode cX11_row 36 = .ok (.getfield 66, 3) := by decide +kernel
theorem dX11_row_39 : decode cX11_row 39 = .ok (.iload_n 1, 1) := by decide +kernel
theorem dX11_row_40 : decode cX11_row 40 = .ok (.iload_n 3, 1) := by decide +kernel
theorem dX11_row_41 : decode cX11_row 41 = .ok (.iastore, 1) := by decide +kernel
theorem dX11_row_42 : decode cX11_row 42 = .ok (.aload_n 0, 1) := by decide +kernel
theorem dX11_row_43 : decode cX11_row 43 = .ok (.getfield 69, 3) := by decide +kernel
theorem dX11_row_46 : decode cX11_row 46 = .ok (.iload_n 1, 1) := by decide +kernel
theorem dX11_row_47 : decode cX11_row 47 = .ok (.iload_n 2, 1) := by decide +kernel
theorem dX11_row_48 : decode cX11_row 48 = .ok (.iastore, 1) := by decide +kernel
theorem dX11_row_49 : decode cX11_row 49 = .ok (.iconst 0, 1) := by decide +kernel
theorem dX11_row_50 : decode cX11_row 50 = .ok (.istore 4, 2) := by decide +kernel
theorem dX11_row_52 : decode cX11_row 52 = .ok (.iload 4, 2) := by decide +kernel
theorem dX11_row_54 : decode cX11_row 54 = .ok (.bipush 60, 2) := by decide +kernel
theorem dX11_row_56 : decode cX11_row 56 = .ok (.if_icmp .ge 22, 3) := by decide +kernel
theorem dX11_row_59 : decode cX11_row 59 = .ok (.aload_n 0, 1) := by decide +kernel
theorem dX11_row_60 : decode cX11_row 60 = .ok (.getfield 72, 3) := by decide +kernel
theorem dX11_row_63 : decode cX11_row 63 = .ok (.bipush 60, 2) := by decide +kernel
theorem dX11_row_65 : decode cX11_row 65 = .ok (.iload_n 1, 1) := by decide +kernel
theorem dX11_row_66 : decode cX11_row 66 = .ok (.imul, 1) := by decide +kernel
theorem dX11_row_67 : decode cX11_row 67 = .ok (.iload 4, 2) := by decide +kernel
theorem dX11_row_69 : decode cX11_row 69 = .ok (.iadd, 1) := by decide +kernel
theorem dX11_row_70 : decode cX11_row 70 = .ok (.lconst 0, 1) := by decide +kernel
theorem dX11_row_71 : decode cX11_row 71 = .ok (.lastore, 1) := by decide +kernel
theorem dX11_row_72 : decode cX11_row 72 = .ok (.iinc 4 1, 3) := by decide +kernel
theorem dX11_row_75 : decode cX11_row 75 = .ok (.goto (-23), 3) := by decide +kernel
theorem dX11_row_78 : decode cX11_row 78 = .ok (.iconst 0, 1) := by decide +kernel
theorem dX11_row_79 : decode cX11_row 79 = .ok (.ireturn, 1) := by decide +kernel
theorem dX11_write_0 : decode cX11_write 0 = .ok (.iload_n 1, 1) := by decide +kernel
theorem dX11_write_1 : decode cX11_write 1 = .ok (.invokestatic 392, 3) := by decide +kernel
theorem dX11_write_4 : decode cX11_write 4 = .ok (.ifCond .ne 6, 3) := by decide +kernel
theorem dX11_write_7 : decode cX11_write 7 = .ok (.bipush (-2), 2) := by decide +kernel
theorem dX11_write_9 : decode cX11_write 9 = .ok (.ireturn, 1) := by decide +kernel
theorem dX11_write_10 : decode cX11_write 10 = .ok (.aload_n 0, 1) := by decide +kernel
theorem dX11_write_11 : decode cX11_write 11 = .ok (.getfield 66, 3) := by decide +kernel
theorem dX11_write_14 : decode cX11_write 14 = .ok (.iload_n 1, 1) := by decide +kernel
theorem dX11_write_15 : decode cX11_write 15 = .ok (.iaload, 1) := by decide +kernel
theorem dX11_write_16 : decode cX11_write 16 = .ok (.iconst (-1), 1) := by decide +kernel
theorem dX11_write_17 : decode cX11_write 17 = .ok (.if_icmp .ne 6, 3) := by decide +kernel
theorem dX11_write_20 : decode cX11_write 20 = .ok (.bipush (-6), 2) := by decide +kernel
theorem dX11_write_22 : decode cX11_write 22 = .ok (.ireturn, 1) := by decide +kernel
theorem dX11_write_23 : decode cX11_write 23 = .ok (.iload_n 2, 1) := by decide +kernel
theorem dX11_write_24 : decode cX11_write 24 = .ok (.i2l, 1) := by decide +kernel
theorem dX11_write_25 : decode cX11_write 25 = .ok (.lconst 0, 1) := by decide +kernel
theorem dX11_write_26 : decode cX11_write 26 = .ok (.aload_n 0, 1) := by decide +kernel
theorem dX11_write_27 : decode cX11_write 27 = .ok (.getfield 66, 3) := by decide +kernel
theorem dX11_write_30 : decode cX11_write 30 = .ok (.iload_n 1, 1) := by decide +kernel
theorem dX11_write_31 : decode cX11_write 31 = .ok (.iaload, 1) := by decide +kernel
theorem dX11_write_32 : decode cX11_write 32 = .ok (.iconst 1, 1) := by decide +kernel
theorem dX11_write_33 : decode cX11_write 33 = .ok (.isub, 1) := by decide +kernel
theorem dX11_write_34 : decode cX11_write 34 = .ok (.i2l, 1) := by decide +kernel
theorem dX11_write_35 : decode cX11_write 35 = .ok (.invokestatic 84, 3) := by decide +kernel
theorem dX11_write_38 : decode cX11_write 38 = .ok (.ifCond .ne 6, 3) := by decide +kernel
theorem dX11_write_41 : decode cX11_write 41 = .ok (.bipush (-7), 2) := by decide +kernel
theorem dX11_write_43 : decode cX11_write 43 = .ok (.ireturn, 1) := by decide +kernel
theorem dX11_write_44 : decode cX11_write 44 = .ok (.aload_n 0, 1) := by decide +kernel
theorem dX11_write_45 : decode cX11_write 45 = .ok (.getfield 72, 3) := by decide +kernel
theorem dX11_write_48 : decode cX11_write 48 = .ok (.bipush 60, 2) := by decide +kernel
theorem dX11_write_50 : decode cX11_write 50 = .ok (.iload_n 1, 1) := by decide +kernel
theorem dX11_write_51 : decode cX11_write 51 = .ok (.imul, 1) := by decide +kernel
theorem dX11_write_52 : decode cX11_write 52 = .ok (.iload_n 2, 1) := by decide +kernel
theorem dX11_write_53 : decode cX11_write 53 = .ok (.iadd, 1) := by decide +kernel
theorem dX11_write_54 : decode cX11_write 54 = .ok (.lload_n 3, 1) := by decide +kernel
theorem dX11_write_55 : decode cX11_write 55 = .ok (.aload_n 0, 1) := by decide +kernel
theorem dX11_write_56 : decode cX11_write 56 = .ok (.getfield 69, 3) := by decide +kernel
theorem dX11_write_59 : decode cX11_write 59 = .ok (.iload_n 1, 1) := by decide +kernel
theorem dX11_write_60 : decode cX11_write 60 = .ok (.iaload, 1) := by decide +kernel
theorem dX11_write_61 : decode cX11_write 61 = .ok (.invokestatic 549, 3) := by decide +kernel
theorem dX11_write_64 : decode cX11_write 64 = .ok (.lastore, 1) := by decide +kernel
theorem dX11_write_65 : decode cX11_write 65 = .ok (.iconst 0, 1) := by decide +kernel
theorem dX11_write_66 : decode cX11_write 66 = .ok (.ireturn, 1) := by decide +kernel
theorem dX11_paste_0 : decode cX11_paste 0 = .ok (.iload_n 1, 1) := by decide +kernel
theorem dX11_paste_1 : decode cX11_paste 1 = .ok (.invokestatic 392, 3) := by decide +kernel
theorem dX11_paste_4 : decode cX11_paste 4 = .ok (.ifCond .eq 10, 3) := by decide +kernel
theorem dX11_paste_7 : decode cX11_paste 7 = .ok (.iload_n 3, 1) := by decide +kernel
theorem dX11_paste_8 : decode cX11_paste 8 = .ok (.invokestatic 392, 3) := by decide +kernel
theorem dX11_paste_11 : decode cX11_paste 11 = .ok (.ifCond .ne 6, 3) := by decide +kernel
theorem dX11_paste_14 : decode cX11_paste 14 = .ok (.bipush (-2), 2) := by decide +kernel
theorem dX11_paste_16 : decode cX11_paste 16 = .ok (.ireturn, 1) := by decide +kernel
theorem dX11_paste_17 : decode cX11_paste 17 = .ok (.aload_n 0, 1) := by decide +kernel
theorem dX11_paste_18 : decode cX11_paste 18 = .ok (.getfield 66, 3) := by decide +kernel
theorem dX11_paste_21 : decode cX11_paste 21 = .ok (.iload_n 1, 1) := by decide +kernel
theorem dX11_paste_22 : decode cX11_paste 22 = .ok (.iaload, 1) := by decide +kernel
theorem dX11_paste_23 : decode cX11_paste 23 = .ok (.iconst (-1), 1) := by decide +kernel
theorem dX11_paste_24 : decode cX11_paste 24 = .ok (.if_icmp .eq 13, 3) := by decide +kernel
theorem dX11_paste_27 : decode cX11_paste 27 = .ok (.aload_n 0, 1) := by decide +kernel
theorem dX11_paste_28 : decode cX11_paste 28 = .ok (.getfield 66, 3) := by decide +kernel
theorem dX11_paste_31 : decode cX11_paste 31 = .ok (.iload_n 3, 1) := by decide +kernel
theorem dX11_paste_32 : decode cX11_paste 32 = .ok (.iaload, 1) := by decide +kernel
theorem dX11_paste_33 : decode cX11_paste 33 = .ok (.iconst (-1), 1) := by decide +kernel
theorem dX11_paste_34 : decode cX11_paste 34 = .ok (.if_icmp .ne 6, 3) := by decide +kernel
theorem dX11_paste_37 : decode cX11_paste 37 = .ok (.bipush (-6), 2) := by decide +kernel
theorem dX11_paste_39 : decode cX11_paste 39 = .ok (.ireturn, 1) := by decide +kernel
theorem dX11_paste_40 : decode cX11_paste 40 = .ok (.aload_n 0, 1) := by decide +kernel
theorem dX11_paste_41 : decode cX11_paste 41 = .ok (.getfield 69, 3) := by decide +kernel
theorem dX11_paste_44 : decode cX11_paste 44 = .ok (.iload_n 1, 1) := by decide +kernel
theorem dX11_paste_45 : decode cX11_paste 45 = .ok (.iaload, 1) := by decide +kernel
theorem dX11_paste_46 : decode cX11_paste 46 = .ok (.aload_n 0, 1) := by decide +kernel
theorem dX11_paste_47 : decode cX11_paste 47 = .ok (.getfield 69, 3) := by decide +kernel
theorem dX11_paste_50 : decode cX11_paste 50 = .ok (.iload_n 3, 1) := by decide +kernel
theorem dX11_paste_51 : decode cX11_paste 51 = .ok (.iaload, 1) := by decide +kernel
theorem dX11_paste_52 : decode cX11_paste 52 = .ok (.if_icmp .eq 6, 3) := by decide +kernel
theorem dX11_paste_55 : decode cX11_paste 55 = .ok (.bipush (-8), 2) := by decide +kernel
theorem dX11_paste_57 : decode cX11_paste 57 = .ok (.ireturn, 1) := by decide +kernel
theorem dX11_paste_58 : decode cX11_paste 58 = .ok (.iload_n 2, 1) := by decide +kernel
theorem dX11_paste_59 : decode cX11_paste 59 = .ok (.ifCond .lt 48, 3) := by decide +kernel
theorem dX11_paste_62 : decode cX11_paste 62 = .ok (.iload 4, 2) := by decide +kernel
theorem dX11_paste_64 : decode cX11_paste 64 = .ok (.ifCond .lt 43, 3) := by decide +kernel
theorem dX11_paste_67 : decode cX11_paste 67 = .ok (.iload 5, 2) := by decide +kernel
theorem dX11_paste_69 : decode cX11_paste 69 = .ok (.ifCond .lt 38, 3) := by decide +kernel
theorem dX11_paste_72 : decode cX11_paste 72 = .ok (.iload_n 2, 1) := by decide +kernel
theorem dX11_paste_73 : decode cX11_paste 73 = .ok (.i2l, 1) := by decide +kernel
theorem dX11_paste_74 : decode cX11_paste 74 = .ok (.iload 5, 2) := by decide +kernel
theorem dX11_paste_76 : decode cX11_paste 76 = .ok (.i2l, 1) := by decide +kernel
theorem dX11_paste_77 : decode cX11_paste 77 = .ok (.ladd, 1) := by decide +kernel
theorem dX11_paste_78 : decode cX11_paste 78 = .ok (.aload_n 0, 1) := by decide +kernel
theorem dX11_paste_79 : decode cX11_paste 79 = .ok (.getfield 66, 3) := by decide +kernel
theorem dX11_paste_82 : decode cX11_paste 82 = .ok (.iload_n 1, 1) := by decide +kernel
theorem dX11_paste_83 : decode cX11_paste 83 = .ok (.iaload, 1) := by decide +kernel
theorem dX11_paste_84 : decode cX11_paste 84 = .ok (.i2l, 1) := by decide +kernel
theorem dX11_paste_85 : decode cX11_paste 85 = .ok (.lcmp, 1) := by decide +kernel
theorem dX11_paste_86 : decode cX11_paste 86 = .ok (.ifCond .gt 21, 3) := by decide +kernel
theorem dX11_paste_89 : decode cX11_paste 89 = .ok (.iload 4, 2) := by decide +kernel
theorem dX11_paste_91 : decode cX11_paste 91 = .ok (.i2l, 1) := by decide +kernel
theorem dX11_paste_92 : decode cX11_paste 92 = .ok (.iload 5, 2) := by decide +kernel
theorem dX11_paste_94 : decode cX11_paste 94 = .ok (.i2l, 1) := by decide +kernel
theorem dX11_paste_95 : decode cX11_paste 95 = .ok (.ladd, 1) := by decide +kernel
theorem dX11_paste_96 : decode cX11_paste 96 = .ok (.aload_n 0, 1) := by decide +kernel
theorem dX11_paste_97 : decode cX11_paste 97 = .ok (.getfield 66, 3) := by decide +kernel
theorem dX11_paste_100 : decode cX11_paste 100 = .ok (.iload_n 3, 1) := by decide +kernel
theorem dX11_paste_101 : decode cX11_paste 101 = .ok (.iaload, 1) := by decide +kernel
theorem dX11_paste_102 : decode cX11_paste 102 = .ok (.i2l, 1) := by decide +kernel
theorem dX11_paste_103 : decode cX11_paste 103 = .ok (.lcmp, 1) := by decide +kernel
theorem dX11_paste_104 : decode cX11_paste 104 = .ok (.ifCond .le 6, 3) := by decide +kernel
theorem dX11_paste_107 : decode cX11_paste 107 = .ok (.bipush (-7), 2) := by decide +kernel
theorem dX11_paste_109 : decode cX11_paste 109 = .ok (.ireturn, 1) := by decide +kernel
theorem dX11_paste_110 : decode cX11_paste 110 = .ok (.iconst 0, 1) := by decide +kernel
theorem dX11_paste_111 : decode cX11_paste 111 = .ok (.istore 6, 2) := by decide +kernel
theorem dX11_paste_113 : decode cX11_paste 113 = .ok (.iload 6, 2) := by decide +kernel
theorem dX11_paste_115 : decode cX11_paste 115 = .ok (.iload 5, 2) := by decide +kernel
theorem dX11_paste_117 : decode cX11_paste 117 = .ok (.if_icmp .ge 30, 3) := by decide +kernel
theorem dX11_paste_120 : decode cX11_paste 120 = .ok (.aload_n 0, 1) := by decide +kernel
theorem dX11_paste_121 : decode cX11_paste 121 = .ok (.getfield 75, 3) := by decide +kernel
theorem dX11_paste_124 : decode cX11_paste 124 = .ok (.iload 6, 2) := by decide +kernel
theorem dX11_paste_126 : decode cX11_paste 126 = .ok (.aload_n 0, 1) := by decide +kernel
theorem dX11_paste_127 : decode cX11_paste 127 = .ok (.getfield 72, 3) := by decide +kernel
theorem dX11_paste_130 : decode cX11_paste 130 = .ok (.bipush 60, 2) := by decide +kernel
theorem dX11_paste_132 : decode cX11_paste 132 = .ok (.iload_n 1, 1) := by decide +kernel
theorem dX11_paste_133 : decode cX11_paste 133 = .ok (.imul, 1) := by decide +kernel
theorem dX11_paste_134 : decode cX11_paste 134 = .ok (.iload_n 2, 1) := by decide +kernel
theorem dX11_paste_135 : decode cX11_paste 135 = .ok (.iadd, 1) := by decide +kernel
theorem dX11_paste_136 : decode cX11_paste 136 = .ok (.iload 6, 2) := by decide +kernel
theorem dX11_paste_138 : decode cX11_paste 138 = .ok (.iadd, 1) := by decide +kernel
theorem dX11_paste_139 : decode cX11_paste 139 = .ok (.laload, 1) := by decide +kernel
theorem dX11_paste_140 : decode cX11_paste 140 = .ok (.lastore, 1) := by decide +kernel
theorem dX11_paste_141 : decode cX11_paste 141 = .ok (.iinc 6 1, 3) := by decide +kernel
theorem dX11_paste_144 : decode cX11_paste 144 = .ok (.goto (-31), 3) := by decide +kernel
theorem dX11_paste_147 : decode cX11_paste 147 = .ok (.iconst 0, 1) := by decide +kernel
theorem dX11_paste_148 : decode cX11_paste 148 = .ok (.istore 6, 2) := by decide +kernel
theorem dX11_paste_150 : decode cX11_paste 150 = .ok (.iload 6, 2) := by decide +kernel
theorem dX11_paste_152 : decode cX11_paste 152 = .ok (.iload 5, 2) := by decide +kernel
theorem dX11_paste_154 : decode cX11_paste 154 = .ok (.if_icmp .ge 31, 3) := by decide +kernel
theorem dX11_paste_157 : decode cX11_paste 157 = .ok (.aload_n 0, 1) := by decide +kernel
theorem dX11_paste_158 : decode cX11_paste 158 = .ok (.getfield 72, 3) := by decide +kernel
theorem dX11_paste_161 : decode cX11_paste 161 = .ok (.bipush 60, 2) := by decide +kernel
theorem dX11_paste_163 : decode cX11_paste 163 = .ok (.iload_n 3, 1) := by decide +kernel
theorem dX11_paste_164 : decode cX11_paste 164 = .ok (.imul, 1) := by decide +kernel
theorem dX11_paste_165 : decode cX11_paste 165 = .ok (.iload 4, 2) := by decide +kernel
theorem dX11_paste_167 : decode cX11_paste 167 = .ok (.iadd, 1) := by decide +kernel
theorem dX11_paste_168 : decode cX11_paste 168 = .ok (.iload 6, 2) := by decide +kernel
theorem dX11_paste_170 : decode cX11_paste 170 = .ok (.iadd, 1) := by decide +kernel
theorem dX11_paste_171 : decode cX11_paste 171 = .ok (.aload_n 0, 1) := by decide +kernel
theorem dX11_paste_172 : decode cX11_paste 172 = .ok (.getfield 75, 3) := by decide +kernel
theorem dX11_paste_175 : decode cX11_paste 175 = .ok (.iload 6, 2) := by decide +kernel
theorem dX11_paste_177 : decode cX11_paste 177 = .ok (.laload, 1) := by decide +kernel
theorem dX11_paste_178 : decode cX11_paste 178 = .ok (.lastore, 1) := by decide +kernel
theorem dX11_paste_179 : decode cX11_paste 179 = .ok (.iinc 6 1, 3) := by decide +kernel
theorem dX11_paste_182 : decode cX11_paste 182 = .ok (.goto (-32), 3) := by decide +kernel
theorem dX11_paste_185 : decode cX11_paste 185 = .ok (.iconst 0, 1) := by decide +kernel
theorem dX11_paste_186 : decode cX11_paste 186 = .ok (.ireturn, 1) := by decide +kernel
theorem dJ0_length_8abf5_0 : decode cJ0_length_8abf5 0 = .ok (.aload_n 0, 1) := by decide +kernel
theorem dJ0_length_8abf5_1 : decode cJ0_length_8abf5 1 = .ok (.getfield 9, 3) := by decide +kernel
theorem dJ0_length_8abf5_4 : decode cJ0_length_8abf5 4 = .ok (.arraylength, 1) := by decide +kernel
theorem dJ0_length_8abf5_5 : decode cJ0_length_8abf5 5 = .ok (.aload_n 0, 1) := by decide +kernel
theorem dJ0_length_8abf5_6 : decode cJ0_length_8abf5 6 = .ok (.invokevirtual 335, 3) := by decide +kernel
theorem dJ0_length_8abf5_9 : decode cJ0_length_8abf5 9 = .ok (.ishr, 1) := by decide +kernel
theorem dJ0_length_8abf5_10 : decode cJ0_length_8abf5 10 = .ok (.ireturn, 1) := by decide +kernel
theorem dJ0_charAt_5068e_0 : decode cJ0_charAt_5068e 0 = .ok (.aload_n 0, 1) := by decide +kernel
theorem dJ0_charAt_5068e_1 : decode cJ0_charAt_5068e 1 = .ok (.invokevirtual 492, 3) := by decide +kernel
theorem dJ0_charAt_5068e_4 : decode cJ0_charAt_5068e 4 = .ok (.ifCond .eq 12, 3) := by decide +kernel
theorem dJ0_charAt_5068e_7 : decode cJ0_charAt_5068e 7 = .ok (.aload_n 0, 1) := by decide +kernel
theorem dJ0_charAt_5068e_8 : decode cJ0_charAt_5068e 8 = .ok (.getfield 9, 3) := by decide +kernel
theorem dJ0_charAt_5068e_11 : decode cJ0_charAt_5068e 11 = .ok (.iload_n 1, 1) := by decide +kernel
theorem dJ0_charAt_5068e_12 : decode cJ0_charAt_5068e 12 = .ok (.invokestatic 495, 3) := by decide +kernel
theorem dJ0_charAt_5068e_15 : decode cJ0_charAt_5068e 15 = .ok (.ireturn, 1) := by decide +kernel
theorem dJ0_charAt_5068e_16 : decode cJ0_charAt_5068e 16 = .ok (.aload_n 0, 1) := by decide +kernel
theorem dJ0_charAt_5068e_17 : decode cJ0_charAt_5068e 17 = .ok (.getfield 9, 3) := by decide +kernel
theorem dJ0_charAt_5068e_20 : decode cJ0_charAt_5068e 20 = .ok (.iload_n 1, 1) := by decide +kernel
theorem dJ0_charAt_5068e_21 : decode cJ0_charAt_5068e 21 = .ok (.invokestatic 498, 3) := by decide +kernel
theorem dJ0_charAt_5068e_24 : decode cJ0_charAt_5068e 24 = .ok (.ireturn, 1) := by decide +kernel
theorem dJ0_coder_7d493_0 : decode cJ0_coder_7d493 0 = .ok (.getstatic 38, 3) := by decide +kernel
theorem dJ0_coder_7d493_3 : decode cJ0_coder_7d493 3 = .ok (.ifCond .eq 10, 3) := by decide +kernel
theorem dJ0_coder_7d493_6 : decode cJ0_coder_7d493 6 = .ok (.aload_n 0, 1) := by decide +kernel
theorem dJ0_coder_7d493_7 : decode cJ0_coder_7d493 7 = .ok (.getfield 15, 3) := by decide +kernel
theorem dJ0_coder_7d493_10 : decode cJ0_coder_7d493 10 = .ok (.goto 4, 3) := by decide +kernel
theorem dJ0_coder_7d493_13 : decode cJ0_coder_7d493 13 = .ok (.iconst 1, 1) := by decide +kernel
theorem dJ0_coder_7d493_14 : decode cJ0_coder_7d493 14 = .ok (.ireturn, 1) := by decide +kernel
theorem dJ0_isLatin1_aae02_0 : decode cJ0_isLatin1_aae02 0 = .ok (.getstatic 38, 3) := by decide +kernel
theorem dJ0_isLatin1_aae02_3 : decode cJ0_isLatin1_aae02 3 = .ok (.ifCond .eq 14, 3) := by decide +kernel
theorem dJ0_isLatin1_aae02_6 : decode cJ0_isLatin1_aae02 6 = .ok (.aload_n 0, 1) := by decide +kernel
theorem dJ0_isLatin1_aae02_7 : decode cJ0_isLatin1_aae02 7 = .ok (.getfield 15, 3) := by decide +kernel
theorem dJ0_isLatin1_aae02_10 : decode cJ0_isLatin1_aae02 10 = .ok (.ifCond .ne 7, 3) := by decide +kernel
theorem dJ0_isLatin1_aae02_13 : decode cJ0_isLatin1_aae02 13 = .ok (.iconst 1, 1) := by decide +kernel
theorem dJ0_isLatin1_aae02_14 : decode cJ0_isLatin1_aae02 14 = .ok (.goto 4, 3) := by decide +kernel
theorem dJ0_isLatin1_aae02_17 : decode cJ0_isLatin1_aae02 17 = .ok (.iconst 0, 1) := by decide +kernel
theorem dJ0_isLatin1_aae02_18 : decode cJ0_isLatin1_aae02 18 = .ok (.ireturn, 1) := by decide +kernel
theorem dJ0_checkIndex_df160_0 : decode cJ0_checkIndex_df160 0 = .ok (.iload_n 0, 1) := by decide +kernel
theorem dJ0_checkIndex_df160_1 : decode cJ0_checkIndex_df160 1 = .ok (.iload_n 1, 1) := by decide +kernel
theorem dJ0_checkIndex_df160_2 : decode cJ0_checkIndex_df160 2 = .ok (.getstatic 1053, 3) := by decide +kernel
theorem dJ0_checkIndex_df160_5 : decode cJ0_checkIndex_df160 5 = .ok (.invokestatic 1059, 3) := by decide +kernel
theorem dJ0_checkIndex_df160_8 : decode cJ0_checkIndex_df160 8 = .ok (.pop, 1) := by decide +kernel
theorem dJ0_checkIndex_df160_9 : decode cJ0_checkIndex_df160 9 = .ok (.return_, 1) := by decide +kernel
theorem dJ1_charAt_3b067_0 : decode cJ1_charAt_3b067 0 = .ok (.iload_n 1, 1) := by decide +kernel
theorem dJ1_charAt_3b067_1 : decode cJ1_charAt_3b067 1 = .ok (.aload_n 0, 1) := by decide +kernel
theorem dJ1_charAt_3b067_2 : decode cJ1_charAt_3b067 2 = .ok (.arraylength, 1) := by decide +kernel
theorem dJ1_charAt_3b067_3 : decode cJ1_charAt_3b067 3 = .ok (.invokestatic 9, 3) := by decide +kernel
theorem dJ1_charAt_3b067_6 : decode cJ1_charAt_3b067 6 = .ok (.aload_n 0, 1) := by decide +kernel
theorem dJ1_charAt_3b067_7 : decode cJ1_charAt_3b067 7 = .ok (.iload_n 1, 1) := by decide +kernel
theorem dJ1_charAt_3b067_8 : decode cJ1_charAt_3b067 8 = .ok (.baload, 1) := by decide +kernel
theorem dJ1_charAt_3b067_9 : decode cJ1_charAt_3b067 9 = .ok (.sipush 255, 3) := by decide +kernel
theorem dJ1_charAt_3b067_12 : decode cJ1_charAt_3b067 12 = .ok (.iand, 1) := by decide +kernel
theorem dJ1_charAt_3b067_13 : decode cJ1_charAt_3b067 13 = .ok (.i2c, 1) := by decide +kernel
theorem dJ1_charAt_3b067_14 : decode cJ1_charAt_3b067 14 = .ok (.ireturn, 1) := by decide +kernel
theorem dJ3_checkIndex_8e157_0 : decode cJ3_checkIndex_8e157 0 = .ok (.iload_n 0, 1) := by decide +kernel
theorem dJ3_checkIndex_8e157_1 : decode cJ3_checkIndex_8e157 1 = .ok (.ifCond .lt 8, 3) := by decide +kernel
theorem dJ3_checkIndex_8e157_4 : decode cJ3_checkIndex_8e157 4 = .ok (.iload_n 0, 1) := by decide +kernel
theorem dJ3_checkIndex_8e157_5 : decode cJ3_checkIndex_8e157 5 = .ok (.iload_n 1, 1) := by decide +kernel
theorem dJ3_checkIndex_8e157_6 : decode cJ3_checkIndex_8e157 6 = .ok (.if_icmp .lt 10, 3) := by decide +kernel
theorem dJ3_checkIndex_8e157_9 : decode cJ3_checkIndex_8e157 9 = .ok (.aload_n 2, 1) := by decide +kernel
theorem dJ3_checkIndex_8e157_10 : decode cJ3_checkIndex_8e157 10 = .ok (.iload_n 0, 1) := by decide +kernel
theorem dJ3_checkIndex_8e157_11 : decode cJ3_checkIndex_8e157 11 = .ok (.iload_n 1, 1) := by decide +kernel
theorem dJ3_checkIndex_8e157_12 : decode cJ3_checkIndex_8e157 12 = .ok (.invokestatic 95, 3) := by decide +kernel
theorem dJ3_checkIndex_8e157_15 : decode cJ3_checkIndex_8e157 15 = .ok (.athrow, 1) := by decide +kernel
theorem dJ3_checkIndex_8e157_16 : decode cJ3_checkIndex_8e157 16 = .ok (.iload_n 0, 1) := by decide +kernel
theorem dJ3_checkIndex_8e157_17 : decode cJ3_checkIndex_8e157 17 = .ok (.ireturn, 1) := by decide +kernel
theorem dJ6_bitCount_0f7a4_0 : decode cJ6_bitCount_0f7a4 0 = .ok (.iload_n 0, 1) := by decide +kernel
theorem dJ6_bitCount_0f7a4_1 : decode cJ6_bitCount_0f7a4 1 = .ok (.iload_n 0, 1) := by decide +kernel
theorem dJ6_bitCount_0f7a4_2 : decode cJ6_bitCount_0f7a4 2 = .ok (.iconst 1, 1) := by decide +kernel
theorem dJ6_bitCount_0f7a4_3 : decode cJ6_bitCount_0f7a4 3 = .ok (.iushr, 1) := by decide +kernel
theorem dJ6_bitCount_0f7a4_4 : decode cJ6_bitCount_0f7a4 4 = .ok (.ldc_w 265, 3) := by decide +kernel
theorem dJ6_bitCount_0f7a4_7 : decode cJ6_bitCount_0f7a4 7 = .ok (.iand, 1) := by decide +kernel
theorem dJ6_bitCount_0f7a4_8 : decode cJ6_bitCount_0f7a4 8 = .ok (.isub, 1) := by decide +kernel
theorem dJ6_bitCount_0f7a4_9 : decode cJ6_bitCount_0f7a4 9 = .ok (.istore_n 0, 1) := by decide +kernel
theorem dJ6_bitCount_0f7a4_10 : decode cJ6_bitCount_0f7a4 10 = .ok (.iload_n 0, 1) := by decide +kernel
theorem dJ6_bitCount_0f7a4_11 : decode cJ6_bitCount_0f7a4 11 = .ok (.ldc_w 266, 3) := by decide +kernel
theorem dJ6_bitCount_0f7a4_14 : decode cJ6_bitCount_0f7a4 14 = .ok (.iand, 1) := by decide +kernel
theorem dJ6_bitCount_0f7a4_15 : decode cJ6_bitCount_0f7a4 15 = .ok (.iload_n 0, 1) := by decide +kernel
theorem dJ6_bitCount_0f7a4_16 : decode cJ6_bitCount_0f7a4 16 = .ok (.iconst 2, 1) := by decide +kernel
theorem dJ6_bitCount_0f7a4_17 : decode cJ6_bitCount_0f7a4 17 = .ok (.iushr, 1) := by decide +kernel
theorem dJ6_bitCount_0f7a4_18 : decode cJ6_bitCount_0f7a4 18 = .ok (.ldc_w 266, 3) := by decide +kernel
theorem dJ6_bitCount_0f7a4_21 : decode cJ6_bitCount_0f7a4 21 = .ok (.iand, 1) := by decide +kernel
theorem dJ6_bitCount_0f7a4_22 : decode cJ6_bitCount_0f7a4 22 = .ok (.iadd, 1) := by decide +kernel
theorem dJ6_bitCount_0f7a4_23 : decode cJ6_bitCount_0f7a4 23 = .ok (.istore_n 0, 1) := by decide +kernel
theorem dJ6_bitCount_0f7a4_24 : decode cJ6_bitCount_0f7a4 24 = .ok (.iload_n 0, 1) := by decide +kernel
theorem dJ6_bitCount_0f7a4_25 : decode cJ6_bitCount_0f7a4 25 = .ok (.iload_n 0, 1) := by decide +kernel
theorem dJ6_bitCount_0f7a4_26 : decode cJ6_bitCount_0f7a4 26 = .ok (.iconst 4, 1) := by decide +kernel
theorem dJ6_bitCount_0f7a4_27 : decode cJ6_bitCount_0f7a4 27 = .ok (.iushr, 1) := by decide +kernel
theorem dJ6_bitCount_0f7a4_28 : decode cJ6_bitCount_0f7a4 28 = .ok (.iadd, 1) := by decide +kernel
theorem dJ6_bitCount_0f7a4_29 : decode cJ6_bitCount_0f7a4 29 = .ok (.ldc_w 267, 3) := by decide +kernel
theorem dJ6_bitCount_0f7a4_32 : decode cJ6_bitCount_0f7a4 32 = .ok (.iand, 1) := by decide +kernel
theorem dJ6_bitCount_0f7a4_33 : decode cJ6_bitCount_0f7a4 33 = .ok (.istore_n 0, 1) := by decide +kernel
theorem dJ6_bitCount_0f7a4_34 : decode cJ6_bitCount_0f7a4 34 = .ok (.iload_n 0, 1) := by decide +kernel
theorem dJ6_bitCount_0f7a4_35 : decode cJ6_bitCount_0f7a4 35 = .ok (.iload_n 0, 1) := by decide +kernel
theorem dJ6_bitCount_0f7a4_36 : decode cJ6_bitCount_0f7a4 36 = .ok (.bipush 8, 2) := by decide +kernel
theorem dJ6_bitCount_0f7a4_38 : decode cJ6_bitCount_0f7a4 38 = .ok (.iushr, 1) := by decide +kernel
theorem dJ6_bitCount_0f7a4_39 : decode cJ6_bitCount_0f7a4 39 = .ok (.iadd, 1) := by decide +kernel
theorem dJ6_bitCount_0f7a4_40 : decode cJ6_bitCount_0f7a4 40 = .ok (.istore_n 0, 1) := by decide +kernel
theorem dJ6_bitCount_0f7a4_41 : decode cJ6_bitCount_0f7a4 41 = .ok (.iload_n 0, 1) := by decide +kernel
theorem dJ6_bitCount_0f7a4_42 : decode cJ6_bitCount_0f7a4 42 = .ok (.iload_n 0, 1) := by decide +kernel
theorem dJ6_bitCount_0f7a4_43 : decode cJ6_bitCount_0f7a4 43 = .ok (.bipush 16, 2) := by decide +kernel
theorem dJ6_bitCount_0f7a4_45 : decode cJ6_bitCount_0f7a4 45 = .ok (.iushr, 1) := by decide +kernel
theorem dJ6_bitCount_0f7a4_46 : decode cJ6_bitCount_0f7a4 46 = .ok (.iadd, 1) := by decide +kernel
theorem dJ6_bitCount_0f7a4_47 : decode cJ6_bitCount_0f7a4 47 = .ok (.istore_n 0, 1) := by decide +kernel
theorem dJ6_bitCount_0f7a4_48 : decode cJ6_bitCount_0f7a4 48 = .ok (.iload_n 0, 1) := by decide +kernel
theorem dJ6_bitCount_0f7a4_49 : decode cJ6_bitCount_0f7a4 49 = .ok (.bipush 63, 2) := by decide +kernel
theorem dJ6_bitCount_0f7a4_51 : decode cJ6_bitCount_0f7a4 51 = .ok (.iand, 1) := by decide +kernel
theorem dJ6_bitCount_0f7a4_52 : decode cJ6_bitCount_0f7a4 52 = .ok (.ireturn, 1) := by decide +kernel
