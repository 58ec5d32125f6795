theorem dX0_begin_0 : decode cX0_begin 0 = .ok (.aload_n 0, 1) := by decide +kernel
theorem dX0_begin_1 : decode cX0_begin 1 = .ok (.getfield 12, 3) := by decide +kernel
theorem dX0_begin_4 : decode cX0_begin 4 = .ok (.aload_n 1, 1) := by decide +kernel
theorem dX0_begin_5 : decode cX0_begin 5 = .ok (.invokevirtual 45, 3) := by decide +kernel
theorem dX0_begin_8 : decode cX0_begin 8 = .ok (.iconst 0, 1) := by decide +kernel
theorem dX0_begin_9 : decode cX0_begin 9 = .ok (.istore_n 2, 1) := by decide +kernel
theorem dX0_begin_10 : decode cX0_begin 10 = .ok (.iload_n 2, 1) := by decide +kernel
theorem dX0_begin_11 : decode cX0_begin 11 = .ok (.bipush 8, 2) := by decide +kernel
theorem dX0_begin_13 : decode cX0_begin 13 = .ok (.if_icmp .ge 14, 3) := by decide +kernel
theorem dX0_begin_16 : decode cX0_begin 16 = .ok (.aload_n 0, 1) := by decide +kernel
theorem dX0_begin_17 : decode cX0_begin 17 = .ok (.iload_n 2, 1) := by decide +kernel
theorem dX0_begin_18 : decode cX0_begin 18 = .ok (.invokevirtual 49, 3) := by decide +kernel
theorem dX0_begin_21 : decode cX0_begin 21 = .ok (.iinc 2 1, 3) := by decide +kernel
theorem dX0_begin_24 : decode cX0_begin 24 = .ok (.goto (-14), 3) := by decide +kernel
theorem dX0_begin_27 : decode cX0_begin 27 = .ok (.iconst 0, 1) := by decide +kernel
theorem dX0_begin_28 : decode cX0_begin 28 = .ok (.istore_n 2, 1) := by decide +kernel
theorem dX0_begin_29 : decode cX0_begin 29 = .ok (.iload_n 2, 1) := by decide +kernel
theorem dX0_begin_30 : decode cX0_begin 30 = .ok (.iconst 4, 1) := by decide +kernel
theorem dX0_begin_31 : decode cX0_begin 31 = .ok (.if_icmp .ge 37, 3) := by decide +kernel
theorem dX0_begin_34 : decode cX0_begin 34 = .ok (.aload_n 0, 1) := by decide +kernel
theorem dX0_begin_35 : decode cX0_begin 35 = .ok (.iload_n 2, 1) := by decide +kernel
theorem dX0_begin_36 : decode cX0_begin 36 = .ok (.iconst 0, 1) := by decide +kernel
theorem dX0_begin_37 : decode cX0_begin 37 = .ok (.iconst 0, 1) := by decide +kernel
theorem dX0_begin_38 : decode cX0_begin 38 = .ok (.invokevirtual 53, 3) := by decide +kernel
theorem dX0_begin_41 : decode cX0_begin 41 = .ok (.aload_n 0, 1) := by decide +kernel
theorem dX0_begin_42 : decode cX0_begin 42 = .ok (.getfield 36, 3) := by decide +kernel
theorem dX0_begin_45 : decode cX0_begin 45 = .ok (.iload_n 2, 1) := by decide +kernel
theorem dX0_begin_46 : decode cX0_begin 46 = .ok (.iload_n 2, 1) := by decide +kernel
theorem dX0_begin_47 : decode cX0_begin 47 = .ok (.ifCond .ne 13, 3) := by decide +kernel
theorem dX0_begin_50 : decode cX0_begin 50 = .ok (.aload_n 0, 1) := by decide +kernel
theorem dX0_begin_51 : decode cX0_begin 51 = .ok (.getfield 12, 3) := by decide +kernel
theorem dX0_begin_54 : decode cX0_begin 54 = .ok (.getfield 57, 3) := by decide +kernel
theorem dX0_begin_57 : decode cX0_begin 57 = .ok (.goto 4, 3) := by decide +kernel
theorem dX0_begin_60 : decode cX0_begin 60 = .ok (.iconst 0, 1) := by decide +kernel
theorem dX0_begin_61 : decode cX0_begin 61 = .ok (.iastore, 1) := by decide +kernel
theorem dX0_begin_62 : decode cX0_begin 62 = .ok (.iinc 2 1, 3) := by decide +kernel
theorem dX0_begin_65 : decode cX0_begin 65 = .ok (.goto (-36), 3) := by decide +kernel
theorem dX0_begin_68 : decode cX0_begin 68 = .ok (.aload_n 0, 1) := by decide +kernel
theorem dX0_begin_69 : decode cX0_begin 69 = .ok (.iconst 0, 1) := by decide +kernel
theorem dX0_begin_70 : decode cX0_begin 70 = .ok (.putfield 61, 3) := by decide +kernel
theorem dX0_begin_73 : decode cX0_begin 73 = .ok (.iconst 0, 1) := by decide +kernel
theorem dX0_begin_74 : decode cX0_begin 74 = .ok (.istore_n 2, 1) := by decide +kernel
theorem dX0_begin_75 : decode cX0_begin 75 = .ok (.iload_n 2, 1) := by decide +kernel
theorem dX0_begin_76 : decode cX0_begin 76 = .ok (.bipush 7, 2) := by decide +kernel
theorem dX0_begin_78 : decode cX0_begin 78 = .ok (.if_icmp .ge 16, 3) := by decide +kernel
theorem dX0_begin_81 : decode cX0_begin 81 = .ok (.aload_n 0, 1) := by decide +kernel
theorem dX0_begin_82 : decode cX0_begin 82 = .ok (.getfield 39, 3) := by decide +kernel
theorem dX0_begin_85 : decode cX0_begin 85 = .ok (.iload_n 2, 1) := by decide +kernel
theorem dX0_begin_86 : decode cX0_begin 86 = .ok (.iconst 0, 1) := by decide +kernel
theorem dX0_begin_87 : decode cX0_begin 87 = .ok (.iastore, 1) := by decide +kernel
theorem dX0_begin_88 : decode cX0_begin 88 = .ok (.iinc 2 1, 3) := by decide +kernel
theorem dX0_begin_91 : decode cX0_begin 91 = .ok (.goto (-16), 3) := by decide +kernel
theorem dX0_begin_94 : decode cX0_begin 94 = .ok (.aload_n 0, 1) := by decide +kernel
theorem dX0_begin_95 : decode cX0_begin 95 = .ok (.iconst 0, 1) := by decide +kernel
theorem dX0_begin_96 : decode cX0_begin 96 = .ok (.putfield 64, 3) := by decide +kernel
theorem dX0_begin_99 : decode cX0_begin 99 = .ok (.return_, 1) := by decide +kernel
theorem dX0_copyFrom_0 : decode cX0_copyFrom 0 = .ok (.aload_n 0, 1) := by decide +kernel
theorem dX0_copyFrom_1 : decode cX0_copyFrom 1 = .ok (.getfield 12, 3) := by decide +kernel
theorem dX0_copyFrom_4 : decode cX0_copyFrom 4 = .ok (.aload_n 1, 1) := by decide +kernel
theorem dX0_copyFrom_5 : decode cX0_copyFrom 5 = .ok (.getfield 12, 3) := by decide +kernel
theorem dX0_copyFrom_8 : decode cX0_copyFrom 8 = .ok (.invokevirtual 45, 3) := by decide +kernel
theorem dX0_copyFrom_11 : decode cX0_copyFrom 11 = .ok (.iconst 0, 1) := by decide +kernel
theorem dX0_copyFrom_12 : decode cX0_copyFrom 12 = .ok (.istore_n 2, 1) := by decide +kernel
theorem dX0_copyFrom_13 : decode cX0_copyFrom 13 = .ok (.iload_n 2, 1) := by decide +kernel
theorem dX0_copyFrom_14 : decode cX0_copyFrom 14 = .ok (.bipush 8, 2) := by decide +kernel
theorem dX0_copyFrom_16 : decode cX0_copyFrom 16 = .ok (.if_icmp .ge 56, 3) := by decide +kernel
theorem dX0_copyFrom_19 : decode cX0_copyFrom 19 = .ok (.aload_n 0, 1) := by decide +kernel
theorem dX0_copyFrom_20 : decode cX0_copyFrom 20 = .ok (.iload_n 2, 1) := by decide +kernel
theorem dX0_copyFrom_21 : decode cX0_copyFrom 21 = .ok (.aload_n 1, 1) := by decide +kernel
theorem dX0_copyFrom_22 : decode cX0_copyFrom 22 = .ok (.getfield 18, 3) := by decide +kernel
theorem dX0_copyFrom_25 : decode cX0_copyFrom 25 = .ok (.iload_n 2, 1) := by decide +kernel
theorem dX0_copyFrom_26 : decode cX0_copyFrom 26 = .ok (.iaload, 1) := by decide +kernel
theorem dX0_copyFrom_27 : decode cX0_copyFrom 27 = .ok (.aload_n 1, 1) := by decide +kernel
theorem dX0_copyFrom_28 : decode cX0_copyFrom 28 = .ok (.getfield 22, 3) := by decide +kernel
theorem dX0_copyFrom_31 : decode cX0_copyFrom 31 = .ok (.iload_n 2, 1) := by decide +kernel
theorem dX0_copyFrom_32 : decode cX0_copyFrom 32 = .ok (.iaload, 1) := by decide +kernel
theorem dX0_copyFrom_33 : decode cX0_copyFrom 33 = .ok (.invokevirtual 67, 3) := by decide +kernel
theorem dX0_copyFrom_36 : decode cX0_copyFrom 36 = .ok (.iconst 0, 1) := by decide +kernel
theorem dX0_copyFrom_37 : decode cX0_copyFrom 37 = .ok (.istore_n 3, 1) := by decide +kernel
theorem dX0_copyFrom_38 : decode cX0_copyFrom 38 = .ok (.iload_n 3, 1) := by decide +kernel
theorem dX0_copyFrom_39 : decode cX0_copyFrom 39 = .ok (.bipush 6, 2) := by decide +kernel
theorem dX0_copyFrom_41 : decode cX0_copyFrom 41 = .ok (.if_icmp .ge 25, 3) := by decide +kernel
theorem dX0_copyFrom_44 : decode cX0_copyFrom 44 = .ok (.aload_n 0, 1) := by decide +kernel
theorem dX0_copyFrom_45 : decode cX0_copyFrom 45 = .ok (.getfield 27, 3) := by decide +kernel
theorem dX0_copyFrom_48 : decode cX0_copyFrom 48 = .ok (.iload_n 2, 1) := by decide +kernel
theorem dX0_copyFrom_49 : decode cX0_copyFrom 49 = .ok (.aaload, 1) := by decide +kernel
theorem dX0_copyFrom_50 : decode cX0_copyFrom 50 = .ok (.iload_n 3, 1) := by decide +kernel
theorem dX0_copyFrom_51 : decode cX0_copyFrom 51 = .ok (.aload_n 1, 1) := by decide +kernel
theorem dX0_copyFrom_52 : decode cX0_copyFrom 52 = .ok (.getfield 27, 3) := by decide +kernel
theorem dX0_copyFrom_55 : decode cX0_copyFrom 55 = .ok (.iload_n 2, 1) := by decide +kernel
theorem dX0_copyFrom_56 : decode cX0_copyFrom 56 = .ok (.aaload, 1) := by decide +kernel
theorem dX0_copyFrom_57 : decode cX0_copyFrom 57 = .ok (.iload_n 3, 1) := by decide +kernel
theorem dX0_copyFrom_58 : decode cX0_copyFrom 58 = .ok (.iaload, 1) := by decide +kernel
theorem dX0_copyFrom_59 : decode cX0_copyFrom 59 = .ok (.iastore, 1) := by decide +kernel
theorem dX0_copyFrom_60 : decode cX0_copyFrom 60 = .ok (.iinc 3 1, 3) := by decide +kernel
theorem dX0_copyFrom_63 : decode cX0_copyFrom 63 = .ok (.goto (-25), 3) := by decide +kernel
theorem dX0_copyFrom_66 : decode cX0_copyFrom 66 = .ok (.iinc 2 1, 3) := by decide +kernel
theorem dX0_copyFrom_69 : decode cX0_copyFrom 69 = .ok (.goto (-56), 3) := by decide +kernel
theorem dX0_copyFrom_72 : decode cX0_copyFrom 72 = .ok (.iconst 0, 1) := by decide +kernel
theorem dX0_copyFrom_73 : decode cX0_copyFrom 73 = .ok (.istore_n 2, 1) := by decide +kernel
theorem dX0_copyFrom_74 : decode cX0_copyFrom 74 = .ok (.iload_n 2, 1) := by decide +kernel
theorem dX0_copyFrom_75 : decode cX0_copyFrom 75 = .ok (.iconst 4, 1) := by decide +kernel
theorem dX0_copyFrom_76 : decode cX0_copyFrom 76 = .ok (.if_icmp .ge 38, 3) := by decide +kernel
theorem dX0_copyFrom_79 : decode cX0_copyFrom 79 = .ok (.aload_n 0, 1) := by decide +kernel
theorem dX0_copyFrom_80 : decode cX0_copyFrom 80 = .ok (.iload_n 2, 1) := by decide +kernel
theorem dX0_copyFrom_81 : decode cX0_copyFrom 81 = .ok (.aload_n 1, 1) := by decide +kernel
theorem dX0_copyFrom_82 : decode cX0_copyFrom 82 = .ok (.getfield 30, 3) := by decide +kernel
theorem dX0_copyFrom_85 : decode cX0_copyFrom 85 = .ok (.iload_n 2, 1) := by decide +kernel
theorem dX0_copyFrom_86 : decode cX0_copyFrom 86 = .ok (.iaload, 1) := by decide +kernel
theorem dX0_copyFrom_87 : decode cX0_copyFrom 87 = .ok (.aload_n 1, 1) := by decide +kernel
theorem dX0_copyFrom_88 : decode cX0_copyFrom 88 = .ok (.getfield 33, 3) := by decide +kernel
theorem dX0_copyFrom_91 : decode cX0_copyFrom 91 = .ok (.iload_n 2, 1) := by decide +kernel
theorem dX0_copyFrom_92 : decode cX0_copyFrom 92 = .ok (.iaload, 1) := by decide +kernel
theorem dX0_copyFrom_93 : decode cX0_copyFrom 93 = .ok (.invokevirtual 53, 3) := by decide +kernel
theorem dX0_copyFrom_96 : decode cX0_copyFrom 96 = .ok (.aload_n 0, 1) := by decide +kernel
theorem dX0_copyFrom_97 : decode cX0_copyFrom 97 = .ok (.getfield 36, 3) := by decide +kernel
theorem dX0_copyFrom_100 : decode cX0_copyFrom 100 = .ok (.iload_n 2, 1) := by decide +kernel
theorem dX0_copyFrom_101 : decode cX0_copyFrom 101 = .ok (.aload_n 1, 1) := by decide +kernel
theorem dX0_copyFrom_102 : decode cX0_copyFrom 102 = .ok (.getfield 36, 3) := by decide +kernel
theorem dX0_copyFrom_105 : decode cX0_copyFrom 105 = .ok (.iload_n 2, 1) := by decide +kernel
theorem dX0_copyFrom_106 : decode cX0_copyFrom 106 = .ok (.iaload, 1) := by decide +kernel
theorem dX0_copyFrom_107 : decode cX0_copyFrom 107 = .ok (.iastore, 1) := by decide +kernel
theorem dX0_copyFrom_108 : decode cX0_copyFrom 108 = .ok (.iinc 2 1, 3) := by decide +kernel
theorem dX0_copyFrom_111 : decode cX0_copyFrom 111 = .ok (.goto (-37), 3) := by decide +kernel
theorem dX0_copyFrom_114 : decode cX0_copyFrom 114 = .ok (.aload_n 0, 1) := by decide +kernel
theorem dX0_copyFrom_115 : decode cX0_copyFrom 115 = .ok (.aload_n 1, 1) := by decide +kernel
theorem dX0_copyFrom_116 : decode cX0_copyFrom 116 = .ok (.getfield 61, 3) := by decide +kernel
theorem dX0_copyFrom_119 : decode cX0_copyFrom 119 = .ok (.putfield 61, 3) := by decide +kernel
theorem dX0_copyFrom_122 : decode cX0_copyFrom 122 = .ok (.iconst 0, 1) := by decide +kernel
theorem dX0_copyFrom_123 : decode cX0_copyFrom 123 = .ok (.istore_n 2, 1) := by decide +kernel
theorem dX0_copyFrom_124 : decode cX0_copyFrom 124 = .ok (.iload_n 2, 1) := by decide +kernel
theorem dX0_copyFrom_125 : decode cX0_copyFrom 125 = .ok (.bipush 7, 2) := by decide +kernel
theorem dX0_copyFrom_127 : decode cX0_copyFrom 127 = .ok (.if_icmp .ge 21, 3) := by decide +kernel
theorem dX0_copyFrom_130 : decode cX0_copyFrom 130 = .ok (.aload_n 0, 1) := by decide +kernel
theorem dX0_copyFrom_131 : decode cX0_copyFrom 131 = .ok (.getfield 39, 3) := by decide +kernel
theorem dX0_copyFrom_134 : decode cX0_copyFrom 134 = .ok (.iload_n 2, 1) := by decide +kernel
theorem dX0_copyFrom_135 : decode cX0_copyFrom 135 = .ok (.aload_n 1, 1) := by decide +kernel
theorem dX0_copyFrom_136 : decode cX0_copyFrom 136 = .ok (.getfield 39, 3) := by decide +kernel
theorem dX0_copyFrom_139 : decode cX0_copyFrom 139 = .ok (.iload_n 2, 1) := by decide +kernel
theorem dX0_copyFrom_140 : decode cX0_copyFrom 140 = .ok (.iaload, 1) := by decide +kernel
theorem dX0_copyFrom_141 : decode cX0_copyFrom 141 = .ok (.iastore, 1) := by decide +kernel
theorem dX0_copyFrom_142 : decode cX0_copyFrom 142 = .ok (.iinc 2 1, 3) := by decide +kernel
theorem dX0_copyFrom_145 : decode cX0_copyFrom 145 = .ok (.goto (-21), 3) := by decide +kernel
theorem dX0_copyFrom_148 : decode cX0_copyFrom 148 = .ok (.aload_n 0, 1) := by decide +kernel
theorem dX0_copyFrom_149 : decode cX0_copyFrom 149 = .ok (.aload_n 1, 1) := by decide +kernel
theorem dX0_copyFrom_150 : decode cX0_copyFrom 150 = .ok (.getfield 64, 3) := by decide +kernel
theorem dX0_copyFrom_153 : decode cX0_copyFrom 153 = .ok (.putfield 64, 3) := by decide +kernel
theorem dX0_copyFrom_156 : decode cX0_copyFrom 156 = .ok (.return_, 1) := by decide +kernel
theorem dX0_hasHeap_0 : decode cX0_hasHeap 0 = .ok (.iload_n 1, 1) := by decide +kernel
theorem dX0_hasHeap_1 : decode cX0_hasHeap 1 = .ok (.ifCond .lt 23, 3) := by decide +kernel
theorem dX0_hasHeap_4 : decode cX0_hasHeap 4 = .ok (.iload_n 1, 1) := by decide +kernel
theorem dX0_hasHeap_5 : decode cX0_hasHeap 5 = .ok (.bipush 8, 2) := by decide +kernel
theorem dX0_hasHeap_7 : decode cX0_hasHeap 7 = .ok (.if_icmp .ge 17, 3) := by decide +kernel
theorem dX0_hasHeap_10 : decode cX0_hasHeap 10 = .ok (.aload_n 0, 1) := by decide +kernel
theorem dX0_hasHeap_11 : decode cX0_hasHeap 11 = .ok (.getfield 18, 3) := by decide +kernel
theorem dX0_hasHeap_14 : decode cX0_hasHeap 14 = .ok (.iload_n 1, 1) := by decide +kernel
theorem dX0_hasHeap_15 : decode cX0_hasHeap 15 = .ok (.iaload, 1) := by decide +kernel
theorem dX0_hasHeap_16 : decode cX0_hasHeap 16 = .ok (.iconst (-1), 1) := by decide +kernel
theorem dX0_hasHeap_17 : decode cX0_hasHeap 17 = .ok (.if_icmp .eq 7, 3) := by decide +kernel
theorem dX0_hasHeap_20 : decode cX0_hasHeap 20 = .ok (.iconst 1, 1) := by decide +kernel
theorem dX0_hasHeap_21 : decode cX0_hasHeap 21 = .ok (.goto 4, 3) := by decide +kernel
theorem dX0_hasHeap_24 : decode cX0_hasHeap 24 = .ok (.iconst 0, 1) := by decide +kernel
theorem dX0_hasHeap_25 : decode cX0_hasHeap 25 = .ok (.ireturn, 1) := by decide +kernel
theorem dX0_placeHeap_0 : decode cX0_placeHeap 0 = .ok (.iload_n 1, 1) := by decide +kernel
theorem dX0_placeHeap_1 : decode cX0_placeHeap 1 = .ok (.invokestatic 70, 3) := by decide +kernel
theorem dX0_placeHeap_4 : decode cX0_placeHeap 4 = .ok (.ifCond .eq 17, 3) := by decide +kernel
theorem dX0_placeHeap_7 : decode cX0_placeHeap 7 = .ok (.aload_n 0, 1) := by decide +kernel
theorem dX0_placeHeap_8 : decode cX0_placeHeap 8 = .ok (.getfield 18, 3) := by decide +kernel
theorem dX0_placeHeap_11 : decode cX0_placeHeap 11 = .ok (.iload_n 1, 1) := by decide +kernel
theorem dX0_placeHeap_12 : decode cX0_placeHeap 12 = .ok (.iload_n 2, 1) := by decide +kernel
theorem dX0_placeHeap_13 : decode cX0_placeHeap 13 = .ok (.iastore, 1) := by decide +kernel
theorem dX0_placeHeap_14 : decode cX0_placeHeap 14 = .ok (.aload_n 0, 1) := by decide +kernel
theorem dX0_placeHeap_15 : decode cX0_placeHeap 15 = .ok (.getfield 22, 3) := by decide +kernel
theorem dX0_placeHeap_18 : decode cX0_placeHeap 18 = .ok (.iload_n 1, 1) := by decide +kernel
theorem dX0_placeHeap_19 : decode cX0_placeHeap 19 = .ok (.iload_n 3, 1) := by decide +kernel
theorem dX0_placeHeap_20 : decode cX0_placeHeap 20 = .ok (.iastore, 1) := by decide +kernel
theorem dX0_placeHeap_21 : decode cX0_placeHeap 21 = .ok (.return_, 1) := by decide +kernel
theorem dX0_takeAway_0 : decode cX0_takeAway 0 = .ok (.aload_n 0, 1) := by decide +kernel
theorem dX0_takeAway_1 : decode cX0_takeAway 1 = .ok (.iload_n 1, 1) := by decide +kernel
theorem dX0_takeAway_2 : decode cX0_takeAway 2 = .ok (.iconst (-1), 1) := by decide +kernel
theorem dX0_takeAway_3 : decode cX0_takeAway 3 = .ok (.iconst 0, 1) := by decide +kernel
theorem dX0_takeAway_4 : decode cX0_takeAway 4 = .ok (.invokevirtual 67, 3) := by decide +kernel
theorem dX0_takeAway_7 : decode cX0_takeAway 7 = .ok (.iconst 0, 1) := by decide +kernel
theorem dX0_takeAway_8 : decode cX0_takeAway 8 = .ok (.istore_n 2, 1) := by decide +kernel
theorem dX0_takeAway_9 : decode cX0_takeAway 9 = .ok (.iload_n 2, 1) := by decide +kernel
theorem dX0_takeAway_10 : decode cX0_takeAway 10 = .ok (.bipush 6, 2) := by decide +kernel
theorem dX0_takeAway_12 : decode cX0_takeAway 12 = .ok (.if_icmp .ge 25, 3) := by decide +kernel
theorem dX0_takeAway_15 : decode cX0_takeAway 15 = .ok (.iload_n 1, 1) := by decide +kernel
theorem dX0_takeAway_16 : decode cX0_takeAway 16 = .ok (.invokestatic 70, 3) := by decide +kernel
theorem dX0_takeAway_19 : decode cX0_takeAway 19 = .ok (.ifCond .eq 18, 3) := by decide +kernel
theorem dX0_takeAway_22 : decode cX0_takeAway 22 = .ok (.aload_n 0, 1) := by decide +kernel
theorem dX0_takeAway_23 : decode cX0_takeAway 23 = .ok (.getfield 27, 3) := by decide +kernel
theorem dX0_takeAway_26 : decode cX0_takeAway 26 = .ok (.iload_n 1, 1) := by decide +kernel
theorem dX0_takeAway_27 : decode cX0_takeAway 27 = .ok (.aaload, 1) := by decide +kernel
theorem dX0_takeAway_28 : decode cX0_takeAway 28 = .ok (.iload_n 2, 1) := by decide +kernel
theorem dX0_takeAway_29 : decode cX0_takeAway 29 = .ok (.iconst 0, 1) := by decide +kernel
theorem dX0_takeAway_30 : decode cX0_takeAway 30 = .ok (.iastore, 1) := by decide +kernel
theorem dX0_takeAway_31 : decode cX0_takeAway 31 = .ok (.iinc 2 1, 3) := by decide +kernel
theorem dX0_takeAway_34 : decode cX0_takeAway 34 = .ok (.goto (-25), 3) := by decide +kernel
theorem dX0_takeAway_37 : decode cX0_takeAway 37 = .ok (.return_, 1) := by decide +kernel
theorem dX0_placeGroup_0 : decode cX0_placeGroup 0 = .ok (.iload_n 1, 1) := by decide +kernel
theorem dX0_placeGroup_1 : decode cX0_placeGroup 1 = .ok (.invokestatic 74, 3) := by decide +kernel
theorem dX0_placeGroup_4 : decode cX0_placeGroup 4 = .ok (.ifCond .eq 17, 3) := by decide +kernel
theorem dX0_placeGroup_7 : decode cX0_placeGroup 7 = .ok (.aload_n 0, 1) := by decide +kernel
theorem dX0_placeGroup_8 : decode cX0_placeGroup 8 = .ok (.getfield 30, 3) := by decide +kernel
theorem dX0_placeGroup_11 : decode cX0_placeGroup 11 = .ok (.iload_n 1, 1) := by decide +kernel
theorem dX0_placeGroup_12 : decode cX0_placeGroup 12 = .ok (.iload_n 2, 1) := by decide +kernel
theorem dX0_placeGroup_13 : decode cX0_placeGroup 13 = .ok (.iastore, 1) := by decide +kernel
theorem dX0_placeGroup_14 : decode cX0_placeGroup 14 = .ok (.aload_n 0, 1) := by decide +kernel
theorem dX0_placeGroup_15 : decode cX0_placeGroup 15 = .ok (.getfield 33, 3) := by decide +kernel
theorem dX0_placeGroup_18 : decode cX0_placeGroup 18 = .ok (.iload_n 1, 1) := by decide +kernel
theorem dX0_placeGroup_19 : decode cX0_placeGroup 19 = .ok (.iload_n 3, 1) := by decide +kernel
theorem dX0_placeGroup_20 : decode cX0_placeGroup 20 = .ok (.iastore, 1) := by decide +kernel
theorem dX0_placeGroup_21 : decode cX0_placeGroup 21 = .ok (.return_, 1) := by decide +kernel
theorem dX0_heapsThere_0 : decode cX0_heapsThere 0 = .ok (.iconst 0, 1) := by decide +kernel
theorem dX0_heapsThere_1 : decode cX0_heapsThere 1 = .ok (.istore_n 1, 1) := by decide +kernel
theorem dX0_heapsThere_2 : decode cX0_heapsThere 2 = .ok (.iconst 0, 1) := by decide +kernel
theorem dX0_heapsThere_3 : decode cX0_heapsThere 3 = .ok (.istore_n 2, 1) := by decide +kernel
theorem dX0_heapsThere_4 : decode cX0_heapsThere 4 = .ok (.iload_n 2, 1) := by decide +kernel
theorem dX0_heapsThere_5 : decode cX0_heapsThere 5 = .ok (.bipush 8, 2) := by decide +kernel
theorem dX0_heapsThere_7 : decode cX0_heapsThere 7 = .ok (.if_icmp .ge 20, 3) := by decide +kernel
theorem dX0_heapsThere_10 : decode cX0_heapsThere 10 = .ok (.aload_n 0, 1) := by decide +kernel
theorem dX0_heapsThere_11 : decode cX0_heapsThere 11 = .ok (.iload_n 2, 1) := by decide +kernel
theorem dX0_heapsThere_12 : decode cX0_heapsThere 12 = .ok (.invokevirtual 77, 3) := by decide +kernel
theorem dX0_heapsThere_15 : decode cX0_heapsThere 15 = .ok (.ifCond .eq 6, 3) := by decide +kernel
theorem dX0_heapsThere_18 : decode cX0_heapsThere 18 = .ok (.iinc 1 1, 3) := by decide +kernel
theorem dX0_heapsThere_21 : decode cX0_heapsThere 21 = .ok (.iinc 2 1, 3) := by decide +kernel
theorem dX0_heapsThere_24 : decode cX0_heapsThere 24 = .ok (.goto (-20), 3) := by decide +kernel
theorem dX0_heapsThere_27 : decode cX0_heapsThere 27 = .ok (.iload_n 1, 1) := by decide +kernel
theorem dX0_heapsThere_28 : decode cX0_heapsThere 28 = .ok (.ireturn, 1) := by decide +kernel
theorem dX0_heapsWithSomething_0 : decode cX0_heapsWithSomething 0 = .ok (.iconst 0, 1) := by decide +kernel
theorem dX0_heapsWithSomething_1 : decode cX0_heapsWithSomething 1 = .ok (.istore_n 1, 1) := by decide +kernel
theorem dX0_heapsWithSomething_2 : decode cX0_heapsWithSomething 2 = .ok (.iconst 0, 1) := by decide +kernel
theorem dX0_heapsWithSomething_3 : decode cX0_heapsWithSomething 3 = .ok (.istore_n 2, 1) := by decide +kernel
theorem dX0_heapsWithSomething_4 : decode cX0_heapsWithSomething 4 = .ok (.iload_n 2, 1) := by decide +kernel
theorem dX0_heapsWithSomething_5 : decode cX0_heapsWithSomething 5 = .ok (.bipush 8, 2) := by decide +kernel
theorem dX0_heapsWithSomething_7 : decode cX0_heapsWithSomething 7 = .ok (.if_icmp .ge 20, 3) := by decide +kernel
theorem dX0_heapsWithSomething_10 : decode cX0_heapsWithSomething 10 = .ok (.aload_n 0, 1) := by decide +kernel
theorem dX0_heapsWithSomething_11 : decode cX0_heapsWithSomething 11 = .ok (.iload_n 2, 1) := by decide +kernel
theorem dX0_heapsWithSomething_12 : decode cX0_heapsWithSomething 12 = .ok (.invokevirtual 80, 3) := by decide +kernel
theorem dX0_heapsWithSomething_15 : decode cX0_heapsWithSomething 15 = .ok (.ifCond .le 6, 3) := by decide +kernel
theorem dX0_heapsWithSomething_18 : decode cX0_heapsWithSomething 18 = .ok (.iinc 1 1, 3) := by decide +kernel
theorem dX0_heapsWithSomething_21 : decode cX0_heapsWithSomething 21 = .ok (.iinc 2 1, 3) := by decide +kernel
theorem dX0_heapsWithSomething_24 : decode cX0_heapsWithSomething 24 = .ok (.goto (-20), 3) := by decide +kernel
theorem dX0_heapsWithSomething_27 : decode cX0_heapsWithSomething 27 = .ok (.iload_n 1, 1) := by decide +kernel
theorem dX0_heapsWithSomething_28 : decode cX0_heapsWithSomething 28 = .ok (.ireturn, 1) := by decide +kernel
theorem dX0_sleepers_0 : decode cX0_sleepers 0 = .ok (.iconst 0, 1) := by decide +kernel
theorem dX0_sleepers_1 : decode cX0_sleepers 1 = .ok (.istore_n 1, 1) := by decide +kernel
theorem dX0_sleepers_2 : decode cX0_sleepers 2 = .ok (.iconst 0, 1) := by decide +kernel
theorem dX0_sleepers_3 : decode cX0_sleepers 3 = .ok (.istore_n 2, 1) := by decide +kernel
theorem dX0_sleepers_4 : decode cX0_sleepers 4 = .ok (.iload_n 2, 1) := by decide +kernel
theorem dX0_sleepers_5 : decode cX0_sleepers 5 = .ok (.iconst 4, 1) := by decide +kernel
theorem dX0_sleepers_6 : decode cX0_sleepers 6 = .ok (.if_icmp .ge 18, 3) := by decide +kernel
theorem dX0_sleepers_9 : decode cX0_sleepers 9 = .ok (.iload_n 1, 1) := by decide +kernel
theorem dX0_sleepers_10 : decode cX0_sleepers 10 = .ok (.aload_n 0, 1) := by decide +kernel
theorem dX0_sleepers_11 : decode cX0_sleepers 11 = .ok (.getfield 36, 3) := by decide +kernel
theorem dX0_sleepers_14 : decode cX0_sleepers 14 = .ok (.iload_n 2, 1) := by decide +kernel
theorem dX0_sleepers_15 : decode cX0_sleepers 15 = .ok (.iaload, 1) := by decide +kernel
theorem dX0_sleepers_16 : decode cX0_sleepers 16 = .ok (.iadd, 1) := by decide +kernel
theorem dX0_sleepers_17 : decode cX0_sleepers 17 = .ok (.istore_n 1, 1) := by decide +kernel
theorem dX0_sleepers_18 : decode cX0_sleepers 18 = .ok (.iinc 2 1, 3) := by decide +kernel
theorem dX0_sleepers_21 : decode cX0_sleepers 21 = .ok (.goto (-17), 3) := by decide +kernel
theorem dX0_sleepers_24 : decode cX0_sleepers 24 = .ok (.iload_n 1, 1) := by decide +kernel
theorem dX0_sleepers_25 : decode cX0_sleepers 25 = .ok (.ireturn, 1) := by decide +kernel
theorem dX0_unitsIn_0 : decode cX0_unitsIn 0 = .ok (.iload_n 1, 1) := by decide +kernel
theorem dX0_unitsIn_1 : decode cX0_unitsIn 1 = .ok (.ifCond .lt 19, 3) := by decide +kernel
theorem dX0_unitsIn_4 : decode cX0_unitsIn 4 = .ok (.iload_n 1, 1) := by decide +kernel
theorem dX0_unitsIn_5 : decode cX0_unitsIn 5 = .ok (.bipush 8, 2) := by decide +kernel
theorem dX0_unitsIn_7 : decode cX0_unitsIn 7 = .ok (.if_icmp .ge 13, 3) := by decide +kernel
theorem dX0_unitsIn_10 : decode cX0_unitsIn 10 = .ok (.iload_n 2, 1) := by decide +kernel
theorem dX0_unitsIn_11 : decode cX0_unitsIn 11 = .ok (.ifCond .lt 9, 3) := by decide +kernel
theorem dX0_unitsIn_14 : decode cX0_unitsIn 14 = .ok (.iload_n 2, 1) := by decide +kernel
theorem dX0_unitsIn_15 : decode cX0_unitsIn 15 = .ok (.bipush 6, 2) := by decide +kernel
theorem dX0_unitsIn_17 : decode cX0_unitsIn 17 = .ok (.if_icmp .lt 5, 3) := by decide +kernel
theorem dX0_unitsIn_20 : decode cX0_unitsIn 20 = .ok (.iconst 0, 1) := by decide +kernel
theorem dX0_unitsIn_21 : decode cX0_unitsIn 21 = .ok (.ireturn, 1) := by decide +kernel
theorem dX0_unitsIn_22 : decode cX0_unitsIn 22 = .ok (.aload_n 0, 1) := by decide +kernel
theorem dX0_unitsIn_23 : decode cX0_unitsIn 23 = .ok (.getfield 27, 3) := by decide +kernel
theorem dX0_unitsIn_26 : decode cX0_unitsIn 26 = .ok (.iload_n 1, 1) := by decide +kernel
theorem dX0_unitsIn_27 : decode cX0_unitsIn 27 = .ok (.aaload, 1) := by decide +kernel
theorem dX0_unitsIn_28 : decode cX0_unitsIn 28 = .ok (.iload_n 2, 1) := by decide +kernel
theorem dX0_unitsIn_29 : decode cX0_unitsIn 29 = .ok (.iaload, 1) := by decide +kernel
theorem dX0_unitsIn_30 : decode cX0_unitsIn 30 = .ok (.ireturn, 1) := by decide +kernel
theorem dX0_laidElsewhere_0 : decode cX0_laidElsewhere 0 = .ok (.iconst 0, 1) := by decide +kernel
theorem dX0_laidElsewhere_1 : decode cX0_laidElsewhere 1 = .ok (.istore_n 3, 1) := by decide +kernel
theorem dX0_laidElsewhere_2 : decode cX0_laidElsewhere 2 = .ok (.iconst 0, 1) := by decide +kernel
theorem dX0_laidElsewhere_3 : decode cX0_laidElsewhere 3 = .ok (.istore 4, 2) := by decide +kernel
theorem dX0_laidElsewhere_5 : decode cX0_laidElsewhere 5 = .ok (.iload 4, 2) := by decide +kernel
theorem dX0_laidElsewhere_7 : decode cX0_laidElsewhere 7 = .ok (.bipush 8, 2) := by decide +kernel
theorem dX0_laidElsewhere_9 : decode cX0_laidElsewhere 9 = .ok (.if_icmp .ge 25, 3) := by decide +kernel
theorem dX0_laidElsewhere_12 : decode cX0_laidElsewhere 12 = .ok (.iload 4, 2) := by decide +kernel
theorem dX0_laidElsewhere_14 : decode cX0_laidElsewhere 14 = .ok (.iload_n 1, 1) := by decide +kernel
theorem dX0_laidElsewhere_15 : decode cX0_laidElsewhere 15 = .ok (.if_icmp .eq 13, 3) := by decide +kernel
theorem dX0_laidElsewhere_18 : decode cX0_laidElsewhere 18 = .ok (.iload_n 3, 1) := by decide +kernel
theorem dX0_laidElsewhere_19 : decode cX0_laidElsewhere 19 = .ok (.aload_n 0, 1) := by decide +kernel
theorem dX0_laidElsewhere_20 : decode cX0_laidElsewhere 20 = .ok (.iload 4, 2) := by decide +kernel
theorem dX0_laidElsewhere_22 : decode cX0_laidElsewhere 22 = .ok (.iload_n 2, 1) := by decide +kernel
theorem dX0_laidElsewhere_23 : decode cX0_laidElsewhere 23 = .ok (.invokevirtual 84, 3) := by decide +kernel
theorem dX0_laidElsewhere_26 : decode cX0_laidElsewhere 26 = .ok (.iadd, 1) := by decide +kernel
theorem dX0_laidElsewhere_27 : decode cX0_laidElsewhere 27 = .ok (.istore_n 3, 1) := by decide +kernel
theorem dX0_laidElsewhere_28 : decode cX0_laidElsewhere 28 = .ok (.iinc 4 1, 3) := by decide +kernel
theorem dX0_laidElsewhere_31 : decode cX0_laidElsewhere 31 = .ok (.goto (-26), 3) := by decide +kernel
theorem dX0_laidElsewhere_34 : decode cX0_laidElsewhere 34 = .ok (.iload_n 3, 1) := by decide +kernel
theorem dX0_laidElsewhere_35 : decode cX0_laidElsewhere 35 = .ok (.ireturn, 1) := by decide +kernel
theorem dX0_tonsOf_0 : decode cX0_tonsOf 0 = .ok (.iconst 0, 1) := by decide +kernel
theorem dX0_tonsOf_1 : decode cX0_tonsOf 1 = .ok (.istore_n 2, 1) := by decide +kernel
theorem dX0_tonsOf_2 : decode cX0_tonsOf 2 = .ok (.iconst 0, 1) := by decide +kernel
theorem dX0_tonsOf_3 : decode cX0_tonsOf 3 = .ok (.istore_n 3, 1) := by decide +kernel
theorem dX0_tonsOf_4 : decode cX0_tonsOf 4 = .ok (.iload_n 3, 1) := by decide +kernel
theorem dX0_tonsOf_5 : decode cX0_tonsOf 5 = .ok (.aload_n 0, 1) := by decide +kernel
theorem dX0_tonsOf_6 : decode cX0_tonsOf 6 = .ok (.getfield 12, 3) := by decide +kernel
theorem dX0_tonsOf_9 : decode cX0_tonsOf 9 = .ok (.getfield 88, 3) := by decide +kernel
theorem dX0_tonsOf_12 : decode cX0_tonsOf 12 = .ok (.getfield 92, 3) := by decide +kernel
theorem dX0_tonsOf_15 : decode cX0_tonsOf 15 = .ok (.if_icmp .ge 31, 3) := by decide +kernel
theorem dX0_tonsOf_18 : decode cX0_tonsOf 18 = .ok (.iload_n 2, 1) := by decide +kernel
theorem dX0_tonsOf_19 : decode cX0_tonsOf 19 = .ok (.aload_n 0, 1) := by decide +kernel
theorem dX0_tonsOf_20 : decode cX0_tonsOf 20 = .ok (.iload_n 1, 1) := by decide +kernel
theorem dX0_tonsOf_21 : decode cX0_tonsOf 21 = .ok (.iload_n 3, 1) := by decide +kernel
theorem dX0_tonsOf_22 : decode cX0_tonsOf 22 = .ok (.invokevirtual 84, 3) := by decide +kernel
theorem dX0_tonsOf_25 : decode cX0_tonsOf 25 = .ok (.aload_n 0, 1) := by decide +kernel
theorem dX0_tonsOf_26 : decode cX0_tonsOf 26 = .ok (.getfield 12, 3) := by decide +kernel
theorem dX0_tonsOf_29 : decode cX0_tonsOf 29 = .ok (.getfield 88, 3) := by decide +kernel
theorem dX0_tonsOf_32 : decode cX0_tonsOf 32 = .ok (.iload_n 3, 1) := by decide +kernel
theorem dX0_tonsOf_33 : decode cX0_tonsOf 33 = .ok (.iconst 2, 1) := by decide +kernel
theorem dX0_tonsOf_34 : decode cX0_tonsOf 34 = .ok (.invokevirtual 97, 3) := by decide +kernel
theorem dX0_tonsOf_37 : decode cX0_tonsOf 37 = .ok (.imul, 1) := by decide +kernel
theorem dX0_tonsOf_38 : decode cX0_tonsOf 38 = .ok (.iadd, 1) := by decide +kernel
theorem dX0_tonsOf_39 : decode cX0_tonsOf 39 = .ok (.istore_n 2, 1) := by decide +kernel
theorem dX0_tonsOf_40 : decode cX0_tonsOf 40 = .ok (.iinc 3 1, 3) := by decide +kernel
theorem dX0_tonsOf_43 : decode cX0_tonsOf 43 = .ok (.goto (-39), 3) := by decide +kernel
theorem dX0_tonsOf_46 : decode cX0_tonsOf 46 = .ok (.iload_n 2, 1) := by decide +kernel
theorem dX0_tonsOf_47 : decode cX0_tonsOf 47 = .ok (.ireturn, 1) := by decide +kernel
theorem dX0_givenBy_0 : decode cX0_givenBy 0 = .ok (.iconst 0, 1) := by decide +kernel
theorem dX0_givenBy_1 : decode cX0_givenBy 1 = .ok (.istore_n 3, 1) := by decide +kernel
theorem dX0_givenBy_2 : decode cX0_givenBy 2 = .ok (.iconst 0, 1) := by decide +kernel
theorem dX0_givenBy_3 : decode cX0_givenBy 3 = .ok (.istore 4, 2) := by decide +kernel
theorem dX0_givenBy_5 : decode cX0_givenBy 5 = .ok (.iload 4, 2) := by decide +kernel
theorem dX0_givenBy_7 : decode cX0_givenBy 7 = .ok (.aload_n 0, 1) := by decide +kernel
theorem dX0_givenBy_8 : decode cX0_givenBy 8 = .ok (.getfield 12, 3) := by decide +kernel
theorem dX0_givenBy_11 : decode cX0_givenBy 11 = .ok (.getfield 88, 3) := by decide +kernel
theorem dX0_givenBy_14 : decode cX0_givenBy 14 = .ok (.getfield 92, 3) := by decide +kernel
theorem dX0_givenBy_17 : decode cX0_givenBy 17 = .ok (.if_icmp .ge 50, 3) := by decide +kernel
theorem dX0_givenBy_20 : decode cX0_givenBy 20 = .ok (.aload_n 0, 1) := by decide +kernel
theorem dX0_givenBy_21 : decode cX0_givenBy 21 = .ok (.getfield 12, 3) := by decide +kernel
theorem dX0_givenBy_24 : decode cX0_givenBy 24 = .ok (.getfield 88, 3) := by decide +kernel
theorem dX0_givenBy_27 : decode cX0_givenBy 27 = .ok (.iload 4, 2) := by decide +kernel
theorem dX0_givenBy_29 : decode cX0_givenBy 29 = .ok (.iconst 0, 1) := by decide +kernel
theorem dX0_givenBy_30 : decode cX0_givenBy 30 = .ok (.invokevirtual 97, 3) := by decide +kernel
theorem dX0_givenBy_33 : decode cX0_givenBy 33 = .ok (.iload_n 2, 1) := by decide +kernel
theorem dX0_givenBy_34 : decode cX0_givenBy 34 = .ok (.if_icmp .ne 27, 3) := by decide +kernel
theorem dX0_givenBy_37 : decode cX0_givenBy 37 = .ok (.iload_n 3, 1) := by decide +kernel
theorem dX0_givenBy_38 : decode cX0_givenBy 38 = .ok (.aload_n 0, 1) := by decide +kernel
theorem dX0_givenBy_39 : decode cX0_givenBy 39 = .ok (.iload_n 1, 1) := by decide +kernel
theorem dX0_givenBy_40 : decode cX0_givenBy 40 = .ok (.iload 4, 2) := by decide +kernel
theorem dX0_givenBy_42 : decode cX0_givenBy 42 = .ok (.invokevirtual 84, 3) := by decide +kernel
theorem dX0_givenBy_45 : decode cX0_givenBy 45 = .ok (.aload_n 0, 1) := by decide +kernel
theorem dX0_givenBy_46 : decode cX0_givenBy 46 = .ok (.getfield 12, 3) := by decide +kernel
theorem dX0_givenBy_49 : decode cX0_givenBy 49 = .ok (.getfield 88, 3) := by decide +kernel
theorem dX0_givenBy_52 : decode cX0_givenBy 52 = .ok (.iload 4, 2) := by decide +kernel
theorem dX0_givenBy_54 : decode cX0_givenBy 54 = .ok (.iconst 1, 1) := by decide +kernel
theorem dX0_givenBy_55 : decode cX0_givenBy 55 = .ok (.invokevirtual 97, 3) := by decide +kernel
theorem dX0_givenBy_58 : decode cX0_givenBy 58 = .ok (.imul, 1) := by decide +kernel
theorem dX0_givenBy_59 : decode cX0_givenBy 59 = .ok (.iadd, 1) := by decide +kernel
theorem dX0_givenBy_60 : decode cX0_givenBy 60 = .ok (.istore_n 3, 1) := by decide +kernel
theorem dX0_givenBy_61 : decode cX0_givenBy 61 = .ok (.iinc 4 1, 3) := by decide +kernel
theorem dX0_givenBy_64 : decode cX0_givenBy 64 = .ok (.goto (-59), 3) := by decide +kernel
theorem dX0_givenBy_67 : decode cX0_givenBy 67 = .ok (.iload_n 3, 1) := by decide +kernel
theorem dX0_givenBy_68 : decode cX0_givenBy 68 = .ok (.ireturn, 1) := by decide +kernel
theorem dX0_tonsNear_0 : decode cX0_tonsNear 0 = .ok (.iconst 0, 1) := by decide +kernel
theorem dX0_tonsNear_1 : decode cX0_tonsNear 1 = .ok (.istore_n 2, 1) := by decide +kernel
theorem dX0_tonsNear_2 : decode cX0_tonsNear 2 = .ok (.iconst 0, 1) := by decide +kernel
theorem dX0_tonsNear_3 : decode cX0_tonsNear 3 = .ok (.istore_n 3, 1) := by decide +kernel
theorem dX0_tonsNear_4 : decode cX0_tonsNear 4 = .ok (.iload_n 3, 1) := by decide +kernel
theorem dX0_tonsNear_5 : decode cX0_tonsNear 5 = .ok (.bipush 8, 2) := by decide +kernel
theorem dX0_tonsNear_7 : decode cX0_tonsNear 7 = .ok (.if_icmp .ge 48, 3) := by decide +kernel
theorem dX0_tonsNear_10 : decode cX0_tonsNear 10 = .ok (.aload_n 0, 1) := by decide +kernel
theorem dX0_tonsNear_11 : decode cX0_tonsNear 11 = .ok (.iload_n 3, 1) := by decide +kernel
theorem dX0_tonsNear_12 : decode cX0_tonsNear 12 = .ok (.invokevirtual 77, 3) := by decide +kernel
theorem dX0_tonsNear_15 : decode cX0_tonsNear 15 = .ok (.ifCond .eq 34, 3) := by decide +kernel
theorem dX0_tonsNear_18 : decode cX0_tonsNear 18 = .ok (.aload_n 0, 1) := by decide +kernel
theorem dX0_tonsNear_19 : decode cX0_tonsNear 19 = .ok (.getfield 12, 3) := by decide +kernel
theorem dX0_tonsNear_22 : decode cX0_tonsNear 22 = .ok (.iload_n 1, 1) := by decide +kernel
theorem dX0_tonsNear_23 : decode cX0_tonsNear 23 = .ok (.aload_n 0, 1) := by decide +kernel
theorem dX0_tonsNear_24 : decode cX0_tonsNear 24 = .ok (.getfield 18, 3) := by decide +kernel
theorem dX0_tonsNear_27 : decode cX0_tonsNear 27 = .ok (.iload_n 3, 1) := by decide +kernel
theorem dX0_tonsNear_28 : decode cX0_tonsNear 28 = .ok (.iaload, 1) := by decide +kernel
theorem dX0_tonsNear_29 : decode cX0_tonsNear 29 = .ok (.aload_n 0, 1) := by decide +kernel
theorem dX0_tonsNear_30 : decode cX0_tonsNear 30 = .ok (.getfield 22, 3) := by decide +kernel
theorem dX0_tonsNear_33 : decode cX0_tonsNear 33 = .ok (.iload_n 3, 1) := by decide +kernel
theorem dX0_tonsNear_34 : decode cX0_tonsNear 34 = .ok (.iaload, 1) := by decide +kernel
theorem dX0_tonsNear_35 : decode cX0_tonsNear 35 = .ok (.invokevirtual 100, 3) := by decide +kernel
theorem dX0_tonsNear_38 : decode cX0_tonsNear 38 = .ok (.ifCond .ne 11, 3) := by decide +kernel
theorem dX0_tonsNear_41 : decode cX0_tonsNear 41 = .ok (.iload_n 2, 1) := by decide +kernel
theorem dX0_tonsNear_42 : decode cX0_tonsNear 42 = .ok (.aload_n 0, 1) := by decide +kernel
theorem dX0_tonsNear_43 : decode cX0_tonsNear 43 = .ok (.iload_n 3, 1) := by decide +kernel
theorem dX0_tonsNear_44 : decode cX0_tonsNear 44 = .ok (.invokevirtual 80, 3) := by decide +kernel
theorem dX0_tonsNear_47 : decode cX0_tonsNear 47 = .ok (.iadd, 1) := by decide +kernel
theorem dX0_tonsNear_48 : decode cX0_tonsNear 48 = .ok (.istore_n 2, 1) := by decide +kernel
theorem dX0_tonsNear_49 : decode cX0_tonsNear 49 = .ok (.iinc 3 1, 3) := by decide +kernel
theorem dX0_tonsNear_52 : decode cX0_tonsNear 52 = .ok (.goto (-48), 3) := by decide +kernel
theorem dX0_tonsNear_55 : decode cX0_tonsNear 55 = .ok (.iload_n 2, 1) := by decide +kernel
theorem dX0_tonsNear_56 : decode cX0_tonsNear 56 = .ok (.ireturn, 1) := by decide +kernel
theorem dX0_oddsOf_0 : decode cX0_oddsOf 0 = .ok (.aload_n 0, 1) := by decide +kernel
theorem dX0_oddsOf_1 : decode cX0_oddsOf 1 = .ok (.getfield 12, 3) := by decide +kernel
theorem dX0_oddsOf_4 : decode cX0_oddsOf 4 = .ok (.iload_n 1, 1) := by decide +kernel
theorem dX0_oddsOf_5 : decode cX0_oddsOf 5 = .ok (.aload_n 0, 1) := by decide +kernel
theorem dX0_oddsOf_6 : decode cX0_oddsOf 6 = .ok (.iload_n 1, 1) := by decide +kernel
theorem dX0_oddsOf_7 : decode cX0_oddsOf 7 = .ok (.invokevirtual 104, 3) := by decide +kernel
theorem dX0_oddsOf_10 : decode cX0_oddsOf 10 = .ok (.invokevirtual 107, 3) := by decide +kernel
theorem dX0_oddsOf_13 : decode cX0_oddsOf 13 = .ok (.ireturn, 1) := by decide +kernel
theorem dX0_cracksBetween_0 : decode cX0_cracksBetween 0 = .ok (.iload_n 2, 1) := by decide +kernel
theorem dX0_cracksBetween_1 : decode cX0_cracksBetween 1 = .ok (.invokestatic 70, 3) := by decide +kernel
theorem dX0_cracksBetween_4 : decode cX0_cracksBetween 4 = .ok (.ifCond .eq 10, 3) := by decide +kernel
theorem dX0_cracksBetween_7 : decode cX0_cracksBetween 7 = .ok (.iload_n 3, 1) := by decide +kernel
theorem dX0_cracksBetween_8 : decode cX0_cracksBetween 8 = .ok (.invokestatic 74, 3) := by decide +kernel
theorem dX0_cracksBetween_11 : decode cX0_cracksBetween 11 = .ok (.ifCond .ne 5, 3) := by decide +kernel
theorem dX0_cracksBetween_14 : decode cX0_cracksBetween 14 = .ok (.iconst 0, 1) := by decide +kernel
theorem dX0_cracksBetween_15 : decode cX0_cracksBetween 15 = .ok (.ireturn, 1) := by decide +kernel
theorem dX0_cracksBetween_16 : decode cX0_cracksBetween 16 = .ok (.aload_n 0, 1) := by decide +kernel
theorem dX0_cracksBetween_17 : decode cX0_cracksBetween 17 = .ok (.getfield 12, 3) := by decide +kernel
theorem dX0_cracksBetween_20 : decode cX0_cracksBetween 20 = .ok (.aload_n 0, 1) := by decide +kernel
theorem dX0_cracksBetween_21 : decode cX0_cracksBetween 21 = .ok (.getfield 18, 3) := by decide +kernel
theorem dX0_cracksBetween_24 : decode cX0_cracksBetween 24 = .ok (.iload_n 2, 1) := by decide +kernel
theorem dX0_cracksBetween_25 : decode cX0_cracksBetween 25 = .ok (.iaload, 1) := by decide +kernel
theorem dX0_cracksBetween_26 : decode cX0_cracksBetween 26 = .ok (.aload_n 0, 1) := by decide +kernel
theorem dX0_cracksBetween_27 : decode cX0_cracksBetween 27 = .ok (.getfield 22, 3) := by decide +kernel
theorem dX0_cracksBetween_30 : decode cX0_cracksBetween 30 = .ok (.iload_n 2, 1) := by decide +kernel
theorem dX0_cracksBetween_31 : decode cX0_cracksBetween 31 = .ok (.iaload, 1) := by decide +kernel
theorem dX0_cracksBetween_32 : decode cX0_cracksBetween 32 = .ok (.invokevirtual 110, 3) := by decide +kernel
theorem dX0_cracksBetween_35 : decode cX0_cracksBetween 35 = .ok (.istore 4, 2) := by decide +kernel
theorem dX0_cracksBetween_37 : decode cX0_cracksBetween 37 = .ok (.aload_n 0, 1) := by decide +kernel
theorem dX0_cracksBetween_38 : decode cX0_cracksBetween 38 = .ok (.getfield 12, 3) := by decide +kernel
theorem dX0_cracksBetween_41 : decode cX0_cracksBetween 41 = .ok (.aload_n 0, 1) := by decide +kernel
theorem dX0_cracksBetween_42 : decode cX0_cracksBetween 42 = .ok (.getfield 30, 3) := by decide +kernel
theorem dX0_cracksBetween_45 : decode cX0_cracksBetween 45 = .ok (.iload_n 3, 1) := by decide +kernel
theorem dX0_cracksBetween_46 : decode cX0_cracksBetween 46 = .ok (.iaload, 1) := by decide +kernel
theorem dX0_cracksBetween_47 : decode cX0_cracksBetween 47 = .ok (.aload_n 0, 1) := by decide +kernel
theorem dX0_cracksBetween_48 : decode cX0_cracksBetween 48 = .ok (.getfield 33, 3) := by decide +kernel
theorem dX0_cracksBetween_51 : decode cX0_cracksBetween 51 = .ok (.iload_n 3, 1) := by decide +kernel
theorem dX0_cracksBetween_52 : decode cX0_cracksBetween 52 = .ok (.iaload, 1) := by decide +kernel
theorem dX0_cracksBetween_53 : decode cX0_cracksBetween 53 = .ok (.invokevirtual 110, 3) := by decide +kernel
theorem dX0_cracksBetween_56 : decode cX0_cracksBetween 56 = .ok (.istore 5, 2) := by decide +kernel
theorem dX0_cracksBetween_58 : decode cX0_cracksBetween 58 = .ok (.iload 4, 2) := by decide +kernel
theorem dX0_cracksBetween_60 : decode cX0_cracksBetween 60 = .ok (.iload 5, 2) := by decide +kernel
theorem dX0_cracksBetween_62 : decode cX0_cracksBetween 62 = .ok (.ixor, 1) := by decide +kernel
theorem dX0_cracksBetween_63 : decode cX0_cracksBetween 63 = .ok (.iload_n 1, 1) := by decide +kernel
theorem dX0_cracksBetween_64 : decode cX0_cracksBetween 64 = .ok (.iand, 1) := by decide +kernel
theorem dX0_cracksBetween_65 : decode cX0_cracksBetween 65 = .ok (.invokestatic 113, 3) := by decide +kernel
theorem dX0_cracksBetween_68 : decode cX0_cracksBetween 68 = .ok (.ireturn, 1) := by decide +kernel
theorem dX0_minutesOf_0 : decode cX0_minutesOf 0 = .ok (.iload_n 2, 1) := by decide +kernel
theorem dX0_minutesOf_1 : decode cX0_minutesOf 1 = .ok (.invokestatic 70, 3) := by decide +kernel
theorem dX0_minutesOf_4 : decode cX0_minutesOf 4 = .ok (.ifCond .eq 11, 3) := by decide +kernel
theorem dX0_minutesOf_7 : decode cX0_minutesOf 7 = .ok (.iload 4, 2) := by decide +kernel
theorem dX0_minutesOf_9 : decode cX0_minutesOf 9 = .ok (.invokestatic 74, 3) := by decide +kernel
theorem dX0_minutesOf_12 : decode cX0_minutesOf 12 = .ok (.ifCond .ne 5, 3) := by decide +kernel
theorem dX0_minutesOf_15 : decode cX0_minutesOf 15 = .ok (.iconst 0, 1) := by decide +kernel
theorem dX0_minutesOf_16 : decode cX0_minutesOf 16 = .ok (.ireturn, 1) := by decide +kernel
theorem dX0_minutesOf_17 : decode cX0_minutesOf 17 = .ok (.aload_n 0, 1) := by decide +kernel
theorem dX0_minutesOf_18 : decode cX0_minutesOf 18 = .ok (.getfield 18, 3) := by decide +kernel
theorem dX0_minutesOf_21 : decode cX0_minutesOf 21 = .ok (.iload_n 2, 1) := by decide +kernel
theorem dX0_minutesOf_22 : decode cX0_minutesOf 22 = .ok (.iaload, 1) := by decide +kernel
theorem dX0_minutesOf_23 : decode cX0_minutesOf 23 = .ok (.aload_n 0, 1) := by decide +kernel
theorem dX0_minutesOf_24 : decode cX0_minutesOf 24 = .ok (.getfield 30, 3) := by decide +kernel
theorem dX0_minutesOf_27 : decode cX0_minutesOf 27 = .ok (.iload 4, 2) := by decide +kernel
theorem dX0_minutesOf_29 : decode cX0_minutesOf 29 = .ok (.iaload, 1) := by decide +kernel
theorem dX0_minutesOf_30 : decode cX0_minutesOf 30 = .ok (.isub, 1) := by decide +kernel
theorem dX0_minutesOf_31 : decode cX0_minutesOf 31 = .ok (.invokestatic 118, 3) := by decide +kernel
theorem dX0_minutesOf_34 : decode cX0_minutesOf 34 = .ok (.aload_n 0, 1) := by decide +kernel
theorem dX0_minutesOf_35 : decode cX0_minutesOf 35 = .ok (.getfield 22, 3) := by decide +kernel
theorem dX0_minutesOf_38 : decode cX0_minutesOf 38 = .ok (.iload_n 2, 1) := by decide +kernel
theorem dX0_minutesOf_39 : decode cX0_minutesOf 39 = .ok (.iaload, 1) := by decide +kernel
theorem dX0_minutesOf_40 : decode cX0_minutesOf 40 = .ok (.aload_n 0, 1) := by decide +kernel
theorem dX0_minutesOf_41 : decode cX0_minutesOf 41 = .ok (.getfield 33, 3) := by decide +kernel
theorem dX0_minutesOf_44 : decode cX0_minutesOf 44 = .ok (.iload 4, 2) := by decide +kernel
theorem dX0_minutesOf_46 : decode cX0_minutesOf 46 = .ok (.iaload, 1) := by decide +kernel
theorem dX0_minutesOf_47 : decode cX0_minutesOf 47 = .ok (.isub, 1) := by decide +kernel
theorem dX0_minutesOf_48 : decode cX0_minutesOf 48 = .ok (.invokestatic 118, 3) := by decide +kernel
theorem dX0_minutesOf_51 : decode cX0_minutesOf 51 = .ok (.iadd, 1) := by decide +kernel
theorem dX0_minutesOf_52 : decode cX0_minutesOf 52 = .ok (.istore 5, 2) := by decide +kernel
theorem dX0_minutesOf_54 : decode cX0_minutesOf 54 = .ok (.aload_n 0, 1) := by decide +kernel
theorem dX0_minutesOf_55 : decode cX0_minutesOf 55 = .ok (.getfield 12, 3) := by decide +kernel
theorem dX0_minutesOf_58 : decode cX0_minutesOf 58 = .ok (.getfield 88, 3) := by decide +kernel
theorem dX0_minutesOf_61 : decode cX0_minutesOf 61 = .ok (.iload_n 3, 1) := by decide +kernel
theorem dX0_minutesOf_62 : decode cX0_minutesOf 62 = .ok (.iconst 2, 1) := by decide +kernel
theorem dX0_minutesOf_63 : decode cX0_minutesOf 63 = .ok (.invokevirtual 97, 3) := by decide +kernel
theorem dX0_minutesOf_66 : decode cX0_minutesOf 66 = .ok (.iload 5, 2) := by decide +kernel
theorem dX0_minutesOf_68 : decode cX0_minutesOf 68 = .ok (.imul, 1) := by decide +kernel
theorem dX0_minutesOf_69 : decode cX0_minutesOf 69 = .ok (.aload_n 0, 1) := by decide +kernel
theorem dX0_minutesOf_70 : decode cX0_minutesOf 70 = .ok (.getfield 12, 3) := by decide +kernel
theorem dX0_minutesOf_73 : decode cX0_minutesOf 73 = .ok (.getfield 123, 3) := by decide +kernel
theorem dX0_minutesOf_76 : decode cX0_minutesOf 76 = .ok (.imul, 1) := by decide +kernel
theorem dX0_minutesOf_77 : decode cX0_minutesOf 77 = .ok (.aload_n 0, 1) := by decide +kernel
theorem dX0_minutesOf_78 : decode cX0_minutesOf 78 = .ok (.iload_n 1, 1) := by decide +kernel
theorem dX0_minutesOf_79 : decode cX0_minutesOf 79 = .ok (.iload_n 2, 1) := by decide +kernel
theorem dX0_minutesOf_80 : decode cX0_minutesOf 80 = .ok (.iload 4, 2) := by decide +kernel
theorem dX0_minutesOf_82 : decode cX0_minutesOf 82 = .ok (.invokevirtual 126, 3) := by decide +kernel
theorem dX0_minutesOf_85 : decode cX0_minutesOf 85 = .ok (.aload_n 0, 1) := by decide +kernel
theorem dX0_minutesOf_86 : decode cX0_minutesOf 86 = .ok (.getfield 12, 3) := by decide +kernel
theorem dX0_minutesOf_89 : decode cX0_minutesOf 89 = .ok (.getfield 129, 3) := by decide +kernel
theorem dX0_minutesOf_92 : decode cX0_minutesOf 92 = .ok (.imul, 1) := by decide +kernel
theorem dX0_minutesOf_93 : decode cX0_minutesOf 93 = .ok (.iadd, 1) := by decide +kernel
theorem dX0_minutesOf_94 : decode cX0_minutesOf 94 = .ok (.ireturn, 1) := by decide +kernel
theorem dX0_layAll_0 : decode cX0_layAll 0 = .ok (.aload_n 0, 1) := by decide +kernel
theorem dX0_layAll_1 : decode cX0_layAll 1 = .ok (.iload_n 1, 1) := by decide +kernel
theorem dX0_layAll_2 : decode cX0_layAll 2 = .ok (.ifCond .ne 7, 3) := by decide +kernel
theorem dX0_layAll_5 : decode cX0_layAll 5 = .ok (.iconst 1, 1) := by decide +kernel
theorem dX0_layAll_6 : decode cX0_layAll 6 = .ok (.goto 4, 3) := by decide +kernel
theorem dX0_layAll_9 : decode cX0_layAll 9 = .ok (.iload_n 2, 1) := by decide +kernel
theorem dX0_layAll_10 : decode cX0_layAll 10 = .ok (.invokevirtual 132, 3) := by decide +kernel
theorem dX0_layAll_13 : decode cX0_layAll 13 = .ok (.istore_n 3, 1) := by decide +kernel
theorem dX0_layAll_14 : decode cX0_layAll 14 = .ok (.aload_n 0, 1) := by decide +kernel
theorem dX0_layAll_15 : decode cX0_layAll 15 = .ok (.invokevirtual 135, 3) := by decide +kernel
theorem dX0_layAll_18 : decode cX0_layAll 18 = .ok (.iload_n 1, 1) := by decide +kernel
theorem dX0_layAll_19 : decode cX0_layAll 19 = .ok (.iconst 3, 1) := by decide +kernel
theorem dX0_layAll_20 : decode cX0_layAll 20 = .ok (.if_icmp .ne 36, 3) := by decide +kernel
theorem dX0_layAll_23 : decode cX0_layAll 23 = .ok (.aload_n 0, 1) := by decide +kernel
theorem dX0_layAll_24 : decode cX0_layAll 24 = .ok (.iconst 1, 1) := by decide +kernel
theorem dX0_layAll_25 : decode cX0_layAll 25 = .ok (.iload_n 3, 1) := by decide +kernel
theorem dX0_layAll_26 : decode cX0_layAll 26 = .ok (.invokevirtual 138, 3) := by decide +kernel
theorem dX0_layAll_29 : decode cX0_layAll 29 = .ok (.aload_n 0, 1) := by decide +kernel
theorem dX0_layAll_30 : decode cX0_layAll 30 = .ok (.invokevirtual 142, 3) := by decide +kernel
theorem dX0_layAll_33 : decode cX0_layAll 33 = .ok (.istore 4, 2) := by decide +kernel
theorem dX0_layAll_35 : decode cX0_layAll 35 = .ok (.aload_n 0, 1) := by decide +kernel
theorem dX0_layAll_36 : decode cX0_layAll 36 = .ok (.iconst 0, 1) := by decide +kernel
theorem dX0_layAll_37 : decode cX0_layAll 37 = .ok (.iload 4, 2) := by decide +kernel
theorem dX0_layAll_39 : decode cX0_layAll 39 = .ok (.ifCond .ne 11, 3) := by decide +kernel
theorem dX0_layAll_42 : decode cX0_layAll 42 = .ok (.aload_n 0, 1) := by decide +kernel
theorem dX0_layAll_43 : decode cX0_layAll 43 = .ok (.iload_n 2, 1) := by decide +kernel
theorem dX0_layAll_44 : decode cX0_layAll 44 = .ok (.invokevirtual 132, 3) := by decide +kernel
theorem dX0_layAll_47 : decode cX0_layAll 47 = .ok (.goto 5, 3) := by decide +kernel
theorem dX0_layAll_50 : decode cX0_layAll 50 = .ok (.iload 4, 2) := by decide +kernel
theorem dX0_layAll_52 : decode cX0_layAll 52 = .ok (.invokevirtual 138, 3) := by decide +kernel
theorem dX0_layAll_55 : decode cX0_layAll 55 = .ok (.return_, 1) := by decide +kernel
theorem dX0_layAll_56 : decode cX0_layAll 56 = .ok (.iconst 0, 1) := by decide +kernel
theorem dX0_layAll_57 : decode cX0_layAll 57 = .ok (.istore 4, 2) := by decide +kernel
theorem dX0_layAll_59 : decode cX0_layAll 59 = .ok (.iconst 0, 1) := by decide +kernel
theorem dX0_layAll_60 : decode cX0_layAll 60 = .ok (.istore 5, 2) := by decide +kernel
theorem dX0_layAll_62 : decode cX0_layAll 62 = .ok (.iload 5, 2) := by decide +kernel
theorem dX0_layAll_64 : decode cX0_layAll 64 = .ok (.aload_n 0, 1) := by decide +kernel
theorem dX0_layAll_65 : decode cX0_layAll 65 = .ok (.getfield 12, 3) := by decide +kernel
theorem dX0_layAll_68 : decode cX0_layAll 68 = .ok (.getfield 88, 3) := by decide +kernel
theorem dX0_layAll_71 : decode cX0_layAll 71 = .ok (.getfield 92, 3) := by decide +kernel
theorem dX0_layAll_74 : decode cX0_layAll 74 = .ok (.if_icmp .ge 29, 3) := by decide +kernel
theorem dX0_layAll_77 : decode cX0_layAll 77 = .ok (.aload_n 0, 1) := by decide +kernel
theorem dX0_layAll_78 : decode cX0_layAll 78 = .ok (.iload 5, 2) := by decide +kernel
theorem dX0_layAll_80 : decode cX0_layAll 80 = .ok (.iload_n 3, 1) := by decide +kernel
theorem dX0_layAll_81 : decode cX0_layAll 81 = .ok (.iload_n 1, 1) := by decide +kernel
theorem dX0_layAll_82 : decode cX0_layAll 82 = .ok (.iconst 2, 1) := by decide +kernel
theorem dX0_layAll_83 : decode cX0_layAll 83 = .ok (.if_icmp .ne 7, 3) := by decide +kernel
theorem dX0_layAll_86 : decode cX0_layAll 86 = .ok (.iconst 0, 1) := by decide +kernel
theorem dX0_layAll_87 : decode cX0_layAll 87 = .ok (.goto 5, 3) := by decide +kernel
theorem dX0_layAll_90 : decode cX0_layAll 90 = .ok (.iload 4, 2) := by decide +kernel
theorem dX0_layAll_92 : decode cX0_layAll 92 = .ok (.invokevirtual 146, 3) := by decide +kernel
theorem dX0_layAll_95 : decode cX0_layAll 95 = .ok (.istore 4, 2) := by decide +kernel
theorem dX0_layAll_97 : decode cX0_layAll 97 = .ok (.iinc 5 1, 3) := by decide +kernel
theorem dX0_layAll_100 : decode cX0_layAll 100 = .ok (.goto (-38), 3) := by decide +kernel
theorem dX0_layAll_103 : decode cX0_layAll 103 = .ok (.return_, 1) := by decide +kernel
theorem dX0_takeUpAll_0 : decode cX0_takeUpAll 0 = .ok (.iconst 0, 1) := by decide +kernel
theorem dX0_takeUpAll_1 : decode cX0_takeUpAll 1 = .ok (.istore_n 1, 1) := by decide +kernel
theorem dX0_takeUpAll_2 : decode cX0_takeUpAll 2 = .ok (.iload_n 1, 1) := by decide +kernel
theorem dX0_takeUpAll_3 : decode cX0_takeUpAll 3 = .ok (.bipush 8, 2) := by decide +kernel
theorem dX0_takeUpAll_5 : decode cX0_takeUpAll 5 = .ok (.if_icmp .ge 32, 3) := by decide +kernel
theorem dX0_takeUpAll_8 : decode cX0_takeUpAll 8 = .ok (.iconst 0, 1) := by decide +kernel
theorem dX0_takeUpAll_9 : decode cX0_takeUpAll 9 = .ok (.istore_n 2, 1) := by decide +kernel
theorem dX0_takeUpAll_10 : decode cX0_takeUpAll 10 = .ok (.iload_n 2, 1) := by decide +kernel
theorem dX0_takeUpAll_11 : decode cX0_takeUpAll 11 = .ok (.bipush 6, 2) := by decide +kernel
theorem dX0_takeUpAll_13 : decode cX0_takeUpAll 13 = .ok (.if_icmp .ge 18, 3) := by decide +kernel
theorem dX0_takeUpAll_16 : decode cX0_takeUpAll 16 = .ok (.aload_n 0, 1) := by decide +kernel
theorem dX0_takeUpAll_17 : decode cX0_takeUpAll 17 = .ok (.getfield 27, 3) := by decide +kernel
theorem dX0_takeUpAll_20 : decode cX0_takeUpAll 20 = .ok (.iload_n 1, 1) := by decide +kernel
theorem dX0_takeUpAll_21 : decode cX0_takeUpAll 21 = .ok (.aaload, 1) := by decide +kernel
theorem dX0_takeUpAll_22 : decode cX0_takeUpAll 22 = .ok (.iload_n 2, 1) := by decide +kernel
theorem dX0_takeUpAll_23 : decode cX0_takeUpAll 23 = .ok (.iconst 0, 1) := by decide +kernel
theorem dX0_takeUpAll_24 : decode cX0_takeUpAll 24 = .ok (.iastore, 1) := by decide +kernel
theorem dX0_takeUpAll_25 : decode cX0_takeUpAll 25 = .ok (.iinc 2 1, 3) := by decide +kernel
theorem dX0_takeUpAll_28 : decode cX0_takeUpAll 28 = .ok (.goto (-18), 3) := by decide +kernel
theorem dX0_takeUpAll_31 : decode cX0_takeUpAll 31 = .ok (.iinc 1 1, 3) := by decide +kernel
theorem dX0_takeUpAll_34 : decode cX0_takeUpAll 34 = .ok (.goto (-32), 3) := by decide +kernel
theorem dX0_takeUpAll_37 : decode cX0_takeUpAll 37 = .ok (.return_, 1) := by decide +kernel
theorem dX0_layKind_0 : decode cX0_layKind 0 = .ok (.iconst 0, 1) := by decide +kernel
theorem dX0_layKind_1 : decode cX0_layKind 1 = .ok (.istore_n 3, 1) := by decide +kernel
theorem dX0_layKind_2 : decode cX0_layKind 2 = .ok (.iconst 0, 1) := by decide +kernel
theorem dX0_layKind_3 : decode cX0_layKind 3 = .ok (.istore 4, 2) := by decide +kernel
theorem dX0_layKind_5 : decode cX0_layKind 5 = .ok (.iload 4, 2) := by decide +kernel
theorem dX0_layKind_7 : decode cX0_layKind 7 = .ok (.aload_n 0, 1) := by decide +kernel
theorem dX0_layKind_8 : decode cX0_layKind 8 = .ok (.getfield 12, 3) := by decide +kernel
theorem dX0_layKind_11 : decode cX0_layKind 11 = .ok (.getfield 88, 3) := by decide +kernel
theorem dX0_layKind_14 : decode cX0_layKind 14 = .ok (.getfield 92, 3) := by decide +kernel
theorem dX0_layKind_17 : decode cX0_layKind 17 = .ok (.if_icmp .ge 44, 3) := by decide +kernel
theorem dX0_layKind_20 : decode cX0_layKind 20 = .ok (.aload_n 0, 1) := by decide +kernel
theorem dX0_layKind_21 : decode cX0_layKind 21 = .ok (.getfield 12, 3) := by decide +kernel
theorem dX0_layKind_24 : decode cX0_layKind 24 = .ok (.getfield 88, 3) := by decide +kernel
theorem dX0_layKind_27 : decode cX0_layKind 27 = .ok (.iload 4, 2) := by decide +kernel
theorem dX0_layKind_29 : decode cX0_layKind 29 = .ok (.iconst 0, 1) := by decide +kernel
theorem dX0_layKind_30 : decode cX0_layKind 30 = .ok (.invokevirtual 97, 3) := by decide +kernel
theorem dX0_layKind_33 : decode cX0_layKind 33 = .ok (.iconst 2, 1) := by decide +kernel
theorem dX0_layKind_34 : decode cX0_layKind 34 = .ok (.if_icmp .ne 7, 3) := by decide +kernel
theorem dX0_layKind_37 : decode cX0_layKind 37 = .ok (.iconst 1, 1) := by decide +kernel
theorem dX0_layKind_38 : decode cX0_layKind 38 = .ok (.goto 4, 3) := by decide +kernel
theorem dX0_layKind_41 : decode cX0_layKind 41 = .ok (.iconst 0, 1) := by decide +kernel
theorem dX0_layKind_42 : decode cX0_layKind 42 = .ok (.iload_n 1, 1) := by decide +kernel
theorem dX0_layKind_43 : decode cX0_layKind 43 = .ok (.if_icmp .ne 12, 3) := by decide +kernel
theorem dX0_layKind_46 : decode cX0_layKind 46 = .ok (.aload_n 0, 1) := by decide +kernel
theorem dX0_layKind_47 : decode cX0_layKind 47 = .ok (.iload 4, 2) := by decide +kernel
theorem dX0_layKind_49 : decode cX0_layKind 49 = .ok (.iload_n 2, 1) := by decide +kernel
theorem dX0_layKind_50 : decode cX0_layKind 50 = .ok (.iload_n 3, 1) := by decide +kernel
theorem dX0_layKind_51 : decode cX0_layKind 51 = .ok (.invokevirtual 146, 3) := by decide +kernel
theorem dX0_layKind_54 : decode cX0_layKind 54 = .ok (.istore_n 3, 1) := by decide +kernel
theorem dX0_layKind_55 : decode cX0_layKind 55 = .ok (.iinc 4 1, 3) := by decide +kernel
theorem dX0_layKind_58 : decode cX0_layKind 58 = .ok (.goto (-53), 3) := by decide +kernel
theorem dX0_layKind_61 : decode cX0_layKind 61 = .ok (.return_, 1) := by decide +kernel
theorem dX0_laySort_0 : decode cX0_laySort 0 = .ok (.iload_n 3, 1) := by decide +kernel
theorem dX0_laySort_1 : decode cX0_laySort 1 = .ok (.istore 4, 2) := by decide +kernel
theorem dX0_laySort_3 : decode cX0_laySort 3 = .ok (.iconst 0, 1) := by decide +kernel
theorem dX0_laySort_4 : decode cX0_laySort 4 = .ok (.istore 5, 2) := by decide +kernel
theorem dX0_laySort_6 : decode cX0_laySort 6 = .ok (.iload 5, 2) := by decide +kernel
theorem dX0_laySort_8 : decode cX0_laySort 8 = .ok (.aload_n 0, 1) := by decide +kernel
theorem dX0_laySort_9 : decode cX0_laySort 9 = .ok (.getfield 12, 3) := by decide +kernel
theorem dX0_laySort_12 : decode cX0_laySort 12 = .ok (.getfield 88, 3) := by decide +kernel
theorem dX0_laySort_15 : decode cX0_laySort 15 = .ok (.iload_n 1, 1) := by decide +kernel
theorem dX0_laySort_16 : decode cX0_laySort 16 = .ok (.iconst 3, 1) := by decide +kernel
theorem dX0_laySort_17 : decode cX0_laySort 17 = .ok (.invokevirtual 97, 3) := by decide +kernel
theorem dX0_laySort_20 : decode cX0_laySort 20 = .ok (.if_icmp .ge 81, 3) := by decide +kernel
theorem dX0_laySort_23 : decode cX0_laySort 23 = .ok (.iload_n 2, 1) := by decide +kernel
theorem dX0_laySort_24 : decode cX0_laySort 24 = .ok (.ifCond .le 77, 3) := by decide +kernel
theorem dX0_laySort_27 : decode cX0_laySort 27 = .ok (.iload 4, 2) := by decide +kernel
theorem dX0_laySort_29 : decode cX0_laySort 29 = .ok (.ifCond .lt 19, 3) := by decide +kernel
theorem dX0_laySort_32 : decode cX0_laySort 32 = .ok (.iload 4, 2) := by decide +kernel
theorem dX0_laySort_34 : decode cX0_laySort 34 = .ok (.iload_n 2, 1) := by decide +kernel
theorem dX0_laySort_35 : decode cX0_laySort 35 = .ok (.if_icmp .ge 13, 3) := by decide +kernel
theorem dX0_laySort_38 : decode cX0_laySort 38 = .ok (.iload 4, 2) := by decide +kernel
theorem dX0_laySort_40 : decode cX0_laySort 40 = .ok (.aload_n 0, 1) := by decide +kernel
theorem dX0_laySort_41 : decode cX0_laySort 41 = .ok (.getfield 42, 3) := by decide +kernel
theorem dX0_laySort_44 : decode cX0_laySort 44 = .ok (.arraylength, 1) := by decide +kernel
theorem dX0_laySort_45 : decode cX0_laySort 45 = .ok (.if_icmp .lt 6, 3) := by decide +kernel
theorem dX0_laySort_48 : decode cX0_laySort 48 = .ok (.iconst 0, 1) := by decide +kernel
theorem dX0_laySort_49 : decode cX0_laySort 49 = .ok (.istore 4, 2) := by decide +kernel
theorem dX0_laySort_51 : decode cX0_laySort 51 = .ok (.aload_n 0, 1) := by decide +kernel
theorem dX0_laySort_52 : decode cX0_laySort 52 = .ok (.getfield 42, 3) := by decide +kernel
theorem dX0_laySort_55 : decode cX0_laySort 55 = .ok (.iload 4, 2) := by decide +kernel
theorem dX0_laySort_57 : decode cX0_laySort 57 = .ok (.iaload, 1) := by decide +kernel
theorem dX0_laySort_58 : decode cX0_laySort 58 = .ok (.invokestatic 70, 3) := by decide +kernel
theorem dX0_laySort_61 : decode cX0_laySort 61 = .ok (.ifCond .eq 31, 3) := by decide +kernel
theorem dX0_laySort_64 : decode cX0_laySort 64 = .ok (.iload_n 1, 1) := by decide +kernel
theorem dX0_laySort_65 : decode cX0_laySort 65 = .ok (.ifCond .lt 27, 3) := by decide +kernel
theorem dX0_laySort_68 : decode cX0_laySort 68 = .ok (.iload_n 1, 1) := by decide +kernel
theorem dX0_laySort_69 : decode cX0_laySort 69 = .ok (.bipush 6, 2) := by decide +kernel
theorem dX0_laySort_71 : decode cX0_laySort 71 = .ok (.if_icmp .ge 21, 3) := by decide +kernel
theorem dX0_laySort_74 : decode cX0_laySort 74 = .ok (.aload_n 0, 1) := by decide +kernel
theorem dX0_laySort_75 : decode cX0_laySort 75 = .ok (.getfield 27, 3) := by decide +kernel
theorem dX0_laySort_78 : decode cX0_laySort 78 = .ok (.aload_n 0, 1) := by decide +kernel
theorem dX0_laySort_79 : decode cX0_laySort 79 = .ok (.getfield 42, 3) := by decide +kernel
theorem dX0_laySort_82 : decode cX0_laySort 82 = .ok (.iload 4, 2) := by decide +kernel
theorem dX0_laySort_84 : decode cX0_laySort 84 = .ok (.iaload, 1) := by decide +kernel
theorem dX0_laySort_85 : decode cX0_laySort 85 = .ok (.aaload, 1) := by decide +kernel
theorem dX0_laySort_86 : decode cX0_laySort 86 = .ok (.iload_n 1, 1) := by decide +kernel
theorem dX0_laySort_87 : decode cX0_laySort 87 = .ok (.dup2, 1) := by decide +kernel
theorem dX0_laySort_88 : decode cX0_laySort 88 = .ok (.iaload, 1) := by decide +kernel
theorem dX0_laySort_89 : decode cX0_laySort 89 = .ok (.iconst 1, 1) := by decide +kernel
theorem dX0_laySort_90 : decode cX0_laySort 90 = .ok (.iadd, 1) := by decide +kernel
theorem dX0_laySort_91 : decode cX0_laySort 91 = .ok (.iastore, 1) := by decide +kernel
theorem dX0_laySort_92 : decode cX0_laySort 92 = .ok (.iinc 4 1, 3) := by decide +kernel
theorem dX0_laySort_95 : decode cX0_laySort 95 = .ok (.iinc 5 1, 3) := by decide +kernel
theorem dX0_laySort_98 : decode cX0_laySort 98 = .ok (.goto (-92), 3) := by decide +kernel
theorem dX0_laySort_101 : decode cX0_laySort 101 = .ok (.iload 4, 2) := by decide +kernel
theorem dX0_laySort_103 : decode cX0_laySort 103 = .ok (.ireturn, 1) := by decide +kernel
theorem dX0_ringOfHeaps_0 : decode cX0_ringOfHeaps 0 = .ok (.iconst 0, 1) := by decide +kernel
theorem dX0_ringOfHeaps_1 : decode cX0_ringOfHeaps 1 = .ok (.istore_n 2, 1) := by decide +kernel
theorem dX0_ringOfHeaps_2 : decode cX0_ringOfHeaps 2 = .ok (.iconst 0, 1) := by decide +kernel
theorem dX0_ringOfHeaps_3 : decode cX0_ringOfHeaps 3 = .ok (.istore_n 3, 1) := by decide +kernel
theorem dX0_ringOfHeaps_4 : decode cX0_ringOfHeaps 4 = .ok (.iload_n 3, 1) := by decide +kernel
theorem dX0_ringOfHeaps_5 : decode cX0_ringOfHeaps 5 = .ok (.bipush 8, 2) := by decide +kernel
theorem dX0_ringOfHeaps_7 : decode cX0_ringOfHeaps 7 = .ok (.if_icmp .ge 32, 3) := by decide +kernel
theorem dX0_ringOfHeaps_10 : decode cX0_ringOfHeaps 10 = .ok (.iload_n 2, 1) := by decide +kernel
theorem dX0_ringOfHeaps_11 : decode cX0_ringOfHeaps 11 = .ok (.iload_n 1, 1) := by decide +kernel
theorem dX0_ringOfHeaps_12 : decode cX0_ringOfHeaps 12 = .ok (.if_icmp .ge 27, 3) := by decide +kernel
theorem dX0_ringOfHeaps_15 : decode cX0_ringOfHeaps 15 = .ok (.aload_n 0, 1) := by decide +kernel
theorem dX0_ringOfHeaps_16 : decode cX0_ringOfHeaps 16 = .ok (.iload_n 3, 1) := by decide +kernel
theorem dX0_ringOfHeaps_17 : decode cX0_ringOfHeaps 17 = .ok (.invokevirtual 77, 3) := by decide +kernel
theorem dX0_ringOfHeaps_20 : decode cX0_ringOfHeaps 20 = .ok (.ifCond .eq 13, 3) := by decide +kernel
theorem dX0_ringOfHeaps_23 : decode cX0_ringOfHeaps 23 = .ok (.aload_n 0, 1) := by decide +kernel
theorem dX0_ringOfHeaps_24 : decode cX0_ringOfHeaps 24 = .ok (.getfield 42, 3) := by decide +kernel
theorem dX0_ringOfHeaps_27 : decode cX0_ringOfHeaps 27 = .ok (.iload_n 2, 1) := by decide +kernel
theorem dX0_ringOfHeaps_28 : decode cX0_ringOfHeaps 28 = .ok (.iload_n 3, 1) := by decide +kernel
theorem dX0_ringOfHeaps_29 : decode cX0_ringOfHeaps 29 = .ok (.iastore, 1) := by decide +kernel
theorem dX0_ringOfHeaps_30 : decode cX0_ringOfHeaps 30 = .ok (.iinc 2 1, 3) := by decide +kernel
theorem dX0_ringOfHeaps_33 : decode cX0_ringOfHeaps 33 = .ok (.iinc 3 1, 3) := by decide +kernel
theorem dX0_ringOfHeaps_36 : decode cX0_ringOfHeaps 36 = .ok (.goto (-32), 3) := by decide +kernel
theorem dX0_ringOfHeaps_39 : decode cX0_ringOfHeaps 39 = .ok (.iload_n 2, 1) := by decide +kernel
theorem dX0_ringOfHeaps_40 : decode cX0_ringOfHeaps 40 = .ok (.ireturn, 1) := by decide +kernel
theorem dX0_ringOfSeats_0 : decode cX0_ringOfSeats 0 = .ok (.iconst 0, 1) := by decide +kernel
theorem dX0_ringOfSeats_1 : decode cX0_ringOfSeats 1 = .ok (.istore_n 1, 1) := by decide +kernel
theorem dX0_ringOfSeats_2 : decode cX0_ringOfSeats 2 = .ok (.iconst 0, 1) := by decide +kernel
theorem dX0_ringOfSeats_3 : decode cX0_ringOfSeats 3 = .ok (.istore_n 2, 1) := by decide +kernel
theorem dX0_ringOfSeats_4 : decode cX0_ringOfSeats 4 = .ok (.iload_n 2, 1) := by decide +kernel
theorem dX0_ringOfSeats_5 : decode cX0_ringOfSeats 5 = .ok (.bipush 8, 2) := by decide +kernel
theorem dX0_ringOfSeats_7 : decode cX0_ringOfSeats 7 = .ok (.if_icmp .ge 28, 3) := by decide +kernel
theorem dX0_ringOfSeats_10 : decode cX0_ringOfSeats 10 = .ok (.aload_n 0, 1) := by decide +kernel
theorem dX0_ringOfSeats_11 : decode cX0_ringOfSeats 11 = .ok (.iload_n 2, 1) := by decide +kernel
theorem dX0_ringOfSeats_12 : decode cX0_ringOfSeats 12 = .ok (.iconst 2, 1) := by decide +kernel
theorem dX0_ringOfSeats_13 : decode cX0_ringOfSeats 13 = .ok (.invokevirtual 149, 3) := by decide +kernel
theorem dX0_ringOfSeats_16 : decode cX0_ringOfSeats 16 = .ok (.ifCond .le 13, 3) := by decide +kernel
theorem dX0_ringOfSeats_19 : decode cX0_ringOfSeats 19 = .ok (.aload_n 0, 1) := by decide +kernel
theorem dX0_ringOfSeats_20 : decode cX0_ringOfSeats 20 = .ok (.getfield 42, 3) := by decide +kernel
theorem dX0_ringOfSeats_23 : decode cX0_ringOfSeats 23 = .ok (.iload_n 1, 1) := by decide +kernel
theorem dX0_ringOfSeats_24 : decode cX0_ringOfSeats 24 = .ok (.iload_n 2, 1) := by decide +kernel
theorem dX0_ringOfSeats_25 : decode cX0_ringOfSeats 25 = .ok (.iastore, 1) := by decide +kernel
theorem dX0_ringOfSeats_26 : decode cX0_ringOfSeats 26 = .ok (.iinc 1 1, 3) := by decide +kernel
theorem dX0_ringOfSeats_29 : decode cX0_ringOfSeats 29 = .ok (.iinc 2 1, 3) := by decide +kernel
theorem dX0_ringOfSeats_32 : decode cX0_ringOfSeats 32 = .ok (.goto (-28), 3) := by decide +kernel
theorem dX0_ringOfSeats_35 : decode cX0_ringOfSeats 35 = .ok (.iload_n 1, 1) := by decide +kernel
theorem dX0_ringOfSeats_36 : decode cX0_ringOfSeats 36 = .ok (.ireturn, 1) := by decide +kernel
theorem dX1_begin_0 : decode cX1_begin 0 = .ok (.iconst 0, 1) := by decide +kernel
theorem dX1_begin_1 : decode cX1_begin 1 = .ok (.istore_n 2, 1) := by decide +kernel
theorem dX1_begin_2 : decode cX1_begin 2 = .ok (.iload_n 2, 1) := by decide +kernel
theorem dX1_begin_3 : decode cX1_begin 3 = .ok (.bipush 99, 2) := by decide +kernel
theorem dX1_begin_5 : decode cX1_begin 5 = .ok (.if_icmp .gt 27, 3) := by decide +kernel
theorem dX1_begin_8 : decode cX1_begin 8 = .ok (.aload_n 0, 1) := by decide +kernel
theorem dX1_begin_9 : decode cX1_begin 9 = .ok (.getfield 9, 3) := by decide +kernel
theorem dX1_begin_12 : decode cX1_begin 12 = .ok (.iload_n 2, 1) := by decide +kernel
theorem dX1_begin_13 : decode cX1_begin 13 = .ok (.iload_n 2, 1) := by decide +kernel
theorem dX1_begin_14 : decode cX1_begin 14 = .ok (.iload_n 1, 1) := by decide +kernel
theorem dX1_begin_15 : decode cX1_begin 15 = .ok (.if_icmp .ne 9, 3) := by decide +kernel
theorem dX1_begin_18 : decode cX1_begin 18 = .ok (.ldc2_w 18, 3) := by decide +kernel
theorem dX1_begin_21 : decode cX1_begin 21 = .ok (.goto 4, 3) := by decide +kernel
theorem dX1_begin_24 : decode cX1_begin 24 = .ok (.lconst 0, 1) := by decide +kernel
theorem dX1_begin_25 : decode cX1_begin 25 = .ok (.lastore, 1) := by decide +kernel
theorem dX1_begin_26 : decode cX1_begin 26 = .ok (.iinc 2 1, 3) := by decide +kernel
theorem dX1_begin_29 : decode cX1_begin 29 = .ok (.goto (-27), 3) := by decide +kernel
theorem dX1_begin_32 : decode cX1_begin 32 = .ok (.return_, 1) := by decide +kernel
theorem dX1_passDay_0 : decode cX1_passDay 0 = .ok (.iconst 0, 1) := by decide +kernel
theorem dX1_passDay_1 : decode cX1_passDay 1 = .ok (.istore_n 2, 1) := by decide +kernel
theorem dX1_passDay_2 : decode cX1_passDay 2 = .ok (.iload_n 2, 1) := by decide +kernel
theorem dX1_passDay_3 : decode cX1_passDay 3 = .ok (.bipush 99, 2) := by decide +kernel
theorem dX1_passDay_5 : decode cX1_passDay 5 = .ok (.if_icmp .gt 29, 3) := by decide +kernel
theorem dX1_passDay_8 : decode cX1_passDay 8 = .ok (.aload_n 0, 1) := by decide +kernel
theorem dX1_passDay_9 : decode cX1_passDay 9 = .ok (.getfield 15, 3) := by decide +kernel
theorem dX1_passDay_12 : decode cX1_passDay 12 = .ok (.iload_n 2, 1) := by decide +kernel
theorem dX1_passDay_13 : decode cX1_passDay 13 = .ok (.iload_n 2, 1) := by decide +kernel
theorem dX1_passDay_14 : decode cX1_passDay 14 = .ok (.ifCond .ne 12, 3) := by decide +kernel
theorem dX1_passDay_17 : decode cX1_passDay 17 = .ok (.aload_n 0, 1) := by decide +kernel
theorem dX1_passDay_18 : decode cX1_passDay 18 = .ok (.getfield 9, 3) := by decide +kernel
theorem dX1_passDay_21 : decode cX1_passDay 21 = .ok (.iconst 0, 1) := by decide +kernel
theorem dX1_passDay_22 : decode cX1_passDay 22 = .ok (.laload, 1) := by decide +kernel
theorem dX1_passDay_23 : decode cX1_passDay 23 = .ok (.goto 4, 3) := by decide +kernel
theorem dX1_passDay_26 : decode cX1_passDay 26 = .ok (.lconst 0, 1) := by decide +kernel
theorem dX1_passDay_27 : decode cX1_passDay 27 = .ok (.lastore, 1) := by decide +kernel
theorem dX1_passDay_28 : decode cX1_passDay 28 = .ok (.iinc 2 1, 3) := by decide +kernel
theorem dX1_passDay_31 : decode cX1_passDay 31 = .ok (.goto (-29), 3) := by decide +kernel
theorem dX1_passDay_34 : decode cX1_passDay 34 = .ok (.iconst 1, 1) := by decide +kernel
theorem dX1_passDay_35 : decode cX1_passDay 35 = .ok (.istore_n 2, 1) := by decide +kernel
theorem dX1_passDay_36 : decode cX1_passDay 36 = .ok (.iload_n 2, 1) := by decide +kernel
theorem dX1_passDay_37 : decode cX1_passDay 37 = .ok (.bipush 99, 2) := by decide +kernel
theorem dX1_passDay_39 : decode cX1_passDay 39 = .ok (.if_icmp .gt 63, 3) := by decide +kernel
theorem dX1_passDay_42 : decode cX1_passDay 42 = .ok (.aload_n 0, 1) := by decide +kernel
theorem dX1_passDay_43 : decode cX1_passDay 43 = .ok (.getfield 9, 3) := by decide +kernel
theorem dX1_passDay_46 : decode cX1_passDay 46 = .ok (.iload_n 2, 1) := by decide +kernel
theorem dX1_passDay_47 : decode cX1_passDay 47 = .ok (.laload, 1) := by decide +kernel
theorem dX1_passDay_48 : decode cX1_passDay 48 = .ok (.iload_n 1, 1) := by decide +kernel
theorem dX1_passDay_49 : decode cX1_passDay 49 = .ok (.i2l, 1) := by decide +kernel
theorem dX1_passDay_50 : decode cX1_passDay 50 = .ok (.lmul, 1) := by decide +kernel
theorem dX1_passDay_51 : decode cX1_passDay 51 = .ok (.ldc2_w 20, 3) := by decide +kernel
theorem dX1_passDay_54 : decode cX1_passDay 54 = .ok (.ldiv, 1) := by decide +kernel
theorem dX1_passDay_55 : decode cX1_passDay 55 = .ok (.lstore_n 3, 1) := by decide +kernel
theorem dX1_passDay_56 : decode cX1_passDay 56 = .ok (.aload_n 0, 1) := by decide +kernel
theorem dX1_passDay_57 : decode cX1_passDay 57 = .ok (.getfield 15, 3) := by decide +kernel
theorem dX1_passDay_60 : decode cX1_passDay 60 = .ok (.iconst 0, 1) := by decide +kernel
theorem dX1_passDay_61 : decode cX1_passDay 61 = .ok (.iload_n 2, 1) := by decide +kernel
theorem dX1_passDay_62 : decode cX1_passDay 62 = .ok (.iconst 2, 1) := by decide +kernel
theorem dX1_passDay_63 : decode cX1_passDay 63 = .ok (.isub, 1) := by decide +kernel
theorem dX1_passDay_64 : decode cX1_passDay 64 = .ok (.invokestatic 22, 3) := by decide +kernel
theorem dX1_passDay_67 : decode cX1_passDay 67 = .ok (.dup2, 1) := by decide +kernel
theorem dX1_passDay_68 : decode cX1_passDay 68 = .ok (.laload, 1) := by decide +kernel
theorem dX1_passDay_69 : decode cX1_passDay 69 = .ok (.lload_n 3, 1) := by decide +kernel
theorem dX1_passDay_70 : decode cX1_passDay 70 = .ok (.ladd, 1) := by decide +kernel
theorem dX1_passDay_71 : decode cX1_passDay 71 = .ok (.lastore, 1) := by decide +kernel
theorem dX1_passDay_72 : decode cX1_passDay 72 = .ok (.aload_n 0, 1) := by decide +kernel
theorem dX1_passDay_73 : decode cX1_passDay 73 = .ok (.getfield 15, 3) := by decide +kernel
theorem dX1_passDay_76 : decode cX1_passDay 76 = .ok (.bipush 99, 2) := by decide +kernel
theorem dX1_passDay_78 : decode cX1_passDay 78 = .ok (.iload_n 2, 1) := by decide +kernel
theorem dX1_passDay_79 : decode cX1_passDay 79 = .ok (.iconst 1, 1) := by decide +kernel
theorem dX1_passDay_80 : decode cX1_passDay 80 = .ok (.iadd, 1) := by decide +kernel
theorem dX1_passDay_81 : decode cX1_passDay 81 = .ok (.invokestatic 28, 3) := by decide +kernel
theorem dX1_passDay_84 : decode cX1_passDay 84 = .ok (.dup2, 1) := by decide +kernel
theorem dX1_passDay_85 : decode cX1_passDay 85 = .ok (.laload, 1) := by decide +kernel
theorem dX1_passDay_86 : decode cX1_passDay 86 = .ok (.aload_n 0, 1) := by decide +kernel
theorem dX1_passDay_87 : decode cX1_passDay 87 = .ok (.getfield 9, 3) := by decide +kernel
theorem dX1_passDay_90 : decode cX1_passDay 90 = .ok (.iload_n 2, 1) := by decide +kernel
theorem dX1_passDay_91 : decode cX1_passDay 91 = .ok (.laload, 1) := by decide +kernel
theorem dX1_passDay_92 : decode cX1_passDay 92 = .ok (.lload_n 3, 1) := by decide +kernel
theorem dX1_passDay_93 : decode cX1_passDay 93 = .ok (.lsub, 1) := by decide +kernel
theorem dX1_passDay_94 : decode cX1_passDay 94 = .ok (.ladd, 1) := by decide +kernel
theorem dX1_passDay_95 : decode cX1_passDay 95 = .ok (.lastore, 1) := by decide +kernel
theorem dX1_passDay_96 : decode cX1_passDay 96 = .ok (.iinc 2 1, 3) := by decide +kernel
theorem dX1_passDay_99 : decode cX1_passDay 99 = .ok (.goto (-63), 3) := by decide +kernel
theorem dX1_passDay_102 : decode cX1_passDay 102 = .ok (.iconst 0, 1) := by decide +kernel
theorem dX1_passDay_103 : decode cX1_passDay 103 = .ok (.istore_n 2, 1) := by decide +kernel
theorem dX1_passDay_104 : decode cX1_passDay 104 = .ok (.iload_n 2, 1) := by decide +kernel
theorem dX1_passDay_105 : decode cX1_passDay 105 = .ok (.bipush 99, 2) := by decide +kernel
theorem dX1_passDay_107 : decode cX1_passDay 107 = .ok (.if_icmp .gt 21, 3) := by decide +kernel
theorem dX1_passDay_110 : decode cX1_passDay 110 = .ok (.aload_n 0, 1) := by decide +kernel
theorem dX1_passDay_111 : decode cX1_passDay 111 = .ok (.getfield 9, 3) := by decide +kernel
theorem dX1_passDay_114 : decode cX1_passDay 114 = .ok (.iload_n 2, 1) := by decide +kernel
theorem dX1_passDay_115 : decode cX1_passDay 115 = .ok (.aload_n 0, 1) := by decide +kernel
theorem dX1_passDay_116 : decode cX1_passDay 116 = .ok (.getfield 15, 3) := by decide +kernel
theorem dX1_passDay_119 : decode cX1_passDay 119 = .ok (.iload_n 2, 1) := by decide +kernel
theorem dX1_passDay_120 : decode cX1_passDay 120 = .ok (.laload, 1) := by decide +kernel
theorem dX1_passDay_121 : decode cX1_passDay 121 = .ok (.lastore, 1) := by decide +kernel
theorem dX1_passDay_122 : decode cX1_passDay 122 = .ok (.iinc 2 1, 3) := by decide +kernel
theorem dX1_passDay_125 : decode cX1_passDay 125 = .ok (.goto (-21), 3) := by decide +kernel
theorem dX1_passDay_128 : decode cX1_passDay 128 = .ok (.return_, 1) := by decide +kernel
theorem dX1_partsAt_0 : decode cX1_partsAt 0 = .ok (.iload_n 1, 1) := by decide +kernel
theorem dX1_partsAt_1 : decode cX1_partsAt 1 = .ok (.ifCond .lt 18, 3) := by decide +kernel
theorem dX1_partsAt_4 : decode cX1_partsAt 4 = .ok (.iload_n 1, 1) := by decide +kernel
theorem dX1_partsAt_5 : decode cX1_partsAt 5 = .ok (.bipush 99, 2) := by decide +kernel
theorem dX1_partsAt_7 : decode cX1_partsAt 7 = .ok (.if_icmp .gt 12, 3) := by decide +kernel
theorem dX1_partsAt_10 : decode cX1_partsAt 10 = .ok (.aload_n 0, 1) := by decide +kernel
theorem dX1_partsAt_11 : decode cX1_partsAt 11 = .ok (.getfield 9, 3) := by decide +kernel
theorem dX1_partsAt_14 : decode cX1_partsAt 14 = .ok (.iload_n 1, 1) := by decide +kernel
theorem dX1_partsAt_15 : decode cX1_partsAt 15 = .ok (.laload, 1) := by decide +kernel
theorem dX1_partsAt_16 : decode cX1_partsAt 16 = .ok (.goto 4, 3) := by decide +kernel
theorem dX1_partsAt_19 : decode cX1_partsAt 19 = .ok (.lconst 0, 1) := by decide +kernel
theorem dX1_partsAt_20 : decode cX1_partsAt 20 = .ok (.lreturn, 1) := by decide +kernel
theorem dX1_partsWithin_0 : decode cX1_partsWithin 0 = .ok (.lconst 0, 1) := by decide +kernel
theorem dX1_partsWithin_1 : decode cX1_partsWithin 1 = .ok (.lstore_n 2, 1) := by decide +kernel
theorem dX1_partsWithin_2 : decode cX1_partsWithin 2 = .ok (.iconst 0, 1) := by decide +kernel
theorem dX1_partsWithin_3 : decode cX1_partsWithin 3 = .ok (.istore 4, 2) := by decide +kernel
theorem dX1_partsWithin_5 : decode cX1_partsWithin 5 = .ok (.iload 4, 2) := by decide +kernel
theorem dX1_partsWithin_7 : decode cX1_partsWithin 7 = .ok (.iload_n 1, 1) := by decide +kernel
theorem dX1_partsWithin_8 : decode cX1_partsWithin 8 = .ok (.if_icmp .gt 26, 3) := by decide +kernel
theorem dX1_partsWithin_11 : decode cX1_partsWithin 11 = .ok (.iload 4, 2) := by decide +kernel
theorem dX1_partsWithin_13 : decode cX1_partsWithin 13 = .ok (.bipush 99, 2) := by decide +kernel
theorem dX1_partsWithin_15 : decode cX1_partsWithin 15 = .ok (.if_icmp .gt 19, 3) := by decide +kernel
theorem dX1_partsWithin_18 : decode cX1_partsWithin 18 = .ok (.lload_n 2, 1) := by decide +kernel
theorem dX1_partsWithin_19 : decode cX1_partsWithin 19 = .ok (.aload_n 0, 1) := by decide +kernel
theorem dX1_partsWithin_20 : decode cX1_partsWithin 20 = .ok (.getfield 9, 3) := by decide +kernel
theorem dX1_partsWithin_23 : decode cX1_partsWithin 23 = .ok (.iload 4, 2) := by decide +kernel
theorem dX1_partsWithin_25 : decode cX1_partsWithin 25 = .ok (.laload, 1) := by decide +kernel
theorem dX1_partsWithin_26 : decode cX1_partsWithin 26 = .ok (.ladd, 1) := by decide +kernel
theorem dX1_partsWithin_27 : decode cX1_partsWithin 27 = .ok (.lstore_n 2, 1) := by decide +kernel
theorem dX1_partsWithin_28 : decode cX1_partsWithin 28 = .ok (.iinc 4 1, 3) := by decide +kernel
theorem dX1_partsWithin_31 : decode cX1_partsWithin 31 = .ok (.goto (-26), 3) := by decide +kernel
theorem dX1_partsWithin_34 : decode cX1_partsWithin 34 = .ok (.lload_n 2, 1) := by decide +kernel
theorem dX1_partsWithin_35 : decode cX1_partsWithin 35 = .ok (.lreturn, 1) := by decide +kernel
theorem dX2_clear_0 : decode cX2_clear 0 = .ok (.aload_n 0, 1) := by decide +kernel
theorem dX2_clear_1 : decode cX2_clear 1 = .ok (.iconst 0, 1) := by decide +kernel
theorem dX2_clear_2 : decode cX2_clear 2 = .ok (.putfield 29, 3) := by decide +kernel
theorem dX2_clear_5 : decode cX2_clear 5 = .ok (.aload_n 0, 1) := by decide +kernel
theorem dX2_clear_6 : decode cX2_clear 6 = .ok (.iconst 0, 1) := by decide +kernel
theorem dX2_clear_7 : decode cX2_clear 7 = .ok (.putfield 33, 3) := by decide +kernel
theorem dX2_clear_10 : decode cX2_clear 10 = .ok (.aload_n 0, 1) := by decide +kernel
theorem dX2_clear_11 : decode cX2_clear 11 = .ok (.iconst 0, 1) := by decide +kernel
theorem dX2_clear_12 : decode cX2_clear 12 = .ok (.putfield 36, 3) := by decide +kernel
theorem dX2_clear_15 : decode cX2_clear 15 = .ok (.aload_n 0, 1) := by decide +kernel
theorem dX2_clear_16 : decode cX2_clear 16 = .ok (.iconst 0, 1) := by decide +kernel
theorem dX2_clear_17 : decode cX2_clear 17 = .ok (.putfield 39, 3) := by decide +kernel
theorem dX2_clear_20 : decode cX2_clear 20 = .ok (.aload_n 0, 1) := by decide +kernel
theorem dX2_clear_21 : decode cX2_clear 21 = .ok (.iconst 0, 1) := by decide +kernel
theorem dX2_clear_22 : decode cX2_clear 22 = .ok (.putfield 42, 3) := by decide +kernel
theorem dX2_clear_25 : decode cX2_clear 25 = .ok (.aload_n 0, 1) := by decide +kernel
theorem dX2_clear_26 : decode cX2_clear 26 = .ok (.iconst 0, 1) := by decide +kernel
theorem dX2_clear_27 : decode cX2_clear 27 = .ok (.putfield 45, 3) := by decide +kernel
theorem dX2_clear_30 : decode cX2_clear 30 = .ok (.aload_n 0, 1) := by decide +kernel
theorem dX2_clear_31 : decode cX2_clear 31 = .ok (.iconst 0, 1) := by decide +kernel
theorem dX2_clear_32 : decode cX2_clear 32 = .ok (.putfield 48, 3) := by decide +kernel
theorem dX2_clear_35 : decode cX2_clear 35 = .ok (.aload_n 0, 1) := by decide +kernel
theorem dX2_clear_36 : decode cX2_clear 36 = .ok (.iconst 0, 1) := by decide +kernel
theorem dX2_clear_37 : decode cX2_clear 37 = .ok (.putfield 51, 3) := by decide +kernel
theorem dX2_clear_40 : decode cX2_clear 40 = .ok (.aload_n 0, 1) := by decide +kernel
theorem dX2_clear_41 : decode cX2_clear 41 = .ok (.iconst 1, 1) := by decide +kernel
theorem dX2_clear_42 : decode cX2_clear 42 = .ok (.putfield 54, 3) := by decide +kernel
theorem dX2_clear_45 : decode cX2_clear 45 = .ok (.aload_n 0, 1) := by decide +kernel
theorem dX2_clear_46 : decode cX2_clear 46 = .ok (.iconst 5, 1) := by decide +kernel
theorem dX2_clear_47 : decode cX2_clear 47 = .ok (.putfield 57, 3) := by decide +kernel
theorem dX2_clear_50 : decode cX2_clear 50 = .ok (.aload_n 0, 1) := by decide +kernel
theorem dX2_clear_51 : decode cX2_clear 51 = .ok (.bipush 50, 2) := by decide +kernel
theorem dX2_clear_53 : decode cX2_clear 53 = .ok (.putfield 60, 3) := by decide +kernel
theorem dX2_clear_56 : decode cX2_clear 56 = .ok (.aload_n 0, 1) := by decide +kernel
theorem dX2_clear_57 : decode cX2_clear 57 = .ok (.bipush 50, 2) := by decide +kernel
theorem dX2_clear_59 : decode cX2_clear 59 = .ok (.putfield 63, 3) := by decide +kernel
theorem dX2_clear_62 : decode cX2_clear 62 = .ok (.aload_n 0, 1) := by decide +kernel
theorem dX2_clear_63 : decode cX2_clear 63 = .ok (.bipush 20, 2) := by decide +kernel
theorem dX2_clear_65 : decode cX2_clear 65 = .ok (.putfield 66, 3) := by decide +kernel
theorem dX2_clear_68 : decode cX2_clear 68 = .ok (.aload_n 0, 1) := by decide +kernel
theorem dX2_clear_69 : decode cX2_clear 69 = .ok (.iconst 0, 1) := by decide +kernel
theorem dX2_clear_70 : decode cX2_clear 70 = .ok (.putfield 69, 3) := by decide +kernel
theorem dX2_clear_73 : decode cX2_clear 73 = .ok (.aload_n 0, 1) := by decide +kernel
theorem dX2_clear_74 : decode cX2_clear 74 = .ok (.iconst 0, 1) := by decide +kernel
theorem dX2_clear_75 : decode cX2_clear 75 = .ok (.putfield 72, 3) := by decide +kernel
theorem dX2_clear_78 : decode cX2_clear 78 = .ok (.aload_n 0, 1) := by decide +kernel
theorem dX2_clear_79 : decode cX2_clear 79 = .ok (.getfield 14, 3) := by decide +kernel
theorem dX2_clear_82 : decode cX2_clear 82 = .ok (.iconst 0, 1) := by decide +kernel
theorem dX2_clear_83 : decode cX2_clear 83 = .ok (.putfield 75, 3) := by decide +kernel
theorem dX2_clear_86 : decode cX2_clear 86 = .ok (.aload_n 0, 1) := by decide +kernel
theorem dX2_clear_87 : decode cX2_clear 87 = .ok (.getfield 20, 3) := by decide +kernel
theorem dX2_clear_90 : decode cX2_clear 90 = .ok (.iconst 0, 1) := by decide +kernel
theorem dX2_clear_91 : decode cX2_clear 91 = .ok (.putfield 75, 3) := by decide +kernel
theorem dX2_clear_94 : decode cX2_clear 94 = .ok (.aload_n 0, 1) := by decide +kernel
theorem dX2_clear_95 : decode cX2_clear 95 = .ok (.getfield 23, 3) := by decide +kernel
theorem dX2_clear_98 : decode cX2_clear 98 = .ok (.iconst 0, 1) := by decide +kernel
theorem dX2_clear_99 : decode cX2_clear 99 = .ok (.putfield 75, 3) := by decide +kernel
theorem dX2_clear_102 : decode cX2_clear 102 = .ok (.return_, 1) := by decide +kernel
theorem dX2_copyFrom_0 : decode cX2_copyFrom 0 = .ok (.aload_n 0, 1) := by decide +kernel
theorem dX2_copyFrom_1 : decode cX2_copyFrom 1 = .ok (.aload_n 1, 1) := by decide +kernel
theorem dX2_copyFrom_2 : decode cX2_copyFrom 2 = .ok (.getfield 29, 3) := by decide +kernel
theorem dX2_copyFrom_5 : decode cX2_copyFrom 5 = .ok (.putfield 29, 3) := by decide +kernel
theorem dX2_copyFrom_8 : decode cX2_copyFrom 8 = .ok (.aload_n 0, 1) := by decide +kernel
theorem dX2_copyFrom_9 : decode cX2_copyFrom 9 = .ok (.aload_n 1, 1) := by decide +kernel
theorem dX2_copyFrom_10 : decode cX2_copyFrom 10 = .ok (.getfield 33, 3) := by decide +kernel
theorem dX2_copyFrom_13 : decode cX2_copyFrom 13 = .ok (.putfield 33, 3) := by decide +kernel
theorem dX2_copyFrom_16 : decode cX2_copyFrom 16 = .ok (.aload_n 0, 1) := by decide +kernel
theorem dX2_copyFrom_17 : decode cX2_copyFrom 17 = .ok (.aload_n 1, 1) := by decide +kernel
theorem dX2_copyFrom_18 : decode cX2_copyFrom 18 = .ok (.getfield 36, 3) := by decide +kernel
theorem dX2_copyFrom_21 : decode cX2_copyFrom 21 = .ok (.putfield 36, 3) := by decide +kernel
theorem dX2_copyFrom_24 : decode cX2_copyFrom 24 = .ok (.aload_n 0, 1) := by decide +kernel
theorem dX2_copyFrom_25 : decode cX2_copyFrom 25 = .ok (.aload_n 1, 1) := by decide +kernel
theorem dX2_copyFrom_26 : decode cX2_copyFrom 26 = .ok (.getfield 39, 3) := by decide +kernel
theorem dX2_copyFrom_29 : decode cX2_copyFrom 29 = .ok (.putfield 39, 3) := by decide +kernel
theorem dX2_copyFrom_32 : decode cX2_copyFrom 32 = .ok (.aload_n 0, 1) := by decide +kernel
theorem dX2_copyFrom_33 : decode cX2_copyFrom 33 = .ok (.aload_n 1, 1) := by decide +kernel
theorem dX2_copyFrom_34 : decode cX2_copyFrom 34 = .ok (.getfield 42, 3) := by decide +kernel
theorem dX2_copyFrom_37 : decode cX2_copyFrom 37 = .ok (.putfield 42, 3) := by decide +kernel
theorem dX2_copyFrom_40 : decode cX2_copyFrom 40 = .ok (.aload_n 0, 1) := by decide +kernel
theorem dX2_copyFrom_41 : decode cX2_copyFrom 41 = .ok (.aload_n 1, 1) := by decide +kernel
theorem dX2_copyFrom_42 : decode cX2_copyFrom 42 = .ok (.getfield 45, 3) := by decide +kernel
theorem dX2_copyFrom_45 : decode cX2_copyFrom 45 = .ok (.putfield 45, 3) := by decide +kernel
theorem dX2_copyFrom_48 : decode cX2_copyFrom 48 = .ok (.aload_n 0, 1) := by decide +kernel
theorem dX2_copyFrom_49 : decode cX2_copyFrom 49 = .ok (.aload_n 1, 1) := by decide +kernel
theorem dX2_copyFrom_50 : decode cX2_copyFrom 50 = .ok (.getfield 48, 3) := by decide +kernel
theorem dX2_copyFrom_53 : decode cX2_copyFrom 53 = .ok (.putfield 48, 3) := by decide +kernel
theorem dX2_copyFrom_56 : decode cX2_copyFrom 56 = .ok (.aload_n 0, 1) := by decide +kernel
theorem dX2_copyFrom_57 : decode cX2_copyFrom 57 = .ok (.aload_n 1, 1) := by decide +kernel
theorem dX2_copyFrom_58 : decode cX2_copyFrom 58 = .ok (.getfield 51, 3) := by decide +kernel
theorem dX2_copyFrom_61 : decode cX2_copyFrom 61 = .ok (.putfield 51, 3) := by decide +kernel
theorem dX2_copyFrom_64 : decode cX2_copyFrom 64 = .ok (.aload_n 0, 1) := by decide +kernel
theorem dX2_copyFrom_65 : decode cX2_copyFrom 65 = .ok (.aload_n 1, 1) := by decide +kernel
theorem dX2_copyFrom_66 : decode cX2_copyFrom 66 = .ok (.getfield 54, 3) := by decide +kernel
theorem dX2_copyFrom_69 : decode cX2_copyFrom 69 = .ok (.putfield 54, 3) := by decide +kernel
theorem dX2_copyFrom_72 : decode cX2_copyFrom 72 = .ok (.aload_n 0, 1) := by decide +kernel
theorem dX2_copyFrom_73 : decode cX2_copyFrom 73 = .ok (.aload_n 1, 1) := by decide +kernel
theorem dX2_copyFrom_74 : decode cX2_copyFrom 74 = .ok (.getfield 57, 3) := by decide +kernel
theorem dX2_copyFrom_77 : decode cX2_copyFrom 77 = .ok (.putfield 57, 3) := by decide +kernel
theorem dX2_copyFrom_80 : decode cX2_copyFrom 80 = .ok (.aload_n 0, 1) := by decide +kernel
theorem dX2_copyFrom_81 : decode cX2_copyFrom 81 = .ok (.aload_n 1, 1) := by decide +kernel
theorem dX2_copyFrom_82 : decode cX2_copyFrom 82 = .ok (.getfield 60, 3) := by decide +kernel
theorem dX2_copyFrom_85 : decode cX2_copyFrom 85 = .ok (.putfield 60, 3) := by decide +kernel
theorem dX2_copyFrom_88 : decode cX2_copyFrom 88 = .ok (.aload_n 0, 1) := by decide +kernel
theorem dX2_copyFrom_89 : decode cX2_copyFrom 89 = .ok (.aload_n 1, 1) := by decide +kernel
theorem dX2_copyFrom_90 : decode cX2_copyFrom 90 = .ok (.getfield 63, 3) := by decide +kernel
theorem dX2_copyFrom_93 : decode cX2_copyFrom 93 = .ok (.putfield 63, 3) := by decide +kernel
theorem dX2_copyFrom_96 : decode cX2_copyFrom 96 = .ok (.aload_n 0, 1) := by decide +kernel
theorem dX2_copyFrom_97 : decode cX2_copyFrom 97 = .ok (.aload_n 1, 1) := by decide +kernel
theorem dX2_copyFrom_98 : decode cX2_copyFrom 98 = .ok (.getfield 66, 3) := by decide +kernel
theorem dX2_copyFrom_101 : decode cX2_copyFrom 101 = .ok (.putfield 66, 3) := by decide +kernel
theorem dX2_copyFrom_104 : decode cX2_copyFrom 104 = .ok (.aload_n 0, 1) := by decide +kernel
theorem dX2_copyFrom_105 : decode cX2_copyFrom 105 = .ok (.aload_n 1, 1) := by decide +kernel
theorem dX2_copyFrom_106 : decode cX2_copyFrom 106 = .ok (.getfield 69, 3) := by decide +kernel
theorem dX2_copyFrom_109 : decode cX2_copyFrom 109 = .ok (.putfield 69, 3) := by decide +kernel
theorem dX2_copyFrom_112 : decode cX2_copyFrom 112 = .ok (.aload_n 0, 1) := by decide +kernel
theorem dX2_copyFrom_113 : decode cX2_copyFrom 113 = .ok (.aload_n 1, 1) := by decide +kernel
theorem dX2_copyFrom_114 : decode cX2_copyFrom 114 = .ok (.getfield 72, 3) := by decide +kernel
theorem dX2_copyFrom_117 : decode cX2_copyFrom 117 = .ok (.putfield 72, 3) := by decide +kernel
theorem dX2_copyFrom_120 : decode cX2_copyFrom 120 = .ok (.aload_n 0, 1) := by decide +kernel
theorem dX2_copyFrom_121 : decode cX2_copyFrom 121 = .ok (.getfield 14, 3) := by decide +kernel
theorem dX2_copyFrom_124 : decode cX2_copyFrom 124 = .ok (.aload_n 1, 1) := by decide +kernel
theorem dX2_copyFrom_125 : decode cX2_copyFrom 125 = .ok (.getfield 14, 3) := by decide +kernel
theorem dX2_copyFrom_128 : decode cX2_copyFrom 128 = .ok (.invokevirtual 78, 3) := by decide +kernel
theorem dX2_copyFrom_131 : decode cX2_copyFrom 131 = .ok (.aload_n 0, 1) := by decide +kernel
theorem dX2_copyFrom_132 : decode cX2_copyFrom 132 = .ok (.getfield 20, 3) := by decide +kernel
theorem dX2_copyFrom_135 : decode cX2_copyFrom 135 = .ok (.aload_n 1, 1) := by decide +kernel
theorem dX2_copyFrom_136 : decode cX2_copyFrom 136 = .ok (.getfield 20, 3) := by decide +kernel
theorem dX2_copyFrom_139 : decode cX2_copyFrom 139 = .ok (.invokevirtual 78, 3) := by decide +kernel
theorem dX2_copyFrom_142 : decode cX2_copyFrom 142 = .ok (.aload_n 0, 1) := by decide +kernel
theorem dX2_copyFrom_143 : decode cX2_copyFrom 143 = .ok (.getfield 23, 3) := by decide +kernel
theorem dX2_copyFrom_146 : decode cX2_copyFrom 146 = .ok (.aload_n 1, 1) := by decide +kernel
theorem dX2_copyFrom_147 : decode cX2_copyFrom 147 = .ok (.getfield 23, 3) := by decide +kernel
theorem dX2_copyFrom_150 : decode cX2_copyFrom 150 = .ok (.invokevirtual 78, 3) := by decide +kernel
theorem dX2_copyFrom_153 : decode cX2_copyFrom 153 = .ok (.return_, 1) := by decide +kernel
theorem dX2_isThere_0 : decode cX2_isThere 0 = .ok (.aload_n 0, 1) := by decide +kernel
theorem dX2_isThere_1 : decode cX2_isThere 1 = .ok (.getfield 29, 3) := by decide +kernel
theorem dX2_isThere_4 : decode cX2_isThere 4 = .ok (.ifCond .le 7, 3) := by decide +kernel
theorem dX2_isThere_7 : decode cX2_isThere 7 = .ok (.iconst 1, 1) := by decide +kernel
theorem dX2_isThere_8 : decode cX2_isThere 8 = .ok (.goto 4, 3) := by decide +kernel
theorem dX2_isThere_11 : decode cX2_isThere 11 = .ok (.iconst 0, 1) := by decide +kernel
theorem dX2_isThere_12 : decode cX2_isThere 12 = .ok (.ireturn, 1) := by decide +kernel
theorem dX2_hasCell_0 : decode cX2_hasCell 0 = .ok (.iload_n 1, 1) := by decide +kernel
theorem dX2_hasCell_1 : decode cX2_hasCell 1 = .ok (.ifCond .lt 27, 3) := by decide +kernel
theorem dX2_hasCell_4 : decode cX2_hasCell 4 = .ok (.iload_n 1, 1) := by decide +kernel
theorem dX2_hasCell_5 : decode cX2_hasCell 5 = .ok (.aload_n 0, 1) := by decide +kernel
theorem dX2_hasCell_6 : decode cX2_hasCell 6 = .ok (.getfield 29, 3) := by decide +kernel
theorem dX2_hasCell_9 : decode cX2_hasCell 9 = .ok (.if_icmp .ge 19, 3) := by decide +kernel
theorem dX2_hasCell_12 : decode cX2_hasCell 12 = .ok (.iload_n 2, 1) := by decide +kernel
theorem dX2_hasCell_13 : decode cX2_hasCell 13 = .ok (.ifCond .lt 15, 3) := by decide +kernel
theorem dX2_hasCell_16 : decode cX2_hasCell 16 = .ok (.iload_n 2, 1) := by decide +kernel
theorem dX2_hasCell_17 : decode cX2_hasCell 17 = .ok (.aload_n 0, 1) := by decide +kernel
theorem dX2_hasCell_18 : decode cX2_hasCell 18 = .ok (.getfield 33, 3) := by decide +kernel
theorem dX2_hasCell_21 : decode cX2_hasCell 21 = .ok (.if_icmp .ge 7, 3) := by decide +kernel
theorem dX2_hasCell_24 : decode cX2_hasCell 24 = .ok (.iconst 1, 1) := by decide +kernel
theorem dX2_hasCell_25 : decode cX2_hasCell 25 = .ok (.goto 4, 3) := by decide +kernel
theorem dX2_hasCell_28 : decode cX2_hasCell 28 = .ok (.iconst 0, 1) := by decide +kernel
theorem dX2_hasCell_29 : decode cX2_hasCell 29 = .ok (.ireturn, 1) := by decide +kernel
theorem dX2_hasSet_0 : decode cX2_hasSet 0 = .ok (.aload_n 0, 1) := by decide +kernel
theorem dX2_hasSet_1 : decode cX2_hasSet 1 = .ok (.invokevirtual 82, 3) := by decide +kernel
theorem dX2_hasSet_4 : decode cX2_hasSet 4 = .ok (.ifCond .eq 24, 3) := by decide +kernel
theorem dX2_hasSet_7 : decode cX2_hasSet 7 = .ok (.iload_n 1, 1) := by decide +kernel
theorem dX2_hasSet_8 : decode cX2_hasSet 8 = .ok (.ifCond .lt 20, 3) := by decide +kernel
theorem dX2_hasSet_11 : decode cX2_hasSet 11 = .ok (.iload_n 1, 1) := by decide +kernel
theorem dX2_hasSet_12 : decode cX2_hasSet 12 = .ok (.iconst 1, 1) := by decide +kernel
theorem dX2_hasSet_13 : decode cX2_hasSet 13 = .ok (.aload_n 0, 1) := by decide +kernel
theorem dX2_hasSet_14 : decode cX2_hasSet 14 = .ok (.getfield 14, 3) := by decide +kernel
theorem dX2_hasSet_17 : decode cX2_hasSet 17 = .ok (.getfield 75, 3) := by decide +kernel
theorem dX2_hasSet_20 : decode cX2_hasSet 20 = .ok (.ishl, 1) := by decide +kernel
theorem dX2_hasSet_21 : decode cX2_hasSet 21 = .ok (.if_icmp .ge 7, 3) := by decide +kernel
theorem dX2_hasSet_24 : decode cX2_hasSet 24 = .ok (.iconst 1, 1) := by decide +kernel
theorem dX2_hasSet_25 : decode cX2_hasSet 25 = .ok (.goto 4, 3) := by decide +kernel
theorem dX2_hasSet_28 : decode cX2_hasSet 28 = .ok (.iconst 0, 1) := by decide +kernel
theorem dX2_hasSet_29 : decode cX2_hasSet 29 = .ok (.ireturn, 1) := by decide +kernel
theorem dX2_tells_0 : decode cX2_tells 0 = .ok (.iconst 0, 1) := by decide +kernel
theorem dX2_tells_1 : decode cX2_tells 1 = .ok (.istore_n 2, 1) := by decide +kernel
theorem dX2_tells_2 : decode cX2_tells 2 = .ok (.iload_n 2, 1) := by decide +kernel
theorem dX2_tells_3 : decode cX2_tells 3 = .ok (.aload_n 0, 1) := by decide +kernel
theorem dX2_tells_4 : decode cX2_tells 4 = .ok (.getfield 20, 3) := by decide +kernel
theorem dX2_tells_7 : decode cX2_tells 7 = .ok (.getfield 75, 3) := by decide +kernel
theorem dX2_tells_10 : decode cX2_tells 10 = .ok (.if_icmp .ge 24, 3) := by decide +kernel
theorem dX2_tells_13 : decode cX2_tells 13 = .ok (.aload_n 0, 1) := by decide +kernel
theorem dX2_tells_14 : decode cX2_tells 14 = .ok (.getfield 20, 3) := by decide +kernel
theorem dX2_tells_17 : decode cX2_tells 17 = .ok (.iload_n 2, 1) := by decide +kernel
theorem dX2_tells_18 : decode cX2_tells 18 = .ok (.iconst 0, 1) := by decide +kernel
theorem dX2_tells_19 : decode cX2_tells 19 = .ok (.invokevirtual 86, 3) := by decide +kernel
theorem dX2_tells_22 : decode cX2_tells 22 = .ok (.iload_n 1, 1) := by decide +kernel
theorem dX2_tells_23 : decode cX2_tells 23 = .ok (.if_icmp .ne 5, 3) := by decide +kernel
theorem dX2_tells_26 : decode cX2_tells 26 = .ok (.iconst 1, 1) := by decide +kernel
theorem dX2_tells_27 : decode cX2_tells 27 = .ok (.ireturn, 1) := by decide +kernel
theorem dX2_tells_28 : decode cX2_tells 28 = .ok (.iinc 2 1, 3) := by decide +kernel
theorem dX2_tells_31 : decode cX2_tells 31 = .ok (.goto (-29), 3) := by decide +kernel
theorem dX2_tells_34 : decode cX2_tells 34 = .ok (.iconst 0, 1) := by decide +kernel
theorem dX2_tells_35 : decode cX2_tells 35 = .ok (.ireturn, 1) := by decide +kernel
theorem dX2_beyond_0 : decode cX2_beyond 0 = .ok (.iconst 0, 1) := by decide +kernel
theorem dX2_beyond_1 : decode cX2_beyond 1 = .ok (.istore_n 3, 1) := by decide +kernel
theorem dX2_beyond_2 : decode cX2_beyond 2 = .ok (.iconst 0, 1) := by decide +kernel
theorem dX2_beyond_3 : decode cX2_beyond 3 = .ok (.istore 4, 2) := by decide +kernel
theorem dX2_beyond_5 : decode cX2_beyond 5 = .ok (.iload 4, 2) := by decide +kernel
theorem dX2_beyond_7 : decode cX2_beyond 7 = .ok (.aload_n 0, 1) := by decide +kernel
theorem dX2_beyond_8 : decode cX2_beyond 8 = .ok (.getfield 14, 3) := by decide +kernel
theorem dX2_beyond_11 : decode cX2_beyond 11 = .ok (.getfield 75, 3) := by decide +kernel
theorem dX2_beyond_14 : decode cX2_beyond 14 = .ok (.if_icmp .ge 52, 3) := by decide +kernel
theorem dX2_beyond_17 : decode cX2_beyond 17 = .ok (.aload_n 0, 1) := by decide +kernel
theorem dX2_beyond_18 : decode cX2_beyond 18 = .ok (.getfield 14, 3) := by decide +kernel
theorem dX2_beyond_21 : decode cX2_beyond 21 = .ok (.iload 4, 2) := by decide +kernel
theorem dX2_beyond_23 : decode cX2_beyond 23 = .ok (.iconst 0, 1) := by decide +kernel
theorem dX2_beyond_24 : decode cX2_beyond 24 = .ok (.invokevirtual 86, 3) := by decide +kernel
theorem dX2_beyond_27 : decode cX2_beyond 27 = .ok (.iconst 1, 1) := by decide +kernel
theorem dX2_beyond_28 : decode cX2_beyond 28 = .ok (.if_icmp .ne 7, 3) := by decide +kernel
theorem dX2_beyond_31 : decode cX2_beyond 31 = .ok (.iload_n 2, 1) := by decide +kernel
theorem dX2_beyond_32 : decode cX2_beyond 32 = .ok (.goto 4, 3) := by decide +kernel
theorem dX2_beyond_35 : decode cX2_beyond 35 = .ok (.iload_n 1, 1) := by decide +kernel
theorem dX2_beyond_36 : decode cX2_beyond 36 = .ok (.istore 5, 2) := by decide +kernel
theorem dX2_beyond_38 : decode cX2_beyond 38 = .ok (.aload_n 0, 1) := by decide +kernel
theorem dX2_beyond_39 : decode cX2_beyond 39 = .ok (.getfield 14, 3) := by decide +kernel
theorem dX2_beyond_42 : decode cX2_beyond 42 = .ok (.iload 4, 2) := by decide +kernel
theorem dX2_beyond_44 : decode cX2_beyond 44 = .ok (.iconst 1, 1) := by decide +kernel
theorem dX2_beyond_45 : decode cX2_beyond 45 = .ok (.invokevirtual 86, 3) := by decide +kernel
theorem dX2_beyond_48 : decode cX2_beyond 48 = .ok (.iload 5, 2) := by decide +kernel
theorem dX2_beyond_50 : decode cX2_beyond 50 = .ok (.if_icmp .gt 10, 3) := by decide +kernel
theorem dX2_beyond_53 : decode cX2_beyond 53 = .ok (.iload_n 3, 1) := by decide +kernel
theorem dX2_beyond_54 : decode cX2_beyond 54 = .ok (.iconst 1, 1) := by decide +kernel
theorem dX2_beyond_55 : decode cX2_beyond 55 = .ok (.iload 4, 2) := by decide +kernel
theorem dX2_beyond_57 : decode cX2_beyond 57 = .ok (.ishl, 1) := by decide +kernel
theorem dX2_beyond_58 : decode cX2_beyond 58 = .ok (.ior, 1) := by decide +kernel
theorem dX2_beyond_59 : decode cX2_beyond 59 = .ok (.istore_n 3, 1) := by decide +kernel
theorem dX2_beyond_60 : decode cX2_beyond 60 = .ok (.iinc 4 1, 3) := by decide +kernel
theorem dX2_beyond_63 : decode cX2_beyond 63 = .ok (.goto (-58), 3) := by decide +kernel
theorem dX2_beyond_66 : decode cX2_beyond 66 = .ok (.iload_n 3, 1) := by decide +kernel
theorem dX2_beyond_67 : decode cX2_beyond 67 = .ok (.ireturn, 1) := by decide +kernel
theorem dX2_alongs_0 : decode cX2_alongs 0 = .ok (.iconst 0, 1) := by decide +kernel
theorem dX2_alongs_1 : decode cX2_alongs 1 = .ok (.istore_n 1, 1) := by decide +kernel
theorem dX2_alongs_2 : decode cX2_alongs 2 = .ok (.iconst 0, 1) := by decide +kernel
theorem dX2_alongs_3 : decode cX2_alongs 3 = .ok (.istore_n 2, 1) := by decide +kernel
theorem dX2_alongs_4 : decode cX2_alongs 4 = .ok (.iload_n 2, 1) := by decide +kernel
theorem dX2_alongs_5 : decode cX2_alongs 5 = .ok (.aload_n 0, 1) := by decide +kernel
theorem dX2_alongs_6 : decode cX2_alongs 6 = .ok (.getfield 14, 3) := by decide +kernel
theorem dX2_alongs_9 : decode cX2_alongs 9 = .ok (.getfield 75, 3) := by decide +kernel
theorem dX2_alongs_12 : decode cX2_alongs 12 = .ok (.if_icmp .ge 23, 3) := by decide +kernel
theorem dX2_alongs_15 : decode cX2_alongs 15 = .ok (.iload_n 1, 1) := by decide +kernel
theorem dX2_alongs_16 : decode cX2_alongs 16 = .ok (.aload_n 0, 1) := by decide +kernel
theorem dX2_alongs_17 : decode cX2_alongs 17 = .ok (.getfield 14, 3) := by decide +kernel
theorem dX2_alongs_20 : decode cX2_alongs 20 = .ok (.iload_n 2, 1) := by decide +kernel
theorem dX2_alongs_21 : decode cX2_alongs 21 = .ok (.iconst 0, 1) := by decide +kernel
theorem dX2_alongs_22 : decode cX2_alongs 22 = .ok (.invokevirtual 86, 3) := by decide +kernel
theorem dX2_alongs_25 : decode cX2_alongs 25 = .ok (.iload_n 2, 1) := by decide +kernel
theorem dX2_alongs_26 : decode cX2_alongs 26 = .ok (.ishl, 1) := by decide +kernel
theorem dX2_alongs_27 : decode cX2_alongs 27 = .ok (.ior, 1) := by decide +kernel
theorem dX2_alongs_28 : decode cX2_alongs 28 = .ok (.istore_n 1, 1) := by decide +kernel
theorem dX2_alongs_29 : decode cX2_alongs 29 = .ok (.iinc 2 1, 3) := by decide +kernel
theorem dX2_alongs_32 : decode cX2_alongs 32 = .ok (.goto (-28), 3) := by decide +kernel
theorem dX2_alongs_35 : decode cX2_alongs 35 = .ok (.iload_n 1, 1) := by decide +kernel
theorem dX2_alongs_36 : decode cX2_alongs 36 = .ok (.ireturn, 1) := by decide +kernel
theorem dX2_partings_0 : decode cX2_partings 0 = .ok (.iconst 0, 1) := by decide +kernel
theorem dX2_partings_1 : decode cX2_partings 1 = .ok (.istore_n 3, 1) := by decide +kernel
theorem dX2_partings_2 : decode cX2_partings 2 = .ok (.iconst 0, 1) := by decide +kernel
theorem dX2_partings_3 : decode cX2_partings 3 = .ok (.istore 4, 2) := by decide +kernel
theorem dX2_partings_5 : decode cX2_partings 5 = .ok (.iload 4, 2) := by decide +kernel
theorem dX2_partings_7 : decode cX2_partings 7 = .ok (.aload_n 0, 1) := by decide +kernel
theorem dX2_partings_8 : decode cX2_partings 8 = .ok (.getfield 14, 3) := by decide +kernel
theorem dX2_partings_11 : decode cX2_partings 11 = .ok (.getfield 75, 3) := by decide +kernel
theorem dX2_partings_14 : decode cX2_partings 14 = .ok (.if_icmp .ge 48, 3) := by decide +kernel
theorem dX2_partings_17 : decode cX2_partings 17 = .ok (.iload_n 1, 1) := by decide +kernel
theorem dX2_partings_18 : decode cX2_partings 18 = .ok (.iload 4, 2) := by decide +kernel
theorem dX2_partings_20 : decode cX2_partings 20 = .ok (.ishr, 1) := by decide +kernel
theorem dX2_partings_21 : decode cX2_partings 21 = .ok (.iconst 1, 1) := by decide +kernel
theorem dX2_partings_22 : decode cX2_partings 22 = .ok (.iand, 1) := by decide +kernel
theorem dX2_partings_23 : decode cX2_partings 23 = .ok (.iconst 1, 1) := by decide +kernel
theorem dX2_partings_24 : decode cX2_partings 24 = .ok (.if_icmp .ne 32, 3) := by decide +kernel
theorem dX2_partings_27 : decode cX2_partings 27 = .ok (.aload_n 0, 1) := by decide +kernel
theorem dX2_partings_28 : decode cX2_partings 28 = .ok (.getfield 14, 3) := by decide +kernel
theorem dX2_partings_31 : decode cX2_partings 31 = .ok (.iload 4, 2) := by decide +kernel
theorem dX2_partings_33 : decode cX2_partings 33 = .ok (.iconst 0, 1) := by decide +kernel
theorem dX2_partings_34 : decode cX2_partings 34 = .ok (.invokevirtual 86, 3) := by decide +kernel
theorem dX2_partings_37 : decode cX2_partings 37 = .ok (.iload_n 2, 1) := by decide +kernel
theorem dX2_partings_38 : decode cX2_partings 38 = .ok (.if_icmp .ne 18, 3) := by decide +kernel
theorem dX2_partings_41 : decode cX2_partings 41 = .ok (.iload_n 3, 1) := by decide +kernel
theorem dX2_partings_42 : decode cX2_partings 42 = .ok (.iconst 1, 1) := by decide +kernel
theorem dX2_partings_43 : decode cX2_partings 43 = .ok (.aload_n 0, 1) := by decide +kernel
theorem dX2_partings_44 : decode cX2_partings 44 = .ok (.getfield 14, 3) := by decide +kernel
theorem dX2_partings_47 : decode cX2_partings 47 = .ok (.iload 4, 2) := by decide +kernel
theorem dX2_partings_49 : decode cX2_partings 49 = .ok (.iconst 1, 1) := by decide +kernel
theorem dX2_partings_50 : decode cX2_partings 50 = .ok (.invokevirtual 86, 3) := by decide +kernel
theorem dX2_partings_53 : decode cX2_partings 53 = .ok (.ishl, 1) := by decide +kernel
theorem dX2_partings_54 : decode cX2_partings 54 = .ok (.ior, 1) := by decide +kernel
theorem dX2_partings_55 : decode cX2_partings 55 = .ok (.istore_n 3, 1) := by decide +kernel
theorem dX2_partings_56 : decode cX2_partings 56 = .ok (.iinc 4 1, 3) := by decide +kernel
theorem dX2_partings_59 : decode cX2_partings 59 = .ok (.goto (-54), 3) := by decide +kernel
theorem dX2_partings_62 : decode cX2_partings 62 = .ok (.iload_n 3, 1) := by decide +kernel
theorem dX2_partings_63 : decode cX2_partings 63 = .ok (.invokestatic 90, 3) := by decide +kernel
theorem dX2_partings_66 : decode cX2_partings 66 = .ok (.ireturn, 1) := by decide +kernel
theorem dX2_cellsBetween_0 : decode cX2_cellsBetween 0 = .ok (.aload_n 0, 1) := by decide +kernel
theorem dX2_cellsBetween_1 : decode cX2_cellsBetween 1 = .ok (.getfield 14, 3) := by decide +kernel
theorem dX2_cellsBetween_4 : decode cX2_cellsBetween 4 = .ok (.iload_n 1, 1) := by decide +kernel
theorem dX2_cellsBetween_5 : decode cX2_cellsBetween 5 = .ok (.iconst 1, 1) := by decide +kernel
theorem dX2_cellsBetween_6 : decode cX2_cellsBetween 6 = .ok (.invokevirtual 86, 3) := by decide +kernel
theorem dX2_cellsBetween_9 : decode cX2_cellsBetween 9 = .ok (.istore 4, 2) := by decide +kernel
theorem dX2_cellsBetween_11 : decode cX2_cellsBetween 11 = .ok (.aload_n 0, 1) := by decide +kernel
theorem dX2_cellsBetween_12 : decode cX2_cellsBetween 12 = .ok (.getfield 14, 3) := by decide +kernel
theorem dX2_cellsBetween_15 : decode cX2_cellsBetween 15 = .ok (.iload_n 1, 1) := by decide +kernel
theorem dX2_cellsBetween_16 : decode cX2_cellsBetween 16 = .ok (.iconst 0, 1) := by decide +kernel
theorem dX2_cellsBetween_17 : decode cX2_cellsBetween 17 = .ok (.invokevirtual 86, 3) := by decide +kernel
theorem dX2_cellsBetween_20 : decode cX2_cellsBetween 20 = .ok (.iconst 1, 1) := by decide +kernel
theorem dX2_cellsBetween_21 : decode cX2_cellsBetween 21 = .ok (.if_icmp .ne 7, 3) := by decide +kernel
theorem dX2_cellsBetween_24 : decode cX2_cellsBetween 24 = .ok (.iload_n 3, 1) := by decide +kernel
theorem dX2_cellsBetween_25 : decode cX2_cellsBetween 25 = .ok (.goto 4, 3) := by decide +kernel
theorem dX2_cellsBetween_28 : decode cX2_cellsBetween 28 = .ok (.iload_n 2, 1) := by decide +kernel
theorem dX2_cellsBetween_29 : decode cX2_cellsBetween 29 = .ok (.istore 5, 2) := by decide +kernel
theorem dX2_cellsBetween_31 : decode cX2_cellsBetween 31 = .ok (.iload 5, 2) := by decide +kernel
theorem dX2_cellsBetween_33 : decode cX2_cellsBetween 33 = .ok (.iload 4, 2) := by decide +kernel
theorem dX2_cellsBetween_35 : decode cX2_cellsBetween 35 = .ok (.if_icmp .lt 11, 3) := by decide +kernel
theorem dX2_cellsBetween_38 : decode cX2_cellsBetween 38 = .ok (.iload 5, 2) := by decide +kernel
theorem dX2_cellsBetween_40 : decode cX2_cellsBetween 40 = .ok (.iload 4, 2) := by decide +kernel
theorem dX2_cellsBetween_42 : decode cX2_cellsBetween 42 = .ok (.isub, 1) := by decide +kernel
theorem dX2_cellsBetween_43 : decode cX2_cellsBetween 43 = .ok (.goto 10, 3) := by decide +kernel
theorem dX2_cellsBetween_46 : decode cX2_cellsBetween 46 = .ok (.iload 4, 2) := by decide +kernel
theorem dX2_cellsBetween_48 : decode cX2_cellsBetween 48 = .ok (.iconst 1, 1) := by decide +kernel
theorem dX2_cellsBetween_49 : decode cX2_cellsBetween 49 = .ok (.isub, 1) := by decide +kernel
theorem dX2_cellsBetween_50 : decode cX2_cellsBetween 50 = .ok (.iload 5, 2) := by decide +kernel
theorem dX2_cellsBetween_52 : decode cX2_cellsBetween 52 = .ok (.isub, 1) := by decide +kernel
theorem dX2_cellsBetween_53 : decode cX2_cellsBetween 53 = .ok (.ireturn, 1) := by decide +kernel
theorem dX2_isLikeNeighbour_0 : decode cX2_isLikeNeighbour 0 = .ok (.iload_n 1, 1) := by decide +kernel
theorem dX2_isLikeNeighbour_1 : decode cX2_isLikeNeighbour 1 = .ok (.ifCond .le 16, 3) := by decide +kernel
theorem dX2_isLikeNeighbour_4 : decode cX2_isLikeNeighbour 4 = .ok (.aload_n 0, 1) := by decide +kernel
theorem dX2_isLikeNeighbour_5 : decode cX2_isLikeNeighbour 5 = .ok (.iload_n 1, 1) := by decide +kernel
theorem dX2_isLikeNeighbour_6 : decode cX2_isLikeNeighbour 6 = .ok (.iload_n 2, 1) := by decide +kernel
theorem dX2_isLikeNeighbour_7 : decode cX2_isLikeNeighbour 7 = .ok (.iload_n 1, 1) := by decide +kernel
theorem dX2_isLikeNeighbour_8 : decode cX2_isLikeNeighbour 8 = .ok (.iconst 1, 1) := by decide +kernel
theorem dX2_isLikeNeighbour_9 : decode cX2_isLikeNeighbour 9 = .ok (.isub, 1) := by decide +kernel
theorem dX2_isLikeNeighbour_10 : decode cX2_isLikeNeighbour 10 = .ok (.iload_n 2, 1) := by decide +kernel
theorem dX2_isLikeNeighbour_11 : decode cX2_isLikeNeighbour 11 = .ok (.invokevirtual 96, 3) := by decide +kernel
theorem dX2_isLikeNeighbour_14 : decode cX2_isLikeNeighbour 14 = .ok (.ifCond .ne 20, 3) := by decide +kernel
theorem dX2_isLikeNeighbour_17 : decode cX2_isLikeNeighbour 17 = .ok (.iload_n 2, 1) := by decide +kernel
theorem dX2_isLikeNeighbour_18 : decode cX2_isLikeNeighbour 18 = .ok (.ifCond .le 20, 3) := by decide +kernel
theorem dX2_isLikeNeighbour_21 : decode cX2_isLikeNeighbour 21 = .ok (.aload_n 0, 1) := by decide +kernel
theorem dX2_isLikeNeighbour_22 : decode cX2_isLikeNeighbour 22 = .ok (.iload_n 1, 1) := by decide +kernel
theorem dX2_isLikeNeighbour_23 : decode cX2_isLikeNeighbour 23 = .ok (.iload_n 2, 1) := by decide +kernel
theorem dX2_isLikeNeighbour_24 : decode cX2_isLikeNeighbour 24 = .ok (.iload_n 1, 1) := by decide +kernel
theorem dX2_isLikeNeighbour_25 : decode cX2_isLikeNeighbour 25 = .ok (.iload_n 2, 1) := by decide +kernel
theorem dX2_isLikeNeighbour_26 : decode cX2_isLikeNeighbour 26 = .ok (.iconst 1, 1) := by decide +kernel
theorem dX2_isLikeNeighbour_27 : decode cX2_isLikeNeighbour 27 = .ok (.isub, 1) := by decide +kernel
theorem dX2_isLikeNeighbour_28 : decode cX2_isLikeNeighbour 28 = .ok (.invokevirtual 96, 3) := by decide +kernel
theorem dX2_isLikeNeighbour_31 : decode cX2_isLikeNeighbour 31 = .ok (.ifCond .eq 7, 3) := by decide +kernel
theorem dX2_isLikeNeighbour_34 : decode cX2_isLikeNeighbour 34 = .ok (.iconst 1, 1) := by decide +kernel
theorem dX2_isLikeNeighbour_35 : decode cX2_isLikeNeighbour 35 = .ok (.goto 4, 3) := by decide +kernel
theorem dX2_isLikeNeighbour_38 : decode cX2_isLikeNeighbour 38 = .ok (.iconst 0, 1) := by decide +kernel
theorem dX2_isLikeNeighbour_39 : decode cX2_isLikeNeighbour 39 = .ok (.ireturn, 1) := by decide +kernel
theorem dX2_oddsUnder_0 : decode cX2_oddsUnder 0 = .ok (.aload_n 0, 1) := by decide +kernel
theorem dX2_oddsUnder_1 : decode cX2_oddsUnder 1 = .ok (.getfield 14, 3) := by decide +kernel
theorem dX2_oddsUnder_4 : decode cX2_oddsUnder 4 = .ok (.iload_n 1, 1) := by decide +kernel
theorem dX2_oddsUnder_5 : decode cX2_oddsUnder 5 = .ok (.iconst 2, 1) := by decide +kernel
theorem dX2_oddsUnder_6 : decode cX2_oddsUnder 6 = .ok (.invokevirtual 86, 3) := by decide +kernel
theorem dX2_oddsUnder_9 : decode cX2_oddsUnder 9 = .ok (.aload_n 0, 1) := by decide +kernel
theorem dX2_oddsUnder_10 : decode cX2_oddsUnder 10 = .ok (.getfield 45, 3) := by decide +kernel
theorem dX2_oddsUnder_13 : decode cX2_oddsUnder 13 = .ok (.aload_n 0, 1) := by decide +kernel
theorem dX2_oddsUnder_14 : decode cX2_oddsUnder 14 = .ok (.getfield 14, 3) := by decide +kernel
theorem dX2_oddsUnder_17 : decode cX2_oddsUnder 17 = .ok (.iload_n 1, 1) := by decide +kernel
theorem dX2_oddsUnder_18 : decode cX2_oddsUnder 18 = .ok (.iconst 3, 1) := by decide +kernel
theorem dX2_oddsUnder_19 : decode cX2_oddsUnder 19 = .ok (.invokevirtual 86, 3) := by decide +kernel
theorem dX2_oddsUnder_22 : decode cX2_oddsUnder 22 = .ok (.imul, 1) := by decide +kernel
theorem dX2_oddsUnder_23 : decode cX2_oddsUnder 23 = .ok (.iadd, 1) := by decide +kernel
theorem dX2_oddsUnder_24 : decode cX2_oddsUnder 24 = .ok (.aload_n 0, 1) := by decide +kernel
theorem dX2_oddsUnder_25 : decode cX2_oddsUnder 25 = .ok (.getfield 48, 3) := by decide +kernel
theorem dX2_oddsUnder_28 : decode cX2_oddsUnder 28 = .ok (.aload_n 0, 1) := by decide +kernel
theorem dX2_oddsUnder_29 : decode cX2_oddsUnder 29 = .ok (.getfield 14, 3) := by decide +kernel
theorem dX2_oddsUnder_32 : decode cX2_oddsUnder 32 = .ok (.iload_n 1, 1) := by decide +kernel
theorem dX2_oddsUnder_33 : decode cX2_oddsUnder 33 = .ok (.iconst 4, 1) := by decide +kernel
theorem dX2_oddsUnder_34 : decode cX2_oddsUnder 34 = .ok (.invokevirtual 86, 3) := by decide +kernel
theorem dX2_oddsUnder_37 : decode cX2_oddsUnder 37 = .ok (.imul, 1) := by decide +kernel
theorem dX2_oddsUnder_38 : decode cX2_oddsUnder 38 = .ok (.iadd, 1) := by decide +kernel
theorem dX2_oddsUnder_39 : decode cX2_oddsUnder 39 = .ok (.aload_n 0, 1) := by decide +kernel
theorem dX2_oddsUnder_40 : decode cX2_oddsUnder 40 = .ok (.getfield 14, 3) := by decide +kernel
theorem dX2_oddsUnder_43 : decode cX2_oddsUnder 43 = .ok (.iload_n 1, 1) := by decide +kernel
theorem dX2_oddsUnder_44 : decode cX2_oddsUnder 44 = .ok (.iconst 5, 1) := by decide +kernel
theorem dX2_oddsUnder_45 : decode cX2_oddsUnder 45 = .ok (.invokevirtual 86, 3) := by decide +kernel
theorem dX2_oddsUnder_48 : decode cX2_oddsUnder 48 = .ok (.iload_n 2, 1) := by decide +kernel
theorem dX2_oddsUnder_49 : decode cX2_oddsUnder 49 = .ok (.imul, 1) := by decide +kernel
theorem dX2_oddsUnder_50 : decode cX2_oddsUnder 50 = .ok (.bipush 100, 2) := by decide +kernel
theorem dX2_oddsUnder_52 : decode cX2_oddsUnder 52 = .ok (.idiv, 1) := by decide +kernel
theorem dX2_oddsUnder_53 : decode cX2_oddsUnder 53 = .ok (.iadd, 1) := by decide +kernel
theorem dX2_oddsUnder_54 : decode cX2_oddsUnder 54 = .ok (.istore_n 3, 1) := by decide +kernel
theorem dX2_oddsUnder_55 : decode cX2_oddsUnder 55 = .ok (.aload_n 0, 1) := by decide +kernel
theorem dX2_oddsUnder_56 : decode cX2_oddsUnder 56 = .ok (.getfield 14, 3) := by decide +kernel
theorem dX2_oddsUnder_59 : decode cX2_oddsUnder 59 = .ok (.iload_n 1, 1) := by decide +kernel
theorem dX2_oddsUnder_60 : decode cX2_oddsUnder 60 = .ok (.bipush 6, 2) := by decide +kernel
theorem dX2_oddsUnder_62 : decode cX2_oddsUnder 62 = .ok (.invokevirtual 86, 3) := by decide +kernel
theorem dX2_oddsUnder_65 : decode cX2_oddsUnder 65 = .ok (.iconst 1, 1) := by decide +kernel
theorem dX2_oddsUnder_66 : decode cX2_oddsUnder 66 = .ok (.if_icmp .ne 7, 3) := by decide +kernel
theorem dX2_oddsUnder_69 : decode cX2_oddsUnder 69 = .ok (.iload_n 3, 1) := by decide +kernel
theorem dX2_oddsUnder_70 : decode cX2_oddsUnder 70 = .ok (.iconst 2, 1) := by decide +kernel
theorem dX2_oddsUnder_71 : decode cX2_oddsUnder 71 = .ok (.imul, 1) := by decide +kernel
theorem dX2_oddsUnder_72 : decode cX2_oddsUnder 72 = .ok (.istore_n 3, 1) := by decide +kernel
theorem dX2_oddsUnder_73 : decode cX2_oddsUnder 73 = .ok (.iload_n 3, 1) := by decide +kernel
theorem dX2_oddsUnder_74 : decode cX2_oddsUnder 74 = .ok (.sipush 10000, 3) := by decide +kernel
theorem dX2_oddsUnder_77 : decode cX2_oddsUnder 77 = .ok (.invokestatic 100, 3) := by decide +kernel
theorem dX2_oddsUnder_80 : decode cX2_oddsUnder 80 = .ok (.ireturn, 1) := by decide +kernel
theorem dX2_isLike_0 : decode cX2_isLike 0 = .ok (.aload_n 0, 1) := by decide +kernel
theorem dX2_isLike_1 : decode cX2_isLike 1 = .ok (.iload_n 1, 1) := by decide +kernel
theorem dX2_isLike_2 : decode cX2_isLike 2 = .ok (.iload_n 2, 1) := by decide +kernel
theorem dX2_isLike_3 : decode cX2_isLike 3 = .ok (.invokevirtual 105, 3) := by decide +kernel
theorem dX2_isLike_6 : decode cX2_isLike 6 = .ok (.aload_n 0, 1) := by decide +kernel
theorem dX2_isLike_7 : decode cX2_isLike 7 = .ok (.iload_n 3, 1) := by decide +kernel
theorem dX2_isLike_8 : decode cX2_isLike 8 = .ok (.iload 4, 2) := by decide +kernel
theorem dX2_isLike_10 : decode cX2_isLike 10 = .ok (.invokevirtual 105, 3) := by decide +kernel
theorem dX2_isLike_13 : decode cX2_isLike 13 = .ok (.if_icmp .eq 5, 3) := by decide +kernel
theorem dX2_isLike_16 : decode cX2_isLike 16 = .ok (.iconst 0, 1) := by decide +kernel
theorem dX2_isLike_17 : decode cX2_isLike 17 = .ok (.ireturn, 1) := by decide +kernel
theorem dX2_isLike_18 : decode cX2_isLike 18 = .ok (.iconst 0, 1) := by decide +kernel
theorem dX2_isLike_19 : decode cX2_isLike 19 = .ok (.istore 5, 2) := by decide +kernel
theorem dX2_isLike_21 : decode cX2_isLike 21 = .ok (.iload 5, 2) := by decide +kernel
theorem dX2_isLike_23 : decode cX2_isLike 23 = .ok (.aload_n 0, 1) := by decide +kernel
theorem dX2_isLike_24 : decode cX2_isLike 24 = .ok (.getfield 14, 3) := by decide +kernel
theorem dX2_isLike_27 : decode cX2_isLike 27 = .ok (.getfield 75, 3) := by decide +kernel
theorem dX2_isLike_30 : decode cX2_isLike 30 = .ok (.if_icmp .ge 47, 3) := by decide +kernel
theorem dX2_isLike_33 : decode cX2_isLike 33 = .ok (.aload_n 0, 1) := by decide +kernel
theorem dX2_isLike_34 : decode cX2_isLike 34 = .ok (.iload 5, 2) := by decide +kernel
theorem dX2_isLike_36 : decode cX2_isLike 36 = .ok (.iload_n 1, 1) := by decide +kernel
theorem dX2_isLike_37 : decode cX2_isLike 37 = .ok (.iload_n 2, 1) := by decide +kernel
theorem dX2_isLike_38 : decode cX2_isLike 38 = .ok (.invokevirtual 108, 3) := by decide +kernel
theorem dX2_isLike_41 : decode cX2_isLike 41 = .ok (.ifCond .ne 7, 3) := by decide +kernel
theorem dX2_isLike_44 : decode cX2_isLike 44 = .ok (.iconst 1, 1) := by decide +kernel
theorem dX2_isLike_45 : decode cX2_isLike 45 = .ok (.goto 4, 3) := by decide +kernel
theorem dX2_isLike_48 : decode cX2_isLike 48 = .ok (.iconst 0, 1) := by decide +kernel
theorem dX2_isLike_49 : decode cX2_isLike 49 = .ok (.aload_n 0, 1) := by decide +kernel
theorem dX2_isLike_50 : decode cX2_isLike 50 = .ok (.iload 5, 2) := by decide +kernel
theorem dX2_isLike_52 : decode cX2_isLike 52 = .ok (.iload_n 3, 1) := by decide +kernel
theorem dX2_isLike_53 : decode cX2_isLike 53 = .ok (.iload 4, 2) := by decide +kernel
theorem dX2_isLike_55 : decode cX2_isLike 55 = .ok (.invokevirtual 108, 3) := by decide +kernel
theorem dX2_isLike_58 : decode cX2_isLike 58 = .ok (.ifCond .ne 7, 3) := by decide +kernel
theorem dX2_isLike_61 : decode cX2_isLike 61 = .ok (.iconst 1, 1) := by decide +kernel
theorem dX2_isLike_62 : decode cX2_isLike 62 = .ok (.goto 4, 3) := by decide +kernel
theorem dX2_isLike_65 : decode cX2_isLike 65 = .ok (.iconst 0, 1) := by decide +kernel
theorem dX2_isLike_66 : decode cX2_isLike 66 = .ok (.if_icmp .eq 5, 3) := by decide +kernel
theorem dX2_isLike_69 : decode cX2_isLike 69 = .ok (.iconst 0, 1) := by decide +kernel
theorem dX2_isLike_70 : decode cX2_isLike 70 = .ok (.ireturn, 1) := by decide +kernel
theorem dX2_isLike_71 : decode cX2_isLike 71 = .ok (.iinc 5 1, 3) := by decide +kernel
theorem dX2_isLike_74 : decode cX2_isLike 74 = .ok (.goto (-53), 3) := by decide +kernel
theorem dX2_isLike_77 : decode cX2_isLike 77 = .ok (.iconst 1, 1) := by decide +kernel
theorem dX2_isLike_78 : decode cX2_isLike 78 = .ok (.ireturn, 1) := by decide +kernel
theorem dX3_canBe_0 : decode cX3_canBe 0 = .ok (.iload_n 1, 1) := by decide +kernel
theorem dX3_canBe_1 : decode cX3_canBe 1 = .ok (.iconst 1, 1) := by decide +kernel
theorem dX3_canBe_2 : decode cX3_canBe 2 = .ok (.if_icmp .lt 26, 3) := by decide +kernel
theorem dX3_canBe_5 : decode cX3_canBe 5 = .ok (.iload_n 1, 1) := by decide +kernel
theorem dX3_canBe_6 : decode cX3_canBe 6 = .ok (.aload_n 0, 1) := by decide +kernel
theorem dX3_canBe_7 : decode cX3_canBe 7 = .ok (.getfield 19, 3) := by decide +kernel
theorem dX3_canBe_10 : decode cX3_canBe 10 = .ok (.if_icmp .gt 18, 3) := by decide +kernel
theorem dX3_canBe_13 : decode cX3_canBe 13 = .ok (.iload_n 2, 1) := by decide +kernel
theorem dX3_canBe_14 : decode cX3_canBe 14 = .ok (.ifCond .lt 14, 3) := by decide +kernel
theorem dX3_canBe_17 : decode cX3_canBe 17 = .ok (.iload_n 2, 1) := by decide +kernel
theorem dX3_canBe_18 : decode cX3_canBe 18 = .ok (.aload_n 0, 1) := by decide +kernel
theorem dX3_canBe_19 : decode cX3_canBe 19 = .ok (.getfield 25, 3) := by decide +kernel
theorem dX3_canBe_22 : decode cX3_canBe 22 = .ok (.getfield 29, 3) := by decide +kernel
theorem dX3_canBe_25 : decode cX3_canBe 25 = .ok (.if_icmp .le 5, 3) := by decide +kernel
theorem dX3_canBe_28 : decode cX3_canBe 28 = .ok (.iconst 0, 1) := by decide +kernel
theorem dX3_canBe_29 : decode cX3_canBe 29 = .ok (.ireturn, 1) := by decide +kernel
theorem dX3_canBe_30 : decode cX3_canBe 30 = .ok (.iload_n 3, 1) := by decide +kernel
theorem dX3_canBe_31 : decode cX3_canBe 31 = .ok (.ifCond .lt 32, 3) := by decide +kernel
theorem dX3_canBe_34 : decode cX3_canBe 34 = .ok (.iload_n 3, 1) := by decide +kernel
theorem dX3_canBe_35 : decode cX3_canBe 35 = .ok (.iconst 1, 1) := by decide +kernel
theorem dX3_canBe_36 : decode cX3_canBe 36 = .ok (.aload_n 0, 1) := by decide +kernel
theorem dX3_canBe_37 : decode cX3_canBe 37 = .ok (.getfield 25, 3) := by decide +kernel
theorem dX3_canBe_40 : decode cX3_canBe 40 = .ok (.getfield 29, 3) := by decide +kernel
theorem dX3_canBe_43 : decode cX3_canBe 43 = .ok (.ishl, 1) := by decide +kernel
theorem dX3_canBe_44 : decode cX3_canBe 44 = .ok (.if_icmp .ge 19, 3) := by decide +kernel
theorem dX3_canBe_47 : decode cX3_canBe 47 = .ok (.iload_n 2, 1) := by decide +kernel
theorem dX3_canBe_48 : decode cX3_canBe 48 = .ok (.ifCond .eq 11, 3) := by decide +kernel
theorem dX3_canBe_51 : decode cX3_canBe 51 = .ok (.iload_n 2, 1) := by decide +kernel
theorem dX3_canBe_52 : decode cX3_canBe 52 = .ok (.iload_n 3, 1) := by decide +kernel
theorem dX3_canBe_53 : decode cX3_canBe 53 = .ok (.invokestatic 34, 3) := by decide +kernel
theorem dX3_canBe_56 : decode cX3_canBe 56 = .ok (.ifCond .eq 7, 3) := by decide +kernel
theorem dX3_canBe_59 : decode cX3_canBe 59 = .ok (.iconst 1, 1) := by decide +kernel
theorem dX3_canBe_60 : decode cX3_canBe 60 = .ok (.goto 4, 3) := by decide +kernel
theorem dX3_canBe_63 : decode cX3_canBe 63 = .ok (.iconst 0, 1) := by decide +kernel
theorem dX3_canBe_64 : decode cX3_canBe 64 = .ok (.ireturn, 1) := by decide +kernel
theorem dX3_worthOf_0 : decode cX3_worthOf 0 = .ok (.iload_n 1, 1) := by decide +kernel
theorem dX3_worthOf_1 : decode cX3_worthOf 1 = .ok (.ifCond .lt 27, 3) := by decide +kernel
theorem dX3_worthOf_4 : decode cX3_worthOf 4 = .ok (.iload_n 1, 1) := by decide +kernel
theorem dX3_worthOf_5 : decode cX3_worthOf 5 = .ok (.aload_n 0, 1) := by decide +kernel
theorem dX3_worthOf_6 : decode cX3_worthOf 6 = .ok (.getfield 11, 3) := by decide +kernel
theorem dX3_worthOf_9 : decode cX3_worthOf 9 = .ok (.arraylength, 1) := by decide +kernel
theorem dX3_worthOf_10 : decode cX3_worthOf 10 = .ok (.if_icmp .ge 18, 3) := by decide +kernel
theorem dX3_worthOf_13 : decode cX3_worthOf 13 = .ok (.iload_n 2, 1) := by decide +kernel
theorem dX3_worthOf_14 : decode cX3_worthOf 14 = .ok (.ifCond .lt 14, 3) := by decide +kernel
theorem dX3_worthOf_17 : decode cX3_worthOf 17 = .ok (.iload_n 2, 1) := by decide +kernel
theorem dX3_worthOf_18 : decode cX3_worthOf 18 = .ok (.aload_n 0, 1) := by decide +kernel
theorem dX3_worthOf_19 : decode cX3_worthOf 19 = .ok (.getfield 11, 3) := by decide +kernel
theorem dX3_worthOf_22 : decode cX3_worthOf 22 = .ok (.iload_n 1, 1) := by decide +kernel
theorem dX3_worthOf_23 : decode cX3_worthOf 23 = .ok (.aaload, 1) := by decide +kernel
theorem dX3_worthOf_24 : decode cX3_worthOf 24 = .ok (.arraylength, 1) := by decide +kernel
theorem dX3_worthOf_25 : decode cX3_worthOf 25 = .ok (.if_icmp .lt 5, 3) := by decide +kernel
theorem dX3_worthOf_28 : decode cX3_worthOf 28 = .ok (.lconst 0, 1) := by decide +kernel
theorem dX3_worthOf_29 : decode cX3_worthOf 29 = .ok (.lreturn, 1) := by decide +kernel
theorem dX3_worthOf_30 : decode cX3_worthOf 30 = .ok (.aload_n 0, 1) := by decide +kernel
theorem dX3_worthOf_31 : decode cX3_worthOf 31 = .ok (.getfield 11, 3) := by decide +kernel
theorem dX3_worthOf_34 : decode cX3_worthOf 34 = .ok (.iload_n 1, 1) := by decide +kernel
theorem dX3_worthOf_35 : decode cX3_worthOf 35 = .ok (.aaload, 1) := by decide +kernel
theorem dX3_worthOf_36 : decode cX3_worthOf 36 = .ok (.iload_n 2, 1) := by decide +kernel
theorem dX3_worthOf_37 : decode cX3_worthOf 37 = .ok (.laload, 1) := by decide +kernel
theorem dX3_worthOf_38 : decode cX3_worthOf 38 = .ok (.lreturn, 1) := by decide +kernel
theorem dX3_workBackTo_0 : decode cX3_workBackTo 0 = .ok (.aload_n 0, 1) := by decide +kernel
theorem dX3_workBackTo_1 : decode cX3_workBackTo 1 = .ok (.invokevirtual 38, 3) := by decide +kernel
theorem dX3_workBackTo_4 : decode cX3_workBackTo 4 = .ok (.aload_n 1, 1) := by decide +kernel
theorem dX3_workBackTo_5 : decode cX3_workBackTo 5 = .ok (.getfield 19, 3) := by decide +kernel
theorem dX3_workBackTo_8 : decode cX3_workBackTo 8 = .ok (.istore_n 3, 1) := by decide +kernel
theorem dX3_workBackTo_9 : decode cX3_workBackTo 9 = .ok (.iload_n 3, 1) := by decide +kernel
theorem dX3_workBackTo_10 : decode cX3_workBackTo 10 = .ok (.iload_n 2, 1) := by decide +kernel
theorem dX3_workBackTo_11 : decode cX3_workBackTo 11 = .ok (.if_icmp .lt 19, 3) := by decide +kernel
theorem dX3_workBackTo_14 : decode cX3_workBackTo 14 = .ok (.iload_n 3, 1) := by decide +kernel
theorem dX3_workBackTo_15 : decode cX3_workBackTo 15 = .ok (.ifCond .le 15, 3) := by decide +kernel
theorem dX3_workBackTo_18 : decode cX3_workBackTo 18 = .ok (.aload_n 0, 1) := by decide +kernel
theorem dX3_workBackTo_19 : decode cX3_workBackTo 19 = .ok (.aload_n 1, 1) := by decide +kernel
theorem dX3_workBackTo_20 : decode cX3_workBackTo 20 = .ok (.iload_n 3, 1) := by decide +kernel
theorem dX3_workBackTo_21 : decode cX3_workBackTo 21 = .ok (.invokevirtual 41, 3) := by decide +kernel
theorem dX3_workBackTo_24 : decode cX3_workBackTo 24 = .ok (.iinc 3 (-1), 3) := by decide +kernel
theorem dX3_workBackTo_27 : decode cX3_workBackTo 27 = .ok (.goto (-18), 3) := by decide +kernel
theorem dX3_workBackTo_30 : decode cX3_workBackTo 30 = .ok (.return_, 1) := by decide +kernel
theorem dX3_firstDayToGo_0 : decode cX3_firstDayToGo 0 = .ok (.iconst (-1), 1) := by decide +kernel
theorem dX3_firstDayToGo_1 : decode cX3_firstDayToGo 1 = .ok (.istore_n 2, 1) := by decide +kernel
theorem dX3_firstDayToGo_2 : decode cX3_firstDayToGo 2 = .ok (.aload_n 0, 1) := by decide +kernel
theorem dX3_firstDayToGo_3 : decode cX3_firstDayToGo 3 = .ok (.invokevirtual 38, 3) := by decide +kernel
theorem dX3_firstDayToGo_6 : decode cX3_firstDayToGo 6 = .ok (.aload_n 1, 1) := by decide +kernel
theorem dX3_firstDayToGo_7 : decode cX3_firstDayToGo 7 = .ok (.getfield 19, 3) := by decide +kernel
theorem dX3_firstDayToGo_10 : decode cX3_firstDayToGo 10 = .ok (.istore_n 3, 1) := by decide +kernel
theorem dX3_firstDayToGo_11 : decode cX3_firstDayToGo 11 = .ok (.iload_n 3, 1) := by decide +kernel
theorem dX3_firstDayToGo_12 : decode cX3_firstDayToGo 12 = .ok (.ifCond .le 31, 3) := by decide +kernel
theorem dX3_firstDayToGo_15 : decode cX3_firstDayToGo 15 = .ok (.aload_n 0, 1) := by decide +kernel
theorem dX3_firstDayToGo_16 : decode cX3_firstDayToGo 16 = .ok (.aload_n 1, 1) := by decide +kernel
theorem dX3_firstDayToGo_17 : decode cX3_firstDayToGo 17 = .ok (.iconst 0, 1) := by decide +kernel
theorem dX3_firstDayToGo_18 : decode cX3_firstDayToGo 18 = .ok (.aload_n 1, 1) := by decide +kernel
theorem dX3_firstDayToGo_19 : decode cX3_firstDayToGo 19 = .ok (.iload_n 3, 1) := by decide +kernel
theorem dX3_firstDayToGo_20 : decode cX3_firstDayToGo 20 = .ok (.invokestatic 45, 3) := by decide +kernel
theorem dX3_firstDayToGo_23 : decode cX3_firstDayToGo 23 = .ok (.invokevirtual 49, 3) := by decide +kernel
theorem dX3_firstDayToGo_26 : decode cX3_firstDayToGo 26 = .ok (.ifCond .eq 5, 3) := by decide +kernel
theorem dX3_firstDayToGo_29 : decode cX3_firstDayToGo 29 = .ok (.iload_n 3, 1) := by decide +kernel
theorem dX3_firstDayToGo_30 : decode cX3_firstDayToGo 30 = .ok (.istore_n 2, 1) := by decide +kernel
theorem dX3_firstDayToGo_31 : decode cX3_firstDayToGo 31 = .ok (.aload_n 0, 1) := by decide +kernel
theorem dX3_firstDayToGo_32 : decode cX3_firstDayToGo 32 = .ok (.aload_n 1, 1) := by decide +kernel
theorem dX3_firstDayToGo_33 : decode cX3_firstDayToGo 33 = .ok (.iload_n 3, 1) := by decide +kernel
theorem dX3_firstDayToGo_34 : decode cX3_firstDayToGo 34 = .ok (.invokevirtual 41, 3) := by decide +kernel
theorem dX3_firstDayToGo_37 : decode cX3_firstDayToGo 37 = .ok (.iinc 3 (-1), 3) := by decide +kernel
theorem dX3_firstDayToGo_40 : decode cX3_firstDayToGo 40 = .ok (.goto (-29), 3) := by decide +kernel
theorem dX3_firstDayToGo_43 : decode cX3_firstDayToGo 43 = .ok (.iload_n 2, 1) := by decide +kernel
theorem dX3_firstDayToGo_44 : decode cX3_firstDayToGo 44 = .ok (.ireturn, 1) := by decide +kernel
theorem dX3_bestFrom_0 : decode cX3_bestFrom 0 = .ok (.iload_n 2, 1) := by decide +kernel
theorem dX3_bestFrom_1 : decode cX3_bestFrom 1 = .ok (.istore 4, 2) := by decide +kernel
theorem dX3_bestFrom_3 : decode cX3_bestFrom 3 = .ok (.aload_n 0, 1) := by decide +kernel
theorem dX3_bestFrom_4 : decode cX3_bestFrom 4 = .ok (.aload_n 1, 1) := by decide +kernel
theorem dX3_bestFrom_5 : decode cX3_bestFrom 5 = .ok (.iload_n 2, 1) := by decide +kernel
theorem dX3_bestFrom_6 : decode cX3_bestFrom 6 = .ok (.iload_n 2, 1) := by decide +kernel
theorem dX3_bestFrom_7 : decode cX3_bestFrom 7 = .ok (.iload_n 3, 1) := by decide +kernel
theorem dX3_bestFrom_8 : decode cX3_bestFrom 8 = .ok (.invokevirtual 53, 3) := by decide +kernel
theorem dX3_bestFrom_11 : decode cX3_bestFrom 11 = .ok (.lstore 5, 2) := by decide +kernel
theorem dX3_bestFrom_13 : decode cX3_bestFrom 13 = .ok (.iconst 1, 1) := by decide +kernel
theorem dX3_bestFrom_14 : decode cX3_bestFrom 14 = .ok (.istore 7, 2) := by decide +kernel
theorem dX3_bestFrom_16 : decode cX3_bestFrom 16 = .ok (.iload 7, 2) := by decide +kernel
theorem dX3_bestFrom_18 : decode cX3_bestFrom 18 = .ok (.aload_n 1, 1) := by decide +kernel
theorem dX3_bestFrom_19 : decode cX3_bestFrom 19 = .ok (.getfield 25, 3) := by decide +kernel
theorem dX3_bestFrom_22 : decode cX3_bestFrom 22 = .ok (.getfield 29, 3) := by decide +kernel
theorem dX3_bestFrom_25 : decode cX3_bestFrom 25 = .ok (.if_icmp .gt 54, 3) := by decide +kernel
theorem dX3_bestFrom_28 : decode cX3_bestFrom 28 = .ok (.iload 7, 2) := by decide +kernel
theorem dX3_bestFrom_30 : decode cX3_bestFrom 30 = .ok (.iload_n 2, 1) := by decide +kernel
theorem dX3_bestFrom_31 : decode cX3_bestFrom 31 = .ok (.if_icmp .eq 42, 3) := by decide +kernel
theorem dX3_bestFrom_34 : decode cX3_bestFrom 34 = .ok (.iload 7, 2) := by decide +kernel
theorem dX3_bestFrom_36 : decode cX3_bestFrom 36 = .ok (.iload_n 3, 1) := by decide +kernel
theorem dX3_bestFrom_37 : decode cX3_bestFrom 37 = .ok (.invokestatic 34, 3) := by decide +kernel
theorem dX3_bestFrom_40 : decode cX3_bestFrom 40 = .ok (.ifCond .eq 33, 3) := by decide +kernel
theorem dX3_bestFrom_43 : decode cX3_bestFrom 43 = .ok (.aload_n 0, 1) := by decide +kernel
theorem dX3_bestFrom_44 : decode cX3_bestFrom 44 = .ok (.aload_n 1, 1) := by decide +kernel
theorem dX3_bestFrom_45 : decode cX3_bestFrom 45 = .ok (.iload_n 2, 1) := by decide +kernel
theorem dX3_bestFrom_46 : decode cX3_bestFrom 46 = .ok (.iload 7, 2) := by decide +kernel
theorem dX3_bestFrom_48 : decode cX3_bestFrom 48 = .ok (.iload_n 3, 1) := by decide +kernel
theorem dX3_bestFrom_49 : decode cX3_bestFrom 49 = .ok (.invokevirtual 53, 3) := by decide +kernel
theorem dX3_bestFrom_52 : decode cX3_bestFrom 52 = .ok (.lload 5, 2) := by decide +kernel
theorem dX3_bestFrom_54 : decode cX3_bestFrom 54 = .ok (.lcmp, 1) := by decide +kernel
theorem dX3_bestFrom_55 : decode cX3_bestFrom 55 = .ok (.ifCond .le 18, 3) := by decide +kernel
theorem dX3_bestFrom_58 : decode cX3_bestFrom 58 = .ok (.iload 7, 2) := by decide +kernel
theorem dX3_bestFrom_60 : decode cX3_bestFrom 60 = .ok (.istore 4, 2) := by decide +kernel
theorem dX3_bestFrom_62 : decode cX3_bestFrom 62 = .ok (.aload_n 0, 1) := by decide +kernel
theorem dX3_bestFrom_63 : decode cX3_bestFrom 63 = .ok (.aload_n 1, 1) := by decide +kernel
theorem dX3_bestFrom_64 : decode cX3_bestFrom 64 = .ok (.iload_n 2, 1) := by decide +kernel
theorem dX3_bestFrom_65 : decode cX3_bestFrom 65 = .ok (.iload 7, 2) := by decide +kernel
theorem dX3_bestFrom_67 : decode cX3_bestFrom 67 = .ok (.iload_n 3, 1) := by decide +kernel
theorem dX3_bestFrom_68 : decode cX3_bestFrom 68 = .ok (.invokevirtual 53, 3) := by decide +kernel
theorem dX3_bestFrom_71 : decode cX3_bestFrom 71 = .ok (.lstore 5, 2) := by decide +kernel
theorem dX3_bestFrom_73 : decode cX3_bestFrom 73 = .ok (.iinc 7 1, 3) := by decide +kernel
theorem dX3_bestFrom_76 : decode cX3_bestFrom 76 = .ok (.goto (-60), 3) := by decide +kernel
theorem dX3_bestFrom_79 : decode cX3_bestFrom 79 = .ok (.iload 4, 2) := by decide +kernel
theorem dX3_bestFrom_81 : decode cX3_bestFrom 81 = .ok (.ireturn, 1) := by decide +kernel
theorem dX3_begin_0 : decode cX3_begin 0 = .ok (.iconst 0, 1) := by decide +kernel
theorem dX3_begin_1 : decode cX3_begin 1 = .ok (.istore_n 1, 1) := by decide +kernel
theorem dX3_begin_2 : decode cX3_begin 2 = .ok (.iload_n 1, 1) := by decide +kernel
theorem dX3_begin_3 : decode cX3_begin 3 = .ok (.iconst 4, 1) := by decide +kernel
theorem dX3_begin_4 : decode cX3_begin 4 = .ok (.if_icmp .gt 34, 3) := by decide +kernel
theorem dX3_begin_7 : decode cX3_begin 7 = .ok (.iconst 0, 1) := by decide +kernel
theorem dX3_begin_8 : decode cX3_begin 8 = .ok (.istore_n 2, 1) := by decide +kernel
theorem dX3_begin_9 : decode cX3_begin 9 = .ok (.iload_n 2, 1) := by decide +kernel
theorem dX3_begin_10 : decode cX3_begin 10 = .ok (.bipush 16, 2) := by decide +kernel
theorem dX3_begin_12 : decode cX3_begin 12 = .ok (.if_icmp .ge 20, 3) := by decide +kernel
theorem dX3_begin_15 : decode cX3_begin 15 = .ok (.aload_n 0, 1) := by decide +kernel
theorem dX3_begin_16 : decode cX3_begin 16 = .ok (.getfield 11, 3) := by decide +kernel
theorem dX3_begin_19 : decode cX3_begin 19 = .ok (.iload_n 1, 1) := by decide +kernel
theorem dX3_begin_20 : decode cX3_begin 20 = .ok (.aaload, 1) := by decide +kernel
theorem dX3_begin_21 : decode cX3_begin 21 = .ok (.iload_n 2, 1) := by decide +kernel
theorem dX3_begin_22 : decode cX3_begin 22 = .ok (.ldc2_w 57, 3) := by decide +kernel
theorem dX3_begin_25 : decode cX3_begin 25 = .ok (.lastore, 1) := by decide +kernel
theorem dX3_begin_26 : decode cX3_begin 26 = .ok (.iinc 2 1, 3) := by decide +kernel
theorem dX3_begin_29 : decode cX3_begin 29 = .ok (.goto (-20), 3) := by decide +kernel
theorem dX3_begin_32 : decode cX3_begin 32 = .ok (.iinc 1 1, 3) := by decide +kernel
theorem dX3_begin_35 : decode cX3_begin 35 = .ok (.goto (-33), 3) := by decide +kernel
theorem dX3_begin_38 : decode cX3_begin 38 = .ok (.return_, 1) := by decide +kernel
theorem dX3_workDay_0 : decode cX3_workDay 0 = .ok (.aload_n 1, 1) := by decide +kernel
theorem dX3_workDay_1 : decode cX3_workDay 1 = .ok (.getfield 25, 3) := by decide +kernel
theorem dX3_workDay_4 : decode cX3_workDay 4 = .ok (.getfield 29, 3) := by decide +kernel
theorem dX3_workDay_7 : decode cX3_workDay 7 = .ok (.iconst 4, 1) := by decide +kernel
theorem dX3_workDay_8 : decode cX3_workDay 8 = .ok (.invokestatic 59, 3) := by decide +kernel
theorem dX3_workDay_11 : decode cX3_workDay 11 = .ok (.istore_n 3, 1) := by decide +kernel
theorem dX3_workDay_12 : decode cX3_workDay 12 = .ok (.iconst 0, 1) := by decide +kernel
theorem dX3_workDay_13 : decode cX3_workDay 13 = .ok (.istore 4, 2) := by decide +kernel
theorem dX3_workDay_15 : decode cX3_workDay 15 = .ok (.iload 4, 2) := by decide +kernel
theorem dX3_workDay_17 : decode cX3_workDay 17 = .ok (.iload_n 3, 1) := by decide +kernel
theorem dX3_workDay_18 : decode cX3_workDay 18 = .ok (.if_icmp .gt 103, 3) := by decide +kernel
theorem dX3_workDay_21 : decode cX3_workDay 21 = .ok (.iconst 0, 1) := by decide +kernel
theorem dX3_workDay_22 : decode cX3_workDay 22 = .ok (.istore 5, 2) := by decide +kernel
theorem dX3_workDay_24 : decode cX3_workDay 24 = .ok (.iload 5, 2) := by decide +kernel
theorem dX3_workDay_26 : decode cX3_workDay 26 = .ok (.iconst 1, 1) := by decide +kernel
theorem dX3_workDay_27 : decode cX3_workDay 27 = .ok (.iload_n 3, 1) := by decide +kernel
theorem dX3_workDay_28 : decode cX3_workDay 28 = .ok (.ishl, 1) := by decide +kernel
theorem dX3_workDay_29 : decode cX3_workDay 29 = .ok (.if_icmp .ge 37, 3) := by decide +kernel
theorem dX3_workDay_32 : decode cX3_workDay 32 = .ok (.aload_n 0, 1) := by decide +kernel
theorem dX3_workDay_33 : decode cX3_workDay 33 = .ok (.getfield 16, 3) := by decide +kernel
theorem dX3_workDay_36 : decode cX3_workDay 36 = .ok (.iload 4, 2) := by decide +kernel
theorem dX3_workDay_38 : decode cX3_workDay 38 = .ok (.aaload, 1) := by decide +kernel
theorem dX3_workDay_39 : decode cX3_workDay 39 = .ok (.iload 5, 2) := by decide +kernel
theorem dX3_workDay_41 : decode cX3_workDay 41 = .ok (.aload_n 0, 1) := by decide +kernel
theorem dX3_workDay_42 : decode cX3_workDay 42 = .ok (.aload_n 1, 1) := by decide +kernel
theorem dX3_workDay_43 : decode cX3_workDay 43 = .ok (.iload 4, 2) := by decide +kernel
theorem dX3_workDay_45 : decode cX3_workDay 45 = .ok (.aload_n 0, 1) := by decide +kernel
theorem dX3_workDay_46 : decode cX3_workDay 46 = .ok (.aload_n 1, 1) := by decide +kernel
theorem dX3_workDay_47 : decode cX3_workDay 47 = .ok (.iload 4, 2) := by decide +kernel
theorem dX3_workDay_49 : decode cX3_workDay 49 = .ok (.iload 5, 2) := by decide +kernel
theorem dX3_workDay_51 : decode cX3_workDay 51 = .ok (.invokevirtual 49, 3) := by decide +kernel
theorem dX3_workDay_54 : decode cX3_workDay 54 = .ok (.iload 5, 2) := by decide +kernel
theorem dX3_workDay_56 : decode cX3_workDay 56 = .ok (.invokevirtual 53, 3) := by decide +kernel
theorem dX3_workDay_59 : decode cX3_workDay 59 = .ok (.lastore, 1) := by decide +kernel
theorem dX3_workDay_60 : decode cX3_workDay 60 = .ok (.iinc 5 1, 3) := by decide +kernel
theorem dX3_workDay_63 : decode cX3_workDay 63 = .ok (.goto (-39), 3) := by decide +kernel
theorem dX3_workDay_66 : decode cX3_workDay 66 = .ok (.iload_n 3, 1) := by decide +kernel
theorem dX3_workDay_67 : decode cX3_workDay 67 = .ok (.iconst 1, 1) := by decide +kernel
theorem dX3_workDay_68 : decode cX3_workDay 68 = .ok (.isub, 1) := by decide +kernel
theorem dX3_workDay_69 : decode cX3_workDay 69 = .ok (.istore 5, 2) := by decide +kernel
theorem dX3_workDay_71 : decode cX3_workDay 71 = .ok (.iload 5, 2) := by decide +kernel
theorem dX3_workDay_73 : decode cX3_workDay 73 = .ok (.ifCond .lt 42, 3) := by decide +kernel
theorem dX3_workDay_76 : decode cX3_workDay 76 = .ok (.aload_n 1, 1) := by decide +kernel
theorem dX3_workDay_77 : decode cX3_workDay 77 = .ok (.getfield 25, 3) := by decide +kernel
theorem dX3_workDay_80 : decode cX3_workDay 80 = .ok (.iload 5, 2) := by decide +kernel
theorem dX3_workDay_82 : decode cX3_workDay 82 = .ok (.iconst 0, 1) := by decide +kernel
theorem dX3_workDay_83 : decode cX3_workDay 83 = .ok (.invokevirtual 65, 3) := by decide +kernel
theorem dX3_workDay_86 : decode cX3_workDay 86 = .ok (.iload_n 2, 1) := by decide +kernel
theorem dX3_workDay_87 : decode cX3_workDay 87 = .ok (.if_icmp .gt 22, 3) := by decide +kernel
theorem dX3_workDay_90 : decode cX3_workDay 90 = .ok (.aload_n 0, 1) := by decide +kernel
theorem dX3_workDay_91 : decode cX3_workDay 91 = .ok (.iload 4, 2) := by decide +kernel
theorem dX3_workDay_93 : decode cX3_workDay 93 = .ok (.iload 5, 2) := by decide +kernel
theorem dX3_workDay_95 : decode cX3_workDay 95 = .ok (.aload_n 1, 1) := by decide +kernel
theorem dX3_workDay_96 : decode cX3_workDay 96 = .ok (.getfield 25, 3) := by decide +kernel
theorem dX3_workDay_99 : decode cX3_workDay 99 = .ok (.iload 5, 2) := by decide +kernel
theorem dX3_workDay_101 : decode cX3_workDay 101 = .ok (.iconst 1, 1) := by decide +kernel
theorem dX3_workDay_102 : decode cX3_workDay 102 = .ok (.invokevirtual 65, 3) := by decide +kernel
theorem dX3_workDay_105 : decode cX3_workDay 105 = .ok (.i2l, 1) := by decide +kernel
theorem dX3_workDay_106 : decode cX3_workDay 106 = .ok (.invokevirtual 68, 3) := by decide +kernel
theorem dX3_workDay_109 : decode cX3_workDay 109 = .ok (.iinc 5 (-1), 3) := by decide +kernel
theorem dX3_workDay_112 : decode cX3_workDay 112 = .ok (.goto (-41), 3) := by decide +kernel
theorem dX3_workDay_115 : decode cX3_workDay 115 = .ok (.iinc 4 1, 3) := by decide +kernel
theorem dX3_workDay_118 : decode cX3_workDay 118 = .ok (.goto (-103), 3) := by decide +kernel
theorem dX3_workDay_121 : decode cX3_workDay 121 = .ok (.iconst 0, 1) := by decide +kernel
theorem dX3_workDay_122 : decode cX3_workDay 122 = .ok (.istore 4, 2) := by decide +kernel
theorem dX3_workDay_124 : decode cX3_workDay 124 = .ok (.iload 4, 2) := by decide +kernel
theorem dX3_workDay_126 : decode cX3_workDay 126 = .ok (.iload_n 3, 1) := by decide +kernel
theorem dX3_workDay_127 : decode cX3_workDay 127 = .ok (.if_icmp .gt 46, 3) := by decide +kernel
theorem dX3_workDay_130 : decode cX3_workDay 130 = .ok (.iconst 0, 1) := by decide +kernel
theorem dX3_workDay_131 : decode cX3_workDay 131 = .ok (.istore 5, 2) := by decide +kernel
theorem dX3_workDay_133 : decode cX3_workDay 133 = .ok (.iload 5, 2) := by decide +kernel
theorem dX3_workDay_135 : decode cX3_workDay 135 = .ok (.iconst 1, 1) := by decide +kernel
theorem dX3_workDay_136 : decode cX3_workDay 136 = .ok (.iload_n 3, 1) := by decide +kernel
theorem dX3_workDay_137 : decode cX3_workDay 137 = .ok (.ishl, 1) := by decide +kernel
theorem dX3_workDay_138 : decode cX3_workDay 138 = .ok (.if_icmp .ge 29, 3) := by decide +kernel
theorem dX3_workDay_141 : decode cX3_workDay 141 = .ok (.aload_n 0, 1) := by decide +kernel
theorem dX3_workDay_142 : decode cX3_workDay 142 = .ok (.getfield 11, 3) := by decide +kernel
theorem dX3_workDay_145 : decode cX3_workDay 145 = .ok (.iload 4, 2) := by decide +kernel
theorem dX3_workDay_147 : decode cX3_workDay 147 = .ok (.aaload, 1) := by decide +kernel
theorem dX3_workDay_148 : decode cX3_workDay 148 = .ok (.iload 5, 2) := by decide +kernel
theorem dX3_workDay_150 : decode cX3_workDay 150 = .ok (.aload_n 0, 1) := by decide +kernel
theorem dX3_workDay_151 : decode cX3_workDay 151 = .ok (.getfield 16, 3) := by decide +kernel
theorem dX3_workDay_154 : decode cX3_workDay 154 = .ok (.iload 4, 2) := by decide +kernel
theorem dX3_workDay_156 : decode cX3_workDay 156 = .ok (.aaload, 1) := by decide +kernel
theorem dX3_workDay_157 : decode cX3_workDay 157 = .ok (.iload 5, 2) := by decide +kernel
theorem dX3_workDay_159 : decode cX3_workDay 159 = .ok (.laload, 1) := by decide +kernel
theorem dX3_workDay_160 : decode cX3_workDay 160 = .ok (.lastore, 1) := by decide +kernel
theorem dX3_workDay_161 : decode cX3_workDay 161 = .ok (.iinc 5 1, 3) := by decide +kernel
theorem dX3_workDay_164 : decode cX3_workDay 164 = .ok (.goto (-31), 3) := by decide +kernel
theorem dX3_workDay_167 : decode cX3_workDay 167 = .ok (.iinc 4 1, 3) := by decide +kernel
theorem dX3_workDay_170 : decode cX3_workDay 170 = .ok (.goto (-46), 3) := by decide +kernel
theorem dX3_workDay_173 : decode cX3_workDay 173 = .ok (.return_, 1) := by decide +kernel
theorem dX3_mixComing_0 : decode cX3_mixComing 0 = .ok (.iload_n 1, 1) := by decide +kernel
theorem dX3_mixComing_1 : decode cX3_mixComing 1 = .ok (.ifCond .lt 12, 3) := by decide +kernel
theorem dX3_mixComing_4 : decode cX3_mixComing 4 = .ok (.iload_n 1, 1) := by decide +kernel
theorem dX3_mixComing_5 : decode cX3_mixComing 5 = .ok (.aload_n 0, 1) := by decide +kernel
theorem dX3_mixComing_6 : decode cX3_mixComing 6 = .ok (.getfield 16, 3) := by decide +kernel
theorem dX3_mixComing_9 : decode cX3_mixComing 9 = .ok (.arraylength, 1) := by decide +kernel
theorem dX3_mixComing_10 : decode cX3_mixComing 10 = .ok (.if_icmp .lt 4, 3) := by decide +kernel
theorem dX3_mixComing_13 : decode cX3_mixComing 13 = .ok (.return_, 1) := by decide +kernel
theorem dX3_mixComing_14 : decode cX3_mixComing 14 = .ok (.iconst 0, 1) := by decide +kernel
theorem dX3_mixComing_15 : decode cX3_mixComing 15 = .ok (.istore 5, 2) := by decide +kernel
theorem dX3_mixComing_17 : decode cX3_mixComing 17 = .ok (.iload 5, 2) := by decide +kernel
theorem dX3_mixComing_19 : decode cX3_mixComing 19 = .ok (.aload_n 0, 1) := by decide +kernel
theorem dX3_mixComing_20 : decode cX3_mixComing 20 = .ok (.getfield 16, 3) := by decide +kernel
theorem dX3_mixComing_23 : decode cX3_mixComing 23 = .ok (.iload_n 1, 1) := by decide +kernel
theorem dX3_mixComing_24 : decode cX3_mixComing 24 = .ok (.aaload, 1) := by decide +kernel
theorem dX3_mixComing_25 : decode cX3_mixComing 25 = .ok (.arraylength, 1) := by decide +kernel
theorem dX3_mixComing_26 : decode cX3_mixComing 26 = .ok (.if_icmp .ge 76, 3) := by decide +kernel
theorem dX3_mixComing_29 : decode cX3_mixComing 29 = .ok (.iload 5, 2) := by decide +kernel
theorem dX3_mixComing_31 : decode cX3_mixComing 31 = .ok (.iconst 1, 1) := by decide +kernel
theorem dX3_mixComing_32 : decode cX3_mixComing 32 = .ok (.iload_n 2, 1) := by decide +kernel
theorem dX3_mixComing_33 : decode cX3_mixComing 33 = .ok (.ishl, 1) := by decide +kernel
theorem dX3_mixComing_34 : decode cX3_mixComing 34 = .ok (.ior, 1) := by decide +kernel
theorem dX3_mixComing_35 : decode cX3_mixComing 35 = .ok (.istore 6, 2) := by decide +kernel
theorem dX3_mixComing_37 : decode cX3_mixComing 37 = .ok (.iload 6, 2) := by decide +kernel
theorem dX3_mixComing_39 : decode cX3_mixComing 39 = .ok (.iload 5, 2) := by decide +kernel
theorem dX3_mixComing_41 : decode cX3_mixComing 41 = .ok (.if_icmp .eq 55, 3) := by decide +kernel
theorem dX3_mixComing_44 : decode cX3_mixComing 44 = .ok (.iload 6, 2) := by decide +kernel
theorem dX3_mixComing_46 : decode cX3_mixComing 46 = .ok (.aload_n 0, 1) := by decide +kernel
theorem dX3_mixComing_47 : decode cX3_mixComing 47 = .ok (.getfield 16, 3) := by decide +kernel
theorem dX3_mixComing_50 : decode cX3_mixComing 50 = .ok (.iload_n 1, 1) := by decide +kernel
theorem dX3_mixComing_51 : decode cX3_mixComing 51 = .ok (.aaload, 1) := by decide +kernel
theorem dX3_mixComing_52 : decode cX3_mixComing 52 = .ok (.arraylength, 1) := by decide +kernel
theorem dX3_mixComing_53 : decode cX3_mixComing 53 = .ok (.if_icmp .ge 43, 3) := by decide +kernel
theorem dX3_mixComing_56 : decode cX3_mixComing 56 = .ok (.aload_n 0, 1) := by decide +kernel
theorem dX3_mixComing_57 : decode cX3_mixComing 57 = .ok (.getfield 16, 3) := by decide +kernel
theorem dX3_mixComing_60 : decode cX3_mixComing 60 = .ok (.iload_n 1, 1) := by decide +kernel
theorem dX3_mixComing_61 : decode cX3_mixComing 61 = .ok (.aaload, 1) := by decide +kernel
theorem dX3_mixComing_62 : decode cX3_mixComing 62 = .ok (.iload 5, 2) := by decide +kernel
theorem dX3_mixComing_64 : decode cX3_mixComing 64 = .ok (.lload_n 3, 1) := by decide +kernel
theorem dX3_mixComing_65 : decode cX3_mixComing 65 = .ok (.aload_n 0, 1) := by decide +kernel
theorem dX3_mixComing_66 : decode cX3_mixComing 66 = .ok (.getfield 16, 3) := by decide +kernel
theorem dX3_mixComing_69 : decode cX3_mixComing 69 = .ok (.iload_n 1, 1) := by decide +kernel
theorem dX3_mixComing_70 : decode cX3_mixComing 70 = .ok (.aaload, 1) := by decide +kernel
theorem dX3_mixComing_71 : decode cX3_mixComing 71 = .ok (.iload 6, 2) := by decide +kernel
theorem dX3_mixComing_73 : decode cX3_mixComing 73 = .ok (.laload, 1) := by decide +kernel
theorem dX3_mixComing_74 : decode cX3_mixComing 74 = .ok (.lmul, 1) := by decide +kernel
theorem dX3_mixComing_75 : decode cX3_mixComing 75 = .ok (.ldc2_w 72, 3) := by decide +kernel
theorem dX3_mixComing_78 : decode cX3_mixComing 78 = .ok (.lload_n 3, 1) := by decide +kernel
theorem dX3_mixComing_79 : decode cX3_mixComing 79 = .ok (.lsub, 1) := by decide +kernel
theorem dX3_mixComing_80 : decode cX3_mixComing 80 = .ok (.aload_n 0, 1) := by decide +kernel
theorem dX3_mixComing_81 : decode cX3_mixComing 81 = .ok (.getfield 16, 3) := by decide +kernel
theorem dX3_mixComing_84 : decode cX3_mixComing 84 = .ok (.iload_n 1, 1) := by decide +kernel
theorem dX3_mixComing_85 : decode cX3_mixComing 85 = .ok (.aaload, 1) := by decide +kernel
theorem dX3_mixComing_86 : decode cX3_mixComing 86 = .ok (.iload 5, 2) := by decide +kernel
theorem dX3_mixComing_88 : decode cX3_mixComing 88 = .ok (.laload, 1) := by decide +kernel
theorem dX3_mixComing_89 : decode cX3_mixComing 89 = .ok (.lmul, 1) := by decide +kernel
theorem dX3_mixComing_90 : decode cX3_mixComing 90 = .ok (.ladd, 1) := by decide +kernel
theorem dX3_mixComing_91 : decode cX3_mixComing 91 = .ok (.ldc2_w 72, 3) := by decide +kernel
theorem dX3_mixComing_94 : decode cX3_mixComing 94 = .ok (.ldiv, 1) := by decide +kernel
theorem dX3_mixComing_95 : decode cX3_mixComing 95 = .ok (.lastore, 1) := by decide +kernel
theorem dX3_mixComing_96 : decode cX3_mixComing 96 = .ok (.iinc 5 1, 3) := by decide +kernel
theorem dX3_mixComing_99 : decode cX3_mixComing 99 = .ok (.goto (-82), 3) := by decide +kernel
theorem dX3_mixComing_102 : decode cX3_mixComing 102 = .ok (.return_, 1) := by decide +kernel
theorem dX3_worthOfGoing_0 : decode cX3_worthOfGoing 0 = .ok (.iload_n 3, 1) := by decide +kernel
theorem dX3_worthOfGoing_1 : decode cX3_worthOfGoing 1 = .ok (.ifCond .ne 10, 3) := by decide +kernel
theorem dX3_worthOfGoing_4 : decode cX3_worthOfGoing 4 = .ok (.aload_n 1, 1) := by decide +kernel
theorem dX3_worthOfGoing_5 : decode cX3_worthOfGoing 5 = .ok (.getfield 74, 3) := by decide +kernel
theorem dX3_worthOfGoing_8 : decode cX3_worthOfGoing 8 = .ok (.goto 14, 3) := by decide +kernel
theorem dX3_worthOfGoing_11 : decode cX3_worthOfGoing 11 = .ok (.aload_n 1, 1) := by decide +kernel
theorem dX3_worthOfGoing_12 : decode cX3_worthOfGoing 12 = .ok (.getfield 25, 3) := by decide +kernel
theorem dX3_worthOfGoing_15 : decode cX3_worthOfGoing 15 = .ok (.iload_n 3, 1) := by decide +kernel
theorem dX3_worthOfGoing_16 : decode cX3_worthOfGoing 16 = .ok (.iconst 1, 1) := by decide +kernel
theorem dX3_worthOfGoing_17 : decode cX3_worthOfGoing 17 = .ok (.isub, 1) := by decide +kernel
theorem dX3_worthOfGoing_18 : decode cX3_worthOfGoing 18 = .ok (.iconst 2, 1) := by decide +kernel
theorem dX3_worthOfGoing_19 : decode cX3_worthOfGoing 19 = .ok (.invokevirtual 65, 3) := by decide +kernel
theorem dX3_worthOfGoing_22 : decode cX3_worthOfGoing 22 = .ok (.istore 5, 2) := by decide +kernel
theorem dX3_worthOfGoing_24 : decode cX3_worthOfGoing 24 = .ok (.aload_n 0, 1) := by decide +kernel
theorem dX3_worthOfGoing_25 : decode cX3_worthOfGoing 25 = .ok (.iload_n 3, 1) := by decide +kernel
theorem dX3_worthOfGoing_26 : decode cX3_worthOfGoing 26 = .ok (.iload 4, 2) := by decide +kernel
theorem dX3_worthOfGoing_28 : decode cX3_worthOfGoing 28 = .ok (.invokevirtual 77, 3) := by decide +kernel
theorem dX3_worthOfGoing_31 : decode cX3_worthOfGoing 31 = .ok (.sipush 10000, 3) := by decide +kernel
theorem dX3_worthOfGoing_34 : decode cX3_worthOfGoing 34 = .ok (.iload 5, 2) := by decide +kernel
theorem dX3_worthOfGoing_36 : decode cX3_worthOfGoing 36 = .ok (.isub, 1) := by decide +kernel
theorem dX3_worthOfGoing_37 : decode cX3_worthOfGoing 37 = .ok (.i2l, 1) := by decide +kernel
theorem dX3_worthOfGoing_38 : decode cX3_worthOfGoing 38 = .ok (.lmul, 1) := by decide +kernel
theorem dX3_worthOfGoing_39 : decode cX3_worthOfGoing 39 = .ok (.ldc2_w 81, 3) := by decide +kernel
theorem dX3_worthOfGoing_42 : decode cX3_worthOfGoing 42 = .ok (.ldiv, 1) := by decide +kernel
theorem dX3_worthOfGoing_43 : decode cX3_worthOfGoing 43 = .ok (.lstore 6, 2) := by decide +kernel
theorem dX3_worthOfGoing_45 : decode cX3_worthOfGoing 45 = .ok (.iload_n 3, 1) := by decide +kernel
theorem dX3_worthOfGoing_46 : decode cX3_worthOfGoing 46 = .ok (.iload_n 2, 1) := by decide +kernel
theorem dX3_worthOfGoing_47 : decode cX3_worthOfGoing 47 = .ok (.if_icmp .ne 8, 3) := by decide +kernel
theorem dX3_worthOfGoing_50 : decode cX3_worthOfGoing 50 = .ok (.lload 6, 2) := by decide +kernel
theorem dX3_worthOfGoing_52 : decode cX3_worthOfGoing 52 = .ok (.goto 19, 3) := by decide +kernel
theorem dX3_worthOfGoing_55 : decode cX3_worthOfGoing 55 = .ok (.lload 6, 2) := by decide +kernel
theorem dX3_worthOfGoing_57 : decode cX3_worthOfGoing 57 = .ok (.sipush 10000, 3) := by decide +kernel
theorem dX3_worthOfGoing_60 : decode cX3_worthOfGoing 60 = .ok (.aload_n 1, 1) := by decide +kernel
theorem dX3_worthOfGoing_61 : decode cX3_worthOfGoing 61 = .ok (.getfield 83, 3) := by decide +kernel
theorem dX3_worthOfGoing_64 : decode cX3_worthOfGoing 64 = .ok (.isub, 1) := by decide +kernel
theorem dX3_worthOfGoing_65 : decode cX3_worthOfGoing 65 = .ok (.i2l, 1) := by decide +kernel
theorem dX3_worthOfGoing_66 : decode cX3_worthOfGoing 66 = .ok (.lmul, 1) := by decide +kernel
theorem dX3_worthOfGoing_67 : decode cX3_worthOfGoing 67 = .ok (.ldc2_w 81, 3) := by decide +kernel
theorem dX3_worthOfGoing_70 : decode cX3_worthOfGoing 70 = .ok (.ldiv, 1) := by decide +kernel
theorem dX3_worthOfGoing_71 : decode cX3_worthOfGoing 71 = .ok (.lreturn, 1) := by decide +kernel
theorem dX3_dueBy_0 : decode cX3_dueBy 0 = .ok (.iconst 0, 1) := by decide +kernel
theorem dX3_dueBy_1 : decode cX3_dueBy 1 = .ok (.istore_n 2, 1) := by decide +kernel
theorem dX3_dueBy_2 : decode cX3_dueBy 2 = .ok (.iconst 0, 1) := by decide +kernel
theorem dX3_dueBy_3 : decode cX3_dueBy 3 = .ok (.istore_n 3, 1) := by decide +kernel
theorem dX3_dueBy_4 : decode cX3_dueBy 4 = .ok (.iload_n 3, 1) := by decide +kernel
theorem dX3_dueBy_5 : decode cX3_dueBy 5 = .ok (.aload_n 0, 1) := by decide +kernel
theorem dX3_dueBy_6 : decode cX3_dueBy 6 = .ok (.getfield 25, 3) := by decide +kernel
theorem dX3_dueBy_9 : decode cX3_dueBy 9 = .ok (.getfield 29, 3) := by decide +kernel
theorem dX3_dueBy_12 : decode cX3_dueBy 12 = .ok (.if_icmp .ge 28, 3) := by decide +kernel
theorem dX3_dueBy_15 : decode cX3_dueBy 15 = .ok (.aload_n 0, 1) := by decide +kernel
theorem dX3_dueBy_16 : decode cX3_dueBy 16 = .ok (.getfield 25, 3) := by decide +kernel
theorem dX3_dueBy_19 : decode cX3_dueBy 19 = .ok (.iload_n 3, 1) := by decide +kernel
theorem dX3_dueBy_20 : decode cX3_dueBy 20 = .ok (.iconst 0, 1) := by decide +kernel
theorem dX3_dueBy_21 : decode cX3_dueBy 21 = .ok (.invokevirtual 65, 3) := by decide +kernel
theorem dX3_dueBy_24 : decode cX3_dueBy 24 = .ok (.iload_n 1, 1) := by decide +kernel
theorem dX3_dueBy_25 : decode cX3_dueBy 25 = .ok (.if_icmp .gt 9, 3) := by decide +kernel
theorem dX3_dueBy_28 : decode cX3_dueBy 28 = .ok (.iload_n 2, 1) := by decide +kernel
theorem dX3_dueBy_29 : decode cX3_dueBy 29 = .ok (.iconst 1, 1) := by decide +kernel
theorem dX3_dueBy_30 : decode cX3_dueBy 30 = .ok (.iload_n 3, 1) := by decide +kernel
theorem dX3_dueBy_31 : decode cX3_dueBy 31 = .ok (.ishl, 1) := by decide +kernel
theorem dX3_dueBy_32 : decode cX3_dueBy 32 = .ok (.ior, 1) := by decide +kernel
theorem dX3_dueBy_33 : decode cX3_dueBy 33 = .ok (.istore_n 2, 1) := by decide +kernel
theorem dX3_dueBy_34 : decode cX3_dueBy 34 = .ok (.iinc 3 1, 3) := by decide +kernel
theorem dX3_dueBy_37 : decode cX3_dueBy 37 = .ok (.goto (-33), 3) := by decide +kernel
theorem dX3_dueBy_40 : decode cX3_dueBy 40 = .ok (.iload_n 2, 1) := by decide +kernel
theorem dX3_dueBy_41 : decode cX3_dueBy 41 = .ok (.ireturn, 1) := by decide +kernel
theorem dX3_isNear_0 : decode cX3_isNear 0 = .ok (.iload_n 0, 1) := by decide +kernel
theorem dX3_isNear_1 : decode cX3_isNear 1 = .ok (.ifCond .le 18, 3) := by decide +kernel
theorem dX3_isNear_4 : decode cX3_isNear 4 = .ok (.iload_n 1, 1) := by decide +kernel
theorem dX3_isNear_5 : decode cX3_isNear 5 = .ok (.iload_n 0, 1) := by decide +kernel
theorem dX3_isNear_6 : decode cX3_isNear 6 = .ok (.iconst 1, 1) := by decide +kernel
theorem dX3_isNear_7 : decode cX3_isNear 7 = .ok (.isub, 1) := by decide +kernel
theorem dX3_isNear_8 : decode cX3_isNear 8 = .ok (.ishr, 1) := by decide +kernel
theorem dX3_isNear_9 : decode cX3_isNear 9 = .ok (.iconst 1, 1) := by decide +kernel
theorem dX3_isNear_10 : decode cX3_isNear 10 = .ok (.iand, 1) := by decide +kernel
theorem dX3_isNear_11 : decode cX3_isNear 11 = .ok (.iconst 1, 1) := by decide +kernel
theorem dX3_isNear_12 : decode cX3_isNear 12 = .ok (.if_icmp .ne 7, 3) := by decide +kernel
theorem dX3_isNear_15 : decode cX3_isNear 15 = .ok (.iconst 1, 1) := by decide +kernel
theorem dX3_isNear_16 : decode cX3_isNear 16 = .ok (.goto 4, 3) := by decide +kernel
theorem dX3_isNear_19 : decode cX3_isNear 19 = .ok (.iconst 0, 1) := by decide +kernel
theorem dX3_isNear_20 : decode cX3_isNear 20 = .ok (.ireturn, 1) := by decide +kernel
theorem dX4_look_0 : decode cX4_look 0 = .ok (.aload_n 1, 1) := by decide +kernel
theorem dX4_look_1 : decode cX4_look 1 = .ok (.getfield 43, 3) := by decide +kernel
theorem dX4_look_4 : decode cX4_look 4 = .ok (.astore_n 2, 1) := by decide +kernel
theorem dX4_look_5 : decode cX4_look 5 = .ok (.aload_n 0, 1) := by decide +kernel
theorem dX4_look_6 : decode cX4_look 6 = .ok (.iconst 1, 1) := by decide +kernel
theorem dX4_look_7 : decode cX4_look 7 = .ok (.aload_n 2, 1) := by decide +kernel
theorem dX4_look_8 : decode cX4_look 8 = .ok (.getfield 49, 3) := by decide +kernel
theorem dX4_look_11 : decode cX4_look 11 = .ok (.getfield 55, 3) := by decide +kernel
theorem dX4_look_14 : decode cX4_look 14 = .ok (.bipush 7, 2) := by decide +kernel
theorem dX4_look_16 : decode cX4_look 16 = .ok (.invokestatic 60, 3) := by decide +kernel
theorem dX4_look_19 : decode cX4_look 19 = .ok (.ishl, 1) := by decide +kernel
theorem dX4_look_20 : decode cX4_look 20 = .ok (.putfield 9, 3) := by decide +kernel
theorem dX4_look_23 : decode cX4_look 23 = .ok (.aload_n 0, 1) := by decide +kernel
theorem dX4_look_24 : decode cX4_look 24 = .ok (.aload_n 1, 1) := by decide +kernel
theorem dX4_look_25 : decode cX4_look 25 = .ok (.getfield 66, 3) := by decide +kernel
theorem dX4_look_28 : decode cX4_look 28 = .ok (.putfield 69, 3) := by decide +kernel
theorem dX4_look_31 : decode cX4_look 31 = .ok (.aload_n 0, 1) := by decide +kernel
theorem dX4_look_32 : decode cX4_look 32 = .ok (.aload_n 2, 1) := by decide +kernel
theorem dX4_look_33 : decode cX4_look 33 = .ok (.getfield 70, 3) := by decide +kernel
theorem dX4_look_36 : decode cX4_look 36 = .ok (.putfield 73, 3) := by decide +kernel
theorem dX4_look_39 : decode cX4_look 39 = .ok (.iconst 0, 1) := by decide +kernel
theorem dX4_look_40 : decode cX4_look 40 = .ok (.istore_n 3, 1) := by decide +kernel
theorem dX4_look_41 : decode cX4_look 41 = .ok (.iload_n 3, 1) := by decide +kernel
theorem dX4_look_42 : decode cX4_look 42 = .ok (.aload_n 0, 1) := by decide +kernel
theorem dX4_look_43 : decode cX4_look 43 = .ok (.getfield 9, 3) := by decide +kernel
theorem dX4_look_46 : decode cX4_look 46 = .ok (.if_icmp .ge 37, 3) := by decide +kernel
theorem dX4_look_49 : decode cX4_look 49 = .ok (.aload_n 0, 1) := by decide +kernel
theorem dX4_look_50 : decode cX4_look 50 = .ok (.getfield 15, 3) := by decide +kernel
theorem dX4_look_53 : decode cX4_look 53 = .ok (.iload_n 3, 1) := by decide +kernel
theorem dX4_look_54 : decode cX4_look 54 = .ok (.iload_n 3, 1) := by decide +kernel
theorem dX4_look_55 : decode cX4_look 55 = .ok (.aload_n 0, 1) := by decide +kernel
theorem dX4_look_56 : decode cX4_look 56 = .ok (.getfield 69, 3) := by decide +kernel
theorem dX4_look_59 : decode cX4_look 59 = .ok (.if_icmp .ne 9, 3) := by decide +kernel
theorem dX4_look_62 : decode cX4_look 62 = .ok (.ldc2_w 74, 3) := by decide +kernel
theorem dX4_look_65 : decode cX4_look 65 = .ok (.goto 4, 3) := by decide +kernel
theorem dX4_look_68 : decode cX4_look 68 = .ok (.lconst 0, 1) := by decide +kernel
theorem dX4_look_69 : decode cX4_look 69 = .ok (.lastore, 1) := by decide +kernel
theorem dX4_look_70 : decode cX4_look 70 = .ok (.aload_n 0, 1) := by decide +kernel
theorem dX4_look_71 : decode cX4_look 71 = .ok (.getfield 19, 3) := by decide +kernel
theorem dX4_look_74 : decode cX4_look 74 = .ok (.iload_n 3, 1) := by decide +kernel
theorem dX4_look_75 : decode cX4_look 75 = .ok (.iconst 0, 1) := by decide +kernel
theorem dX4_look_76 : decode cX4_look 76 = .ok (.iastore, 1) := by decide +kernel
theorem dX4_look_77 : decode cX4_look 77 = .ok (.iinc 3 1, 3) := by decide +kernel
theorem dX4_look_80 : decode cX4_look 80 = .ok (.goto (-39), 3) := by decide +kernel
theorem dX4_look_83 : decode cX4_look 83 = .ok (.iconst 0, 1) := by decide +kernel
theorem dX4_look_84 : decode cX4_look 84 = .ok (.istore_n 3, 1) := by decide +kernel
theorem dX4_look_85 : decode cX4_look 85 = .ok (.iload_n 3, 1) := by decide +kernel
theorem dX4_look_86 : decode cX4_look 86 = .ok (.aload_n 2, 1) := by decide +kernel
theorem dX4_look_87 : decode cX4_look 87 = .ok (.getfield 49, 3) := by decide +kernel
theorem dX4_look_90 : decode cX4_look 90 = .ok (.getfield 55, 3) := by decide +kernel
theorem dX4_look_93 : decode cX4_look 93 = .ok (.if_icmp .ge 31, 3) := by decide +kernel
theorem dX4_look_96 : decode cX4_look 96 = .ok (.iload_n 3, 1) := by decide +kernel
theorem dX4_look_97 : decode cX4_look 97 = .ok (.bipush 7, 2) := by decide +kernel
theorem dX4_look_99 : decode cX4_look 99 = .ok (.if_icmp .ge 25, 3) := by decide +kernel
theorem dX4_look_102 : decode cX4_look 102 = .ok (.aload_n 0, 1) := by decide +kernel
theorem dX4_look_103 : decode cX4_look 103 = .ok (.getfield 23, 3) := by decide +kernel
theorem dX4_look_106 : decode cX4_look 106 = .ok (.iload_n 3, 1) := by decide +kernel
theorem dX4_look_107 : decode cX4_look 107 = .ok (.aload_n 2, 1) := by decide +kernel
theorem dX4_look_108 : decode cX4_look 108 = .ok (.iload_n 3, 1) := by decide +kernel
theorem dX4_look_109 : decode cX4_look 109 = .ok (.aload_n 1, 1) := by decide +kernel
theorem dX4_look_110 : decode cX4_look 110 = .ok (.iload_n 3, 1) := by decide +kernel
theorem dX4_look_111 : decode cX4_look 111 = .ok (.invokevirtual 76, 3) := by decide +kernel
theorem dX4_look_114 : decode cX4_look 114 = .ok (.invokevirtual 80, 3) := by decide +kernel
theorem dX4_look_117 : decode cX4_look 117 = .ok (.iastore, 1) := by decide +kernel
theorem dX4_look_118 : decode cX4_look 118 = .ok (.iinc 3 1, 3) := by decide +kernel
theorem dX4_look_121 : decode cX4_look 121 = .ok (.goto (-36), 3) := by decide +kernel
theorem dX4_look_124 : decode cX4_look 124 = .ok (.iconst 0, 1) := by decide +kernel
theorem dX4_look_125 : decode cX4_look 125 = .ok (.istore_n 3, 1) := by decide +kernel
theorem dX4_look_126 : decode cX4_look 126 = .ok (.iload_n 3, 1) := by decide +kernel
theorem dX4_look_127 : decode cX4_look 127 = .ok (.bipush 8, 2) := by decide +kernel
theorem dX4_look_129 : decode cX4_look 129 = .ok (.if_icmp .ge 62, 3) := by decide +kernel
theorem dX4_look_132 : decode cX4_look 132 = .ok (.aload_n 0, 1) := by decide +kernel
theorem dX4_look_133 : decode cX4_look 133 = .ok (.getfield 32, 3) := by decide +kernel
theorem dX4_look_136 : decode cX4_look 136 = .ok (.iload_n 3, 1) := by decide +kernel
theorem dX4_look_137 : decode cX4_look 137 = .ok (.aload_n 2, 1) := by decide +kernel
theorem dX4_look_138 : decode cX4_look 138 = .ok (.aload_n 1, 1) := by decide +kernel
theorem dX4_look_139 : decode cX4_look 139 = .ok (.getfield 83, 3) := by decide +kernel
theorem dX4_look_142 : decode cX4_look 142 = .ok (.iload_n 3, 1) := by decide +kernel
theorem dX4_look_143 : decode cX4_look 143 = .ok (.iaload, 1) := by decide +kernel
theorem dX4_look_144 : decode cX4_look 144 = .ok (.aload_n 1, 1) := by decide +kernel
theorem dX4_look_145 : decode cX4_look 145 = .ok (.getfield 86, 3) := by decide +kernel
theorem dX4_look_148 : decode cX4_look 148 = .ok (.iload_n 3, 1) := by decide +kernel
theorem dX4_look_149 : decode cX4_look 149 = .ok (.iaload, 1) := by decide +kernel
theorem dX4_look_150 : decode cX4_look 150 = .ok (.invokevirtual 89, 3) := by decide +kernel
theorem dX4_look_153 : decode cX4_look 153 = .ok (.iastore, 1) := by decide +kernel
theorem dX4_look_154 : decode cX4_look 154 = .ok (.iconst 0, 1) := by decide +kernel
theorem dX4_look_155 : decode cX4_look 155 = .ok (.istore 4, 2) := by decide +kernel
theorem dX4_look_157 : decode cX4_look 157 = .ok (.iload 4, 2) := by decide +kernel
theorem dX4_look_159 : decode cX4_look 159 = .ok (.iconst 4, 1) := by decide +kernel
theorem dX4_look_160 : decode cX4_look 160 = .ok (.if_icmp .ge 25, 3) := by decide +kernel
theorem dX4_look_163 : decode cX4_look 163 = .ok (.aload_n 0, 1) := by decide +kernel
theorem dX4_look_164 : decode cX4_look 164 = .ok (.getfield 37, 3) := by decide +kernel
theorem dX4_look_167 : decode cX4_look 167 = .ok (.iload_n 3, 1) := by decide +kernel
theorem dX4_look_168 : decode cX4_look 168 = .ok (.aaload, 1) := by decide +kernel
theorem dX4_look_169 : decode cX4_look 169 = .ok (.iload 4, 2) := by decide +kernel
theorem dX4_look_171 : decode cX4_look 171 = .ok (.aload_n 1, 1) := by decide +kernel
theorem dX4_look_172 : decode cX4_look 172 = .ok (.iload_n 3, 1) := by decide +kernel
theorem dX4_look_173 : decode cX4_look 173 = .ok (.iload 4, 2) := by decide +kernel
theorem dX4_look_175 : decode cX4_look 175 = .ok (.invokevirtual 92, 3) := by decide +kernel
theorem dX4_look_178 : decode cX4_look 178 = .ok (.iastore, 1) := by decide +kernel
theorem dX4_look_179 : decode cX4_look 179 = .ok (.iinc 4 1, 3) := by decide +kernel
theorem dX4_look_182 : decode cX4_look 182 = .ok (.goto (-25), 3) := by decide +kernel
theorem dX4_look_185 : decode cX4_look 185 = .ok (.iinc 3 1, 3) := by decide +kernel
theorem dX4_look_188 : decode cX4_look 188 = .ok (.goto (-62), 3) := by decide +kernel
theorem dX4_look_191 : decode cX4_look 191 = .ok (.iconst 0, 1) := by decide +kernel
theorem dX4_look_192 : decode cX4_look 192 = .ok (.istore_n 3, 1) := by decide +kernel
theorem dX4_look_193 : decode cX4_look 193 = .ok (.iload_n 3, 1) := by decide +kernel
theorem dX4_look_194 : decode cX4_look 194 = .ok (.iconst 4, 1) := by decide +kernel
theorem dX4_look_195 : decode cX4_look 195 = .ok (.if_icmp .ge 43, 3) := by decide +kernel
theorem dX4_look_198 : decode cX4_look 198 = .ok (.aload_n 0, 1) := by decide +kernel
theorem dX4_look_199 : decode cX4_look 199 = .ok (.getfield 26, 3) := by decide +kernel
theorem dX4_look_202 : decode cX4_look 202 = .ok (.iload_n 3, 1) := by decide +kernel
theorem dX4_look_203 : decode cX4_look 203 = .ok (.aload_n 1, 1) := by decide +kernel
theorem dX4_look_204 : decode cX4_look 204 = .ok (.getfield 95, 3) := by decide +kernel
theorem dX4_look_207 : decode cX4_look 207 = .ok (.iload_n 3, 1) := by decide +kernel
theorem dX4_look_208 : decode cX4_look 208 = .ok (.iaload, 1) := by decide +kernel
theorem dX4_look_209 : decode cX4_look 209 = .ok (.iastore, 1) := by decide +kernel
theorem dX4_look_210 : decode cX4_look 210 = .ok (.aload_n 0, 1) := by decide +kernel
theorem dX4_look_211 : decode cX4_look 211 = .ok (.getfield 29, 3) := by decide +kernel
theorem dX4_look_214 : decode cX4_look 214 = .ok (.iload_n 3, 1) := by decide +kernel
theorem dX4_look_215 : decode cX4_look 215 = .ok (.aload_n 2, 1) := by decide +kernel
theorem dX4_look_216 : decode cX4_look 216 = .ok (.aload_n 1, 1) := by decide +kernel
theorem dX4_look_217 : decode cX4_look 217 = .ok (.getfield 96, 3) := by decide +kernel
theorem dX4_look_220 : decode cX4_look 220 = .ok (.iload_n 3, 1) := by decide +kernel
theorem dX4_look_221 : decode cX4_look 221 = .ok (.iaload, 1) := by decide +kernel
theorem dX4_look_222 : decode cX4_look 222 = .ok (.aload_n 1, 1) := by decide +kernel
theorem dX4_look_223 : decode cX4_look 223 = .ok (.getfield 99, 3) := by decide +kernel
theorem dX4_look_226 : decode cX4_look 226 = .ok (.iload_n 3, 1) := by decide +kernel
theorem dX4_look_227 : decode cX4_look 227 = .ok (.iaload, 1) := by decide +kernel
theorem dX4_look_228 : decode cX4_look 228 = .ok (.invokevirtual 89, 3) := by decide +kernel
theorem dX4_look_231 : decode cX4_look 231 = .ok (.iastore, 1) := by decide +kernel
theorem dX4_look_232 : decode cX4_look 232 = .ok (.iinc 3 1, 3) := by decide +kernel
theorem dX4_look_235 : decode cX4_look 235 = .ok (.goto (-42), 3) := by decide +kernel
theorem dX4_look_238 : decode cX4_look 238 = .ok (.iconst 0, 1) := by decide +kernel
theorem dX4_look_239 : decode cX4_look 239 = .ok (.istore_n 3, 1) := by decide +kernel
theorem dX4_look_240 : decode cX4_look 240 = .ok (.iload_n 3, 1) := by decide +kernel
theorem dX4_look_241 : decode cX4_look 241 = .ok (.iconst 4, 1) := by decide +kernel
theorem dX4_look_242 : decode cX4_look 242 = .ok (.if_icmp .ge 36, 3) := by decide +kernel
theorem dX4_look_245 : decode cX4_look 245 = .ok (.aload_n 0, 1) := by decide +kernel
theorem dX4_look_246 : decode cX4_look 246 = .ok (.getfield 40, 3) := by decide +kernel
theorem dX4_look_249 : decode cX4_look 249 = .ok (.iload_n 3, 1) := by decide +kernel
theorem dX4_look_250 : decode cX4_look 250 = .ok (.aload_n 2, 1) := by decide +kernel
theorem dX4_look_251 : decode cX4_look 251 = .ok (.iload_n 3, 1) := by decide +kernel
theorem dX4_look_252 : decode cX4_look 252 = .ok (.invokevirtual 102, 3) := by decide +kernel
theorem dX4_look_255 : decode cX4_look 255 = .ok (.ifCond .eq 15, 3) := by decide +kernel
theorem dX4_look_258 : decode cX4_look 258 = .ok (.iload_n 3, 1) := by decide +kernel
theorem dX4_look_259 : decode cX4_look 259 = .ok (.iconst 1, 1) := by decide +kernel
theorem dX4_look_260 : decode cX4_look 260 = .ok (.aload_n 2, 1) := by decide +kernel
theorem dX4_look_261 : decode cX4_look 261 = .ok (.getfield 106, 3) := by decide +kernel
theorem dX4_look_264 : decode cX4_look 264 = .ok (.invokestatic 109, 3) := by decide +kernel
theorem dX4_look_267 : decode cX4_look 267 = .ok (.goto 4, 3) := by decide +kernel
theorem dX4_look_270 : decode cX4_look 270 = .ok (.iconst 0, 1) := by decide +kernel
theorem dX4_look_271 : decode cX4_look 271 = .ok (.iastore, 1) := by decide +kernel
theorem dX4_look_272 : decode cX4_look 272 = .ok (.iinc 3 1, 3) := by decide +kernel
theorem dX4_look_275 : decode cX4_look 275 = .ok (.goto (-35), 3) := by decide +kernel
theorem dX4_look_278 : decode cX4_look 278 = .ok (.return_, 1) := by decide +kernel
theorem dX4_partsOf_0 : decode cX4_partsOf 0 = .ok (.iload_n 1, 1) := by decide +kernel
theorem dX4_partsOf_1 : decode cX4_partsOf 1 = .ok (.ifCond .lt 20, 3) := by decide +kernel
theorem dX4_partsOf_4 : decode cX4_partsOf 4 = .ok (.iload_n 1, 1) := by decide +kernel
theorem dX4_partsOf_5 : decode cX4_partsOf 5 = .ok (.aload_n 0, 1) := by decide +kernel
theorem dX4_partsOf_6 : decode cX4_partsOf 6 = .ok (.getfield 9, 3) := by decide +kernel
theorem dX4_partsOf_9 : decode cX4_partsOf 9 = .ok (.if_icmp .ge 12, 3) := by decide +kernel
theorem dX4_partsOf_12 : decode cX4_partsOf 12 = .ok (.aload_n 0, 1) := by decide +kernel
theorem dX4_partsOf_13 : decode cX4_partsOf 13 = .ok (.getfield 15, 3) := by decide +kernel
theorem dX4_partsOf_16 : decode cX4_partsOf 16 = .ok (.iload_n 1, 1) := by decide +kernel
theorem dX4_partsOf_17 : decode cX4_partsOf 17 = .ok (.laload, 1) := by decide +kernel
theorem dX4_partsOf_18 : decode cX4_partsOf 18 = .ok (.goto 4, 3) := by decide +kernel
theorem dX4_partsOf_21 : decode cX4_partsOf 21 = .ok (.lconst 0, 1) := by decide +kernel
theorem dX4_partsOf_22 : decode cX4_partsOf 22 = .ok (.lreturn, 1) := by decide +kernel
theorem dX4_passHour_0 : decode cX4_passHour 0 = .ok (.iconst 0, 1) := by decide +kernel
theorem dX4_passHour_1 : decode cX4_passHour 1 = .ok (.istore_n 1, 1) := by decide +kernel
theorem dX4_passHour_2 : decode cX4_passHour 2 = .ok (.iload_n 1, 1) := by decide +kernel
theorem dX4_passHour_3 : decode cX4_passHour 3 = .ok (.bipush 7, 2) := by decide +kernel
theorem dX4_passHour_5 : decode cX4_passHour 5 = .ok (.if_icmp .ge 120, 3) := by decide +kernel
theorem dX4_passHour_8 : decode cX4_passHour 8 = .ok (.iconst 1, 1) := by decide +kernel
theorem dX4_passHour_9 : decode cX4_passHour 9 = .ok (.iload_n 1, 1) := by decide +kernel
theorem dX4_passHour_10 : decode cX4_passHour 10 = .ok (.ishl, 1) := by decide +kernel
theorem dX4_passHour_11 : decode cX4_passHour 11 = .ok (.aload_n 0, 1) := by decide +kernel
theorem dX4_passHour_12 : decode cX4_passHour 12 = .ok (.getfield 9, 3) := by decide +kernel
theorem dX4_passHour_15 : decode cX4_passHour 15 = .ok (.if_icmp .ge 110, 3) := by decide +kernel
theorem dX4_passHour_18 : decode cX4_passHour 18 = .ok (.iconst 0, 1) := by decide +kernel
theorem dX4_passHour_19 : decode cX4_passHour 19 = .ok (.istore_n 2, 1) := by decide +kernel
theorem dX4_passHour_20 : decode cX4_passHour 20 = .ok (.iload_n 2, 1) := by decide +kernel
theorem dX4_passHour_21 : decode cX4_passHour 21 = .ok (.aload_n 0, 1) := by decide +kernel
theorem dX4_passHour_22 : decode cX4_passHour 22 = .ok (.getfield 9, 3) := by decide +kernel
theorem dX4_passHour_25 : decode cX4_passHour 25 = .ok (.if_icmp .ge 94, 3) := by decide +kernel
theorem dX4_passHour_28 : decode cX4_passHour 28 = .ok (.iload_n 2, 1) := by decide +kernel
theorem dX4_passHour_29 : decode cX4_passHour 29 = .ok (.iconst 1, 1) := by decide +kernel
theorem dX4_passHour_30 : decode cX4_passHour 30 = .ok (.iload_n 1, 1) := by decide +kernel
theorem dX4_passHour_31 : decode cX4_passHour 31 = .ok (.ishl, 1) := by decide +kernel
theorem dX4_passHour_32 : decode cX4_passHour 32 = .ok (.ior, 1) := by decide +kernel
theorem dX4_passHour_33 : decode cX4_passHour 33 = .ok (.istore_n 3, 1) := by decide +kernel
theorem dX4_passHour_34 : decode cX4_passHour 34 = .ok (.iload_n 3, 1) := by decide +kernel
theorem dX4_passHour_35 : decode cX4_passHour 35 = .ok (.iload_n 2, 1) := by decide +kernel
theorem dX4_passHour_36 : decode cX4_passHour 36 = .ok (.if_icmp .eq 77, 3) := by decide +kernel
theorem dX4_passHour_39 : decode cX4_passHour 39 = .ok (.iload_n 3, 1) := by decide +kernel
theorem dX4_passHour_40 : decode cX4_passHour 40 = .ok (.aload_n 0, 1) := by decide +kernel
theorem dX4_passHour_41 : decode cX4_passHour 41 = .ok (.getfield 9, 3) := by decide +kernel
theorem dX4_passHour_44 : decode cX4_passHour 44 = .ok (.if_icmp .ge 69, 3) := by decide +kernel
theorem dX4_passHour_47 : decode cX4_passHour 47 = .ok (.aload_n 0, 1) := by decide +kernel
theorem dX4_passHour_48 : decode cX4_passHour 48 = .ok (.getfield 15, 3) := by decide +kernel
theorem dX4_passHour_51 : decode cX4_passHour 51 = .ok (.iload_n 2, 1) := by decide +kernel
theorem dX4_passHour_52 : decode cX4_passHour 52 = .ok (.laload, 1) := by decide +kernel
theorem dX4_passHour_53 : decode cX4_passHour 53 = .ok (.aload_n 0, 1) := by decide +kernel
theorem dX4_passHour_54 : decode cX4_passHour 54 = .ok (.getfield 23, 3) := by decide +kernel
theorem dX4_passHour_57 : decode cX4_passHour 57 = .ok (.iload_n 1, 1) := by decide +kernel
theorem dX4_passHour_58 : decode cX4_passHour 58 = .ok (.iaload, 1) := by decide +kernel
theorem dX4_passHour_59 : decode cX4_passHour 59 = .ok (.i2l, 1) := by decide +kernel
theorem dX4_passHour_60 : decode cX4_passHour 60 = .ok (.lmul, 1) := by decide +kernel
theorem dX4_passHour_61 : decode cX4_passHour 61 = .ok (.ldc2_w 113, 3) := by decide +kernel
theorem dX4_passHour_64 : decode cX4_passHour 64 = .ok (.ldiv, 1) := by decide +kernel
theorem dX4_passHour_65 : decode cX4_passHour 65 = .ok (.lstore 4, 2) := by decide +kernel
theorem dX4_passHour_67 : decode cX4_passHour 67 = .ok (.aload_n 0, 1) := by decide +kernel
theorem dX4_passHour_68 : decode cX4_passHour 68 = .ok (.getfield 15, 3) := by decide +kernel
theorem dX4_passHour_71 : decode cX4_passHour 71 = .ok (.iload_n 3, 1) := by decide +kernel
theorem dX4_passHour_72 : decode cX4_passHour 72 = .ok (.laload, 1) := by decide +kernel
theorem dX4_passHour_73 : decode cX4_passHour 73 = .ok (.aload_n 0, 1) := by decide +kernel
theorem dX4_passHour_74 : decode cX4_passHour 74 = .ok (.getfield 73, 3) := by decide +kernel
theorem dX4_passHour_77 : decode cX4_passHour 77 = .ok (.i2l, 1) := by decide +kernel
theorem dX4_passHour_78 : decode cX4_passHour 78 = .ok (.lmul, 1) := by decide +kernel
theorem dX4_passHour_79 : decode cX4_passHour 79 = .ok (.ldc2_w 115, 3) := by decide +kernel
theorem dX4_passHour_82 : decode cX4_passHour 82 = .ok (.ldiv, 1) := by decide +kernel
theorem dX4_passHour_83 : decode cX4_passHour 83 = .ok (.lstore 6, 2) := by decide +kernel
theorem dX4_passHour_85 : decode cX4_passHour 85 = .ok (.aload_n 0, 1) := by decide +kernel
theorem dX4_passHour_86 : decode cX4_passHour 86 = .ok (.getfield 15, 3) := by decide +kernel
theorem dX4_passHour_89 : decode cX4_passHour 89 = .ok (.iload_n 2, 1) := by decide +kernel
theorem dX4_passHour_90 : decode cX4_passHour 90 = .ok (.dup2, 1) := by decide +kernel
theorem dX4_passHour_91 : decode cX4_passHour 91 = .ok (.laload, 1) := by decide +kernel
theorem dX4_passHour_92 : decode cX4_passHour 92 = .ok (.lload 6, 2) := by decide +kernel
theorem dX4_passHour_94 : decode cX4_passHour 94 = .ok (.lload 4, 2) := by decide +kernel
theorem dX4_passHour_96 : decode cX4_passHour 96 = .ok (.lsub, 1) := by decide +kernel
theorem dX4_passHour_97 : decode cX4_passHour 97 = .ok (.ladd, 1) := by decide +kernel
theorem dX4_passHour_98 : decode cX4_passHour 98 = .ok (.lastore, 1) := by decide +kernel
theorem dX4_passHour_99 : decode cX4_passHour 99 = .ok (.aload_n 0, 1) := by decide +kernel
theorem dX4_passHour_100 : decode cX4_passHour 100 = .ok (.getfield 15, 3) := by decide +kernel
theorem dX4_passHour_103 : decode cX4_passHour 103 = .ok (.iload_n 3, 1) := by decide +kernel
theorem dX4_passHour_104 : decode cX4_passHour 104 = .ok (.dup2, 1) := by decide +kernel
theorem dX4_passHour_105 : decode cX4_passHour 105 = .ok (.laload, 1) := by decide +kernel
theorem dX4_passHour_106 : decode cX4_passHour 106 = .ok (.lload 4, 2) := by decide +kernel
theorem dX4_passHour_108 : decode cX4_passHour 108 = .ok (.lload 6, 2) := by decide +kernel
theorem dX4_passHour_110 : decode cX4_passHour 110 = .ok (.lsub, 1) := by decide +kernel
theorem dX4_passHour_111 : decode cX4_passHour 111 = .ok (.ladd, 1) := by decide +kernel
theorem dX4_passHour_112 : decode cX4_passHour 112 = .ok (.lastore, 1) := by decide +kernel
theorem dX4_passHour_113 : decode cX4_passHour 113 = .ok (.iinc 2 1, 3) := by decide +kernel
theorem dX4_passHour_116 : decode cX4_passHour 116 = .ok (.goto (-96), 3) := by decide +kernel
theorem dX4_passHour_119 : decode cX4_passHour 119 = .ok (.iinc 1 1, 3) := by decide +kernel
theorem dX4_passHour_122 : decode cX4_passHour 122 = .ok (.goto (-120), 3) := by decide +kernel
theorem dX4_passHour_125 : decode cX4_passHour 125 = .ok (.return_, 1) := by decide +kernel
theorem dX4_takeOutLost_0 : decode cX4_takeOutLost 0 = .ok (.lconst 0, 1) := by decide +kernel
theorem dX4_takeOutLost_1 : decode cX4_takeOutLost 1 = .ok (.lstore_n 1, 1) := by decide +kernel
theorem dX4_takeOutLost_2 : decode cX4_takeOutLost 2 = .ok (.iconst 0, 1) := by decide +kernel
theorem dX4_takeOutLost_3 : decode cX4_takeOutLost 3 = .ok (.istore_n 3, 1) := by decide +kernel
theorem dX4_takeOutLost_4 : decode cX4_takeOutLost 4 = .ok (.iload_n 3, 1) := by decide +kernel
theorem dX4_takeOutLost_5 : decode cX4_takeOutLost 5 = .ok (.aload_n 0, 1) := by decide +kernel
theorem dX4_takeOutLost_6 : decode cX4_takeOutLost 6 = .ok (.getfield 9, 3) := by decide +kernel
theorem dX4_takeOutLost_9 : decode cX4_takeOutLost 9 = .ok (.if_icmp .ge 44, 3) := by decide +kernel
theorem dX4_takeOutLost_12 : decode cX4_takeOutLost 12 = .ok (.aload_n 0, 1) := by decide +kernel
theorem dX4_takeOutLost_13 : decode cX4_takeOutLost 13 = .ok (.getfield 15, 3) := by decide +kernel
theorem dX4_takeOutLost_16 : decode cX4_takeOutLost 16 = .ok (.iload_n 3, 1) := by decide +kernel
theorem dX4_takeOutLost_17 : decode cX4_takeOutLost 17 = .ok (.laload, 1) := by decide +kernel
theorem dX4_takeOutLost_18 : decode cX4_takeOutLost 18 = .ok (.lconst 0, 1) := by decide +kernel
theorem dX4_takeOutLost_19 : decode cX4_takeOutLost 19 = .ok (.lcmp, 1) := by decide +kernel
theorem dX4_takeOutLost_20 : decode cX4_takeOutLost 20 = .ok (.ifCond .eq 27, 3) := by decide +kernel
theorem dX4_takeOutLost_23 : decode cX4_takeOutLost 23 = .ok (.aload_n 0, 1) := by decide +kernel
theorem dX4_takeOutLost_24 : decode cX4_takeOutLost 24 = .ok (.iload_n 3, 1) := by decide +kernel
theorem dX4_takeOutLost_25 : decode cX4_takeOutLost 25 = .ok (.invokevirtual 117, 3) := by decide +kernel
theorem dX4_takeOutLost_28 : decode cX4_takeOutLost 28 = .ok (.ifCond .ne 19, 3) := by decide +kernel
theorem dX4_takeOutLost_31 : decode cX4_takeOutLost 31 = .ok (.lload_n 1, 1) := by decide +kernel
theorem dX4_takeOutLost_32 : decode cX4_takeOutLost 32 = .ok (.aload_n 0, 1) := by decide +kernel
theorem dX4_takeOutLost_33 : decode cX4_takeOutLost 33 = .ok (.getfield 15, 3) := by decide +kernel
theorem dX4_takeOutLost_36 : decode cX4_takeOutLost 36 = .ok (.iload_n 3, 1) := by decide +kernel
theorem dX4_takeOutLost_37 : decode cX4_takeOutLost 37 = .ok (.laload, 1) := by decide +kernel
theorem dX4_takeOutLost_38 : decode cX4_takeOutLost 38 = .ok (.ladd, 1) := by decide +kernel
theorem dX4_takeOutLost_39 : decode cX4_takeOutLost 39 = .ok (.lstore_n 1, 1) := by decide +kernel
theorem dX4_takeOutLost_40 : decode cX4_takeOutLost 40 = .ok (.aload_n 0, 1) := by decide +kernel
theorem dX4_takeOutLost_41 : decode cX4_takeOutLost 41 = .ok (.getfield 15, 3) := by decide +kernel
theorem dX4_takeOutLost_44 : decode cX4_takeOutLost 44 = .ok (.iload_n 3, 1) := by decide +kernel
theorem dX4_takeOutLost_45 : decode cX4_takeOutLost 45 = .ok (.lconst 0, 1) := by decide +kernel
theorem dX4_takeOutLost_46 : decode cX4_takeOutLost 46 = .ok (.lastore, 1) := by decide +kernel
theorem dX4_takeOutLost_47 : decode cX4_takeOutLost 47 = .ok (.iinc 3 1, 3) := by decide +kernel
theorem dX4_takeOutLost_50 : decode cX4_takeOutLost 50 = .ok (.goto (-46), 3) := by decide +kernel
theorem dX4_takeOutLost_53 : decode cX4_takeOutLost 53 = .ok (.lload_n 1, 1) := by decide +kernel
theorem dX4_takeOutLost_54 : decode cX4_takeOutLost 54 = .ok (.lreturn, 1) := by decide +kernel
theorem dX4_lostIn_0 : decode cX4_lostIn 0 = .ok (.aload_n 0, 1) := by decide +kernel
theorem dX4_lostIn_1 : decode cX4_lostIn 1 = .ok (.aload_n 1, 1) := by decide +kernel
theorem dX4_lostIn_2 : decode cX4_lostIn 2 = .ok (.invokevirtual 120, 3) := by decide +kernel
theorem dX4_lostIn_5 : decode cX4_lostIn 5 = .ok (.lconst 0, 1) := by decide +kernel
theorem dX4_lostIn_6 : decode cX4_lostIn 6 = .ok (.lstore_n 3, 1) := by decide +kernel
theorem dX4_lostIn_7 : decode cX4_lostIn 7 = .ok (.iconst 0, 1) := by decide +kernel
theorem dX4_lostIn_8 : decode cX4_lostIn 8 = .ok (.istore 5, 2) := by decide +kernel
theorem dX4_lostIn_10 : decode cX4_lostIn 10 = .ok (.iload 5, 2) := by decide +kernel
theorem dX4_lostIn_12 : decode cX4_lostIn 12 = .ok (.iload_n 2, 1) := by decide +kernel
theorem dX4_lostIn_13 : decode cX4_lostIn 13 = .ok (.if_icmp .ge 20, 3) := by decide +kernel
theorem dX4_lostIn_16 : decode cX4_lostIn 16 = .ok (.aload_n 0, 1) := by decide +kernel
theorem dX4_lostIn_17 : decode cX4_lostIn 17 = .ok (.invokevirtual 124, 3) := by decide +kernel
theorem dX4_lostIn_20 : decode cX4_lostIn 20 = .ok (.lload_n 3, 1) := by decide +kernel
theorem dX4_lostIn_21 : decode cX4_lostIn 21 = .ok (.aload_n 0, 1) := by decide +kernel
theorem dX4_lostIn_22 : decode cX4_lostIn 22 = .ok (.invokevirtual 127, 3) := by decide +kernel
theorem dX4_lostIn_25 : decode cX4_lostIn 25 = .ok (.ladd, 1) := by decide +kernel
theorem dX4_lostIn_26 : decode cX4_lostIn 26 = .ok (.lstore_n 3, 1) := by decide +kernel
theorem dX4_lostIn_27 : decode cX4_lostIn 27 = .ok (.iinc 5 1, 3) := by decide +kernel
theorem dX4_lostIn_30 : decode cX4_lostIn 30 = .ok (.goto (-20), 3) := by decide +kernel
theorem dX4_lostIn_33 : decode cX4_lostIn 33 = .ok (.lload_n 3, 1) := by decide +kernel
theorem dX4_lostIn_34 : decode cX4_lostIn 34 = .ok (.lreturn, 1) := by decide +kernel
theorem dX4_isEnough_0 : decode cX4_isEnough 0 = .ok (.iload_n 1, 1) := by decide +kernel
theorem dX4_isEnough_1 : decode cX4_isEnough 1 = .ok (.ifCond .lt 11, 3) := by decide +kernel
theorem dX4_isEnough_4 : decode cX4_isEnough 4 = .ok (.iload_n 1, 1) := by decide +kernel
theorem dX4_isEnough_5 : decode cX4_isEnough 5 = .ok (.aload_n 0, 1) := by decide +kernel
theorem dX4_isEnough_6 : decode cX4_isEnough 6 = .ok (.getfield 9, 3) := by decide +kernel
theorem dX4_isEnough_9 : decode cX4_isEnough 9 = .ok (.if_icmp .lt 5, 3) := by decide +kernel
theorem dX4_isEnough_12 : decode cX4_isEnough 12 = .ok (.iconst 0, 1) := by decide +kernel
theorem dX4_isEnough_13 : decode cX4_isEnough 13 = .ok (.ireturn, 1) := by decide +kernel
theorem dX4_isEnough_14 : decode cX4_isEnough 14 = .ok (.aload_n 0, 1) := by decide +kernel
theorem dX4_isEnough_15 : decode cX4_isEnough 15 = .ok (.getfield 19, 3) := by decide +kernel
theorem dX4_isEnough_18 : decode cX4_isEnough 18 = .ok (.iload_n 1, 1) := by decide +kernel
theorem dX4_isEnough_19 : decode cX4_isEnough 19 = .ok (.iaload, 1) := by decide +kernel
theorem dX4_isEnough_20 : decode cX4_isEnough 20 = .ok (.ifCond .ne 62, 3) := by decide +kernel
theorem dX4_isEnough_23 : decode cX4_isEnough 23 = .ok (.aload_n 0, 1) := by decide +kernel
theorem dX4_isEnough_24 : decode cX4_isEnough 24 = .ok (.getfield 19, 3) := by decide +kernel
theorem dX4_isEnough_27 : decode cX4_isEnough 27 = .ok (.iload_n 1, 1) := by decide +kernel
theorem dX4_isEnough_28 : decode cX4_isEnough 28 = .ok (.iconst 1, 1) := by decide +kernel
theorem dX4_isEnough_29 : decode cX4_isEnough 29 = .ok (.iastore, 1) := by decide +kernel
theorem dX4_isEnough_30 : decode cX4_isEnough 30 = .ok (.iconst 0, 1) := by decide +kernel
theorem dX4_isEnough_31 : decode cX4_isEnough 31 = .ok (.istore_n 2, 1) := by decide +kernel
theorem dX4_isEnough_32 : decode cX4_isEnough 32 = .ok (.iload_n 2, 1) := by decide +kernel
theorem dX4_isEnough_33 : decode cX4_isEnough 33 = .ok (.iconst 4, 1) := by decide +kernel
theorem dX4_isEnough_34 : decode cX4_isEnough 34 = .ok (.if_icmp .ge 48, 3) := by decide +kernel
theorem dX4_isEnough_37 : decode cX4_isEnough 37 = .ok (.iconst 0, 1) := by decide +kernel
theorem dX4_isEnough_38 : decode cX4_isEnough 38 = .ok (.istore_n 3, 1) := by decide +kernel
theorem dX4_isEnough_39 : decode cX4_isEnough 39 = .ok (.iload_n 3, 1) := by decide +kernel
theorem dX4_isEnough_40 : decode cX4_isEnough 40 = .ok (.iconst 4, 1) := by decide +kernel
theorem dX4_isEnough_41 : decode cX4_isEnough 41 = .ok (.if_icmp .ge 35, 3) := by decide +kernel
theorem dX4_isEnough_44 : decode cX4_isEnough 44 = .ok (.aload_n 0, 1) := by decide +kernel
theorem dX4_isEnough_45 : decode cX4_isEnough 45 = .ok (.getfield 26, 3) := by decide +kernel
theorem dX4_isEnough_48 : decode cX4_isEnough 48 = .ok (.iload_n 2, 1) := by decide +kernel
theorem dX4_isEnough_49 : decode cX4_isEnough 49 = .ok (.iaload, 1) := by decide +kernel
theorem dX4_isEnough_50 : decode cX4_isEnough 50 = .ok (.ifCond .le 26, 3) := by decide +kernel
theorem dX4_isEnough_53 : decode cX4_isEnough 53 = .ok (.aload_n 0, 1) := by decide +kernel
theorem dX4_isEnough_54 : decode cX4_isEnough 54 = .ok (.iload_n 1, 1) := by decide +kernel
theorem dX4_isEnough_55 : decode cX4_isEnough 55 = .ok (.iload_n 2, 1) := by decide +kernel
theorem dX4_isEnough_56 : decode cX4_isEnough 56 = .ok (.iload_n 3, 1) := by decide +kernel
theorem dX4_isEnough_57 : decode cX4_isEnough 57 = .ok (.invokevirtual 131, 3) := by decide +kernel
theorem dX4_isEnough_60 : decode cX4_isEnough 60 = .ok (.ifCond .le 10, 3) := by decide +kernel
theorem dX4_isEnough_63 : decode cX4_isEnough 63 = .ok (.aload_n 0, 1) := by decide +kernel
theorem dX4_isEnough_64 : decode cX4_isEnough 64 = .ok (.getfield 19, 3) := by decide +kernel
theorem dX4_isEnough_67 : decode cX4_isEnough 67 = .ok (.iload_n 1, 1) := by decide +kernel
theorem dX4_isEnough_68 : decode cX4_isEnough 68 = .ok (.iconst 2, 1) := by decide +kernel
theorem dX4_isEnough_69 : decode cX4_isEnough 69 = .ok (.iastore, 1) := by decide +kernel
theorem dX4_isEnough_70 : decode cX4_isEnough 70 = .ok (.iinc 3 1, 3) := by decide +kernel
theorem dX4_isEnough_73 : decode cX4_isEnough 73 = .ok (.goto (-34), 3) := by decide +kernel
theorem dX4_isEnough_76 : decode cX4_isEnough 76 = .ok (.iinc 2 1, 3) := by decide +kernel
theorem dX4_isEnough_79 : decode cX4_isEnough 79 = .ok (.goto (-47), 3) := by decide +kernel
theorem dX4_isEnough_82 : decode cX4_isEnough 82 = .ok (.aload_n 0, 1) := by decide +kernel
theorem dX4_isEnough_83 : decode cX4_isEnough 83 = .ok (.getfield 19, 3) := by decide +kernel
theorem dX4_isEnough_86 : decode cX4_isEnough 86 = .ok (.iload_n 1, 1) := by decide +kernel
theorem dX4_isEnough_87 : decode cX4_isEnough 87 = .ok (.iaload, 1) := by decide +kernel
theorem dX4_isEnough_88 : decode cX4_isEnough 88 = .ok (.iconst 1, 1) := by decide +kernel
theorem dX4_isEnough_89 : decode cX4_isEnough 89 = .ok (.if_icmp .ne 7, 3) := by decide +kernel
theorem dX4_isEnough_92 : decode cX4_isEnough 92 = .ok (.iconst 1, 1) := by decide +kernel
theorem dX4_isEnough_93 : decode cX4_isEnough 93 = .ok (.goto 4, 3) := by decide +kernel
theorem dX4_isEnough_96 : decode cX4_isEnough 96 = .ok (.iconst 0, 1) := by decide +kernel
theorem dX4_isEnough_97 : decode cX4_isEnough 97 = .ok (.ireturn, 1) := by decide +kernel
theorem dX4_lacking_0 : decode cX4_lacking 0 = .ok (.iconst 0, 1) := by decide +kernel
theorem dX4_lacking_1 : decode cX4_lacking 1 = .ok (.istore_n 3, 1) := by decide +kernel
theorem dX4_lacking_2 : decode cX4_lacking 2 = .ok (.iconst 0, 1) := by decide +kernel
theorem dX4_lacking_3 : decode cX4_lacking 3 = .ok (.istore 4, 2) := by decide +kernel
theorem dX4_lacking_5 : decode cX4_lacking 5 = .ok (.iload 4, 2) := by decide +kernel
theorem dX4_lacking_7 : decode cX4_lacking 7 = .ok (.iconst 4, 1) := by decide +kernel
theorem dX4_lacking_8 : decode cX4_lacking 8 = .ok (.if_icmp .ge 96, 3) := by decide +kernel
theorem dX4_lacking_11 : decode cX4_lacking 11 = .ok (.aload_n 0, 1) := by decide +kernel
theorem dX4_lacking_12 : decode cX4_lacking 12 = .ok (.getfield 26, 3) := by decide +kernel
theorem dX4_lacking_15 : decode cX4_lacking 15 = .ok (.iload 4, 2) := by decide +kernel
theorem dX4_lacking_17 : decode cX4_lacking 17 = .ok (.iaload, 1) := by decide +kernel
theorem dX4_lacking_18 : decode cX4_lacking 18 = .ok (.ifCond .le 7, 3) := by decide +kernel
theorem dX4_lacking_21 : decode cX4_lacking 21 = .ok (.iconst 1, 1) := by decide +kernel
theorem dX4_lacking_22 : decode cX4_lacking 22 = .ok (.goto 4, 3) := by decide +kernel
theorem dX4_lacking_25 : decode cX4_lacking 25 = .ok (.iconst 0, 1) := by decide +kernel
theorem dX4_lacking_26 : decode cX4_lacking 26 = .ok (.istore 5, 2) := by decide +kernel
theorem dX4_lacking_28 : decode cX4_lacking 28 = .ok (.iconst 0, 1) := by decide +kernel
theorem dX4_lacking_29 : decode cX4_lacking 29 = .ok (.istore 6, 2) := by decide +kernel
theorem dX4_lacking_31 : decode cX4_lacking 31 = .ok (.iload 6, 2) := by decide +kernel
theorem dX4_lacking_33 : decode cX4_lacking 33 = .ok (.iload 4, 2) := by decide +kernel
theorem dX4_lacking_35 : decode cX4_lacking 35 = .ok (.if_icmp .ge 43, 3) := by decide +kernel
theorem dX4_lacking_38 : decode cX4_lacking 38 = .ok (.aload_n 0, 1) := by decide +kernel
theorem dX4_lacking_39 : decode cX4_lacking 39 = .ok (.getfield 26, 3) := by decide +kernel
theorem dX4_lacking_42 : decode cX4_lacking 42 = .ok (.iload 6, 2) := by decide +kernel
theorem dX4_lacking_44 : decode cX4_lacking 44 = .ok (.iaload, 1) := by decide +kernel
theorem dX4_lacking_45 : decode cX4_lacking 45 = .ok (.ifCond .le 27, 3) := by decide +kernel
theorem dX4_lacking_48 : decode cX4_lacking 48 = .ok (.iload_n 1, 1) := by decide +kernel
theorem dX4_lacking_49 : decode cX4_lacking 49 = .ok (.aload_n 0, 1) := by decide +kernel
theorem dX4_lacking_50 : decode cX4_lacking 50 = .ok (.getfield 29, 3) := by decide +kernel
theorem dX4_lacking_53 : decode cX4_lacking 53 = .ok (.iload 6, 2) := by decide +kernel
theorem dX4_lacking_55 : decode cX4_lacking 55 = .ok (.iaload, 1) := by decide +kernel
theorem dX4_lacking_56 : decode cX4_lacking 56 = .ok (.aload_n 0, 1) := by decide +kernel
theorem dX4_lacking_57 : decode cX4_lacking 57 = .ok (.getfield 29, 3) := by decide +kernel
theorem dX4_lacking_60 : decode cX4_lacking 60 = .ok (.iload 4, 2) := by decide +kernel
theorem dX4_lacking_62 : decode cX4_lacking 62 = .ok (.iaload, 1) := by decide +kernel
theorem dX4_lacking_63 : decode cX4_lacking 63 = .ok (.invokestatic 134, 3) := by decide +kernel
theorem dX4_lacking_66 : decode cX4_lacking 66 = .ok (.ifCond .eq 6, 3) := by decide +kernel
theorem dX4_lacking_69 : decode cX4_lacking 69 = .ok (.iconst 0, 1) := by decide +kernel
theorem dX4_lacking_70 : decode cX4_lacking 70 = .ok (.istore 5, 2) := by decide +kernel
theorem dX4_lacking_72 : decode cX4_lacking 72 = .ok (.iinc 6 1, 3) := by decide +kernel
theorem dX4_lacking_75 : decode cX4_lacking 75 = .ok (.goto (-44), 3) := by decide +kernel
theorem dX4_lacking_78 : decode cX4_lacking 78 = .ok (.iload 5, 2) := by decide +kernel
theorem dX4_lacking_80 : decode cX4_lacking 80 = .ok (.ifCond .eq 18, 3) := by decide +kernel
theorem dX4_lacking_83 : decode cX4_lacking 83 = .ok (.iload_n 3, 1) := by decide +kernel
theorem dX4_lacking_84 : decode cX4_lacking 84 = .ok (.iconst 0, 1) := by decide +kernel
theorem dX4_lacking_85 : decode cX4_lacking 85 = .ok (.aload_n 0, 1) := by decide +kernel
theorem dX4_lacking_86 : decode cX4_lacking 86 = .ok (.iload_n 1, 1) := by decide +kernel
theorem dX4_lacking_87 : decode cX4_lacking 87 = .ok (.iload 4, 2) := by decide +kernel
theorem dX4_lacking_89 : decode cX4_lacking 89 = .ok (.iload_n 2, 1) := by decide +kernel
theorem dX4_lacking_90 : decode cX4_lacking 90 = .ok (.invokevirtual 131, 3) := by decide +kernel
theorem dX4_lacking_93 : decode cX4_lacking 93 = .ok (.invokestatic 138, 3) := by decide +kernel
theorem dX4_lacking_96 : decode cX4_lacking 96 = .ok (.iadd, 1) := by decide +kernel
theorem dX4_lacking_97 : decode cX4_lacking 97 = .ok (.istore_n 3, 1) := by decide +kernel
theorem dX4_lacking_98 : decode cX4_lacking 98 = .ok (.iinc 4 1, 3) := by decide +kernel
theorem dX4_lacking_101 : decode cX4_lacking 101 = .ok (.goto (-96), 3) := by decide +kernel
theorem dX4_lacking_104 : decode cX4_lacking 104 = .ok (.iload_n 3, 1) := by decide +kernel
theorem dX4_lacking_105 : decode cX4_lacking 105 = .ok (.ireturn, 1) := by decide +kernel
theorem dX4_shortOf_0 : decode cX4_shortOf 0 = .ok (.iload_n 2, 1) := by decide +kernel
theorem dX4_shortOf_1 : decode cX4_shortOf 1 = .ok (.invokestatic 141, 3) := by decide +kernel
theorem dX4_shortOf_4 : decode cX4_shortOf 4 = .ok (.ifCond .eq 12, 3) := by decide +kernel
theorem dX4_shortOf_7 : decode cX4_shortOf 7 = .ok (.iload_n 3, 1) := by decide +kernel
theorem dX4_shortOf_8 : decode cX4_shortOf 8 = .ok (.ifCond .lt 8, 3) := by decide +kernel
theorem dX4_shortOf_11 : decode cX4_shortOf 11 = .ok (.iload_n 3, 1) := by decide +kernel
theorem dX4_shortOf_12 : decode cX4_shortOf 12 = .ok (.iconst 4, 1) := by decide +kernel
theorem dX4_shortOf_13 : decode cX4_shortOf 13 = .ok (.if_icmp .lt 5, 3) := by decide +kernel
theorem dX4_shortOf_16 : decode cX4_shortOf 16 = .ok (.iconst 0, 1) := by decide +kernel
theorem dX4_shortOf_17 : decode cX4_shortOf 17 = .ok (.ireturn, 1) := by decide +kernel
theorem dX4_shortOf_18 : decode cX4_shortOf 18 = .ok (.iconst 0, 1) := by decide +kernel
theorem dX4_shortOf_19 : decode cX4_shortOf 19 = .ok (.istore 4, 2) := by decide +kernel
theorem dX4_shortOf_21 : decode cX4_shortOf 21 = .ok (.iconst 0, 1) := by decide +kernel
theorem dX4_shortOf_22 : decode cX4_shortOf 22 = .ok (.istore 5, 2) := by decide +kernel
theorem dX4_shortOf_24 : decode cX4_shortOf 24 = .ok (.iload 5, 2) := by decide +kernel
theorem dX4_shortOf_26 : decode cX4_shortOf 26 = .ok (.iconst 4, 1) := by decide +kernel
theorem dX4_shortOf_27 : decode cX4_shortOf 27 = .ok (.if_icmp .ge 41, 3) := by decide +kernel
theorem dX4_shortOf_30 : decode cX4_shortOf 30 = .ok (.iload_n 1, 1) := by decide +kernel
theorem dX4_shortOf_31 : decode cX4_shortOf 31 = .ok (.aload_n 0, 1) := by decide +kernel
theorem dX4_shortOf_32 : decode cX4_shortOf 32 = .ok (.getfield 29, 3) := by decide +kernel
theorem dX4_shortOf_35 : decode cX4_shortOf 35 = .ok (.iload 5, 2) := by decide +kernel
theorem dX4_shortOf_37 : decode cX4_shortOf 37 = .ok (.iaload, 1) := by decide +kernel
theorem dX4_shortOf_38 : decode cX4_shortOf 38 = .ok (.aload_n 0, 1) := by decide +kernel
theorem dX4_shortOf_39 : decode cX4_shortOf 39 = .ok (.getfield 29, 3) := by decide +kernel
theorem dX4_shortOf_42 : decode cX4_shortOf 42 = .ok (.iload_n 2, 1) := by decide +kernel
theorem dX4_shortOf_43 : decode cX4_shortOf 43 = .ok (.iaload, 1) := by decide +kernel
theorem dX4_shortOf_44 : decode cX4_shortOf 44 = .ok (.invokestatic 134, 3) := by decide +kernel
theorem dX4_shortOf_47 : decode cX4_shortOf 47 = .ok (.ifCond .eq 15, 3) := by decide +kernel
theorem dX4_shortOf_50 : decode cX4_shortOf 50 = .ok (.iload 4, 2) := by decide +kernel
theorem dX4_shortOf_52 : decode cX4_shortOf 52 = .ok (.aload_n 0, 1) := by decide +kernel
theorem dX4_shortOf_53 : decode cX4_shortOf 53 = .ok (.getfield 26, 3) := by decide +kernel
theorem dX4_shortOf_56 : decode cX4_shortOf 56 = .ok (.iload 5, 2) := by decide +kernel
theorem dX4_shortOf_58 : decode cX4_shortOf 58 = .ok (.iaload, 1) := by decide +kernel
theorem dX4_shortOf_59 : decode cX4_shortOf 59 = .ok (.iadd, 1) := by decide +kernel
theorem dX4_shortOf_60 : decode cX4_shortOf 60 = .ok (.istore 4, 2) := by decide +kernel
theorem dX4_shortOf_62 : decode cX4_shortOf 62 = .ok (.iinc 5 1, 3) := by decide +kernel
theorem dX4_shortOf_65 : decode cX4_shortOf 65 = .ok (.goto (-41), 3) := by decide +kernel
theorem dX4_shortOf_68 : decode cX4_shortOf 68 = .ok (.iconst 0, 1) := by decide +kernel
theorem dX4_shortOf_69 : decode cX4_shortOf 69 = .ok (.istore 5, 2) := by decide +kernel
theorem dX4_shortOf_71 : decode cX4_shortOf 71 = .ok (.iconst 0, 1) := by decide +kernel
theorem dX4_shortOf_72 : decode cX4_shortOf 72 = .ok (.istore 6, 2) := by decide +kernel
theorem dX4_shortOf_74 : decode cX4_shortOf 74 = .ok (.iload 6, 2) := by decide +kernel
theorem dX4_shortOf_76 : decode cX4_shortOf 76 = .ok (.bipush 8, 2) := by decide +kernel
theorem dX4_shortOf_78 : decode cX4_shortOf 78 = .ok (.if_icmp .ge 43, 3) := by decide +kernel
theorem dX4_shortOf_81 : decode cX4_shortOf 81 = .ok (.iload_n 1, 1) := by decide +kernel
theorem dX4_shortOf_82 : decode cX4_shortOf 82 = .ok (.aload_n 0, 1) := by decide +kernel
theorem dX4_shortOf_83 : decode cX4_shortOf 83 = .ok (.getfield 32, 3) := by decide +kernel
theorem dX4_shortOf_86 : decode cX4_shortOf 86 = .ok (.iload 6, 2) := by decide +kernel
theorem dX4_shortOf_88 : decode cX4_shortOf 88 = .ok (.iaload, 1) := by decide +kernel
theorem dX4_shortOf_89 : decode cX4_shortOf 89 = .ok (.aload_n 0, 1) := by decide +kernel
theorem dX4_shortOf_90 : decode cX4_shortOf 90 = .ok (.getfield 29, 3) := by decide +kernel
theorem dX4_shortOf_93 : decode cX4_shortOf 93 = .ok (.iload_n 2, 1) := by decide +kernel
theorem dX4_shortOf_94 : decode cX4_shortOf 94 = .ok (.iaload, 1) := by decide +kernel
theorem dX4_shortOf_95 : decode cX4_shortOf 95 = .ok (.invokestatic 134, 3) := by decide +kernel
theorem dX4_shortOf_98 : decode cX4_shortOf 98 = .ok (.ifCond .eq 17, 3) := by decide +kernel
theorem dX4_shortOf_101 : decode cX4_shortOf 101 = .ok (.iload 5, 2) := by decide +kernel
theorem dX4_shortOf_103 : decode cX4_shortOf 103 = .ok (.aload_n 0, 1) := by decide +kernel
theorem dX4_shortOf_104 : decode cX4_shortOf 104 = .ok (.getfield 37, 3) := by decide +kernel
theorem dX4_shortOf_107 : decode cX4_shortOf 107 = .ok (.iload 6, 2) := by decide +kernel
theorem dX4_shortOf_109 : decode cX4_shortOf 109 = .ok (.aaload, 1) := by decide +kernel
theorem dX4_shortOf_110 : decode cX4_shortOf 110 = .ok (.iload_n 3, 1) := by decide +kernel
theorem dX4_shortOf_111 : decode cX4_shortOf 111 = .ok (.iaload, 1) := by decide +kernel
theorem dX4_shortOf_112 : decode cX4_shortOf 112 = .ok (.iadd, 1) := by decide +kernel
theorem dX4_shortOf_113 : decode cX4_shortOf 113 = .ok (.istore 5, 2) := by decide +kernel
theorem dX4_shortOf_115 : decode cX4_shortOf 115 = .ok (.iinc 6 1, 3) := by decide +kernel
theorem dX4_shortOf_118 : decode cX4_shortOf 118 = .ok (.goto (-44), 3) := by decide +kernel
theorem dX4_shortOf_121 : decode cX4_shortOf 121 = .ok (.iload 4, 2) := by decide +kernel
theorem dX4_shortOf_123 : decode cX4_shortOf 123 = .ok (.aload_n 0, 1) := by decide +kernel
theorem dX4_shortOf_124 : decode cX4_shortOf 124 = .ok (.getfield 40, 3) := by decide +kernel
theorem dX4_shortOf_127 : decode cX4_shortOf 127 = .ok (.iload_n 3, 1) := by decide +kernel
theorem dX4_shortOf_128 : decode cX4_shortOf 128 = .ok (.iaload, 1) := by decide +kernel
theorem dX4_shortOf_129 : decode cX4_shortOf 129 = .ok (.imul, 1) := by decide +kernel
theorem dX4_shortOf_130 : decode cX4_shortOf 130 = .ok (.iload 5, 2) := by decide +kernel
theorem dX4_shortOf_132 : decode cX4_shortOf 132 = .ok (.isub, 1) := by decide +kernel
theorem dX4_shortOf_133 : decode cX4_shortOf 133 = .ok (.ireturn, 1) := by decide +kernel
theorem dX4_isHeapWith_0 : decode cX4_isHeapWith 0 = .ok (.iload_n 2, 1) := by decide +kernel
theorem dX4_isHeapWith_1 : decode cX4_isHeapWith 1 = .ok (.invokestatic 144, 3) := by decide +kernel
theorem dX4_isHeapWith_4 : decode cX4_isHeapWith 4 = .ok (.ifCond .eq 33, 3) := by decide +kernel
theorem dX4_isHeapWith_7 : decode cX4_isHeapWith 7 = .ok (.iload_n 3, 1) := by decide +kernel
theorem dX4_isHeapWith_8 : decode cX4_isHeapWith 8 = .ok (.invokestatic 141, 3) := by decide +kernel
theorem dX4_isHeapWith_11 : decode cX4_isHeapWith 11 = .ok (.ifCond .eq 26, 3) := by decide +kernel
theorem dX4_isHeapWith_14 : decode cX4_isHeapWith 14 = .ok (.iload_n 1, 1) := by decide +kernel
theorem dX4_isHeapWith_15 : decode cX4_isHeapWith 15 = .ok (.aload_n 0, 1) := by decide +kernel
theorem dX4_isHeapWith_16 : decode cX4_isHeapWith 16 = .ok (.getfield 32, 3) := by decide +kernel
theorem dX4_isHeapWith_19 : decode cX4_isHeapWith 19 = .ok (.iload_n 2, 1) := by decide +kernel
theorem dX4_isHeapWith_20 : decode cX4_isHeapWith 20 = .ok (.iaload, 1) := by decide +kernel
theorem dX4_isHeapWith_21 : decode cX4_isHeapWith 21 = .ok (.aload_n 0, 1) := by decide +kernel
theorem dX4_isHeapWith_22 : decode cX4_isHeapWith 22 = .ok (.getfield 29, 3) := by decide +kernel
theorem dX4_isHeapWith_25 : decode cX4_isHeapWith 25 = .ok (.iload_n 3, 1) := by decide +kernel
theorem dX4_isHeapWith_26 : decode cX4_isHeapWith 26 = .ok (.iaload, 1) := by decide +kernel
theorem dX4_isHeapWith_27 : decode cX4_isHeapWith 27 = .ok (.invokestatic 134, 3) := by decide +kernel
theorem dX4_isHeapWith_30 : decode cX4_isHeapWith 30 = .ok (.ifCond .eq 7, 3) := by decide +kernel
theorem dX4_isHeapWith_33 : decode cX4_isHeapWith 33 = .ok (.iconst 1, 1) := by decide +kernel
theorem dX4_isHeapWith_34 : decode cX4_isHeapWith 34 = .ok (.goto 4, 3) := by decide +kernel
theorem dX4_isHeapWith_37 : decode cX4_isHeapWith 37 = .ok (.iconst 0, 1) := by decide +kernel
theorem dX4_isHeapWith_38 : decode cX4_isHeapWith 38 = .ok (.ireturn, 1) := by decide +kernel
theorem dX4_drawSpring_0 : decode cX4_drawSpring 0 = .ok (.lload_n 1, 1) := by decide +kernel
theorem dX4_drawSpring_1 : decode cX4_drawSpring 1 = .ok (.lstore 4, 2) := by decide +kernel
theorem dX4_drawSpring_3 : decode cX4_drawSpring 3 = .ok (.iconst 0, 1) := by decide +kernel
theorem dX4_drawSpring_4 : decode cX4_drawSpring 4 = .ok (.istore 6, 2) := by decide +kernel
theorem dX4_drawSpring_6 : decode cX4_drawSpring 6 = .ok (.aload_n 0, 1) := by decide +kernel
theorem dX4_drawSpring_7 : decode cX4_drawSpring 7 = .ok (.aload_n 0, 1) := by decide +kernel
theorem dX4_drawSpring_8 : decode cX4_drawSpring 8 = .ok (.getfield 69, 3) := by decide +kernel
theorem dX4_drawSpring_11 : decode cX4_drawSpring 11 = .ok (.putfield 147, 3) := by decide +kernel
theorem dX4_drawSpring_14 : decode cX4_drawSpring 14 = .ok (.iconst 1, 1) := by decide +kernel
theorem dX4_drawSpring_15 : decode cX4_drawSpring 15 = .ok (.istore 7, 2) := by decide +kernel
theorem dX4_drawSpring_17 : decode cX4_drawSpring 17 = .ok (.iload 7, 2) := by decide +kernel
theorem dX4_drawSpring_19 : decode cX4_drawSpring 19 = .ok (.iload_n 3, 1) := by decide +kernel
theorem dX4_drawSpring_20 : decode cX4_drawSpring 20 = .ok (.if_icmp .gt 146, 3) := by decide +kernel
theorem dX4_drawSpring_23 : decode cX4_drawSpring 23 = .ok (.iconst 0, 1) := by decide +kernel
theorem dX4_drawSpring_24 : decode cX4_drawSpring 24 = .ok (.istore 8, 2) := by decide +kernel
theorem dX4_drawSpring_26 : decode cX4_drawSpring 26 = .ok (.iload 8, 2) := by decide +kernel
theorem dX4_drawSpring_28 : decode cX4_drawSpring 28 = .ok (.bipush 7, 2) := by decide +kernel
theorem dX4_drawSpring_30 : decode cX4_drawSpring 30 = .ok (.if_icmp .ge 110, 3) := by decide +kernel
theorem dX4_drawSpring_33 : decode cX4_drawSpring 33 = .ok (.iconst 1, 1) := by decide +kernel
theorem dX4_drawSpring_34 : decode cX4_drawSpring 34 = .ok (.iload 8, 2) := by decide +kernel
theorem dX4_drawSpring_36 : decode cX4_drawSpring 36 = .ok (.ishl, 1) := by decide +kernel
theorem dX4_drawSpring_37 : decode cX4_drawSpring 37 = .ok (.aload_n 0, 1) := by decide +kernel
theorem dX4_drawSpring_38 : decode cX4_drawSpring 38 = .ok (.getfield 9, 3) := by decide +kernel
theorem dX4_drawSpring_41 : decode cX4_drawSpring 41 = .ok (.if_icmp .ge 99, 3) := by decide +kernel
theorem dX4_drawSpring_44 : decode cX4_drawSpring 44 = .ok (.ldc2_w 150, 3) := by decide +kernel
theorem dX4_drawSpring_47 : decode cX4_drawSpring 47 = .ok (.lload 4, 2) := by decide +kernel
theorem dX4_drawSpring_49 : decode cX4_drawSpring 49 = .ok (.lmul, 1) := by decide +kernel
theorem dX4_drawSpring_50 : decode cX4_drawSpring 50 = .ok (.ldc2_w 152, 3) := by decide +kernel
theorem dX4_drawSpring_53 : decode cX4_drawSpring 53 = .ok (.ladd, 1) := by decide +kernel
theorem dX4_drawSpring_54 : decode cX4_drawSpring 54 = .ok (.ldc2_w 154, 3) := by decide +kernel
theorem dX4_drawSpring_57 : decode cX4_drawSpring 57 = .ok (.land, 1) := by decide +kernel
theorem dX4_drawSpring_58 : decode cX4_drawSpring 58 = .ok (.lstore 4, 2) := by decide +kernel
theorem dX4_drawSpring_60 : decode cX4_drawSpring 60 = .ok (.lload 4, 2) := by decide +kernel
theorem dX4_drawSpring_62 : decode cX4_drawSpring 62 = .ok (.ldc2_w 156, 3) := by decide +kernel
theorem dX4_drawSpring_65 : decode cX4_drawSpring 65 = .ok (.ldiv, 1) := by decide +kernel
theorem dX4_drawSpring_66 : decode cX4_drawSpring 66 = .ok (.ldc2_w 113, 3) := by decide +kernel
theorem dX4_drawSpring_69 : decode cX4_drawSpring 69 = .ok (.lrem, 1) := by decide +kernel
theorem dX4_drawSpring_70 : decode cX4_drawSpring 70 = .ok (.lstore 9, 2) := by decide +kernel
theorem dX4_drawSpring_72 : decode cX4_drawSpring 72 = .ok (.aload_n 0, 1) := by decide +kernel
theorem dX4_drawSpring_73 : decode cX4_drawSpring 73 = .ok (.getfield 147, 3) := by decide +kernel
theorem dX4_drawSpring_76 : decode cX4_drawSpring 76 = .ok (.iload 8, 2) := by decide +kernel
theorem dX4_drawSpring_78 : decode cX4_drawSpring 78 = .ok (.ishr, 1) := by decide +kernel
theorem dX4_drawSpring_79 : decode cX4_drawSpring 79 = .ok (.iconst 1, 1) := by decide +kernel
theorem dX4_drawSpring_80 : decode cX4_drawSpring 80 = .ok (.iand, 1) := by decide +kernel
theorem dX4_drawSpring_81 : decode cX4_drawSpring 81 = .ok (.iconst 1, 1) := by decide +kernel
theorem dX4_drawSpring_82 : decode cX4_drawSpring 82 = .ok (.if_icmp .ne 7, 3) := by decide +kernel
theorem dX4_drawSpring_85 : decode cX4_drawSpring 85 = .ok (.iconst 1, 1) := by decide +kernel
theorem dX4_drawSpring_86 : decode cX4_drawSpring 86 = .ok (.goto 4, 3) := by decide +kernel
theorem dX4_drawSpring_89 : decode cX4_drawSpring 89 = .ok (.iconst 0, 1) := by decide +kernel
theorem dX4_drawSpring_90 : decode cX4_drawSpring 90 = .ok (.istore 11, 2) := by decide +kernel
theorem dX4_drawSpring_92 : decode cX4_drawSpring 92 = .ok (.lload 9, 2) := by decide +kernel
theorem dX4_drawSpring_94 : decode cX4_drawSpring 94 = .ok (.iload 11, 2) := by decide +kernel
theorem dX4_drawSpring_96 : decode cX4_drawSpring 96 = .ok (.ifCond .eq 13, 3) := by decide +kernel
theorem dX4_drawSpring_99 : decode cX4_drawSpring 99 = .ok (.bipush 100, 2) := by decide +kernel
theorem dX4_drawSpring_101 : decode cX4_drawSpring 101 = .ok (.aload_n 0, 1) := by decide +kernel
theorem dX4_drawSpring_102 : decode cX4_drawSpring 102 = .ok (.getfield 73, 3) := by decide +kernel
theorem dX4_drawSpring_105 : decode cX4_drawSpring 105 = .ok (.imul, 1) := by decide +kernel
theorem dX4_drawSpring_106 : decode cX4_drawSpring 106 = .ok (.goto 10, 3) := by decide +kernel
theorem dX4_drawSpring_109 : decode cX4_drawSpring 109 = .ok (.aload_n 0, 1) := by decide +kernel
theorem dX4_drawSpring_110 : decode cX4_drawSpring 110 = .ok (.getfield 23, 3) := by decide +kernel
theorem dX4_drawSpring_113 : decode cX4_drawSpring 113 = .ok (.iload 8, 2) := by decide +kernel
theorem dX4_drawSpring_115 : decode cX4_drawSpring 115 = .ok (.iaload, 1) := by decide +kernel
theorem dX4_drawSpring_116 : decode cX4_drawSpring 116 = .ok (.i2l, 1) := by decide +kernel
theorem dX4_drawSpring_117 : decode cX4_drawSpring 117 = .ok (.lcmp, 1) := by decide +kernel
theorem dX4_drawSpring_118 : decode cX4_drawSpring 118 = .ok (.ifCond .ge 16, 3) := by decide +kernel
theorem dX4_drawSpring_121 : decode cX4_drawSpring 121 = .ok (.aload_n 0, 1) := by decide +kernel
theorem dX4_drawSpring_122 : decode cX4_drawSpring 122 = .ok (.dup, 1) := by decide +kernel
theorem dX4_drawSpring_123 : decode cX4_drawSpring 123 = .ok (.getfield 147, 3) := by decide +kernel
theorem dX4_drawSpring_126 : decode cX4_drawSpring 126 = .ok (.iconst 1, 1) := by decide +kernel
theorem dX4_drawSpring_127 : decode cX4_drawSpring 127 = .ok (.iload 8, 2) := by decide +kernel
theorem dX4_drawSpring_129 : decode cX4_drawSpring 129 = .ok (.ishl, 1) := by decide +kernel
theorem dX4_drawSpring_130 : decode cX4_drawSpring 130 = .ok (.ixor, 1) := by decide +kernel
theorem dX4_drawSpring_131 : decode cX4_drawSpring 131 = .ok (.putfield 147, 3) := by decide +kernel
theorem dX4_drawSpring_134 : decode cX4_drawSpring 134 = .ok (.iinc 8 1, 3) := by decide +kernel
theorem dX4_drawSpring_137 : decode cX4_drawSpring 137 = .ok (.goto (-111), 3) := by decide +kernel
theorem dX4_drawSpring_140 : decode cX4_drawSpring 140 = .ok (.iload 6, 2) := by decide +kernel
theorem dX4_drawSpring_142 : decode cX4_drawSpring 142 = .ok (.ifCond .ne 18, 3) := by decide +kernel
theorem dX4_drawSpring_145 : decode cX4_drawSpring 145 = .ok (.aload_n 0, 1) := by decide +kernel
theorem dX4_drawSpring_146 : decode cX4_drawSpring 146 = .ok (.aload_n 0, 1) := by decide +kernel
theorem dX4_drawSpring_147 : decode cX4_drawSpring 147 = .ok (.getfield 147, 3) := by decide +kernel
theorem dX4_drawSpring_150 : decode cX4_drawSpring 150 = .ok (.invokevirtual 117, 3) := by decide +kernel
theorem dX4_drawSpring_153 : decode cX4_drawSpring 153 = .ok (.ifCond .ne 7, 3) := by decide +kernel
theorem dX4_drawSpring_156 : decode cX4_drawSpring 156 = .ok (.iload 7, 2) := by decide +kernel
theorem dX4_drawSpring_158 : decode cX4_drawSpring 158 = .ok (.istore 6, 2) := by decide +kernel
theorem dX4_drawSpring_160 : decode cX4_drawSpring 160 = .ok (.iinc 7 1, 3) := by decide +kernel
theorem dX4_drawSpring_163 : decode cX4_drawSpring 163 = .ok (.goto (-146), 3) := by decide +kernel
theorem dX4_drawSpring_166 : decode cX4_drawSpring 166 = .ok (.iload 6, 2) := by decide +kernel
theorem dX4_drawSpring_168 : decode cX4_drawSpring 168 = .ok (.ireturn, 1) := by decide +kernel
theorem dX4_isOnePiece_0 : decode cX4_isOnePiece 0 = .ok (.iload_n 1, 1) := by decide +kernel
theorem dX4_isOnePiece_1 : decode cX4_isOnePiece 1 = .ok (.iload_n 2, 1) := by decide +kernel
theorem dX4_isOnePiece_2 : decode cX4_isOnePiece 2 = .ok (.ixor, 1) := by decide +kernel
theorem dX4_isOnePiece_3 : decode cX4_isOnePiece 3 = .ok (.iload_n 0, 1) := by decide +kernel
theorem dX4_isOnePiece_4 : decode cX4_isOnePiece 4 = .ok (.iand, 1) := by decide +kernel
theorem dX4_isOnePiece_5 : decode cX4_isOnePiece 5 = .ok (.ifCond .ne 7, 3) := by decide +kernel
theorem dX4_isOnePiece_8 : decode cX4_isOnePiece 8 = .ok (.iconst 1, 1) := by decide +kernel
theorem dX4_isOnePiece_9 : decode cX4_isOnePiece 9 = .ok (.goto 4, 3) := by decide +kernel
theorem dX4_isOnePiece_12 : decode cX4_isOnePiece 12 = .ok (.iconst 0, 1) := by decide +kernel
theorem dX4_isOnePiece_13 : decode cX4_isOnePiece 13 = .ok (.ireturn, 1) := by decide +kernel
theorem dX5_hasRoom_0 : decode cX5_hasRoom 0 = .ok (.aload_n 0, 1) := by decide +kernel
theorem dX5_hasRoom_1 : decode cX5_hasRoom 1 = .ok (.getfield 26, 3) := by decide +kernel
theorem dX5_hasRoom_4 : decode cX5_hasRoom 4 = .ok (.iload_n 1, 1) := by decide +kernel
theorem dX5_hasRoom_5 : decode cX5_hasRoom 5 = .ok (.iadd, 1) := by decide +kernel
theorem dX5_hasRoom_6 : decode cX5_hasRoom 6 = .ok (.sipush 1600, 3) := by decide +kernel
theorem dX5_hasRoom_9 : decode cX5_hasRoom 9 = .ok (.if_icmp .gt 7, 3) := by decide +kernel
theorem dX5_hasRoom_12 : decode cX5_hasRoom 12 = .ok (.iconst 1, 1) := by decide +kernel
theorem dX5_hasRoom_13 : decode cX5_hasRoom 13 = .ok (.goto 4, 3) := by decide +kernel
theorem dX5_hasRoom_16 : decode cX5_hasRoom 16 = .ok (.iconst 0, 1) := by decide +kernel
theorem dX5_hasRoom_17 : decode cX5_hasRoom 17 = .ok (.ireturn, 1) := by decide +kernel
theorem dX5_addNumber_0 : decode cX5_addNumber 0 = .ok (.bipush 24, 2) := by decide +kernel
theorem dX5_addNumber_2 : decode cX5_addNumber 2 = .ok (.istore_n 2, 1) := by decide +kernel
theorem dX5_addNumber_3 : decode cX5_addNumber 3 = .ok (.iload_n 2, 1) := by decide +kernel
theorem dX5_addNumber_4 : decode cX5_addNumber 4 = .ok (.ifCond .lt 51, 3) := by decide +kernel
theorem dX5_addNumber_7 : decode cX5_addNumber 7 = .ok (.aload_n 0, 1) := by decide +kernel
theorem dX5_addNumber_8 : decode cX5_addNumber 8 = .ok (.getfield 26, 3) := by decide +kernel
theorem dX5_addNumber_11 : decode cX5_addNumber 11 = .ok (.ifCond .lt 38, 3) := by decide +kernel
theorem dX5_addNumber_14 : decode cX5_addNumber 14 = .ok (.aload_n 0, 1) := by decide +kernel
theorem dX5_addNumber_15 : decode cX5_addNumber 15 = .ok (.getfield 26, 3) := by decide +kernel
theorem dX5_addNumber_18 : decode cX5_addNumber 18 = .ok (.aload_n 0, 1) := by decide +kernel
theorem dX5_addNumber_19 : decode cX5_addNumber 19 = .ok (.getfield 9, 3) := by decide +kernel
theorem dX5_addNumber_22 : decode cX5_addNumber 22 = .ok (.arraylength, 1) := by decide +kernel
theorem dX5_addNumber_23 : decode cX5_addNumber 23 = .ok (.if_icmp .ge 26, 3) := by decide +kernel
theorem dX5_addNumber_26 : decode cX5_addNumber 26 = .ok (.aload_n 0, 1) := by decide +kernel
theorem dX5_addNumber_27 : decode cX5_addNumber 27 = .ok (.getfield 9, 3) := by decide +kernel
theorem dX5_addNumber_30 : decode cX5_addNumber 30 = .ok (.aload_n 0, 1) := by decide +kernel
theorem dX5_addNumber_31 : decode cX5_addNumber 31 = .ok (.getfield 26, 3) := by decide +kernel
theorem dX5_addNumber_34 : decode cX5_addNumber 34 = .ok (.iload_n 1, 1) := by decide +kernel
theorem dX5_addNumber_35 : decode cX5_addNumber 35 = .ok (.iload_n 2, 1) := by decide +kernel
theorem dX5_addNumber_36 : decode cX5_addNumber 36 = .ok (.ishr, 1) := by decide +kernel
theorem dX5_addNumber_37 : decode cX5_addNumber 37 = .ok (.i2b, 1) := by decide +kernel
theorem dX5_addNumber_38 : decode cX5_addNumber 38 = .ok (.bastore, 1) := by decide +kernel
theorem dX5_addNumber_39 : decode cX5_addNumber 39 = .ok (.aload_n 0, 1) := by decide +kernel
theorem dX5_addNumber_40 : decode cX5_addNumber 40 = .ok (.dup, 1) := by decide +kernel
theorem dX5_addNumber_41 : decode cX5_addNumber 41 = .ok (.getfield 26, 3) := by decide +kernel
theorem dX5_addNumber_44 : decode cX5_addNumber 44 = .ok (.iconst 1, 1) := by decide +kernel
theorem dX5_addNumber_45 : decode cX5_addNumber 45 = .ok (.iadd, 1) := by decide +kernel
theorem dX5_addNumber_46 : decode cX5_addNumber 46 = .ok (.putfield 26, 3) := by decide +kernel
theorem dX5_addNumber_49 : decode cX5_addNumber 49 = .ok (.iinc 2 (-8), 3) := by decide +kernel
theorem dX5_addNumber_52 : decode cX5_addNumber 52 = .ok (.goto (-49), 3) := by decide +kernel
theorem dX5_addNumber_55 : decode cX5_addNumber 55 = .ok (.return_, 1) := by decide +kernel
theorem dX5_read_0 : decode cX5_read 0 = .ok (.aload_n 0, 1) := by decide +kernel
theorem dX5_read_1 : decode cX5_read 1 = .ok (.getfield 18, 3) := by decide +kernel
theorem dX5_read_4 : decode cX5_read 4 = .ok (.invokevirtual 29, 3) := by decide +kernel
theorem dX5_read_7 : decode cX5_read 7 = .ok (.aload_n 0, 1) := by decide +kernel
theorem dX5_read_8 : decode cX5_read 8 = .ok (.iconst 0, 1) := by decide +kernel
theorem dX5_read_9 : decode cX5_read 9 = .ok (.putfield 32, 3) := by decide +kernel
theorem dX5_read_12 : decode cX5_read 12 = .ok (.aload_n 0, 1) := by decide +kernel
theorem dX5_read_13 : decode cX5_read 13 = .ok (.iconst (-1), 1) := by decide +kernel
theorem dX5_read_14 : decode cX5_read 14 = .ok (.putfield 22, 3) := by decide +kernel
theorem dX5_read_17 : decode cX5_read 17 = .ok (.aload_n 0, 1) := by decide +kernel
theorem dX5_read_18 : decode cX5_read 18 = .ok (.iconst 0, 1) := by decide +kernel
theorem dX5_read_19 : decode cX5_read 19 = .ok (.putfield 35, 3) := by decide +kernel
theorem dX5_read_22 : decode cX5_read 22 = .ok (.aload_n 0, 1) := by decide +kernel
theorem dX5_read_23 : decode cX5_read 23 = .ok (.iconst 0, 1) := by decide +kernel
theorem dX5_read_24 : decode cX5_read 24 = .ok (.putfield 38, 3) := by decide +kernel
theorem dX5_read_27 : decode cX5_read 27 = .ok (.aload_n 0, 1) := by decide +kernel
theorem dX5_read_28 : decode cX5_read 28 = .ok (.invokevirtual 41, 3) := by decide +kernel
theorem dX5_read_31 : decode cX5_read 31 = .ok (.iconst 0, 1) := by decide +kernel
theorem dX5_read_32 : decode cX5_read 32 = .ok (.istore_n 1, 1) := by decide +kernel
theorem dX5_read_33 : decode cX5_read 33 = .ok (.iload_n 1, 1) := by decide +kernel
theorem dX5_read_34 : decode cX5_read 34 = .ok (.sipush 1600, 3) := by decide +kernel
theorem dX5_read_37 : decode cX5_read 37 = .ok (.if_icmp .gt 96, 3) := by decide +kernel
theorem dX5_read_40 : decode cX5_read 40 = .ok (.aload_n 0, 1) := by decide +kernel
theorem dX5_read_41 : decode cX5_read 41 = .ok (.getfield 32, 3) := by decide +kernel
theorem dX5_read_44 : decode cX5_read 44 = .ok (.ifCond .ne 89, 3) := by decide +kernel
theorem dX5_read_47 : decode cX5_read 47 = .ok (.aload_n 0, 1) := by decide +kernel
theorem dX5_read_48 : decode cX5_read 48 = .ok (.getfield 44, 3) := by decide +kernel
theorem dX5_read_51 : decode cX5_read 51 = .ok (.ifCond .eq 82, 3) := by decide +kernel
theorem dX5_read_54 : decode cX5_read 54 = .ok (.aload_n 0, 1) := by decide +kernel
theorem dX5_read_55 : decode cX5_read 55 = .ok (.getfield 18, 3) := by decide +kernel
theorem dX5_read_58 : decode cX5_read 58 = .ok (.getfield 47, 3) := by decide +kernel
theorem dX5_read_61 : decode cX5_read 61 = .ok (.ifCond .ne 10, 3) := by decide +kernel
theorem dX5_read_64 : decode cX5_read 64 = .ok (.aload_n 0, 1) := by decide +kernel
theorem dX5_read_65 : decode cX5_read 65 = .ok (.invokevirtual 50, 3) := by decide +kernel
theorem dX5_read_68 : decode cX5_read 68 = .ok (.goto 55, 3) := by decide +kernel
theorem dX5_read_71 : decode cX5_read 71 = .ok (.aload_n 0, 1) := by decide +kernel
theorem dX5_read_72 : decode cX5_read 72 = .ok (.ldc 53, 2) := by decide +kernel
theorem dX5_read_74 : decode cX5_read 74 = .ok (.invokevirtual 55, 3) := by decide +kernel
theorem dX5_read_77 : decode cX5_read 77 = .ok (.ifCond .eq 10, 3) := by decide +kernel
theorem dX5_read_80 : decode cX5_read 80 = .ok (.aload_n 0, 1) := by decide +kernel
theorem dX5_read_81 : decode cX5_read 81 = .ok (.invokevirtual 59, 3) := by decide +kernel
theorem dX5_read_84 : decode cX5_read 84 = .ok (.goto 39, 3) := by decide +kernel
theorem dX5_read_87 : decode cX5_read 87 = .ok (.aload_n 0, 1) := by decide +kernel
theorem dX5_read_88 : decode cX5_read 88 = .ok (.ldc 62, 2) := by decide +kernel
theorem dX5_read_90 : decode cX5_read 90 = .ok (.invokevirtual 55, 3) := by decide +kernel
theorem dX5_read_93 : decode cX5_read 93 = .ok (.ifCond .eq 10, 3) := by decide +kernel
theorem dX5_read_96 : decode cX5_read 96 = .ok (.aload_n 0, 1) := by decide +kernel
theorem dX5_read_97 : decode cX5_read 97 = .ok (.invokevirtual 64, 3) := by decide +kernel
theorem dX5_read_100 : decode cX5_read 100 = .ok (.goto 23, 3) := by decide +kernel
theorem dX5_read_103 : decode cX5_read 103 = .ok (.aload_n 0, 1) := by decide +kernel
theorem dX5_read_104 : decode cX5_read 104 = .ok (.ldc 67, 2) := by decide +kernel
theorem dX5_read_106 : decode cX5_read 106 = .ok (.invokevirtual 55, 3) := by decide +kernel
theorem dX5_read_109 : decode cX5_read 109 = .ok (.ifCond .eq 10, 3) := by decide +kernel
theorem dX5_read_112 : decode cX5_read 112 = .ok (.aload_n 0, 1) := by decide +kernel
theorem dX5_read_113 : decode cX5_read 113 = .ok (.invokevirtual 69, 3) := by decide +kernel
theorem dX5_read_116 : decode cX5_read 116 = .ok (.goto 7, 3) := by decide +kernel
theorem dX5_read_119 : decode cX5_read 119 = .ok (.aload_n 0, 1) := by decide +kernel
theorem dX5_read_120 : decode cX5_read 120 = .ok (.invokevirtual 72, 3) := by decide +kernel
theorem dX5_read_123 : decode cX5_read 123 = .ok (.aload_n 0, 1) := by decide +kernel
theorem dX5_read_124 : decode cX5_read 124 = .ok (.invokevirtual 75, 3) := by decide +kernel
theorem dX5_read_127 : decode cX5_read 127 = .ok (.iinc 1 1, 3) := by decide +kernel
theorem dX5_read_130 : decode cX5_read 130 = .ok (.goto (-97), 3) := by decide +kernel
theorem dX5_read_133 : decode cX5_read 133 = .ok (.aload_n 0, 1) := by decide +kernel
theorem dX5_read_134 : decode cX5_read 134 = .ok (.iconst 0, 1) := by decide +kernel
theorem dX5_read_135 : decode cX5_read 135 = .ok (.putfield 26, 3) := by decide +kernel
theorem dX5_read_138 : decode cX5_read 138 = .ok (.return_, 1) := by decide +kernel
theorem dX5_readFloe_0 : decode cX5_readFloe 0 = .ok (.aload_n 0, 1) := by decide +kernel
theorem dX5_readFloe_1 : decode cX5_readFloe 1 = .ok (.ldc 78, 2) := by decide +kernel
theorem dX5_readFloe_3 : decode cX5_readFloe 3 = .ok (.invokevirtual 80, 3) := by decide +kernel
theorem dX5_readFloe_6 : decode cX5_readFloe 6 = .ok (.aload_n 0, 1) := by decide +kernel
theorem dX5_readFloe_7 : decode cX5_readFloe 7 = .ok (.getfield 18, 3) := by decide +kernel
theorem dX5_readFloe_10 : decode cX5_readFloe 10 = .ok (.aload_n 0, 1) := by decide +kernel
theorem dX5_readFloe_11 : decode cX5_readFloe 11 = .ok (.ldc 84, 2) := by decide +kernel
theorem dX5_readFloe_13 : decode cX5_readFloe 13 = .ok (.iconst 2, 1) := by decide +kernel
theorem dX5_readFloe_14 : decode cX5_readFloe 14 = .ok (.bipush 12, 2) := by decide +kernel
theorem dX5_readFloe_16 : decode cX5_readFloe 16 = .ok (.invokevirtual 86, 3) := by decide +kernel
theorem dX5_readFloe_19 : decode cX5_readFloe 19 = .ok (.putfield 90, 3) := by decide +kernel
theorem dX5_readFloe_22 : decode cX5_readFloe 22 = .ok (.aload_n 0, 1) := by decide +kernel
theorem dX5_readFloe_23 : decode cX5_readFloe 23 = .ok (.getfield 18, 3) := by decide +kernel
theorem dX5_readFloe_26 : decode cX5_readFloe 26 = .ok (.aload_n 0, 1) := by decide +kernel
theorem dX5_readFloe_27 : decode cX5_readFloe 27 = .ok (.ldc 92, 2) := by decide +kernel
theorem dX5_readFloe_29 : decode cX5_readFloe 29 = .ok (.iconst 2, 1) := by decide +kernel
theorem dX5_readFloe_30 : decode cX5_readFloe 30 = .ok (.bipush 12, 2) := by decide +kernel
theorem dX5_readFloe_32 : decode cX5_readFloe 32 = .ok (.invokevirtual 86, 3) := by decide +kernel
theorem dX5_readFloe_35 : decode cX5_readFloe 35 = .ok (.putfield 94, 3) := by decide +kernel
theorem dX5_readFloe_38 : decode cX5_readFloe 38 = .ok (.aload_n 0, 1) := by decide +kernel
theorem dX5_readFloe_39 : decode cX5_readFloe 39 = .ok (.getfield 18, 3) := by decide +kernel
theorem dX5_readFloe_42 : decode cX5_readFloe 42 = .ok (.aload_n 0, 1) := by decide +kernel
theorem dX5_readFloe_43 : decode cX5_readFloe 43 = .ok (.ldc 96, 2) := by decide +kernel
theorem dX5_readFloe_45 : decode cX5_readFloe 45 = .ok (.iconst 1, 1) := by decide +kernel
theorem dX5_readFloe_46 : decode cX5_readFloe 46 = .ok (.bipush 28, 2) := by decide +kernel
theorem dX5_readFloe_48 : decode cX5_readFloe 48 = .ok (.invokevirtual 86, 3) := by decide +kernel
theorem dX5_readFloe_51 : decode cX5_readFloe 51 = .ok (.putfield 98, 3) := by decide +kernel
theorem dX5_readFloe_54 : decode cX5_readFloe 54 = .ok (.aload_n 0, 1) := by decide +kernel
theorem dX5_readFloe_55 : decode cX5_readFloe 55 = .ok (.getfield 18, 3) := by decide +kernel
theorem dX5_readFloe_58 : decode cX5_readFloe 58 = .ok (.aload_n 0, 1) := by decide +kernel
theorem dX5_readFloe_59 : decode cX5_readFloe 59 = .ok (.ldc 100, 2) := by decide +kernel
theorem dX5_readFloe_61 : decode cX5_readFloe 61 = .ok (.iconst 1, 1) := by decide +kernel
theorem dX5_readFloe_62 : decode cX5_readFloe 62 = .ok (.bipush 60, 2) := by decide +kernel
theorem dX5_readFloe_64 : decode cX5_readFloe 64 = .ok (.invokevirtual 86, 3) := by decide +kernel
theorem dX5_readFloe_67 : decode cX5_readFloe 67 = .ok (.putfield 102, 3) := by decide +kernel
theorem dX5_readFloe_70 : decode cX5_readFloe 70 = .ok (.return_, 1) := by decide +kernel
theorem dX5_readCrack_0 : decode cX5_readCrack 0 = .ok (.aload_n 0, 1) := by decide +kernel
theorem dX5_readCrack_1 : decode cX5_readCrack 1 = .ok (.getfield 18, 3) := by decide +kernel
theorem dX5_readCrack_4 : decode cX5_readCrack 4 = .ok (.getfield 104, 3) := by decide +kernel
theorem dX5_readCrack_7 : decode cX5_readCrack 7 = .ok (.astore_n 1, 1) := by decide +kernel
theorem dX5_readCrack_8 : decode cX5_readCrack 8 = .ok (.aload_n 1, 1) := by decide +kernel
theorem dX5_readCrack_9 : decode cX5_readCrack 9 = .ok (.invokevirtual 108, 3) := by decide +kernel
theorem dX5_readCrack_12 : decode cX5_readCrack 12 = .ok (.ifCond .eq 9, 3) := by decide +kernel
theorem dX5_readCrack_15 : decode cX5_readCrack 15 = .ok (.aload_n 0, 1) := by decide +kernel
theorem dX5_readCrack_16 : decode cX5_readCrack 16 = .ok (.iconst 3, 1) := by decide +kernel
theorem dX5_readCrack_17 : decode cX5_readCrack 17 = .ok (.invokevirtual 114, 3) := by decide +kernel
theorem dX5_readCrack_20 : decode cX5_readCrack 20 = .ok (.return_, 1) := by decide +kernel
theorem dX5_readCrack_21 : decode cX5_readCrack 21 = .ok (.aload_n 0, 1) := by decide +kernel
theorem dX5_readCrack_22 : decode cX5_readCrack 22 = .ok (.invokevirtual 41, 3) := by decide +kernel
theorem dX5_readCrack_25 : decode cX5_readCrack 25 = .ok (.aload_n 0, 1) := by decide +kernel
theorem dX5_readCrack_26 : decode cX5_readCrack 26 = .ok (.ldc 118, 2) := by decide +kernel
theorem dX5_readCrack_28 : decode cX5_readCrack 28 = .ok (.invokevirtual 55, 3) := by decide +kernel
theorem dX5_readCrack_31 : decode cX5_readCrack 31 = .ok (.istore_n 2, 1) := by decide +kernel
theorem dX5_readCrack_32 : decode cX5_readCrack 32 = .ok (.iload_n 2, 1) := by decide +kernel
theorem dX5_readCrack_33 : decode cX5_readCrack 33 = .ok (.ifCond .eq 10, 3) := by decide +kernel
theorem dX5_readCrack_36 : decode cX5_readCrack 36 = .ok (.aload_n 0, 1) := by decide +kernel
theorem dX5_readCrack_37 : decode cX5_readCrack 37 = .ok (.invokevirtual 41, 3) := by decide +kernel
theorem dX5_readCrack_40 : decode cX5_readCrack 40 = .ok (.goto 9, 3) := by decide +kernel
theorem dX5_readCrack_43 : decode cX5_readCrack 43 = .ok (.aload_n 0, 1) := by decide +kernel
theorem dX5_readCrack_44 : decode cX5_readCrack 44 = .ok (.ldc 120, 2) := by decide +kernel
theorem dX5_readCrack_46 : decode cX5_readCrack 46 = .ok (.invokevirtual 80, 3) := by decide +kernel
theorem dX5_readCrack_49 : decode cX5_readCrack 49 = .ok (.aload_n 1, 1) := by decide +kernel
theorem dX5_readCrack_50 : decode cX5_readCrack 50 = .ok (.iconst 0, 1) := by decide +kernel
theorem dX5_readCrack_51 : decode cX5_readCrack 51 = .ok (.iload_n 2, 1) := by decide +kernel
theorem dX5_readCrack_52 : decode cX5_readCrack 52 = .ok (.ifCond .eq 7, 3) := by decide +kernel
theorem dX5_readCrack_55 : decode cX5_readCrack 55 = .ok (.iconst 1, 1) := by decide +kernel
theorem dX5_readCrack_56 : decode cX5_readCrack 56 = .ok (.goto 4, 3) := by decide +kernel
theorem dX5_readCrack_59 : decode cX5_readCrack 59 = .ok (.iconst 0, 1) := by decide +kernel
theorem dX5_readCrack_60 : decode cX5_readCrack 60 = .ok (.invokevirtual 122, 3) := by decide +kernel
theorem dX5_readCrack_63 : decode cX5_readCrack 63 = .ok (.aload_n 1, 1) := by decide +kernel
theorem dX5_readCrack_64 : decode cX5_readCrack 64 = .ok (.iconst 1, 1) := by decide +kernel
theorem dX5_readCrack_65 : decode cX5_readCrack 65 = .ok (.aload_n 0, 1) := by decide +kernel
theorem dX5_readCrack_66 : decode cX5_readCrack 66 = .ok (.iconst 1, 1) := by decide +kernel
theorem dX5_readCrack_67 : decode cX5_readCrack 67 = .ok (.iload_n 2, 1) := by decide +kernel
theorem dX5_readCrack_68 : decode cX5_readCrack 68 = .ok (.ifCond .eq 13, 3) := by decide +kernel
theorem dX5_readCrack_71 : decode cX5_readCrack 71 = .ok (.aload_n 0, 1) := by decide +kernel
theorem dX5_readCrack_72 : decode cX5_readCrack 72 = .ok (.getfield 18, 3) := by decide +kernel
theorem dX5_readCrack_75 : decode cX5_readCrack 75 = .ok (.getfield 94, 3) := by decide +kernel
theorem dX5_readCrack_78 : decode cX5_readCrack 78 = .ok (.goto 10, 3) := by decide +kernel
theorem dX5_readCrack_81 : decode cX5_readCrack 81 = .ok (.aload_n 0, 1) := by decide +kernel
theorem dX5_readCrack_82 : decode cX5_readCrack 82 = .ok (.getfield 18, 3) := by decide +kernel
theorem dX5_readCrack_85 : decode cX5_readCrack 85 = .ok (.getfield 90, 3) := by decide +kernel
theorem dX5_readCrack_88 : decode cX5_readCrack 88 = .ok (.iconst 1, 1) := by decide +kernel
theorem dX5_readCrack_89 : decode cX5_readCrack 89 = .ok (.isub, 1) := by decide +kernel
theorem dX5_readCrack_90 : decode cX5_readCrack 90 = .ok (.invokevirtual 126, 3) := by decide +kernel
theorem dX5_readCrack_93 : decode cX5_readCrack 93 = .ok (.invokevirtual 122, 3) := by decide +kernel
theorem dX5_readCrack_96 : decode cX5_readCrack 96 = .ok (.aload_n 1, 1) := by decide +kernel
theorem dX5_readCrack_97 : decode cX5_readCrack 97 = .ok (.iconst 2, 1) := by decide +kernel
theorem dX5_readCrack_98 : decode cX5_readCrack 98 = .ok (.aload_n 0, 1) := by decide +kernel
theorem dX5_readCrack_99 : decode cX5_readCrack 99 = .ok (.ldc 130, 2) := by decide +kernel
theorem dX5_readCrack_101 : decode cX5_readCrack 101 = .ok (.iconst 0, 1) := by decide +kernel
theorem dX5_readCrack_102 : decode cX5_readCrack 102 = .ok (.sipush 500, 3) := by decide +kernel
theorem dX5_readCrack_105 : decode cX5_readCrack 105 = .ok (.invokevirtual 86, 3) := by decide +kernel
theorem dX5_readCrack_108 : decode cX5_readCrack 108 = .ok (.invokevirtual 122, 3) := by decide +kernel
theorem dX5_readCrack_111 : decode cX5_readCrack 111 = .ok (.aload_n 1, 1) := by decide +kernel
theorem dX5_readCrack_112 : decode cX5_readCrack 112 = .ok (.iconst 3, 1) := by decide +kernel
theorem dX5_readCrack_113 : decode cX5_readCrack 113 = .ok (.aload_n 0, 1) := by decide +kernel
theorem dX5_readCrack_114 : decode cX5_readCrack 114 = .ok (.ldc 132, 2) := by decide +kernel
theorem dX5_readCrack_116 : decode cX5_readCrack 116 = .ok (.iconst 0, 1) := by decide +kernel
theorem dX5_readCrack_117 : decode cX5_readCrack 117 = .ok (.bipush 99, 2) := by decide +kernel
theorem dX5_readCrack_119 : decode cX5_readCrack 119 = .ok (.invokevirtual 86, 3) := by decide +kernel
theorem dX5_readCrack_122 : decode cX5_readCrack 122 = .ok (.invokevirtual 122, 3) := by decide +kernel
theorem dX5_readCrack_125 : decode cX5_readCrack 125 = .ok (.aload_n 1, 1) := by decide +kernel
theorem dX5_readCrack_126 : decode cX5_readCrack 126 = .ok (.iconst 4, 1) := by decide +kernel
theorem dX5_readCrack_127 : decode cX5_readCrack 127 = .ok (.aload_n 0, 1) := by decide +kernel
theorem dX5_readCrack_128 : decode cX5_readCrack 128 = .ok (.ldc 134, 2) := by decide +kernel
theorem dX5_readCrack_130 : decode cX5_readCrack 130 = .ok (.iconst 0, 1) := by decide +kernel
theorem dX5_readCrack_131 : decode cX5_readCrack 131 = .ok (.bipush 99, 2) := by decide +kernel
theorem dX5_readCrack_133 : decode cX5_readCrack 133 = .ok (.invokevirtual 86, 3) := by decide +kernel
theorem dX5_readCrack_136 : decode cX5_readCrack 136 = .ok (.invokevirtual 122, 3) := by decide +kernel
theorem dX5_readCrack_139 : decode cX5_readCrack 139 = .ok (.aload_n 1, 1) := by decide +kernel
theorem dX5_readCrack_140 : decode cX5_readCrack 140 = .ok (.iconst 5, 1) := by decide +kernel
theorem dX5_readCrack_141 : decode cX5_readCrack 141 = .ok (.aload_n 0, 1) := by decide +kernel
theorem dX5_readCrack_142 : decode cX5_readCrack 142 = .ok (.ldc 136, 2) := by decide +kernel
theorem dX5_readCrack_144 : decode cX5_readCrack 144 = .ok (.iconst 0, 1) := by decide +kernel
theorem dX5_readCrack_145 : decode cX5_readCrack 145 = .ok (.bipush 99, 2) := by decide +kernel
theorem dX5_readCrack_147 : decode cX5_readCrack 147 = .ok (.invokevirtual 86, 3) := by decide +kernel
theorem dX5_readCrack_150 : decode cX5_readCrack 150 = .ok (.invokevirtual 122, 3) := by decide +kernel
theorem dX5_readCrack_153 : decode cX5_readCrack 153 = .ok (.aload_n 0, 1) := by decide +kernel
theorem dX5_readCrack_154 : decode cX5_readCrack 154 = .ok (.ldc 138, 2) := by decide +kernel
theorem dX5_readCrack_156 : decode cX5_readCrack 156 = .ok (.invokevirtual 55, 3) := by decide +kernel
theorem dX5_readCrack_159 : decode cX5_readCrack 159 = .ok (.istore_n 3, 1) := by decide +kernel
theorem dX5_readCrack_160 : decode cX5_readCrack 160 = .ok (.iload_n 3, 1) := by decide +kernel
theorem dX5_readCrack_161 : decode cX5_readCrack 161 = .ok (.ifCond .eq 9, 3) := by decide +kernel
theorem dX5_readCrack_164 : decode cX5_readCrack 164 = .ok (.aload_n 0, 1) := by decide +kernel
theorem dX5_readCrack_165 : decode cX5_readCrack 165 = .ok (.ldc 138, 2) := by decide +kernel
theorem dX5_readCrack_167 : decode cX5_readCrack 167 = .ok (.invokevirtual 80, 3) := by decide +kernel
theorem dX5_readCrack_170 : decode cX5_readCrack 170 = .ok (.aload_n 1, 1) := by decide +kernel
theorem dX5_readCrack_171 : decode cX5_readCrack 171 = .ok (.bipush 6, 2) := by decide +kernel
theorem dX5_readCrack_173 : decode cX5_readCrack 173 = .ok (.iload_n 3, 1) := by decide +kernel
theorem dX5_readCrack_174 : decode cX5_readCrack 174 = .ok (.ifCond .eq 7, 3) := by decide +kernel
theorem dX5_readCrack_177 : decode cX5_readCrack 177 = .ok (.iconst 1, 1) := by decide +kernel
theorem dX5_readCrack_178 : decode cX5_readCrack 178 = .ok (.goto 4, 3) := by decide +kernel
theorem dX5_readCrack_181 : decode cX5_readCrack 181 = .ok (.iconst 0, 1) := by decide +kernel
theorem dX5_readCrack_182 : decode cX5_readCrack 182 = .ok (.invokevirtual 122, 3) := by decide +kernel
theorem dX5_readCrack_185 : decode cX5_readCrack 185 = .ok (.aload_n 1, 1) := by decide +kernel
theorem dX5_readCrack_186 : decode cX5_readCrack 186 = .ok (.invokevirtual 140, 3) := by decide +kernel
theorem dX5_readCrack_189 : decode cX5_readCrack 189 = .ok (.return_, 1) := by decide +kernel
theorem dX5_readSort_0 : decode cX5_readSort 0 = .ok (.aload_n 0, 1) := by decide +kernel
theorem dX5_readSort_1 : decode cX5_readSort 1 = .ok (.getfield 18, 3) := by decide +kernel
theorem dX5_readSort_4 : decode cX5_readSort 4 = .ok (.getfield 143, 3) := by decide +kernel
theorem dX5_readSort_7 : decode cX5_readSort 7 = .ok (.astore_n 1, 1) := by decide +kernel
theorem dX5_readSort_8 : decode cX5_readSort 8 = .ok (.aload_n 1, 1) := by decide +kernel
theorem dX5_readSort_9 : decode cX5_readSort 9 = .ok (.invokevirtual 108, 3) := by decide +kernel
theorem dX5_readSort_12 : decode cX5_readSort 12 = .ok (.ifCond .eq 9, 3) := by decide +kernel
theorem dX5_readSort_15 : decode cX5_readSort 15 = .ok (.aload_n 0, 1) := by decide +kernel
theorem dX5_readSort_16 : decode cX5_readSort 16 = .ok (.iconst 3, 1) := by decide +kernel
theorem dX5_readSort_17 : decode cX5_readSort 17 = .ok (.invokevirtual 114, 3) := by decide +kernel
theorem dX5_readSort_20 : decode cX5_readSort 20 = .ok (.return_, 1) := by decide +kernel
theorem dX5_readSort_21 : decode cX5_readSort 21 = .ok (.aload_n 0, 1) := by decide +kernel
theorem dX5_readSort_22 : decode cX5_readSort 22 = .ok (.invokevirtual 41, 3) := by decide +kernel
theorem dX5_readSort_25 : decode cX5_readSort 25 = .ok (.aload_n 1, 1) := by decide +kernel
theorem dX5_readSort_26 : decode cX5_readSort 26 = .ok (.iconst 0, 1) := by decide +kernel
theorem dX5_readSort_27 : decode cX5_readSort 27 = .ok (.aload_n 0, 1) := by decide +kernel
theorem dX5_readSort_28 : decode cX5_readSort 28 = .ok (.invokevirtual 146, 3) := by decide +kernel
theorem dX5_readSort_31 : decode cX5_readSort 31 = .ok (.invokevirtual 122, 3) := by decide +kernel
theorem dX5_readSort_34 : decode cX5_readSort 34 = .ok (.aload_n 1, 1) := by decide +kernel
theorem dX5_readSort_35 : decode cX5_readSort 35 = .ok (.iconst 1, 1) := by decide +kernel
theorem dX5_readSort_36 : decode cX5_readSort 36 = .ok (.aload_n 0, 1) := by decide +kernel
theorem dX5_readSort_37 : decode cX5_readSort 37 = .ok (.ldc 150, 2) := by decide +kernel
theorem dX5_readSort_39 : decode cX5_readSort 39 = .ok (.iconst 1, 1) := by decide +kernel
theorem dX5_readSort_40 : decode cX5_readSort 40 = .ok (.bipush 99, 2) := by decide +kernel
theorem dX5_readSort_42 : decode cX5_readSort 42 = .ok (.invokevirtual 86, 3) := by decide +kernel
theorem dX5_readSort_45 : decode cX5_readSort 45 = .ok (.invokevirtual 122, 3) := by decide +kernel
theorem dX5_readSort_48 : decode cX5_readSort 48 = .ok (.aload_n 1, 1) := by decide +kernel
theorem dX5_readSort_49 : decode cX5_readSort 49 = .ok (.iconst 2, 1) := by decide +kernel
theorem dX5_readSort_50 : decode cX5_readSort 50 = .ok (.aload_n 0, 1) := by decide +kernel
theorem dX5_readSort_51 : decode cX5_readSort 51 = .ok (.ldc 152, 2) := by decide +kernel
theorem dX5_readSort_53 : decode cX5_readSort 53 = .ok (.iconst 1, 1) := by decide +kernel
theorem dX5_readSort_54 : decode cX5_readSort 54 = .ok (.bipush 99, 2) := by decide +kernel
theorem dX5_readSort_56 : decode cX5_readSort 56 = .ok (.invokevirtual 86, 3) := by decide +kernel
theorem dX5_readSort_59 : decode cX5_readSort 59 = .ok (.invokevirtual 122, 3) := by decide +kernel
theorem dX5_readSort_62 : decode cX5_readSort 62 = .ok (.aload_n 1, 1) := by decide +kernel
theorem dX5_readSort_63 : decode cX5_readSort 63 = .ok (.iconst 3, 1) := by decide +kernel
theorem dX5_readSort_64 : decode cX5_readSort 64 = .ok (.aload_n 0, 1) := by decide +kernel
theorem dX5_readSort_65 : decode cX5_readSort 65 = .ok (.ldc 154, 2) := by decide +kernel
theorem dX5_readSort_67 : decode cX5_readSort 67 = .ok (.iconst 0, 1) := by decide +kernel
theorem dX5_readSort_68 : decode cX5_readSort 68 = .ok (.bipush 20, 2) := by decide +kernel
theorem dX5_readSort_70 : decode cX5_readSort 70 = .ok (.invokevirtual 86, 3) := by decide +kernel
theorem dX5_readSort_73 : decode cX5_readSort 73 = .ok (.invokevirtual 122, 3) := by decide +kernel
theorem dX5_readSort_76 : decode cX5_readSort 76 = .ok (.aload_n 1, 1) := by decide +kernel
theorem dX5_readSort_77 : decode cX5_readSort 77 = .ok (.invokevirtual 140, 3) := by decide +kernel
theorem dX5_readSort_80 : decode cX5_readSort 80 = .ok (.return_, 1) := by decide +kernel
theorem dX5_readOther_0 : decode cX5_readOther 0 = .ok (.aload_n 0, 1) := by decide +kernel
theorem dX5_readOther_1 : decode cX5_readOther 1 = .ok (.getfield 18, 3) := by decide +kernel
theorem dX5_readOther_4 : decode cX5_readOther 4 = .ok (.getfield 156, 3) := by decide +kernel
theorem dX5_readOther_7 : decode cX5_readOther 7 = .ok (.astore_n 1, 1) := by decide +kernel
theorem dX5_readOther_8 : decode cX5_readOther 8 = .ok (.aload_n 1, 1) := by decide +kernel
theorem dX5_readOther_9 : decode cX5_readOther 9 = .ok (.invokevirtual 108, 3) := by decide +kernel
theorem dX5_readOther_12 : decode cX5_readOther 12 = .ok (.ifCond .eq 9, 3) := by decide +kernel
theorem dX5_readOther_15 : decode cX5_readOther 15 = .ok (.aload_n 0, 1) := by decide +kernel
theorem dX5_readOther_16 : decode cX5_readOther 16 = .ok (.iconst 3, 1) := by decide +kernel
theorem dX5_readOther_17 : decode cX5_readOther 17 = .ok (.invokevirtual 114, 3) := by decide +kernel
theorem dX5_readOther_20 : decode cX5_readOther 20 = .ok (.return_, 1) := by decide +kernel
theorem dX5_readOther_21 : decode cX5_readOther 21 = .ok (.aload_n 0, 1) := by decide +kernel
theorem dX5_readOther_22 : decode cX5_readOther 22 = .ok (.invokevirtual 41, 3) := by decide +kernel
theorem dX5_readOther_25 : decode cX5_readOther 25 = .ok (.aload_n 1, 1) := by decide +kernel
theorem dX5_readOther_26 : decode cX5_readOther 26 = .ok (.iconst 0, 1) := by decide +kernel
theorem dX5_readOther_27 : decode cX5_readOther 27 = .ok (.aload_n 0, 1) := by decide +kernel
theorem dX5_readOther_28 : decode cX5_readOther 28 = .ok (.ldc 159, 2) := by decide +kernel
theorem dX5_readOther_30 : decode cX5_readOther 30 = .ok (.iconst 1, 1) := by decide +kernel
theorem dX5_readOther_31 : decode cX5_readOther 31 = .ok (.bipush 60, 2) := by decide +kernel
theorem dX5_readOther_33 : decode cX5_readOther 33 = .ok (.invokevirtual 86, 3) := by decide +kernel
theorem dX5_readOther_36 : decode cX5_readOther 36 = .ok (.invokevirtual 122, 3) := by decide +kernel
theorem dX5_readOther_39 : decode cX5_readOther 39 = .ok (.aload_n 1, 1) := by decide +kernel
theorem dX5_readOther_40 : decode cX5_readOther 40 = .ok (.iconst 1, 1) := by decide +kernel
theorem dX5_readOther_41 : decode cX5_readOther 41 = .ok (.aload_n 0, 1) := by decide +kernel
theorem dX5_readOther_42 : decode cX5_readOther 42 = .ok (.ldc 130, 2) := by decide +kernel
theorem dX5_readOther_44 : decode cX5_readOther 44 = .ok (.iconst 0, 1) := by decide +kernel
theorem dX5_readOther_45 : decode cX5_readOther 45 = .ok (.bipush 100, 2) := by decide +kernel
theorem dX5_readOther_47 : decode cX5_readOther 47 = .ok (.invokevirtual 86, 3) := by decide +kernel
theorem dX5_readOther_50 : decode cX5_readOther 50 = .ok (.invokevirtual 122, 3) := by decide +kernel
theorem dX5_readOther_53 : decode cX5_readOther 53 = .ok (.aload_n 1, 1) := by decide +kernel
theorem dX5_readOther_54 : decode cX5_readOther 54 = .ok (.iconst 2, 1) := by decide +kernel
theorem dX5_readOther_55 : decode cX5_readOther 55 = .ok (.aload_n 0, 1) := by decide +kernel
theorem dX5_readOther_56 : decode cX5_readOther 56 = .ok (.ldc 161, 2) := by decide +kernel
theorem dX5_readOther_58 : decode cX5_readOther 58 = .ok (.iconst 0, 1) := by decide +kernel
theorem dX5_readOther_59 : decode cX5_readOther 59 = .ok (.sipush 9999, 3) := by decide +kernel
theorem dX5_readOther_62 : decode cX5_readOther 62 = .ok (.invokevirtual 86, 3) := by decide +kernel
theorem dX5_readOther_65 : decode cX5_readOther 65 = .ok (.invokevirtual 122, 3) := by decide +kernel
theorem dX5_readOther_68 : decode cX5_readOther 68 = .ok (.aload_n 1, 1) := by decide +kernel
theorem dX5_readOther_69 : decode cX5_readOther 69 = .ok (.invokevirtual 140, 3) := by decide +kernel
theorem dX5_readOther_72 : decode cX5_readOther 72 = .ok (.return_, 1) := by decide +kernel
theorem dX5_readSingle_0 : decode cX5_readSingle 0 = .ok (.aload_n 0, 1) := by decide +kernel
theorem dX5_readSingle_1 : decode cX5_readSingle 1 = .ok (.ldc 163, 2) := by decide +kernel
theorem dX5_readSingle_3 : decode cX5_readSingle 3 = .ok (.invokevirtual 55, 3) := by decide +kernel
theorem dX5_readSingle_6 : decode cX5_readSingle 6 = .ok (.ifCond .eq 43, 3) := by decide +kernel
theorem dX5_readSingle_9 : decode cX5_readSingle 9 = .ok (.aload_n 0, 1) := by decide +kernel
theorem dX5_readSingle_10 : decode cX5_readSingle 10 = .ok (.iconst 0, 1) := by decide +kernel
theorem dX5_readSingle_11 : decode cX5_readSingle 11 = .ok (.invokevirtual 165, 3) := by decide +kernel
theorem dX5_readSingle_14 : decode cX5_readSingle 14 = .ok (.aload_n 0, 1) := by decide +kernel
theorem dX5_readSingle_15 : decode cX5_readSingle 15 = .ok (.getfield 18, 3) := by decide +kernel
theorem dX5_readSingle_18 : decode cX5_readSingle 18 = .ok (.aload_n 0, 1) := by decide +kernel
theorem dX5_readSingle_19 : decode cX5_readSingle 19 = .ok (.ldc 132, 2) := by decide +kernel
theorem dX5_readSingle_21 : decode cX5_readSingle 21 = .ok (.iconst 0, 1) := by decide +kernel
theorem dX5_readSingle_22 : decode cX5_readSingle 22 = .ok (.bipush 9, 2) := by decide +kernel
theorem dX5_readSingle_24 : decode cX5_readSingle 24 = .ok (.invokevirtual 86, 3) := by decide +kernel
theorem dX5_readSingle_27 : decode cX5_readSingle 27 = .ok (.putfield 168, 3) := by decide +kernel
theorem dX5_readSingle_30 : decode cX5_readSingle 30 = .ok (.aload_n 0, 1) := by decide +kernel
theorem dX5_readSingle_31 : decode cX5_readSingle 31 = .ok (.getfield 18, 3) := by decide +kernel
theorem dX5_readSingle_34 : decode cX5_readSingle 34 = .ok (.aload_n 0, 1) := by decide +kernel
theorem dX5_readSingle_35 : decode cX5_readSingle 35 = .ok (.ldc 134, 2) := by decide +kernel
theorem dX5_readSingle_37 : decode cX5_readSingle 37 = .ok (.iconst 0, 1) := by decide +kernel
theorem dX5_readSingle_38 : decode cX5_readSingle 38 = .ok (.bipush 9, 2) := by decide +kernel
theorem dX5_readSingle_40 : decode cX5_readSingle 40 = .ok (.invokevirtual 86, 3) := by decide +kernel
theorem dX5_readSingle_43 : decode cX5_readSingle 43 = .ok (.putfield 170, 3) := by decide +kernel
theorem dX5_readSingle_46 : decode cX5_readSingle 46 = .ok (.goto 213, 3) := by decide +kernel
theorem dX5_readSingle_49 : decode cX5_readSingle 49 = .ok (.aload_n 0, 1) := by decide +kernel
theorem dX5_readSingle_50 : decode cX5_readSingle 50 = .ok (.ldc 172, 2) := by decide +kernel
theorem dX5_readSingle_52 : decode cX5_readSingle 52 = .ok (.invokevirtual 55, 3) := by decide +kernel
theorem dX5_readSingle_55 : decode cX5_readSingle 55 = .ok (.ifCond .eq 25, 3) := by decide +kernel
theorem dX5_readSingle_58 : decode cX5_readSingle 58 = .ok (.aload_n 0, 1) := by decide +kernel
theorem dX5_readSingle_59 : decode cX5_readSingle 59 = .ok (.iconst 1, 1) := by decide +kernel
theorem dX5_readSingle_60 : decode cX5_readSingle 60 = .ok (.invokevirtual 165, 3) := by decide +kernel
theorem dX5_readSingle_63 : decode cX5_readSingle 63 = .ok (.aload_n 0, 1) := by decide +kernel
theorem dX5_readSingle_64 : decode cX5_readSingle 64 = .ok (.getfield 18, 3) := by decide +kernel
theorem dX5_readSingle_67 : decode cX5_readSingle 67 = .ok (.aload_n 0, 1) := by decide +kernel
theorem dX5_readSingle_68 : decode cX5_readSingle 68 = .ok (.iconst 0, 1) := by decide +kernel
theorem dX5_readSingle_69 : decode cX5_readSingle 69 = .ok (.bipush 100, 2) := by decide +kernel
theorem dX5_readSingle_71 : decode cX5_readSingle 71 = .ok (.invokevirtual 126, 3) := by decide +kernel
theorem dX5_readSingle_74 : decode cX5_readSingle 74 = .ok (.putfield 174, 3) := by decide +kernel
theorem dX5_readSingle_77 : decode cX5_readSingle 77 = .ok (.goto 182, 3) := by decide +kernel
theorem dX5_readSingle_80 : decode cX5_readSingle 80 = .ok (.aload_n 0, 1) := by decide +kernel
theorem dX5_readSingle_81 : decode cX5_readSingle 81 = .ok (.ldc 176, 2) := by decide +kernel
theorem dX5_readSingle_83 : decode cX5_readSingle 83 = .ok (.invokevirtual 55, 3) := by decide +kernel
theorem dX5_readSingle_86 : decode cX5_readSingle 86 = .ok (.ifCond .eq 41, 3) := by decide +kernel
theorem dX5_readSingle_89 : decode cX5_readSingle 89 = .ok (.aload_n 0, 1) := by decide +kernel
theorem dX5_readSingle_90 : decode cX5_readSingle 90 = .ok (.iconst 2, 1) := by decide +kernel
theorem dX5_readSingle_91 : decode cX5_readSingle 91 = .ok (.invokevirtual 165, 3) := by decide +kernel
theorem dX5_readSingle_94 : decode cX5_readSingle 94 = .ok (.aload_n 0, 1) := by decide +kernel
theorem dX5_readSingle_95 : decode cX5_readSingle 95 = .ok (.getfield 18, 3) := by decide +kernel
theorem dX5_readSingle_98 : decode cX5_readSingle 98 = .ok (.aload_n 0, 1) := by decide +kernel
theorem dX5_readSingle_99 : decode cX5_readSingle 99 = .ok (.iconst 0, 1) := by decide +kernel
theorem dX5_readSingle_100 : decode cX5_readSingle 100 = .ok (.bipush 60, 2) := by decide +kernel
theorem dX5_readSingle_102 : decode cX5_readSingle 102 = .ok (.invokevirtual 126, 3) := by decide +kernel
theorem dX5_readSingle_105 : decode cX5_readSingle 105 = .ok (.putfield 178, 3) := by decide +kernel
theorem dX5_readSingle_108 : decode cX5_readSingle 108 = .ok (.aload_n 0, 1) := by decide +kernel
theorem dX5_readSingle_109 : decode cX5_readSingle 109 = .ok (.getfield 18, 3) := by decide +kernel
theorem dX5_readSingle_112 : decode cX5_readSingle 112 = .ok (.aload_n 0, 1) := by decide +kernel
theorem dX5_readSingle_113 : decode cX5_readSingle 113 = .ok (.ldc 180, 2) := by decide +kernel
theorem dX5_readSingle_115 : decode cX5_readSingle 115 = .ok (.iconst 0, 1) := by decide +kernel
theorem dX5_readSingle_116 : decode cX5_readSingle 116 = .ok (.bipush 60, 2) := by decide +kernel
theorem dX5_readSingle_118 : decode cX5_readSingle 118 = .ok (.invokevirtual 86, 3) := by decide +kernel
theorem dX5_readSingle_121 : decode cX5_readSingle 121 = .ok (.putfield 182, 3) := by decide +kernel
theorem dX5_readSingle_124 : decode cX5_readSingle 124 = .ok (.goto 135, 3) := by decide +kernel
theorem dX5_readSingle_127 : decode cX5_readSingle 127 = .ok (.aload_n 0, 1) := by decide +kernel
theorem dX5_readSingle_128 : decode cX5_readSingle 128 = .ok (.ldc 184, 2) := by decide +kernel
theorem dX5_readSingle_130 : decode cX5_readSingle 130 = .ok (.invokevirtual 55, 3) := by decide +kernel
theorem dX5_readSingle_133 : decode cX5_readSingle 133 = .ok (.ifCond .eq 25, 3) := by decide +kernel
theorem dX5_readSingle_136 : decode cX5_readSingle 136 = .ok (.aload_n 0, 1) := by decide +kernel
theorem dX5_readSingle_137 : decode cX5_readSingle 137 = .ok (.iconst 3, 1) := by decide +kernel
theorem dX5_readSingle_138 : decode cX5_readSingle 138 = .ok (.invokevirtual 165, 3) := by decide +kernel
theorem dX5_readSingle_141 : decode cX5_readSingle 141 = .ok (.aload_n 0, 1) := by decide +kernel
theorem dX5_readSingle_142 : decode cX5_readSingle 142 = .ok (.getfield 18, 3) := by decide +kernel
theorem dX5_readSingle_145 : decode cX5_readSingle 145 = .ok (.aload_n 0, 1) := by decide +kernel
theorem dX5_readSingle_146 : decode cX5_readSingle 146 = .ok (.iconst 0, 1) := by decide +kernel
theorem dX5_readSingle_147 : decode cX5_readSingle 147 = .ok (.bipush 100, 2) := by decide +kernel
theorem dX5_readSingle_149 : decode cX5_readSingle 149 = .ok (.invokevirtual 126, 3) := by decide +kernel
theorem dX5_readSingle_152 : decode cX5_readSingle 152 = .ok (.putfield 186, 3) := by decide +kernel
theorem dX5_readSingle_155 : decode cX5_readSingle 155 = .ok (.goto 104, 3) := by decide +kernel
theorem dX5_readSingle_158 : decode cX5_readSingle 158 = .ok (.aload_n 0, 1) := by decide +kernel
theorem dX5_readSingle_159 : decode cX5_readSingle 159 = .ok (.ldc 188, 2) := by decide +kernel
theorem dX5_readSingle_161 : decode cX5_readSingle 161 = .ok (.invokevirtual 55, 3) := by decide +kernel
theorem dX5_readSingle_164 : decode cX5_readSingle 164 = .ok (.ifCond .eq 41, 3) := by decide +kernel
theorem dX5_readSingle_167 : decode cX5_readSingle 167 = .ok (.aload_n 0, 1) := by decide +kernel
theorem dX5_readSingle_168 : decode cX5_readSingle 168 = .ok (.iconst 4, 1) := by decide +kernel
theorem dX5_readSingle_169 : decode cX5_readSingle 169 = .ok (.invokevirtual 165, 3) := by decide +kernel
theorem dX5_readSingle_172 : decode cX5_readSingle 172 = .ok (.aload_n 0, 1) := by decide +kernel
theorem dX5_readSingle_173 : decode cX5_readSingle 173 = .ok (.getfield 18, 3) := by decide +kernel
theorem dX5_readSingle_176 : decode cX5_readSingle 176 = .ok (.aload_n 0, 1) := by decide +kernel
theorem dX5_readSingle_177 : decode cX5_readSingle 177 = .ok (.iconst 0, 1) := by decide +kernel
theorem dX5_readSingle_178 : decode cX5_readSingle 178 = .ok (.bipush 100, 2) := by decide +kernel
theorem dX5_readSingle_180 : decode cX5_readSingle 180 = .ok (.invokevirtual 126, 3) := by decide +kernel
theorem dX5_readSingle_183 : decode cX5_readSingle 183 = .ok (.putfield 190, 3) := by decide +kernel
theorem dX5_readSingle_186 : decode cX5_readSingle 186 = .ok (.aload_n 0, 1) := by decide +kernel
theorem dX5_readSingle_187 : decode cX5_readSingle 187 = .ok (.getfield 18, 3) := by decide +kernel
theorem dX5_readSingle_190 : decode cX5_readSingle 190 = .ok (.aload_n 0, 1) := by decide +kernel
theorem dX5_readSingle_191 : decode cX5_readSingle 191 = .ok (.ldc 192, 2) := by decide +kernel
theorem dX5_readSingle_193 : decode cX5_readSingle 193 = .ok (.iconst 0, 1) := by decide +kernel
theorem dX5_readSingle_194 : decode cX5_readSingle 194 = .ok (.bipush 60, 2) := by decide +kernel
theorem dX5_readSingle_196 : decode cX5_readSingle 196 = .ok (.invokevirtual 86, 3) := by decide +kernel
theorem dX5_readSingle_199 : decode cX5_readSingle 199 = .ok (.putfield 194, 3) := by decide +kernel
theorem dX5_readSingle_202 : decode cX5_readSingle 202 = .ok (.goto 57, 3) := by decide +kernel
theorem dX5_readSingle_205 : decode cX5_readSingle 205 = .ok (.aload_n 0, 1) := by decide +kernel
theorem dX5_readSingle_206 : decode cX5_readSingle 206 = .ok (.ldc 161, 2) := by decide +kernel
theorem dX5_readSingle_208 : decode cX5_readSingle 208 = .ok (.invokevirtual 55, 3) := by decide +kernel
theorem dX5_readSingle_211 : decode cX5_readSingle 211 = .ok (.ifCond .eq 43, 3) := by decide +kernel
theorem dX5_readSingle_214 : decode cX5_readSingle 214 = .ok (.aload_n 0, 1) := by decide +kernel
theorem dX5_readSingle_215 : decode cX5_readSingle 215 = .ok (.iconst 5, 1) := by decide +kernel
theorem dX5_readSingle_216 : decode cX5_readSingle 216 = .ok (.invokevirtual 165, 3) := by decide +kernel
theorem dX5_readSingle_219 : decode cX5_readSingle 219 = .ok (.aload_n 0, 1) := by decide +kernel
theorem dX5_readSingle_220 : decode cX5_readSingle 220 = .ok (.getfield 18, 3) := by decide +kernel
theorem dX5_readSingle_223 : decode cX5_readSingle 223 = .ok (.aload_n 0, 1) := by decide +kernel
theorem dX5_readSingle_224 : decode cX5_readSingle 224 = .ok (.iconst 0, 1) := by decide +kernel
theorem dX5_readSingle_225 : decode cX5_readSingle 225 = .ok (.sipush 9999, 3) := by decide +kernel
theorem dX5_readSingle_228 : decode cX5_readSingle 228 = .ok (.invokevirtual 126, 3) := by decide +kernel
theorem dX5_readSingle_231 : decode cX5_readSingle 231 = .ok (.putfield 196, 3) := by decide +kernel
theorem dX5_readSingle_234 : decode cX5_readSingle 234 = .ok (.aload_n 0, 1) := by decide +kernel
theorem dX5_readSingle_235 : decode cX5_readSingle 235 = .ok (.getfield 18, 3) := by decide +kernel
theorem dX5_readSingle_238 : decode cX5_readSingle 238 = .ok (.aload_n 0, 1) := by decide +kernel
theorem dX5_readSingle_239 : decode cX5_readSingle 239 = .ok (.ldc 198, 2) := by decide +kernel
theorem dX5_readSingle_241 : decode cX5_readSingle 241 = .ok (.iconst 0, 1) := by decide +kernel
theorem dX5_readSingle_242 : decode cX5_readSingle 242 = .ok (.sipush 9999, 3) := by decide +kernel
theorem dX5_readSingle_245 : decode cX5_readSingle 245 = .ok (.invokevirtual 86, 3) := by decide +kernel
theorem dX5_readSingle_248 : decode cX5_readSingle 248 = .ok (.putfield 200, 3) := by decide +kernel
theorem dX5_readSingle_251 : decode cX5_readSingle 251 = .ok (.goto 8, 3) := by decide +kernel
theorem dX5_readSingle_254 : decode cX5_readSingle 254 = .ok (.aload_n 0, 1) := by decide +kernel
theorem dX5_readSingle_255 : decode cX5_readSingle 255 = .ok (.iconst 1, 1) := by decide +kernel
theorem dX5_readSingle_256 : decode cX5_readSingle 256 = .ok (.invokevirtual 114, 3) := by decide +kernel
theorem dX5_readSingle_259 : decode cX5_readSingle 259 = .ok (.return_, 1) := by decide +kernel
theorem dX5_endLine_0 : decode cX5_endLine 0 = .ok (.aload_n 0, 1) := by decide +kernel
theorem dX5_endLine_1 : decode cX5_endLine 1 = .ok (.getfield 32, 3) := by decide +kernel
theorem dX5_endLine_4 : decode cX5_endLine 4 = .ok (.ifCond .ne 16, 3) := by decide +kernel
theorem dX5_endLine_7 : decode cX5_endLine 7 = .ok (.aload_n 0, 1) := by decide +kernel
theorem dX5_endLine_8 : decode cX5_endLine 8 = .ok (.getfield 44, 3) := by decide +kernel
theorem dX5_endLine_11 : decode cX5_endLine 11 = .ok (.iconst 3, 1) := by decide +kernel
theorem dX5_endLine_12 : decode cX5_endLine 12 = .ok (.if_icmp .eq 8, 3) := by decide +kernel
theorem dX5_endLine_15 : decode cX5_endLine 15 = .ok (.aload_n 0, 1) := by decide +kernel
theorem dX5_endLine_16 : decode cX5_endLine 16 = .ok (.iconst 1, 1) := by decide +kernel
theorem dX5_endLine_17 : decode cX5_endLine 17 = .ok (.invokevirtual 114, 3) := by decide +kernel
theorem dX5_endLine_20 : decode cX5_endLine 20 = .ok (.aload_n 0, 1) := by decide +kernel
theorem dX5_endLine_21 : decode cX5_endLine 21 = .ok (.getfield 32, 3) := by decide +kernel
theorem dX5_endLine_24 : decode cX5_endLine 24 = .ok (.ifCond .ne 20, 3) := by decide +kernel
theorem dX5_endLine_27 : decode cX5_endLine 27 = .ok (.aload_n 0, 1) := by decide +kernel
theorem dX5_endLine_28 : decode cX5_endLine 28 = .ok (.getfield 18, 3) := by decide +kernel
theorem dX5_endLine_31 : decode cX5_endLine 31 = .ok (.dup, 1) := by decide +kernel
theorem dX5_endLine_32 : decode cX5_endLine 32 = .ok (.getfield 47, 3) := by decide +kernel
theorem dX5_endLine_35 : decode cX5_endLine 35 = .ok (.iconst 1, 1) := by decide +kernel
theorem dX5_endLine_36 : decode cX5_endLine 36 = .ok (.iadd, 1) := by decide +kernel
theorem dX5_endLine_37 : decode cX5_endLine 37 = .ok (.putfield 47, 3) := by decide +kernel
theorem dX5_endLine_40 : decode cX5_endLine 40 = .ok (.aload_n 0, 1) := by decide +kernel
theorem dX5_endLine_41 : decode cX5_endLine 41 = .ok (.invokevirtual 41, 3) := by decide +kernel
theorem dX5_endLine_44 : decode cX5_endLine 44 = .ok (.return_, 1) := by decide +kernel
theorem dX5_takeKind_0 : decode cX5_takeKind 0 = .ok (.aload_n 0, 1) := by decide +kernel
theorem dX5_takeKind_1 : decode cX5_takeKind 1 = .ok (.ldc 202, 2) := by decide +kernel
theorem dX5_takeKind_3 : decode cX5_takeKind 3 = .ok (.invokevirtual 55, 3) := by decide +kernel
theorem dX5_takeKind_6 : decode cX5_takeKind 6 = .ok (.ifCond .eq 7, 3) := by decide +kernel
theorem dX5_takeKind_9 : decode cX5_takeKind 9 = .ok (.iconst 1, 1) := by decide +kernel
theorem dX5_takeKind_10 : decode cX5_takeKind 10 = .ok (.goto 30, 3) := by decide +kernel
theorem dX5_takeKind_13 : decode cX5_takeKind 13 = .ok (.aload_n 0, 1) := by decide +kernel
theorem dX5_takeKind_14 : decode cX5_takeKind 14 = .ok (.ldc 204, 2) := by decide +kernel
theorem dX5_takeKind_16 : decode cX5_takeKind 16 = .ok (.invokevirtual 55, 3) := by decide +kernel
theorem dX5_takeKind_19 : decode cX5_takeKind 19 = .ok (.ifCond .eq 7, 3) := by decide +kernel
theorem dX5_takeKind_22 : decode cX5_takeKind 22 = .ok (.iconst 2, 1) := by decide +kernel
theorem dX5_takeKind_23 : decode cX5_takeKind 23 = .ok (.goto 17, 3) := by decide +kernel
theorem dX5_takeKind_26 : decode cX5_takeKind 26 = .ok (.aload_n 0, 1) := by decide +kernel
theorem dX5_takeKind_27 : decode cX5_takeKind 27 = .ok (.ldc 206, 2) := by decide +kernel
theorem dX5_takeKind_29 : decode cX5_takeKind 29 = .ok (.invokevirtual 55, 3) := by decide +kernel
theorem dX5_takeKind_32 : decode cX5_takeKind 32 = .ok (.ifCond .eq 7, 3) := by decide +kernel
theorem dX5_takeKind_35 : decode cX5_takeKind 35 = .ok (.iconst 3, 1) := by decide +kernel
theorem dX5_takeKind_36 : decode cX5_takeKind 36 = .ok (.goto 4, 3) := by decide +kernel
theorem dX5_takeKind_39 : decode cX5_takeKind 39 = .ok (.iconst 0, 1) := by decide +kernel
theorem dX5_takeKind_40 : decode cX5_takeKind 40 = .ok (.istore_n 1, 1) := by decide +kernel
theorem dX5_takeKind_41 : decode cX5_takeKind 41 = .ok (.iload_n 1, 1) := by decide +kernel
theorem dX5_takeKind_42 : decode cX5_takeKind 42 = .ok (.ifCond .ne 19, 3) := by decide +kernel
theorem dX5_takeKind_45 : decode cX5_takeKind 45 = .ok (.aload_n 0, 1) := by decide +kernel
theorem dX5_takeKind_46 : decode cX5_takeKind 46 = .ok (.ldc 208, 2) := by decide +kernel
theorem dX5_takeKind_48 : decode cX5_takeKind 48 = .ok (.invokevirtual 55, 3) := by decide +kernel
theorem dX5_takeKind_51 : decode cX5_takeKind 51 = .ok (.ifCond .ne 10, 3) := by decide +kernel
theorem dX5_takeKind_54 : decode cX5_takeKind 54 = .ok (.aload_n 0, 1) := by decide +kernel
theorem dX5_takeKind_55 : decode cX5_takeKind 55 = .ok (.iconst 1, 1) := by decide +kernel
theorem dX5_takeKind_56 : decode cX5_takeKind 56 = .ok (.invokevirtual 114, 3) := by decide +kernel
theorem dX5_takeKind_59 : decode cX5_takeKind 59 = .ok (.iconst 0, 1) := by decide +kernel
theorem dX5_takeKind_60 : decode cX5_takeKind 60 = .ok (.ireturn, 1) := by decide +kernel
theorem dX5_takeKind_61 : decode cX5_takeKind 61 = .ok (.aload_n 0, 1) := by decide +kernel
theorem dX5_takeKind_62 : decode cX5_takeKind 62 = .ok (.invokevirtual 41, 3) := by decide +kernel
theorem dX5_takeKind_65 : decode cX5_takeKind 65 = .ok (.iload_n 1, 1) := by decide +kernel
theorem dX5_takeKind_66 : decode cX5_takeKind 66 = .ok (.ireturn, 1) := by decide +kernel
theorem dX5_takeOnce_0 : decode cX5_takeOnce 0 = .ok (.aload_n 0, 1) := by decide +kernel
theorem dX5_takeOnce_1 : decode cX5_takeOnce 1 = .ok (.getfield 38, 3) := by decide +kernel
theorem dX5_takeOnce_4 : decode cX5_takeOnce 4 = .ok (.iload_n 1, 1) := by decide +kernel
theorem dX5_takeOnce_5 : decode cX5_takeOnce 5 = .ok (.ishr, 1) := by decide +kernel
theorem dX5_takeOnce_6 : decode cX5_takeOnce 6 = .ok (.iconst 1, 1) := by decide +kernel
theorem dX5_takeOnce_7 : decode cX5_takeOnce 7 = .ok (.iand, 1) := by decide +kernel
theorem dX5_takeOnce_8 : decode cX5_takeOnce 8 = .ok (.iconst 1, 1) := by decide +kernel
theorem dX5_takeOnce_9 : decode cX5_takeOnce 9 = .ok (.if_icmp .ne 9, 3) := by decide +kernel
theorem dX5_takeOnce_12 : decode cX5_takeOnce 12 = .ok (.aload_n 0, 1) := by decide +kernel
theorem dX5_takeOnce_13 : decode cX5_takeOnce 13 = .ok (.iconst 2, 1) := by decide +kernel
theorem dX5_takeOnce_14 : decode cX5_takeOnce 14 = .ok (.invokevirtual 114, 3) := by decide +kernel
theorem dX5_takeOnce_17 : decode cX5_takeOnce 17 = .ok (.return_, 1) := by decide +kernel
theorem dX5_takeOnce_18 : decode cX5_takeOnce 18 = .ok (.aload_n 0, 1) := by decide +kernel
theorem dX5_takeOnce_19 : decode cX5_takeOnce 19 = .ok (.dup, 1) := by decide +kernel
theorem dX5_takeOnce_20 : decode cX5_takeOnce 20 = .ok (.getfield 38, 3) := by decide +kernel
theorem dX5_takeOnce_23 : decode cX5_takeOnce 23 = .ok (.iconst 1, 1) := by decide +kernel
theorem dX5_takeOnce_24 : decode cX5_takeOnce 24 = .ok (.iload_n 1, 1) := by decide +kernel
theorem dX5_takeOnce_25 : decode cX5_takeOnce 25 = .ok (.ishl, 1) := by decide +kernel
theorem dX5_takeOnce_26 : decode cX5_takeOnce 26 = .ok (.ior, 1) := by decide +kernel
theorem dX5_takeOnce_27 : decode cX5_takeOnce 27 = .ok (.putfield 38, 3) := by decide +kernel
theorem dX5_takeOnce_30 : decode cX5_takeOnce 30 = .ok (.aload_n 0, 1) := by decide +kernel
theorem dX5_takeOnce_31 : decode cX5_takeOnce 31 = .ok (.invokevirtual 41, 3) := by decide +kernel
theorem dX5_takeOnce_34 : decode cX5_takeOnce 34 = .ok (.return_, 1) := by decide +kernel
theorem dX5_named_0 : decode cX5_named 0 = .ok (.aload_n 0, 1) := by decide +kernel
theorem dX5_named_1 : decode cX5_named 1 = .ok (.aload_n 1, 1) := by decide +kernel
theorem dX5_named_2 : decode cX5_named 2 = .ok (.invokevirtual 80, 3) := by decide +kernel
theorem dX5_named_5 : decode cX5_named 5 = .ok (.aload_n 0, 1) := by decide +kernel
theorem dX5_named_6 : decode cX5_named 6 = .ok (.iload_n 2, 1) := by decide +kernel
theorem dX5_named_7 : decode cX5_named 7 = .ok (.iload_n 3, 1) := by decide +kernel
theorem dX5_named_8 : decode cX5_named 8 = .ok (.invokevirtual 126, 3) := by decide +kernel
theorem dX5_named_11 : decode cX5_named 11 = .ok (.ireturn, 1) := by decide +kernel
theorem dX5_take_0 : decode cX5_take 0 = .ok (.aload_n 0, 1) := by decide +kernel
theorem dX5_take_1 : decode cX5_take 1 = .ok (.getfield 32, 3) := by decide +kernel
theorem dX5_take_4 : decode cX5_take 4 = .ok (.ifCond .eq 4, 3) := by decide +kernel
theorem dX5_take_7 : decode cX5_take 7 = .ok (.return_, 1) := by decide +kernel
theorem dX5_take_8 : decode cX5_take 8 = .ok (.aload_n 0, 1) := by decide +kernel
theorem dX5_take_9 : decode cX5_take 9 = .ok (.aload_n 1, 1) := by decide +kernel
theorem dX5_take_10 : decode cX5_take 10 = .ok (.invokevirtual 55, 3) := by decide +kernel
theorem dX5_take_13 : decode cX5_take 13 = .ok (.ifCond .eq 10, 3) := by decide +kernel
theorem dX5_take_16 : decode cX5_take 16 = .ok (.aload_n 0, 1) := by decide +kernel
theorem dX5_take_17 : decode cX5_take 17 = .ok (.invokevirtual 41, 3) := by decide +kernel
theorem dX5_take_20 : decode cX5_take 20 = .ok (.goto 8, 3) := by decide +kernel
theorem dX5_take_23 : decode cX5_take 23 = .ok (.aload_n 0, 1) := by decide +kernel
theorem dX5_take_24 : decode cX5_take 24 = .ok (.iconst 1, 1) := by decide +kernel
theorem dX5_take_25 : decode cX5_take 25 = .ok (.invokevirtual 114, 3) := by decide +kernel
theorem dX5_take_28 : decode cX5_take 28 = .ok (.return_, 1) := by decide +kernel
theorem dX5_takeNumber_0 : decode cX5_takeNumber 0 = .ok (.aload_n 0, 1) := by decide +kernel
theorem dX5_takeNumber_1 : decode cX5_takeNumber 1 = .ok (.getfield 32, 3) := by decide +kernel
theorem dX5_takeNumber_4 : decode cX5_takeNumber 4 = .ok (.ifCond .eq 5, 3) := by decide +kernel
theorem dX5_takeNumber_7 : decode cX5_takeNumber 7 = .ok (.iconst 0, 1) := by decide +kernel
theorem dX5_takeNumber_8 : decode cX5_takeNumber 8 = .ok (.ireturn, 1) := by decide +kernel
theorem dX5_takeNumber_9 : decode cX5_takeNumber 9 = .ok (.aload_n 0, 1) := by decide +kernel
theorem dX5_takeNumber_10 : decode cX5_takeNumber 10 = .ok (.getfield 44, 3) := by decide +kernel
theorem dX5_takeNumber_13 : decode cX5_takeNumber 13 = .ok (.iconst 2, 1) := by decide +kernel
theorem dX5_takeNumber_14 : decode cX5_takeNumber 14 = .ok (.if_icmp .eq 10, 3) := by decide +kernel
theorem dX5_takeNumber_17 : decode cX5_takeNumber 17 = .ok (.aload_n 0, 1) := by decide +kernel
theorem dX5_takeNumber_18 : decode cX5_takeNumber 18 = .ok (.iconst 1, 1) := by decide +kernel
theorem dX5_takeNumber_19 : decode cX5_takeNumber 19 = .ok (.invokevirtual 114, 3) := by decide +kernel
theorem dX5_takeNumber_22 : decode cX5_takeNumber 22 = .ok (.iconst 0, 1) := by decide +kernel
theorem dX5_takeNumber_23 : decode cX5_takeNumber 23 = .ok (.ireturn, 1) := by decide +kernel
theorem dX5_takeNumber_24 : decode cX5_takeNumber 24 = .ok (.aload_n 0, 1) := by decide +kernel
theorem dX5_takeNumber_25 : decode cX5_takeNumber 25 = .ok (.getfield 210, 3) := by decide +kernel
theorem dX5_takeNumber_28 : decode cX5_takeNumber 28 = .ok (.iload_n 1, 1) := by decide +kernel
theorem dX5_takeNumber_29 : decode cX5_takeNumber 29 = .ok (.if_icmp .lt 11, 3) := by decide +kernel
theorem dX5_takeNumber_32 : decode cX5_takeNumber 32 = .ok (.aload_n 0, 1) := by decide +kernel
theorem dX5_takeNumber_33 : decode cX5_takeNumber 33 = .ok (.getfield 210, 3) := by decide +kernel
theorem dX5_takeNumber_36 : decode cX5_takeNumber 36 = .ok (.iload_n 2, 1) := by decide +kernel
theorem dX5_takeNumber_37 : decode cX5_takeNumber 37 = .ok (.if_icmp .le 10, 3) := by decide +kernel
theorem dX5_takeNumber_40 : decode cX5_takeNumber 40 = .ok (.aload_n 0, 1) := by decide +kernel
theorem dX5_takeNumber_41 : decode cX5_takeNumber 41 = .ok (.iconst 2, 1) := by decide +kernel
theorem dX5_takeNumber_42 : decode cX5_takeNumber 42 = .ok (.invokevirtual 114, 3) := by decide +kernel
theorem dX5_takeNumber_45 : decode cX5_takeNumber 45 = .ok (.iconst 0, 1) := by decide +kernel
theorem dX5_takeNumber_46 : decode cX5_takeNumber 46 = .ok (.ireturn, 1) := by decide +kernel
theorem dX5_takeNumber_47 : decode cX5_takeNumber 47 = .ok (.aload_n 0, 1) := by decide +kernel
theorem dX5_takeNumber_48 : decode cX5_takeNumber 48 = .ok (.getfield 210, 3) := by decide +kernel
theorem dX5_takeNumber_51 : decode cX5_takeNumber 51 = .ok (.istore_n 3, 1) := by decide +kernel
theorem dX5_takeNumber_52 : decode cX5_takeNumber 52 = .ok (.aload_n 0, 1) := by decide +kernel
theorem dX5_takeNumber_53 : decode cX5_takeNumber 53 = .ok (.invokevirtual 41, 3) := by decide +kernel
theorem dX5_takeNumber_56 : decode cX5_takeNumber 56 = .ok (.iload_n 3, 1) := by decide +kernel
theorem dX5_takeNumber_57 : decode cX5_takeNumber 57 = .ok (.ireturn, 1) := by decide +kernel
theorem dX5_fail_0 : decode cX5_fail 0 = .ok (.aload_n 0, 1) := by decide +kernel
theorem dX5_fail_1 : decode cX5_fail 1 = .ok (.getfield 32, 3) := by decide +kernel
theorem dX5_fail_4 : decode cX5_fail 4 = .ok (.ifCond .ne 16, 3) := by decide +kernel
theorem dX5_fail_7 : decode cX5_fail 7 = .ok (.aload_n 0, 1) := by decide +kernel
theorem dX5_fail_8 : decode cX5_fail 8 = .ok (.iload_n 1, 1) := by decide +kernel
theorem dX5_fail_9 : decode cX5_fail 9 = .ok (.putfield 32, 3) := by decide +kernel
theorem dX5_fail_12 : decode cX5_fail 12 = .ok (.aload_n 0, 1) := by decide +kernel
theorem dX5_fail_13 : decode cX5_fail 13 = .ok (.aload_n 0, 1) := by decide +kernel
theorem dX5_fail_14 : decode cX5_fail 14 = .ok (.getfield 213, 3) := by decide +kernel
theorem dX5_fail_17 : decode cX5_fail 17 = .ok (.putfield 22, 3) := by decide +kernel
theorem dX5_fail_20 : decode cX5_fail 20 = .ok (.return_, 1) := by decide +kernel
theorem dX5_is_0 : decode cX5_is 0 = .ok (.aload_n 0, 1) := by decide +kernel
theorem dX5_is_1 : decode cX5_is 1 = .ok (.getfield 44, 3) := by decide +kernel
theorem dX5_is_4 : decode cX5_is 4 = .ok (.iconst 1, 1) := by decide +kernel
theorem dX5_is_5 : decode cX5_is 5 = .ok (.if_icmp .ne 19, 3) := by decide +kernel
theorem dX5_is_8 : decode cX5_is 8 = .ok (.aload_n 0, 1) := by decide +kernel
theorem dX5_is_9 : decode cX5_is 9 = .ok (.getfield 35, 3) := by decide +kernel
theorem dX5_is_12 : decode cX5_is 12 = .ok (.aload_n 0, 1) := by decide +kernel
theorem dX5_is_13 : decode cX5_is 13 = .ok (.getfield 213, 3) := by decide +kernel
theorem dX5_is_16 : decode cX5_is 16 = .ok (.isub, 1) := by decide +kernel
theorem dX5_is_17 : decode cX5_is 17 = .ok (.aload_n 1, 1) := by decide +kernel
theorem dX5_is_18 : decode cX5_is 18 = .ok (.invokevirtual 216, 3) := by decide +kernel
theorem dX5_is_21 : decode cX5_is 21 = .ok (.if_icmp .eq 5, 3) := by decide +kernel
theorem dX5_is_24 : decode cX5_is 24 = .ok (.iconst 0, 1) := by decide +kernel
theorem dX5_is_25 : decode cX5_is 25 = .ok (.ireturn, 1) := by decide +kernel
theorem dX5_is_26 : decode cX5_is 26 = .ok (.iconst 0, 1) := by decide +kernel
theorem dX5_is_27 : decode cX5_is 27 = .ok (.istore_n 2, 1) := by decide +kernel
theorem dX5_is_28 : decode cX5_is 28 = .ok (.iload_n 2, 1) := by decide +kernel
theorem dX5_is_29 : decode cX5_is 29 = .ok (.aload_n 1, 1) := by decide +kernel
theorem dX5_is_30 : decode cX5_is 30 = .ok (.invokevirtual 216, 3) := by decide +kernel
theorem dX5_is_33 : decode cX5_is 33 = .ok (.if_icmp .ge 29, 3) := by decide +kernel
theorem dX5_is_36 : decode cX5_is 36 = .ok (.aload_n 0, 1) := by decide +kernel
theorem dX5_is_37 : decode cX5_is 37 = .ok (.aload_n 0, 1) := by decide +kernel
theorem dX5_is_38 : decode cX5_is 38 = .ok (.getfield 213, 3) := by decide +kernel
theorem dX5_is_41 : decode cX5_is 41 = .ok (.iload_n 2, 1) := by decide +kernel
theorem dX5_is_42 : decode cX5_is 42 = .ok (.iadd, 1) := by decide +kernel
theorem dX5_is_43 : decode cX5_is 43 = .ok (.invokevirtual 220, 3) := by decide +kernel
theorem dX5_is_46 : decode cX5_is 46 = .ok (.aload_n 1, 1) := by decide +kernel
theorem dX5_is_47 : decode cX5_is 47 = .ok (.iload_n 2, 1) := by decide +kernel
theorem dX5_is_48 : decode cX5_is 48 = .ok (.invokevirtual 224, 3) := by decide +kernel
theorem dX5_is_51 : decode cX5_is 51 = .ok (.if_icmp .eq 5, 3) := by decide +kernel
theorem dX5_is_54 : decode cX5_is 54 = .ok (.iconst 0, 1) := by decide +kernel
theorem dX5_is_55 : decode cX5_is 55 = .ok (.ireturn, 1) := by decide +kernel
theorem dX5_is_56 : decode cX5_is 56 = .ok (.iinc 2 1, 3) := by decide +kernel
theorem dX5_is_59 : decode cX5_is 59 = .ok (.goto (-31), 3) := by decide +kernel
theorem dX5_is_62 : decode cX5_is 62 = .ok (.iconst 1, 1) := by decide +kernel
theorem dX5_is_63 : decode cX5_is 63 = .ok (.ireturn, 1) := by decide +kernel
theorem dX5_next_0 : decode cX5_next 0 = .ok (.aload_n 0, 1) := by decide +kernel
theorem dX5_next_1 : decode cX5_next 1 = .ok (.aload_n 0, 1) := by decide +kernel
theorem dX5_next_2 : decode cX5_next 2 = .ok (.getfield 35, 3) := by decide +kernel
theorem dX5_next_5 : decode cX5_next 5 = .ok (.putfield 213, 3) := by decide +kernel
theorem dX5_next_8 : decode cX5_next 8 = .ok (.aload_n 0, 1) := by decide +kernel
theorem dX5_next_9 : decode cX5_next 9 = .ok (.getfield 213, 3) := by decide +kernel
theorem dX5_next_12 : decode cX5_next 12 = .ok (.aload_n 0, 1) := by decide +kernel
theorem dX5_next_13 : decode cX5_next 13 = .ok (.getfield 26, 3) := by decide +kernel
theorem dX5_next_16 : decode cX5_next 16 = .ok (.if_icmp .ge 42, 3) := by decide +kernel
theorem dX5_next_19 : decode cX5_next 19 = .ok (.aload_n 0, 1) := by decide +kernel
theorem dX5_next_20 : decode cX5_next 20 = .ok (.aload_n 0, 1) := by decide +kernel
theorem dX5_next_21 : decode cX5_next 21 = .ok (.getfield 213, 3) := by decide +kernel
theorem dX5_next_24 : decode cX5_next 24 = .ok (.invokevirtual 220, 3) := by decide +kernel
theorem dX5_next_27 : decode cX5_next 27 = .ok (.bipush 32, 2) := by decide +kernel
theorem dX5_next_29 : decode cX5_next 29 = .ok (.if_icmp .eq 16, 3) := by decide +kernel
theorem dX5_next_32 : decode cX5_next 32 = .ok (.aload_n 0, 1) := by decide +kernel
theorem dX5_next_33 : decode cX5_next 33 = .ok (.aload_n 0, 1) := by decide +kernel
theorem dX5_next_34 : decode cX5_next 34 = .ok (.getfield 213, 3) := by decide +kernel
theorem dX5_next_37 : decode cX5_next 37 = .ok (.invokevirtual 220, 3) := by decide +kernel
theorem dX5_next_40 : decode cX5_next 40 = .ok (.bipush 10, 2) := by decide +kernel
theorem dX5_next_42 : decode cX5_next 42 = .ok (.if_icmp .ne 16, 3) := by decide +kernel
theorem dX5_next_45 : decode cX5_next 45 = .ok (.aload_n 0, 1) := by decide +kernel
theorem dX5_next_46 : decode cX5_next 46 = .ok (.dup, 1) := by decide +kernel
theorem dX5_next_47 : decode cX5_next 47 = .ok (.getfield 213, 3) := by decide +kernel
theorem dX5_next_50 : decode cX5_next 50 = .ok (.iconst 1, 1) := by decide +kernel
theorem dX5_next_51 : decode cX5_next 51 = .ok (.iadd, 1) := by decide +kernel
theorem dX5_next_52 : decode cX5_next 52 = .ok (.putfield 213, 3) := by decide +kernel
theorem dX5_next_55 : decode cX5_next 55 = .ok (.goto (-47), 3) := by decide +kernel
theorem dX5_next_58 : decode cX5_next 58 = .ok (.aload_n 0, 1) := by decide +kernel
theorem dX5_next_59 : decode cX5_next 59 = .ok (.aload_n 0, 1) := by decide +kernel
theorem dX5_next_60 : decode cX5_next 60 = .ok (.getfield 213, 3) := by decide +kernel
theorem dX5_next_63 : decode cX5_next 63 = .ok (.putfield 35, 3) := by decide +kernel
theorem dX5_next_66 : decode cX5_next 66 = .ok (.aload_n 0, 1) := by decide +kernel
theorem dX5_next_67 : decode cX5_next 67 = .ok (.aload_n 0, 1) := by decide +kernel
theorem dX5_next_68 : decode cX5_next 68 = .ok (.aload_n 0, 1) := by decide +kernel
theorem dX5_next_69 : decode cX5_next 69 = .ok (.getfield 213, 3) := by decide +kernel
theorem dX5_next_72 : decode cX5_next 72 = .ok (.invokevirtual 220, 3) := by decide +kernel
theorem dX5_next_75 : decode cX5_next 75 = .ok (.invokestatic 228, 3) := by decide +kernel
theorem dX5_next_78 : decode cX5_next 78 = .ok (.putfield 44, 3) := by decide +kernel
theorem dX5_next_81 : decode cX5_next 81 = .ok (.aload_n 0, 1) := by decide +kernel
theorem dX5_next_82 : decode cX5_next 82 = .ok (.iconst 0, 1) := by decide +kernel
theorem dX5_next_83 : decode cX5_next 83 = .ok (.putfield 210, 3) := by decide +kernel
theorem dX5_next_86 : decode cX5_next 86 = .ok (.aload_n 0, 1) := by decide +kernel
theorem dX5_next_87 : decode cX5_next 87 = .ok (.getfield 35, 3) := by decide +kernel
theorem dX5_next_90 : decode cX5_next 90 = .ok (.aload_n 0, 1) := by decide +kernel
theorem dX5_next_91 : decode cX5_next 91 = .ok (.getfield 26, 3) := by decide +kernel
theorem dX5_next_94 : decode cX5_next 94 = .ok (.if_icmp .ge 86, 3) := by decide +kernel
theorem dX5_next_97 : decode cX5_next 97 = .ok (.aload_n 0, 1) := by decide +kernel
theorem dX5_next_98 : decode cX5_next 98 = .ok (.aload_n 0, 1) := by decide +kernel
theorem dX5_next_99 : decode cX5_next 99 = .ok (.getfield 35, 3) := by decide +kernel
theorem dX5_next_102 : decode cX5_next 102 = .ok (.invokevirtual 220, 3) := by decide +kernel
theorem dX5_next_105 : decode cX5_next 105 = .ok (.invokestatic 228, 3) := by decide +kernel
theorem dX5_next_108 : decode cX5_next 108 = .ok (.aload_n 0, 1) := by decide +kernel
theorem dX5_next_109 : decode cX5_next 109 = .ok (.getfield 44, 3) := by decide +kernel
theorem dX5_next_112 : decode cX5_next 112 = .ok (.if_icmp .ne 68, 3) := by decide +kernel
theorem dX5_next_115 : decode cX5_next 115 = .ok (.aload_n 0, 1) := by decide +kernel
theorem dX5_next_116 : decode cX5_next 116 = .ok (.getfield 44, 3) := by decide +kernel
theorem dX5_next_119 : decode cX5_next 119 = .ok (.iconst 2, 1) := by decide +kernel
theorem dX5_next_120 : decode cX5_next 120 = .ok (.if_icmp .ne 31, 3) := by decide +kernel
theorem dX5_next_123 : decode cX5_next 123 = .ok (.aload_n 0, 1) := by decide +kernel
theorem dX5_next_124 : decode cX5_next 124 = .ok (.ldc 231, 2) := by decide +kernel
theorem dX5_next_126 : decode cX5_next 126 = .ok (.bipush 10, 2) := by decide +kernel
theorem dX5_next_128 : decode cX5_next 128 = .ok (.aload_n 0, 1) := by decide +kernel
theorem dX5_next_129 : decode cX5_next 129 = .ok (.getfield 210, 3) := by decide +kernel
theorem dX5_next_132 : decode cX5_next 132 = .ok (.imul, 1) := by decide +kernel
theorem dX5_next_133 : decode cX5_next 133 = .ok (.aload_n 0, 1) := by decide +kernel
theorem dX5_next_134 : decode cX5_next 134 = .ok (.aload_n 0, 1) := by decide +kernel
theorem dX5_next_135 : decode cX5_next 135 = .ok (.getfield 35, 3) := by decide +kernel
theorem dX5_next_138 : decode cX5_next 138 = .ok (.invokevirtual 220, 3) := by decide +kernel
theorem dX5_next_141 : decode cX5_next 141 = .ok (.iadd, 1) := by decide +kernel
theorem dX5_next_142 : decode cX5_next 142 = .ok (.bipush 48, 2) := by decide +kernel
theorem dX5_next_144 : decode cX5_next 144 = .ok (.isub, 1) := by decide +kernel
theorem dX5_next_145 : decode cX5_next 145 = .ok (.invokestatic 232, 3) := by decide +kernel
theorem dX5_next_148 : decode cX5_next 148 = .ok (.putfield 210, 3) := by decide +kernel
theorem dX5_next_151 : decode cX5_next 151 = .ok (.aload_n 0, 1) := by decide +kernel
theorem dX5_next_152 : decode cX5_next 152 = .ok (.dup, 1) := by decide +kernel
theorem dX5_next_153 : decode cX5_next 153 = .ok (.getfield 35, 3) := by decide +kernel
theorem dX5_next_156 : decode cX5_next 156 = .ok (.iconst 1, 1) := by decide +kernel
theorem dX5_next_157 : decode cX5_next 157 = .ok (.iadd, 1) := by decide +kernel
theorem dX5_next_158 : decode cX5_next 158 = .ok (.putfield 35, 3) := by decide +kernel
theorem dX5_next_161 : decode cX5_next 161 = .ok (.aload_n 0, 1) := by decide +kernel
theorem dX5_next_162 : decode cX5_next 162 = .ok (.getfield 44, 3) := by decide +kernel
theorem dX5_next_165 : decode cX5_next 165 = .ok (.iconst 1, 1) := by decide +kernel
theorem dX5_next_166 : decode cX5_next 166 = .ok (.if_icmp .eq (-80), 3) := by decide +kernel
theorem dX5_next_169 : decode cX5_next 169 = .ok (.aload_n 0, 1) := by decide +kernel
theorem dX5_next_170 : decode cX5_next 170 = .ok (.getfield 44, 3) := by decide +kernel
theorem dX5_next_173 : decode cX5_next 173 = .ok (.iconst 2, 1) := by decide +kernel
theorem dX5_next_174 : decode cX5_next 174 = .ok (.if_icmp .eq (-88), 3) := by decide +kernel
theorem dX5_next_177 : decode cX5_next 177 = .ok (.goto 3, 3) := by decide +kernel
theorem dX5_next_180 : decode cX5_next 180 = .ok (.return_, 1) := by decide +kernel
theorem dX5_tokenOf_0 : decode cX5_tokenOf 0 = .ok (.iload_n 0, 1) := by decide +kernel
theorem dX5_tokenOf_1 : decode cX5_tokenOf 1 = .ok (.iconst (-1), 1) := by decide +kernel
theorem dX5_tokenOf_2 : decode cX5_tokenOf 2 = .ok (.if_icmp .ne 5, 3) := by decide +kernel
theorem dX5_tokenOf_5 : decode cX5_tokenOf 5 = .ok (.iconst 0, 1) := by decide +kernel
theorem dX5_tokenOf_6 : decode cX5_tokenOf 6 = .ok (.ireturn, 1) := by decide +kernel
theorem dX5_tokenOf_7 : decode cX5_tokenOf 7 = .ok (.iload_n 0, 1) := by decide +kernel
theorem dX5_tokenOf_8 : decode cX5_tokenOf 8 = .ok (.bipush 97, 2) := by decide +kernel
theorem dX5_tokenOf_10 : decode cX5_tokenOf 10 = .ok (.if_icmp .lt 11, 3) := by decide +kernel
theorem dX5_tokenOf_13 : decode cX5_tokenOf 13 = .ok (.iload_n 0, 1) := by decide +kernel
theorem dX5_tokenOf_14 : decode cX5_tokenOf 14 = .ok (.bipush 122, 2) := by decide +kernel
theorem dX5_tokenOf_16 : decode cX5_tokenOf 16 = .ok (.if_icmp .gt 5, 3) := by decide +kernel
theorem dX5_tokenOf_19 : decode cX5_tokenOf 19 = .ok (.iconst 1, 1) := by decide +kernel
theorem dX5_tokenOf_20 : decode cX5_tokenOf 20 = .ok (.ireturn, 1) := by decide +kernel
theorem dX5_tokenOf_21 : decode cX5_tokenOf 21 = .ok (.iload_n 0, 1) := by decide +kernel
theorem dX5_tokenOf_22 : decode cX5_tokenOf 22 = .ok (.bipush 48, 2) := by decide +kernel
theorem dX5_tokenOf_24 : decode cX5_tokenOf 24 = .ok (.if_icmp .lt 11, 3) := by decide +kernel
theorem dX5_tokenOf_27 : decode cX5_tokenOf 27 = .ok (.iload_n 0, 1) := by decide +kernel
theorem dX5_tokenOf_28 : decode cX5_tokenOf 28 = .ok (.bipush 57, 2) := by decide +kernel
theorem dX5_tokenOf_30 : decode cX5_tokenOf 30 = .ok (.if_icmp .gt 5, 3) := by decide +kernel
theorem dX5_tokenOf_33 : decode cX5_tokenOf 33 = .ok (.iconst 2, 1) := by decide +kernel
theorem dX5_tokenOf_34 : decode cX5_tokenOf 34 = .ok (.ireturn, 1) := by decide +kernel
theorem dX5_tokenOf_35 : decode cX5_tokenOf 35 = .ok (.iload_n 0, 1) := by decide +kernel
theorem dX5_tokenOf_36 : decode cX5_tokenOf 36 = .ok (.bipush 59, 2) := by decide +kernel
theorem dX5_tokenOf_38 : decode cX5_tokenOf 38 = .ok (.if_icmp .ne 7, 3) := by decide +kernel
theorem dX5_tokenOf_41 : decode cX5_tokenOf 41 = .ok (.iconst 3, 1) := by decide +kernel
theorem dX5_tokenOf_42 : decode cX5_tokenOf 42 = .ok (.goto 4, 3) := by decide +kernel
theorem dX5_tokenOf_45 : decode cX5_tokenOf 45 = .ok (.iconst 4, 1) := by decide +kernel
theorem dX5_tokenOf_46 : decode cX5_tokenOf 46 = .ok (.ireturn, 1) := by decide +kernel
theorem dX5_byteAt_0 : decode cX5_byteAt 0 = .ok (.iload_n 1, 1) := by decide +kernel
theorem dX5_byteAt_1 : decode cX5_byteAt 1 = .ok (.ifCond .lt 33, 3) := by decide +kernel
theorem dX5_byteAt_4 : decode cX5_byteAt 4 = .ok (.iload_n 1, 1) := by decide +kernel
theorem dX5_byteAt_5 : decode cX5_byteAt 5 = .ok (.aload_n 0, 1) := by decide +kernel
theorem dX5_byteAt_6 : decode cX5_byteAt 6 = .ok (.getfield 26, 3) := by decide +kernel
theorem dX5_byteAt_9 : decode cX5_byteAt 9 = .ok (.if_icmp .ge 25, 3) := by decide +kernel
theorem dX5_byteAt_12 : decode cX5_byteAt 12 = .ok (.iload_n 1, 1) := by decide +kernel
theorem dX5_byteAt_13 : decode cX5_byteAt 13 = .ok (.aload_n 0, 1) := by decide +kernel
theorem dX5_byteAt_14 : decode cX5_byteAt 14 = .ok (.getfield 9, 3) := by decide +kernel
theorem dX5_byteAt_17 : decode cX5_byteAt 17 = .ok (.arraylength, 1) := by decide +kernel
theorem dX5_byteAt_18 : decode cX5_byteAt 18 = .ok (.if_icmp .ge 16, 3) := by decide +kernel
theorem dX5_byteAt_21 : decode cX5_byteAt 21 = .ok (.aload_n 0, 1) := by decide +kernel
theorem dX5_byteAt_22 : decode cX5_byteAt 22 = .ok (.getfield 9, 3) := by decide +kernel
theorem dX5_byteAt_25 : decode cX5_byteAt 25 = .ok (.iload_n 1, 1) := by decide +kernel
theorem dX5_byteAt_26 : decode cX5_byteAt 26 = .ok (.baload, 1) := by decide +kernel
theorem dX5_byteAt_27 : decode cX5_byteAt 27 = .ok (.sipush 255, 3) := by decide +kernel
theorem dX5_byteAt_30 : decode cX5_byteAt 30 = .ok (.iand, 1) := by decide +kernel
theorem dX5_byteAt_31 : decode cX5_byteAt 31 = .ok (.goto 4, 3) := by decide +kernel
theorem dX5_byteAt_34 : decode cX5_byteAt 34 = .ok (.iconst (-1), 1) := by decide +kernel
theorem dX5_byteAt_35 : decode cX5_byteAt 35 = .ok (.ireturn, 1) := by decide +kernel
theorem dX6_begin_0 : decode cX6_begin 0 = .ok (.aload_n 0, 1) := by decide +kernel
theorem dX6_begin_1 : decode cX6_begin 1 = .ok (.iconst 1, 1) := by decide +kernel
theorem dX6_begin_2 : decode cX6_begin 2 = .ok (.putfield 15, 3) := by decide +kernel
theorem dX6_begin_5 : decode cX6_begin 5 = .ok (.aload_n 0, 1) := by decide +kernel
theorem dX6_begin_6 : decode cX6_begin 6 = .ok (.iload_n 1, 1) := by decide +kernel
theorem dX6_begin_7 : decode cX6_begin 7 = .ok (.putfield 19, 3) := by decide +kernel
theorem dX6_begin_10 : decode cX6_begin 10 = .ok (.aload_n 0, 1) := by decide +kernel
theorem dX6_begin_11 : decode cX6_begin 11 = .ok (.iconst 0, 1) := by decide +kernel
theorem dX6_begin_12 : decode cX6_begin 12 = .ok (.iload_n 2, 1) := by decide +kernel
theorem dX6_begin_13 : decode cX6_begin 13 = .ok (.bipush 60, 2) := by decide +kernel
theorem dX6_begin_15 : decode cX6_begin 15 = .ok (.invokestatic 23, 3) := by decide +kernel
theorem dX6_begin_18 : decode cX6_begin 18 = .ok (.invokestatic 29, 3) := by decide +kernel
theorem dX6_begin_21 : decode cX6_begin 21 = .ok (.putfield 32, 3) := by decide +kernel
theorem dX6_begin_24 : decode cX6_begin 24 = .ok (.iconst 0, 1) := by decide +kernel
theorem dX6_begin_25 : decode cX6_begin 25 = .ok (.istore_n 3, 1) := by decide +kernel
theorem dX6_begin_26 : decode cX6_begin 26 = .ok (.iload_n 3, 1) := by decide +kernel
theorem dX6_begin_27 : decode cX6_begin 27 = .ok (.bipush 60, 2) := by decide +kernel
theorem dX6_begin_29 : decode cX6_begin 29 = .ok (.if_icmp .ge 16, 3) := by decide +kernel
theorem dX6_begin_32 : decode cX6_begin 32 = .ok (.aload_n 0, 1) := by decide +kernel
theorem dX6_begin_33 : decode cX6_begin 33 = .ok (.getfield 9, 3) := by decide +kernel
theorem dX6_begin_36 : decode cX6_begin 36 = .ok (.iload_n 3, 1) := by decide +kernel
theorem dX6_begin_37 : decode cX6_begin 37 = .ok (.lconst 0, 1) := by decide +kernel
theorem dX6_begin_38 : decode cX6_begin 38 = .ok (.lastore, 1) := by decide +kernel
theorem dX6_begin_39 : decode cX6_begin 39 = .ok (.iinc 3 1, 3) := by decide +kernel
theorem dX6_begin_42 : decode cX6_begin 42 = .ok (.goto (-16), 3) := by decide +kernel
theorem dX6_begin_45 : decode cX6_begin 45 = .ok (.return_, 1) := by decide +kernel
theorem dX6_hasNumbers_0 : decode cX6_hasNumbers 0 = .ok (.iload_n 1, 1) := by decide +kernel
theorem dX6_hasNumbers_1 : decode cX6_hasNumbers 1 = .ok (.ifCond .lt 29, 3) := by decide +kernel
theorem dX6_hasNumbers_4 : decode cX6_hasNumbers 4 = .ok (.iload_n 2, 1) := by decide +kernel
theorem dX6_hasNumbers_5 : decode cX6_hasNumbers 5 = .ok (.ifCond .lt 25, 3) := by decide +kernel
theorem dX6_hasNumbers_8 : decode cX6_hasNumbers 8 = .ok (.iload_n 1, 1) := by decide +kernel
theorem dX6_hasNumbers_9 : decode cX6_hasNumbers 9 = .ok (.aload_n 0, 1) := by decide +kernel
theorem dX6_hasNumbers_10 : decode cX6_hasNumbers 10 = .ok (.getfield 32, 3) := by decide +kernel
theorem dX6_hasNumbers_13 : decode cX6_hasNumbers 13 = .ok (.if_icmp .gt 17, 3) := by decide +kernel
theorem dX6_hasNumbers_16 : decode cX6_hasNumbers 16 = .ok (.iload_n 2, 1) := by decide +kernel
theorem dX6_hasNumbers_17 : decode cX6_hasNumbers 17 = .ok (.aload_n 0, 1) := by decide +kernel
theorem dX6_hasNumbers_18 : decode cX6_hasNumbers 18 = .ok (.getfield 32, 3) := by decide +kernel
theorem dX6_hasNumbers_21 : decode cX6_hasNumbers 21 = .ok (.iload_n 1, 1) := by decide +kernel
theorem dX6_hasNumbers_22 : decode cX6_hasNumbers 22 = .ok (.isub, 1) := by decide +kernel
theorem dX6_hasNumbers_23 : decode cX6_hasNumbers 23 = .ok (.if_icmp .gt 7, 3) := by decide +kernel
theorem dX6_hasNumbers_26 : decode cX6_hasNumbers 26 = .ok (.iconst 1, 1) := by decide +kernel
theorem dX6_hasNumbers_27 : decode cX6_hasNumbers 27 = .ok (.goto 4, 3) := by decide +kernel
theorem dX6_hasNumbers_30 : decode cX6_hasNumbers 30 = .ok (.iconst 0, 1) := by decide +kernel
theorem dX6_hasNumbers_31 : decode cX6_hasNumbers 31 = .ok (.ireturn, 1) := by decide +kernel
theorem dX6_numberAt_0 : decode cX6_numberAt 0 = .ok (.aload_n 0, 1) := by decide +kernel
theorem dX6_numberAt_1 : decode cX6_numberAt 1 = .ok (.iload_n 1, 1) := by decide +kernel
theorem dX6_numberAt_2 : decode cX6_numberAt 2 = .ok (.iconst 1, 1) := by decide +kernel
theorem dX6_numberAt_3 : decode cX6_numberAt 3 = .ok (.invokevirtual 35, 3) := by decide +kernel
theorem dX6_numberAt_6 : decode cX6_numberAt 6 = .ok (.ifCond .eq 12, 3) := by decide +kernel
theorem dX6_numberAt_9 : decode cX6_numberAt 9 = .ok (.aload_n 0, 1) := by decide +kernel
theorem dX6_numberAt_10 : decode cX6_numberAt 10 = .ok (.getfield 9, 3) := by decide +kernel
theorem dX6_numberAt_13 : decode cX6_numberAt 13 = .ok (.iload_n 1, 1) := by decide +kernel
theorem dX6_numberAt_14 : decode cX6_numberAt 14 = .ok (.laload, 1) := by decide +kernel
theorem dX6_numberAt_15 : decode cX6_numberAt 15 = .ok (.goto 4, 3) := by decide +kernel
theorem dX6_numberAt_18 : decode cX6_numberAt 18 = .ok (.lconst 0, 1) := by decide +kernel
theorem dX6_numberAt_19 : decode cX6_numberAt 19 = .ok (.lreturn, 1) := by decide +kernel
theorem dX6_putNumber_0 : decode cX6_putNumber 0 = .ok (.aload_n 0, 1) := by decide +kernel
theorem dX6_putNumber_1 : decode cX6_putNumber 1 = .ok (.iload_n 1, 1) := by decide +kernel
theorem dX6_putNumber_2 : decode cX6_putNumber 2 = .ok (.iconst 1, 1) := by decide +kernel
theorem dX6_putNumber_3 : decode cX6_putNumber 3 = .ok (.invokevirtual 35, 3) := by decide +kernel
theorem dX6_putNumber_6 : decode cX6_putNumber 6 = .ok (.ifCond .eq 14, 3) := by decide +kernel
theorem dX6_putNumber_9 : decode cX6_putNumber 9 = .ok (.aload_n 0, 1) := by decide +kernel
theorem dX6_putNumber_10 : decode cX6_putNumber 10 = .ok (.getfield 9, 3) := by decide +kernel
theorem dX6_putNumber_13 : decode cX6_putNumber 13 = .ok (.iload_n 1, 1) := by decide +kernel
theorem dX6_putNumber_14 : decode cX6_putNumber 14 = .ok (.aload_n 0, 1) := by decide +kernel
theorem dX6_putNumber_15 : decode cX6_putNumber 15 = .ok (.lload_n 2, 1) := by decide +kernel
theorem dX6_putNumber_16 : decode cX6_putNumber 16 = .ok (.invokevirtual 39, 3) := by decide +kernel
theorem dX6_putNumber_19 : decode cX6_putNumber 19 = .ok (.lastore, 1) := by decide +kernel
theorem dX6_putNumber_20 : decode cX6_putNumber 20 = .ok (.return_, 1) := by decide +kernel
theorem dX6_cut_0 : decode cX6_cut 0 = .ok (.aload_n 0, 1) := by decide +kernel
theorem dX6_cut_1 : decode cX6_cut 1 = .ok (.getfield 19, 3) := by decide +kernel
theorem dX6_cut_4 : decode cX6_cut 4 = .ok (.tableswitch 42 0 2 #[28, 33, 38], 28) := by decide +kernel
theorem dX6_cut_32 : decode cX6_cut 32 = .ok (.lload_n 1, 1) := by decide +kernel
theorem dX6_cut_33 : decode cX6_cut 33 = .ok (.l2i, 1) := by decide +kernel
theorem dX6_cut_34 : decode cX6_cut 34 = .ok (.i2b, 1) := by decide +kernel
theorem dX6_cut_35 : decode cX6_cut 35 = .ok (.i2l, 1) := by decide +kernel
theorem dX6_cut_36 : decode cX6_cut 36 = .ok (.lreturn, 1) := by decide +kernel
theorem dX6_cut_37 : decode cX6_cut 37 = .ok (.lload_n 1, 1) := by decide +kernel
theorem dX6_cut_38 : decode cX6_cut 38 = .ok (.l2i, 1) := by decide +kernel
theorem dX6_cut_39 : decode cX6_cut 39 = .ok (.i2s, 1) := by decide +kernel
theorem dX6_cut_40 : decode cX6_cut 40 = .ok (.i2l, 1) := by decide +kernel
theorem dX6_cut_41 : decode cX6_cut 41 = .ok (.lreturn, 1) := by decide +kernel
theorem dX6_cut_42 : decode cX6_cut 42 = .ok (.lload_n 1, 1) := by decide +kernel
theorem dX6_cut_43 : decode cX6_cut 43 = .ok (.l2i, 1) := by decide +kernel
theorem dX6_cut_44 : decode cX6_cut 44 = .ok (.i2l, 1) := by decide +kernel
theorem dX6_cut_45 : decode cX6_cut 45 = .ok (.lreturn, 1) := by decide +kernel
theorem dX6_cut_46 : decode cX6_cut 46 = .ok (.lload_n 1, 1) := by decide +kernel
theorem dX6_cut_47 : decode cX6_cut 47 = .ok (.lreturn, 1) := by decide +kernel
theorem dX7_askedUnits_0 : decode cX7_askedUnits 0 = .ok (.aload_n 0, 1) := by decide +kernel
theorem dX7_askedUnits_1 : decode cX7_askedUnits 1 = .ok (.getfield 18, 3) := by decide +kernel
theorem dX7_askedUnits_4 : decode cX7_askedUnits 4 = .ok (.ifCond .lt 27, 3) := by decide +kernel
theorem dX7_askedUnits_7 : decode cX7_askedUnits 7 = .ok (.aload_n 0, 1) := by decide +kernel
theorem dX7_askedUnits_8 : decode cX7_askedUnits 8 = .ok (.getfield 18, 3) := by decide +kernel
theorem dX7_askedUnits_11 : decode cX7_askedUnits 11 = .ok (.aload_n 0, 1) := by decide +kernel
theorem dX7_askedUnits_12 : decode cX7_askedUnits 12 = .ok (.getfield 15, 3) := by decide +kernel
theorem dX7_askedUnits_15 : decode cX7_askedUnits 15 = .ok (.arraylength, 1) := by decide +kernel
theorem dX7_askedUnits_16 : decode cX7_askedUnits 16 = .ok (.if_icmp .ge 15, 3) := by decide +kernel
theorem dX7_askedUnits_19 : decode cX7_askedUnits 19 = .ok (.aload_n 0, 1) := by decide +kernel
theorem dX7_askedUnits_20 : decode cX7_askedUnits 20 = .ok (.getfield 15, 3) := by decide +kernel
theorem dX7_askedUnits_23 : decode cX7_askedUnits 23 = .ok (.aload_n 0, 1) := by decide +kernel
theorem dX7_askedUnits_24 : decode cX7_askedUnits 24 = .ok (.getfield 18, 3) := by decide +kernel
theorem dX7_askedUnits_27 : decode cX7_askedUnits 27 = .ok (.iaload, 1) := by decide +kernel
theorem dX7_askedUnits_28 : decode cX7_askedUnits 28 = .ok (.goto 4, 3) := by decide +kernel
theorem dX7_askedUnits_31 : decode cX7_askedUnits 31 = .ok (.iconst 0, 1) := by decide +kernel
theorem dX7_askedUnits_32 : decode cX7_askedUnits 32 = .ok (.ireturn, 1) := by decide +kernel
theorem dX7_costOf_0 : decode cX7_costOf 0 = .ok (.iload_n 1, 1) := by decide +kernel
theorem dX7_costOf_1 : decode cX7_costOf 1 = .ok (.ifCond .lt 29, 3) := by decide +kernel
theorem dX7_costOf_4 : decode cX7_costOf 4 = .ok (.iload_n 1, 1) := by decide +kernel
theorem dX7_costOf_5 : decode cX7_costOf 5 = .ok (.aload_n 0, 1) := by decide +kernel
theorem dX7_costOf_6 : decode cX7_costOf 6 = .ok (.getfield 18, 3) := by decide +kernel
theorem dX7_costOf_9 : decode cX7_costOf 9 = .ok (.if_icmp .gt 21, 3) := by decide +kernel
theorem dX7_costOf_12 : decode cX7_costOf 12 = .ok (.iload_n 1, 1) := by decide +kernel
theorem dX7_costOf_13 : decode cX7_costOf 13 = .ok (.aload_n 0, 1) := by decide +kernel
theorem dX7_costOf_14 : decode cX7_costOf 14 = .ok (.getfield 9, 3) := by decide +kernel
theorem dX7_costOf_17 : decode cX7_costOf 17 = .ok (.arraylength, 1) := by decide +kernel
theorem dX7_costOf_18 : decode cX7_costOf 18 = .ok (.if_icmp .ge 12, 3) := by decide +kernel
theorem dX7_costOf_21 : decode cX7_costOf 21 = .ok (.aload_n 0, 1) := by decide +kernel
theorem dX7_costOf_22 : decode cX7_costOf 22 = .ok (.getfield 9, 3) := by decide +kernel
theorem dX7_costOf_25 : decode cX7_costOf 25 = .ok (.iload_n 1, 1) := by decide +kernel
theorem dX7_costOf_26 : decode cX7_costOf 26 = .ok (.iaload, 1) := by decide +kernel
theorem dX7_costOf_27 : decode cX7_costOf 27 = .ok (.goto 4, 3) := by decide +kernel
theorem dX7_costOf_30 : decode cX7_costOf 30 = .ok (.iconst (-1), 1) := by decide +kernel
theorem dX7_costOf_31 : decode cX7_costOf 31 = .ok (.ireturn, 1) := by decide +kernel
theorem dX7_loadOf_0 : decode cX7_loadOf 0 = .ok (.aload_n 1, 1) := by decide +kernel
theorem dX7_loadOf_1 : decode cX7_loadOf 1 = .ok (.iload_n 2, 1) := by decide +kernel
theorem dX7_loadOf_2 : decode cX7_loadOf 2 = .ok (.invokevirtual 22, 3) := by decide +kernel
theorem dX7_loadOf_5 : decode cX7_loadOf 5 = .ok (.ifCond .ne 5, 3) := by decide +kernel
theorem dX7_loadOf_8 : decode cX7_loadOf 8 = .ok (.iconst 0, 1) := by decide +kernel
theorem dX7_loadOf_9 : decode cX7_loadOf 9 = .ok (.ireturn, 1) := by decide +kernel
theorem dX7_loadOf_10 : decode cX7_loadOf 10 = .ok (.aload_n 0, 1) := by decide +kernel
theorem dX7_loadOf_11 : decode cX7_loadOf 11 = .ok (.iload_n 3, 1) := by decide +kernel
theorem dX7_loadOf_12 : decode cX7_loadOf 12 = .ok (.invokevirtual 28, 3) := by decide +kernel
theorem dX7_loadOf_15 : decode cX7_loadOf 15 = .ok (.aload_n 1, 1) := by decide +kernel
theorem dX7_loadOf_16 : decode cX7_loadOf 16 = .ok (.getfield 32, 3) := by decide +kernel
theorem dX7_loadOf_19 : decode cX7_loadOf 19 = .ok (.getfield 36, 3) := by decide +kernel
theorem dX7_loadOf_22 : decode cX7_loadOf 22 = .ok (.iconst 1, 1) := by decide +kernel
theorem dX7_loadOf_23 : decode cX7_loadOf 23 = .ok (.isub, 1) := by decide +kernel
theorem dX7_loadOf_24 : decode cX7_loadOf 24 = .ok (.istore 5, 2) := by decide +kernel
theorem dX7_loadOf_26 : decode cX7_loadOf 26 = .ok (.iload 5, 2) := by decide +kernel
theorem dX7_loadOf_28 : decode cX7_loadOf 28 = .ok (.ifCond .lt 69, 3) := by decide +kernel
theorem dX7_loadOf_31 : decode cX7_loadOf 31 = .ok (.aload_n 1, 1) := by decide +kernel
theorem dX7_loadOf_32 : decode cX7_loadOf 32 = .ok (.getfield 32, 3) := by decide +kernel
theorem dX7_loadOf_35 : decode cX7_loadOf 35 = .ok (.iload 5, 2) := by decide +kernel
theorem dX7_loadOf_37 : decode cX7_loadOf 37 = .ok (.iconst 0, 1) := by decide +kernel
theorem dX7_loadOf_38 : decode cX7_loadOf 38 = .ok (.invokevirtual 41, 3) := by decide +kernel
theorem dX7_loadOf_41 : decode cX7_loadOf 41 = .ok (.iload_n 2, 1) := by decide +kernel
theorem dX7_loadOf_42 : decode cX7_loadOf 42 = .ok (.if_icmp .ne 49, 3) := by decide +kernel
theorem dX7_loadOf_45 : decode cX7_loadOf 45 = .ok (.aload_n 0, 1) := by decide +kernel
theorem dX7_loadOf_46 : decode cX7_loadOf 46 = .ok (.aload_n 1, 1) := by decide +kernel
theorem dX7_loadOf_47 : decode cX7_loadOf 47 = .ok (.getfield 32, 3) := by decide +kernel
theorem dX7_loadOf_50 : decode cX7_loadOf 50 = .ok (.iload 5, 2) := by decide +kernel
theorem dX7_loadOf_52 : decode cX7_loadOf 52 = .ok (.iconst 3, 1) := by decide +kernel
theorem dX7_loadOf_53 : decode cX7_loadOf 53 = .ok (.invokevirtual 41, 3) := by decide +kernel
theorem dX7_loadOf_56 : decode cX7_loadOf 56 = .ok (.aload_n 1, 1) := by decide +kernel
theorem dX7_loadOf_57 : decode cX7_loadOf 57 = .ok (.getfield 32, 3) := by decide +kernel
theorem dX7_loadOf_60 : decode cX7_loadOf 60 = .ok (.iload 5, 2) := by decide +kernel
theorem dX7_loadOf_62 : decode cX7_loadOf 62 = .ok (.iconst 1, 1) := by decide +kernel
theorem dX7_loadOf_63 : decode cX7_loadOf 63 = .ok (.invokevirtual 41, 3) := by decide +kernel
theorem dX7_loadOf_66 : decode cX7_loadOf 66 = .ok (.aload_n 1, 1) := by decide +kernel
theorem dX7_loadOf_67 : decode cX7_loadOf 67 = .ok (.getfield 32, 3) := by decide +kernel
theorem dX7_loadOf_70 : decode cX7_loadOf 70 = .ok (.iload 5, 2) := by decide +kernel
theorem dX7_loadOf_72 : decode cX7_loadOf 72 = .ok (.iconst 2, 1) := by decide +kernel
theorem dX7_loadOf_73 : decode cX7_loadOf 73 = .ok (.invokevirtual 41, 3) := by decide +kernel
theorem dX7_loadOf_76 : decode cX7_loadOf 76 = .ok (.iload 5, 2) := by decide +kernel
theorem dX7_loadOf_78 : decode cX7_loadOf 78 = .ok (.iload 4, 2) := by decide +kernel
theorem dX7_loadOf_80 : decode cX7_loadOf 80 = .ok (.if_icmp .ne 7, 3) := by decide +kernel
theorem dX7_loadOf_83 : decode cX7_loadOf 83 = .ok (.iconst 1, 1) := by decide +kernel
theorem dX7_loadOf_84 : decode cX7_loadOf 84 = .ok (.goto 4, 3) := by decide +kernel
theorem dX7_loadOf_87 : decode cX7_loadOf 87 = .ok (.iconst 0, 1) := by decide +kernel
theorem dX7_loadOf_88 : decode cX7_loadOf 88 = .ok (.invokevirtual 45, 3) := by decide +kernel
theorem dX7_loadOf_91 : decode cX7_loadOf 91 = .ok (.iinc 5 (-1), 3) := by decide +kernel
theorem dX7_loadOf_94 : decode cX7_loadOf 94 = .ok (.goto (-68), 3) := by decide +kernel
theorem dX7_loadOf_97 : decode cX7_loadOf 97 = .ok (.aload_n 0, 1) := by decide +kernel
theorem dX7_loadOf_98 : decode cX7_loadOf 98 = .ok (.aload_n 0, 1) := by decide +kernel
theorem dX7_loadOf_99 : decode cX7_loadOf 99 = .ok (.getfield 18, 3) := by decide +kernel
theorem dX7_loadOf_102 : decode cX7_loadOf 102 = .ok (.invokevirtual 49, 3) := by decide +kernel
theorem dX7_loadOf_105 : decode cX7_loadOf 105 = .ok (.ireturn, 1) := by decide +kernel
theorem dX7_loadOfKinds_0 : decode cX7_loadOfKinds 0 = .ok (.iconst 0, 1) := by decide +kernel
theorem dX7_loadOfKinds_1 : decode cX7_loadOfKinds 1 = .ok (.istore 5, 2) := by decide +kernel
theorem dX7_loadOfKinds_3 : decode cX7_loadOfKinds 3 = .ok (.iload_n 2, 1) := by decide +kernel
theorem dX7_loadOfKinds_4 : decode cX7_loadOfKinds 4 = .ok (.istore 6, 2) := by decide +kernel
theorem dX7_loadOfKinds_6 : decode cX7_loadOfKinds 6 = .ok (.iload 6, 2) := by decide +kernel
theorem dX7_loadOfKinds_8 : decode cX7_loadOfKinds 8 = .ok (.iconst 4, 1) := by decide +kernel
theorem dX7_loadOfKinds_9 : decode cX7_loadOfKinds 9 = .ok (.if_icmp .ge 42, 3) := by decide +kernel
theorem dX7_loadOfKinds_12 : decode cX7_loadOfKinds 12 = .ok (.aload_n 0, 1) := by decide +kernel
theorem dX7_loadOfKinds_13 : decode cX7_loadOfKinds 13 = .ok (.aload_n 1, 1) := by decide +kernel
theorem dX7_loadOfKinds_14 : decode cX7_loadOfKinds 14 = .ok (.iload 6, 2) := by decide +kernel
theorem dX7_loadOfKinds_16 : decode cX7_loadOfKinds 16 = .ok (.iload 6, 2) := by decide +kernel
theorem dX7_loadOfKinds_18 : decode cX7_loadOfKinds 18 = .ok (.iload_n 3, 1) := by decide +kernel
theorem dX7_loadOfKinds_19 : decode cX7_loadOfKinds 19 = .ok (.iload 4, 2) := by decide +kernel
theorem dX7_loadOfKinds_21 : decode cX7_loadOfKinds 21 = .ok (.invokestatic 53, 3) := by decide +kernel
theorem dX7_loadOfKinds_24 : decode cX7_loadOfKinds 24 = .ok (.iconst (-1), 1) := by decide +kernel
theorem dX7_loadOfKinds_25 : decode cX7_loadOfKinds 25 = .ok (.invokevirtual 57, 3) := by decide +kernel
theorem dX7_loadOfKinds_28 : decode cX7_loadOfKinds 28 = .ok (.istore 7, 2) := by decide +kernel
theorem dX7_loadOfKinds_30 : decode cX7_loadOfKinds 30 = .ok (.iload 7, 2) := by decide +kernel
theorem dX7_loadOfKinds_32 : decode cX7_loadOfKinds 32 = .ok (.iconst (-1), 1) := by decide +kernel
theorem dX7_loadOfKinds_33 : decode cX7_loadOfKinds 33 = .ok (.if_icmp .ne 5, 3) := by decide +kernel
theorem dX7_loadOfKinds_36 : decode cX7_loadOfKinds 36 = .ok (.iconst (-1), 1) := by decide +kernel
theorem dX7_loadOfKinds_37 : decode cX7_loadOfKinds 37 = .ok (.ireturn, 1) := by decide +kernel
theorem dX7_loadOfKinds_38 : decode cX7_loadOfKinds 38 = .ok (.iload 5, 2) := by decide +kernel
theorem dX7_loadOfKinds_40 : decode cX7_loadOfKinds 40 = .ok (.iload 7, 2) := by decide +kernel
theorem dX7_loadOfKinds_42 : decode cX7_loadOfKinds 42 = .ok (.iadd, 1) := by decide +kernel
theorem dX7_loadOfKinds_43 : decode cX7_loadOfKinds 43 = .ok (.istore 5, 2) := by decide +kernel
theorem dX7_loadOfKinds_45 : decode cX7_loadOfKinds 45 = .ok (.iinc 6 1, 3) := by decide +kernel
theorem dX7_loadOfKinds_48 : decode cX7_loadOfKinds 48 = .ok (.goto (-42), 3) := by decide +kernel
theorem dX7_loadOfKinds_51 : decode cX7_loadOfKinds 51 = .ok (.iload 5, 2) := by decide +kernel
theorem dX7_loadOfKinds_53 : decode cX7_loadOfKinds 53 = .ok (.ireturn, 1) := by decide +kernel
theorem dX7_fetchOf_0 : decode cX7_fetchOf 0 = .ok (.aload_n 2, 1) := by decide +kernel
theorem dX7_fetchOf_1 : decode cX7_fetchOf 1 = .ok (.getfield 61, 3) := by decide +kernel
theorem dX7_fetchOf_4 : decode cX7_fetchOf 4 = .ok (.getfield 32, 3) := by decide +kernel
theorem dX7_fetchOf_7 : decode cX7_fetchOf 7 = .ok (.astore 8, 2) := by decide +kernel
theorem dX7_fetchOf_9 : decode cX7_fetchOf 9 = .ok (.aload_n 0, 1) := by decide +kernel
theorem dX7_fetchOf_10 : decode cX7_fetchOf 10 = .ok (.aload_n 1, 1) := by decide +kernel
theorem dX7_fetchOf_11 : decode cX7_fetchOf 11 = .ok (.iload_n 3, 1) := by decide +kernel
theorem dX7_fetchOf_12 : decode cX7_fetchOf 12 = .ok (.iload 4, 2) := by decide +kernel
theorem dX7_fetchOf_14 : decode cX7_fetchOf 14 = .ok (.iload 5, 2) := by decide +kernel
theorem dX7_fetchOf_16 : decode cX7_fetchOf 16 = .ok (.invokevirtual 67, 3) := by decide +kernel
theorem dX7_fetchOf_19 : decode cX7_fetchOf 19 = .ok (.invokevirtual 28, 3) := by decide +kernel
theorem dX7_fetchOf_22 : decode cX7_fetchOf 22 = .ok (.bipush 7, 2) := by decide +kernel
theorem dX7_fetchOf_24 : decode cX7_fetchOf 24 = .ok (.istore 9, 2) := by decide +kernel
theorem dX7_fetchOf_26 : decode cX7_fetchOf 26 = .ok (.iload 9, 2) := by decide +kernel
theorem dX7_fetchOf_28 : decode cX7_fetchOf 28 = .ok (.ifCond .lt 125, 3) := by decide +kernel
theorem dX7_fetchOf_31 : decode cX7_fetchOf 31 = .ok (.aload_n 2, 1) := by decide +kernel
theorem dX7_fetchOf_32 : decode cX7_fetchOf 32 = .ok (.iload 9, 2) := by decide +kernel
theorem dX7_fetchOf_34 : decode cX7_fetchOf 34 = .ok (.invokevirtual 72, 3) := by decide +kernel
theorem dX7_fetchOf_37 : decode cX7_fetchOf 37 = .ok (.ifCond .eq 19, 3) := by decide +kernel
theorem dX7_fetchOf_40 : decode cX7_fetchOf 40 = .ok (.aload_n 1, 1) := by decide +kernel
theorem dX7_fetchOf_41 : decode cX7_fetchOf 41 = .ok (.iload_n 3, 1) := by decide +kernel
theorem dX7_fetchOf_42 : decode cX7_fetchOf 42 = .ok (.iload 9, 2) := by decide +kernel
theorem dX7_fetchOf_44 : decode cX7_fetchOf 44 = .ok (.iload 4, 2) := by decide +kernel
theorem dX7_fetchOf_46 : decode cX7_fetchOf 46 = .ok (.invokevirtual 75, 3) := by decide +kernel
theorem dX7_fetchOf_49 : decode cX7_fetchOf 49 = .ok (.ifCond .ne 7, 3) := by decide +kernel
theorem dX7_fetchOf_52 : decode cX7_fetchOf 52 = .ok (.iconst 1, 1) := by decide +kernel
theorem dX7_fetchOf_53 : decode cX7_fetchOf 53 = .ok (.goto 4, 3) := by decide +kernel
theorem dX7_fetchOf_56 : decode cX7_fetchOf 56 = .ok (.iconst 0, 1) := by decide +kernel
theorem dX7_fetchOf_57 : decode cX7_fetchOf 57 = .ok (.istore 10, 2) := by decide +kernel
theorem dX7_fetchOf_59 : decode cX7_fetchOf 59 = .ok (.aload 8, 2) := by decide +kernel
theorem dX7_fetchOf_61 : decode cX7_fetchOf 61 = .ok (.getfield 36, 3) := by decide +kernel
theorem dX7_fetchOf_64 : decode cX7_fetchOf 64 = .ok (.iconst 1, 1) := by decide +kernel
theorem dX7_fetchOf_65 : decode cX7_fetchOf 65 = .ok (.isub, 1) := by decide +kernel
theorem dX7_fetchOf_66 : decode cX7_fetchOf 66 = .ok (.istore 11, 2) := by decide +kernel
theorem dX7_fetchOf_68 : decode cX7_fetchOf 68 = .ok (.iload 11, 2) := by decide +kernel
theorem dX7_fetchOf_70 : decode cX7_fetchOf 70 = .ok (.ifCond .lt 77, 3) := by decide +kernel
theorem dX7_fetchOf_73 : decode cX7_fetchOf 73 = .ok (.iload 10, 2) := by decide +kernel
theorem dX7_fetchOf_75 : decode cX7_fetchOf 75 = .ok (.ifCond .eq 72, 3) := by decide +kernel
theorem dX7_fetchOf_78 : decode cX7_fetchOf 78 = .ok (.aload 8, 2) := by decide +kernel
theorem dX7_fetchOf_80 : decode cX7_fetchOf 80 = .ok (.iload 11, 2) := by decide +kernel
theorem dX7_fetchOf_82 : decode cX7_fetchOf 82 = .ok (.iconst 0, 1) := by decide +kernel
theorem dX7_fetchOf_83 : decode cX7_fetchOf 83 = .ok (.invokevirtual 41, 3) := by decide +kernel
theorem dX7_fetchOf_86 : decode cX7_fetchOf 86 = .ok (.iload 5, 2) := by decide +kernel
theorem dX7_fetchOf_88 : decode cX7_fetchOf 88 = .ok (.if_icmp .ne 53, 3) := by decide +kernel
theorem dX7_fetchOf_91 : decode cX7_fetchOf 91 = .ok (.aload_n 0, 1) := by decide +kernel
theorem dX7_fetchOf_92 : decode cX7_fetchOf 92 = .ok (.aload_n 2, 1) := by decide +kernel
theorem dX7_fetchOf_93 : decode cX7_fetchOf 93 = .ok (.iload 9, 2) := by decide +kernel
theorem dX7_fetchOf_95 : decode cX7_fetchOf 95 = .ok (.iload 11, 2) := by decide +kernel
theorem dX7_fetchOf_97 : decode cX7_fetchOf 97 = .ok (.invokevirtual 79, 3) := by decide +kernel
theorem dX7_fetchOf_100 : decode cX7_fetchOf 100 = .ok (.aload 8, 2) := by decide +kernel
theorem dX7_fetchOf_102 : decode cX7_fetchOf 102 = .ok (.iload 11, 2) := by decide +kernel
theorem dX7_fetchOf_104 : decode cX7_fetchOf 104 = .ok (.iconst 1, 1) := by decide +kernel
theorem dX7_fetchOf_105 : decode cX7_fetchOf 105 = .ok (.invokevirtual 41, 3) := by decide +kernel
theorem dX7_fetchOf_108 : decode cX7_fetchOf 108 = .ok (.aload_n 2, 1) := by decide +kernel
theorem dX7_fetchOf_109 : decode cX7_fetchOf 109 = .ok (.iload_n 3, 1) := by decide +kernel
theorem dX7_fetchOf_110 : decode cX7_fetchOf 110 = .ok (.iload 9, 2) := by decide +kernel
theorem dX7_fetchOf_112 : decode cX7_fetchOf 112 = .ok (.iload 11, 2) := by decide +kernel
theorem dX7_fetchOf_114 : decode cX7_fetchOf 114 = .ok (.iload 4, 2) := by decide +kernel
theorem dX7_fetchOf_116 : decode cX7_fetchOf 116 = .ok (.invokevirtual 82, 3) := by decide +kernel
theorem dX7_fetchOf_119 : decode cX7_fetchOf 119 = .ok (.iload 9, 2) := by decide +kernel
theorem dX7_fetchOf_121 : decode cX7_fetchOf 121 = .ok (.iload 6, 2) := by decide +kernel
theorem dX7_fetchOf_123 : decode cX7_fetchOf 123 = .ok (.if_icmp .ne 14, 3) := by decide +kernel
theorem dX7_fetchOf_126 : decode cX7_fetchOf 126 = .ok (.iload 11, 2) := by decide +kernel
theorem dX7_fetchOf_128 : decode cX7_fetchOf 128 = .ok (.iload 7, 2) := by decide +kernel
theorem dX7_fetchOf_130 : decode cX7_fetchOf 130 = .ok (.if_icmp .ne 7, 3) := by decide +kernel
theorem dX7_fetchOf_133 : decode cX7_fetchOf 133 = .ok (.iconst 1, 1) := by decide +kernel
theorem dX7_fetchOf_134 : decode cX7_fetchOf 134 = .ok (.goto 4, 3) := by decide +kernel
theorem dX7_fetchOf_137 : decode cX7_fetchOf 137 = .ok (.iconst 0, 1) := by decide +kernel
theorem dX7_fetchOf_138 : decode cX7_fetchOf 138 = .ok (.invokevirtual 45, 3) := by decide +kernel
theorem dX7_fetchOf_141 : decode cX7_fetchOf 141 = .ok (.iinc 11 (-1), 3) := by decide +kernel
theorem dX7_fetchOf_144 : decode cX7_fetchOf 144 = .ok (.goto (-76), 3) := by decide +kernel
theorem dX7_fetchOf_147 : decode cX7_fetchOf 147 = .ok (.iinc 9 (-1), 3) := by decide +kernel
theorem dX7_fetchOf_150 : decode cX7_fetchOf 150 = .ok (.goto (-124), 3) := by decide +kernel
theorem dX7_fetchOf_153 : decode cX7_fetchOf 153 = .ok (.aload_n 0, 1) := by decide +kernel
theorem dX7_fetchOf_154 : decode cX7_fetchOf 154 = .ok (.aload_n 0, 1) := by decide +kernel
theorem dX7_fetchOf_155 : decode cX7_fetchOf 155 = .ok (.getfield 18, 3) := by decide +kernel
theorem dX7_fetchOf_158 : decode cX7_fetchOf 158 = .ok (.invokevirtual 49, 3) := by decide +kernel
theorem dX7_fetchOf_161 : decode cX7_fetchOf 161 = .ok (.ireturn, 1) := by decide +kernel
theorem dX7_begin_0 : decode cX7_begin 0 = .ok (.aload_n 0, 1) := by decide +kernel
theorem dX7_begin_1 : decode cX7_begin 1 = .ok (.iconst 0, 1) := by decide +kernel
theorem dX7_begin_2 : decode cX7_begin 2 = .ok (.iload_n 1, 1) := by decide +kernel
theorem dX7_begin_3 : decode cX7_begin 3 = .ok (.aload_n 0, 1) := by decide +kernel
theorem dX7_begin_4 : decode cX7_begin 4 = .ok (.getfield 9, 3) := by decide +kernel
theorem dX7_begin_7 : decode cX7_begin 7 = .ok (.arraylength, 1) := by decide +kernel
theorem dX7_begin_8 : decode cX7_begin 8 = .ok (.iconst 1, 1) := by decide +kernel
theorem dX7_begin_9 : decode cX7_begin 9 = .ok (.isub, 1) := by decide +kernel
theorem dX7_begin_10 : decode cX7_begin 10 = .ok (.invokestatic 86, 3) := by decide +kernel
theorem dX7_begin_13 : decode cX7_begin 13 = .ok (.invokestatic 91, 3) := by decide +kernel
theorem dX7_begin_16 : decode cX7_begin 16 = .ok (.putfield 18, 3) := by decide +kernel
theorem dX7_begin_19 : decode cX7_begin 19 = .ok (.iconst 0, 1) := by decide +kernel
theorem dX7_begin_20 : decode cX7_begin 20 = .ok (.istore_n 2, 1) := by decide +kernel
theorem dX7_begin_21 : decode cX7_begin 21 = .ok (.iload_n 2, 1) := by decide +kernel
theorem dX7_begin_22 : decode cX7_begin 22 = .ok (.aload_n 0, 1) := by decide +kernel
theorem dX7_begin_23 : decode cX7_begin 23 = .ok (.getfield 18, 3) := by decide +kernel
theorem dX7_begin_26 : decode cX7_begin 26 = .ok (.if_icmp .gt 31, 3) := by decide +kernel
theorem dX7_begin_29 : decode cX7_begin 29 = .ok (.aload_n 0, 1) := by decide +kernel
theorem dX7_begin_30 : decode cX7_begin 30 = .ok (.getfield 9, 3) := by decide +kernel
theorem dX7_begin_33 : decode cX7_begin 33 = .ok (.iload_n 2, 1) := by decide +kernel
theorem dX7_begin_34 : decode cX7_begin 34 = .ok (.iload_n 2, 1) := by decide +kernel
theorem dX7_begin_35 : decode cX7_begin 35 = .ok (.ifCond .ne 7, 3) := by decide +kernel
theorem dX7_begin_38 : decode cX7_begin 38 = .ok (.iconst 0, 1) := by decide +kernel
theorem dX7_begin_39 : decode cX7_begin 39 = .ok (.goto 4, 3) := by decide +kernel
theorem dX7_begin_42 : decode cX7_begin 42 = .ok (.iconst (-1), 1) := by decide +kernel
theorem dX7_begin_43 : decode cX7_begin 43 = .ok (.iastore, 1) := by decide +kernel
theorem dX7_begin_44 : decode cX7_begin 44 = .ok (.aload_n 0, 1) := by decide +kernel
theorem dX7_begin_45 : decode cX7_begin 45 = .ok (.getfield 15, 3) := by decide +kernel
theorem dX7_begin_48 : decode cX7_begin 48 = .ok (.iload_n 2, 1) := by decide +kernel
theorem dX7_begin_49 : decode cX7_begin 49 = .ok (.iconst 0, 1) := by decide +kernel
theorem dX7_begin_50 : decode cX7_begin 50 = .ok (.iastore, 1) := by decide +kernel
theorem dX7_begin_51 : decode cX7_begin 51 = .ok (.iinc 2 1, 3) := by decide +kernel
theorem dX7_begin_54 : decode cX7_begin 54 = .ok (.goto (-33), 3) := by decide +kernel
theorem dX7_begin_57 : decode cX7_begin 57 = .ok (.return_, 1) := by decide +kernel
theorem dX7_offer_0 : decode cX7_offer 0 = .ok (.aload_n 0, 1) := by decide +kernel
theorem dX7_offer_1 : decode cX7_offer 1 = .ok (.getfield 18, 3) := by decide +kernel
theorem dX7_offer_4 : decode cX7_offer 4 = .ok (.istore 5, 2) := by decide +kernel
theorem dX7_offer_6 : decode cX7_offer 6 = .ok (.iload 5, 2) := by decide +kernel
theorem dX7_offer_8 : decode cX7_offer 8 = .ok (.ifCond .le 142, 3) := by decide +kernel
theorem dX7_offer_11 : decode cX7_offer 11 = .ok (.iconst 0, 1) := by decide +kernel
theorem dX7_offer_12 : decode cX7_offer 12 = .ok (.istore 6, 2) := by decide +kernel
theorem dX7_offer_14 : decode cX7_offer 14 = .ok (.iload 5, 2) := by decide +kernel
theorem dX7_offer_16 : decode cX7_offer 16 = .ok (.istore 7, 2) := by decide +kernel
theorem dX7_offer_18 : decode cX7_offer 18 = .ok (.aload_n 0, 1) := by decide +kernel
theorem dX7_offer_19 : decode cX7_offer 19 = .ok (.getfield 9, 3) := by decide +kernel
theorem dX7_offer_22 : decode cX7_offer 22 = .ok (.iload 5, 2) := by decide +kernel
theorem dX7_offer_24 : decode cX7_offer 24 = .ok (.iaload, 1) := by decide +kernel
theorem dX7_offer_25 : decode cX7_offer 25 = .ok (.istore 8, 2) := by decide +kernel
theorem dX7_offer_27 : decode cX7_offer 27 = .ok (.iconst 1, 1) := by decide +kernel
theorem dX7_offer_28 : decode cX7_offer 28 = .ok (.istore 9, 2) := by decide +kernel
theorem dX7_offer_30 : decode cX7_offer 30 = .ok (.iload 9, 2) := by decide +kernel
theorem dX7_offer_32 : decode cX7_offer 32 = .ok (.iload_n 1, 1) := by decide +kernel
theorem dX7_offer_33 : decode cX7_offer 33 = .ok (.if_icmp .gt 78, 3) := by decide +kernel
theorem dX7_offer_36 : decode cX7_offer 36 = .ok (.iconst 0, 1) := by decide +kernel
theorem dX7_offer_37 : decode cX7_offer 37 = .ok (.iload 5, 2) := by decide +kernel
theorem dX7_offer_39 : decode cX7_offer 39 = .ok (.iload 9, 2) := by decide +kernel
theorem dX7_offer_41 : decode cX7_offer 41 = .ok (.iload_n 2, 1) := by decide +kernel
theorem dX7_offer_42 : decode cX7_offer 42 = .ok (.imul, 1) := by decide +kernel
theorem dX7_offer_43 : decode cX7_offer 43 = .ok (.isub, 1) := by decide +kernel
theorem dX7_offer_44 : decode cX7_offer 44 = .ok (.invokestatic 91, 3) := by decide +kernel
theorem dX7_offer_47 : decode cX7_offer 47 = .ok (.istore 10, 2) := by decide +kernel
theorem dX7_offer_49 : decode cX7_offer 49 = .ok (.aload_n 0, 1) := by decide +kernel
theorem dX7_offer_50 : decode cX7_offer 50 = .ok (.getfield 9, 3) := by decide +kernel
theorem dX7_offer_53 : decode cX7_offer 53 = .ok (.iload 10, 2) := by decide +kernel
theorem dX7_offer_55 : decode cX7_offer 55 = .ok (.iaload, 1) := by decide +kernel
theorem dX7_offer_56 : decode cX7_offer 56 = .ok (.iconst (-1), 1) := by decide +kernel
theorem dX7_offer_57 : decode cX7_offer 57 = .ok (.if_icmp .eq 48, 3) := by decide +kernel
theorem dX7_offer_60 : decode cX7_offer 60 = .ok (.iload 8, 2) := by decide +kernel
theorem dX7_offer_62 : decode cX7_offer 62 = .ok (.iconst (-1), 1) := by decide +kernel
theorem dX7_offer_63 : decode cX7_offer 63 = .ok (.if_icmp .eq 20, 3) := by decide +kernel
theorem dX7_offer_66 : decode cX7_offer 66 = .ok (.aload_n 0, 1) := by decide +kernel
theorem dX7_offer_67 : decode cX7_offer 67 = .ok (.getfield 9, 3) := by decide +kernel
theorem dX7_offer_70 : decode cX7_offer 70 = .ok (.iload 10, 2) := by decide +kernel
theorem dX7_offer_72 : decode cX7_offer 72 = .ok (.iaload, 1) := by decide +kernel
theorem dX7_offer_73 : decode cX7_offer 73 = .ok (.iload 9, 2) := by decide +kernel
theorem dX7_offer_75 : decode cX7_offer 75 = .ok (.iload_n 3, 1) := by decide +kernel
theorem dX7_offer_76 : decode cX7_offer 76 = .ok (.imul, 1) := by decide +kernel
theorem dX7_offer_77 : decode cX7_offer 77 = .ok (.iadd, 1) := by decide +kernel
theorem dX7_offer_78 : decode cX7_offer 78 = .ok (.iload 8, 2) := by decide +kernel
theorem dX7_offer_80 : decode cX7_offer 80 = .ok (.if_icmp .ge 25, 3) := by decide +kernel
theorem dX7_offer_83 : decode cX7_offer 83 = .ok (.aload_n 0, 1) := by decide +kernel
theorem dX7_offer_84 : decode cX7_offer 84 = .ok (.getfield 9, 3) := by decide +kernel
theorem dX7_offer_87 : decode cX7_offer 87 = .ok (.iload 10, 2) := by decide +kernel
theorem dX7_offer_89 : decode cX7_offer 89 = .ok (.iaload, 1) := by decide +kernel
theorem dX7_offer_90 : decode cX7_offer 90 = .ok (.iload 9, 2) := by decide +kernel
theorem dX7_offer_92 : decode cX7_offer 92 = .ok (.iload_n 3, 1) := by decide +kernel
theorem dX7_offer_93 : decode cX7_offer 93 = .ok (.imul, 1) := by decide +kernel
theorem dX7_offer_94 : decode cX7_offer 94 = .ok (.iadd, 1) := by decide +kernel
theorem dX7_offer_95 : decode cX7_offer 95 = .ok (.istore 8, 2) := by decide +kernel
theorem dX7_offer_97 : decode cX7_offer 97 = .ok (.iload 9, 2) := by decide +kernel
theorem dX7_offer_99 : decode cX7_offer 99 = .ok (.istore 6, 2) := by decide +kernel
theorem dX7_offer_101 : decode cX7_offer 101 = .ok (.iload 10, 2) := by decide +kernel
theorem dX7_offer_103 : decode cX7_offer 103 = .ok (.istore 7, 2) := by decide +kernel
theorem dX7_offer_105 : decode cX7_offer 105 = .ok (.iinc 9 1, 3) := by decide +kernel
theorem dX7_offer_108 : decode cX7_offer 108 = .ok (.goto (-78), 3) := by decide +kernel
theorem dX7_offer_111 : decode cX7_offer 111 = .ok (.aload_n 0, 1) := by decide +kernel
theorem dX7_offer_112 : decode cX7_offer 112 = .ok (.getfield 9, 3) := by decide +kernel
theorem dX7_offer_115 : decode cX7_offer 115 = .ok (.iload 5, 2) := by decide +kernel
theorem dX7_offer_117 : decode cX7_offer 117 = .ok (.iload 8, 2) := by decide +kernel
theorem dX7_offer_119 : decode cX7_offer 119 = .ok (.iastore, 1) := by decide +kernel
theorem dX7_offer_120 : decode cX7_offer 120 = .ok (.aload_n 0, 1) := by decide +kernel
theorem dX7_offer_121 : decode cX7_offer 121 = .ok (.getfield 15, 3) := by decide +kernel
theorem dX7_offer_124 : decode cX7_offer 124 = .ok (.iload 5, 2) := by decide +kernel
theorem dX7_offer_126 : decode cX7_offer 126 = .ok (.iload 4, 2) := by decide +kernel
theorem dX7_offer_128 : decode cX7_offer 128 = .ok (.ifCond .eq 8, 3) := by decide +kernel
theorem dX7_offer_131 : decode cX7_offer 131 = .ok (.iload 6, 2) := by decide +kernel
theorem dX7_offer_133 : decode cX7_offer 133 = .ok (.goto 10, 3) := by decide +kernel
theorem dX7_offer_136 : decode cX7_offer 136 = .ok (.aload_n 0, 1) := by decide +kernel
theorem dX7_offer_137 : decode cX7_offer 137 = .ok (.getfield 15, 3) := by decide +kernel
theorem dX7_offer_140 : decode cX7_offer 140 = .ok (.iload 7, 2) := by decide +kernel
theorem dX7_offer_142 : decode cX7_offer 142 = .ok (.iaload, 1) := by decide +kernel
theorem dX7_offer_143 : decode cX7_offer 143 = .ok (.iastore, 1) := by decide +kernel
theorem dX7_offer_144 : decode cX7_offer 144 = .ok (.iinc 5 (-1), 3) := by decide +kernel
theorem dX7_offer_147 : decode cX7_offer 147 = .ok (.goto (-141), 3) := by decide +kernel
theorem dX7_offer_150 : decode cX7_offer 150 = .ok (.return_, 1) := by decide +kernel
theorem dX8_has_0 : decode cX8_has 0 = .ok (.iload_n 1, 1) := by decide +kernel
theorem dX8_has_1 : decode cX8_has 1 = .ok (.ifCond .lt 15, 3) := by decide +kernel
theorem dX8_has_4 : decode cX8_has 4 = .ok (.iload_n 1, 1) := by decide +kernel
theorem dX8_has_5 : decode cX8_has 5 = .ok (.aload_n 0, 1) := by decide +kernel
theorem dX8_has_6 : decode cX8_has 6 = .ok (.getfield 20, 3) := by decide +kernel
theorem dX8_has_9 : decode cX8_has 9 = .ok (.if_icmp .ge 7, 3) := by decide +kernel
theorem dX8_has_12 : decode cX8_has 12 = .ok (.iconst 1, 1) := by decide +kernel
theorem dX8_has_13 : decode cX8_has 13 = .ok (.goto 4, 3) := by decide +kernel
theorem dX8_has_16 : decode cX8_has 16 = .ok (.iconst 0, 1) := by decide +kernel
theorem dX8_has_17 : decode cX8_has 17 = .ok (.ireturn, 1) := by decide +kernel
theorem dX8_isFull_0 : decode cX8_isFull 0 = .ok (.aload_n 0, 1) := by decide +kernel
theorem dX8_isFull_1 : decode cX8_isFull 1 = .ok (.getfield 20, 3) := by decide +kernel
theorem dX8_isFull_4 : decode cX8_isFull 4 = .ok (.aload_n 0, 1) := by decide +kernel
theorem dX8_isFull_5 : decode cX8_isFull 5 = .ok (.getfield 15, 3) := by decide +kernel
theorem dX8_isFull_8 : decode cX8_isFull 8 = .ok (.arraylength, 1) := by decide +kernel
theorem dX8_isFull_9 : decode cX8_isFull 9 = .ok (.if_icmp .lt 7, 3) := by decide +kernel
theorem dX8_isFull_12 : decode cX8_isFull 12 = .ok (.iconst 1, 1) := by decide +kernel
theorem dX8_isFull_13 : decode cX8_isFull 13 = .ok (.goto 4, 3) := by decide +kernel
theorem dX8_isFull_16 : decode cX8_isFull 16 = .ok (.iconst 0, 1) := by decide +kernel
theorem dX8_isFull_17 : decode cX8_isFull 17 = .ok (.ireturn, 1) := by decide +kernel
theorem dX8_at_0 : decode cX8_at 0 = .ok (.iload_n 1, 1) := by decide +kernel
theorem dX8_at_1 : decode cX8_at 1 = .ok (.ifCond .lt 27, 3) := by decide +kernel
theorem dX8_at_4 : decode cX8_at 4 = .ok (.iload_n 1, 1) := by decide +kernel
theorem dX8_at_5 : decode cX8_at 5 = .ok (.aload_n 0, 1) := by decide +kernel
theorem dX8_at_6 : decode cX8_at 6 = .ok (.getfield 15, 3) := by decide +kernel
theorem dX8_at_9 : decode cX8_at 9 = .ok (.arraylength, 1) := by decide +kernel
theorem dX8_at_10 : decode cX8_at 10 = .ok (.if_icmp .ge 18, 3) := by decide +kernel
theorem dX8_at_13 : decode cX8_at 13 = .ok (.iload_n 2, 1) := by decide +kernel
theorem dX8_at_14 : decode cX8_at 14 = .ok (.ifCond .lt 14, 3) := by decide +kernel
theorem dX8_at_17 : decode cX8_at 17 = .ok (.iload_n 2, 1) := by decide +kernel
theorem dX8_at_18 : decode cX8_at 18 = .ok (.aload_n 0, 1) := by decide +kernel
theorem dX8_at_19 : decode cX8_at 19 = .ok (.getfield 15, 3) := by decide +kernel
theorem dX8_at_22 : decode cX8_at 22 = .ok (.iload_n 1, 1) := by decide +kernel
theorem dX8_at_23 : decode cX8_at 23 = .ok (.aaload, 1) := by decide +kernel
theorem dX8_at_24 : decode cX8_at 24 = .ok (.arraylength, 1) := by decide +kernel
theorem dX8_at_25 : decode cX8_at 25 = .ok (.if_icmp .lt 5, 3) := by decide +kernel
theorem dX8_at_28 : decode cX8_at 28 = .ok (.iconst 0, 1) := by decide +kernel
theorem dX8_at_29 : decode cX8_at 29 = .ok (.ireturn, 1) := by decide +kernel
theorem dX8_at_30 : decode cX8_at 30 = .ok (.aload_n 0, 1) := by decide +kernel
theorem dX8_at_31 : decode cX8_at 31 = .ok (.getfield 15, 3) := by decide +kernel
theorem dX8_at_34 : decode cX8_at 34 = .ok (.iload_n 1, 1) := by decide +kernel
theorem dX8_at_35 : decode cX8_at 35 = .ok (.aaload, 1) := by decide +kernel
theorem dX8_at_36 : decode cX8_at 36 = .ok (.iload_n 2, 1) := by decide +kernel
theorem dX8_at_37 : decode cX8_at 37 = .ok (.iaload, 1) := by decide +kernel
theorem dX8_at_38 : decode cX8_at 38 = .ok (.ireturn, 1) := by decide +kernel
theorem dX8_tell_0 : decode cX8_tell 0 = .ok (.aload_n 0, 1) := by decide +kernel
theorem dX8_tell_1 : decode cX8_tell 1 = .ok (.getfield 20, 3) := by decide +kernel
theorem dX8_tell_4 : decode cX8_tell 4 = .ok (.ifCond .lt 45, 3) := by decide +kernel
theorem dX8_tell_7 : decode cX8_tell 7 = .ok (.aload_n 0, 1) := by decide +kernel
theorem dX8_tell_8 : decode cX8_tell 8 = .ok (.getfield 20, 3) := by decide +kernel
theorem dX8_tell_11 : decode cX8_tell 11 = .ok (.aload_n 0, 1) := by decide +kernel
theorem dX8_tell_12 : decode cX8_tell 12 = .ok (.getfield 15, 3) := by decide +kernel
theorem dX8_tell_15 : decode cX8_tell 15 = .ok (.arraylength, 1) := by decide +kernel
theorem dX8_tell_16 : decode cX8_tell 16 = .ok (.if_icmp .ge 33, 3) := by decide +kernel
theorem dX8_tell_19 : decode cX8_tell 19 = .ok (.iload_n 1, 1) := by decide +kernel
theorem dX8_tell_20 : decode cX8_tell 20 = .ok (.ifCond .lt 29, 3) := by decide +kernel
theorem dX8_tell_23 : decode cX8_tell 23 = .ok (.iload_n 1, 1) := by decide +kernel
theorem dX8_tell_24 : decode cX8_tell 24 = .ok (.aload_n 0, 1) := by decide +kernel
theorem dX8_tell_25 : decode cX8_tell 25 = .ok (.getfield 15, 3) := by decide +kernel
theorem dX8_tell_28 : decode cX8_tell 28 = .ok (.aload_n 0, 1) := by decide +kernel
theorem dX8_tell_29 : decode cX8_tell 29 = .ok (.getfield 20, 3) := by decide +kernel
theorem dX8_tell_32 : decode cX8_tell 32 = .ok (.aaload, 1) := by decide +kernel
theorem dX8_tell_33 : decode cX8_tell 33 = .ok (.arraylength, 1) := by decide +kernel
theorem dX8_tell_34 : decode cX8_tell 34 = .ok (.if_icmp .ge 15, 3) := by decide +kernel
theorem dX8_tell_37 : decode cX8_tell 37 = .ok (.aload_n 0, 1) := by decide +kernel
theorem dX8_tell_38 : decode cX8_tell 38 = .ok (.getfield 15, 3) := by decide +kernel
theorem dX8_tell_41 : decode cX8_tell 41 = .ok (.aload_n 0, 1) := by decide +kernel
theorem dX8_tell_42 : decode cX8_tell 42 = .ok (.getfield 20, 3) := by decide +kernel
theorem dX8_tell_45 : decode cX8_tell 45 = .ok (.aaload, 1) := by decide +kernel
theorem dX8_tell_46 : decode cX8_tell 46 = .ok (.iload_n 1, 1) := by decide +kernel
theorem dX8_tell_47 : decode cX8_tell 47 = .ok (.iload_n 2, 1) := by decide +kernel
theorem dX8_tell_48 : decode cX8_tell 48 = .ok (.iastore, 1) := by decide +kernel
theorem dX8_tell_49 : decode cX8_tell 49 = .ok (.return_, 1) := by decide +kernel
theorem dX8_add_0 : decode cX8_add 0 = .ok (.aload_n 0, 1) := by decide +kernel
theorem dX8_add_1 : decode cX8_add 1 = .ok (.invokevirtual 24, 3) := by decide +kernel
theorem dX8_add_4 : decode cX8_add 4 = .ok (.ifCond .ne 13, 3) := by decide +kernel
theorem dX8_add_7 : decode cX8_add 7 = .ok (.aload_n 0, 1) := by decide +kernel
theorem dX8_add_8 : decode cX8_add 8 = .ok (.dup, 1) := by decide +kernel
theorem dX8_add_9 : decode cX8_add 9 = .ok (.getfield 20, 3) := by decide +kernel
theorem dX8_add_12 : decode cX8_add 12 = .ok (.iconst 1, 1) := by decide +kernel
theorem dX8_add_13 : decode cX8_add 13 = .ok (.iadd, 1) := by decide +kernel
theorem dX8_add_14 : decode cX8_add 14 = .ok (.putfield 20, 3) := by decide +kernel
theorem dX8_add_17 : decode cX8_add 17 = .ok (.return_, 1) := by decide +kernel
theorem dX8_copyFrom_0 : decode cX8_copyFrom 0 = .ok (.aload_n 0, 1) := by decide +kernel
theorem dX8_copyFrom_1 : decode cX8_copyFrom 1 = .ok (.aload_n 1, 1) := by decide +kernel
theorem dX8_copyFrom_2 : decode cX8_copyFrom 2 = .ok (.getfield 20, 3) := by decide +kernel
theorem dX8_copyFrom_5 : decode cX8_copyFrom 5 = .ok (.aload_n 0, 1) := by decide +kernel
theorem dX8_copyFrom_6 : decode cX8_copyFrom 6 = .ok (.getfield 15, 3) := by decide +kernel
theorem dX8_copyFrom_9 : decode cX8_copyFrom 9 = .ok (.arraylength, 1) := by decide +kernel
theorem dX8_copyFrom_10 : decode cX8_copyFrom 10 = .ok (.invokestatic 28, 3) := by decide +kernel
theorem dX8_copyFrom_13 : decode cX8_copyFrom 13 = .ok (.putfield 20, 3) := by decide +kernel
theorem dX8_copyFrom_16 : decode cX8_copyFrom 16 = .ok (.iconst 0, 1) := by decide +kernel
theorem dX8_copyFrom_17 : decode cX8_copyFrom 17 = .ok (.istore_n 2, 1) := by decide +kernel
theorem dX8_copyFrom_18 : decode cX8_copyFrom 18 = .ok (.iload_n 2, 1) := by decide +kernel
theorem dX8_copyFrom_19 : decode cX8_copyFrom 19 = .ok (.aload_n 0, 1) := by decide +kernel
theorem dX8_copyFrom_20 : decode cX8_copyFrom 20 = .ok (.getfield 20, 3) := by decide +kernel
theorem dX8_copyFrom_23 : decode cX8_copyFrom 23 = .ok (.if_icmp .ge 42, 3) := by decide +kernel
theorem dX8_copyFrom_26 : decode cX8_copyFrom 26 = .ok (.iconst 0, 1) := by decide +kernel
theorem dX8_copyFrom_27 : decode cX8_copyFrom 27 = .ok (.istore_n 3, 1) := by decide +kernel
theorem dX8_copyFrom_28 : decode cX8_copyFrom 28 = .ok (.iload_n 3, 1) := by decide +kernel
theorem dX8_copyFrom_29 : decode cX8_copyFrom 29 = .ok (.aload_n 0, 1) := by decide +kernel
theorem dX8_copyFrom_30 : decode cX8_copyFrom 30 = .ok (.getfield 15, 3) := by decide +kernel
theorem dX8_copyFrom_33 : decode cX8_copyFrom 33 = .ok (.iload_n 2, 1) := by decide +kernel
theorem dX8_copyFrom_34 : decode cX8_copyFrom 34 = .ok (.aaload, 1) := by decide +kernel
theorem dX8_copyFrom_35 : decode cX8_copyFrom 35 = .ok (.arraylength, 1) := by decide +kernel
theorem dX8_copyFrom_36 : decode cX8_copyFrom 36 = .ok (.if_icmp .ge 23, 3) := by decide +kernel
theorem dX8_copyFrom_39 : decode cX8_copyFrom 39 = .ok (.aload_n 0, 1) := by decide +kernel
theorem dX8_copyFrom_40 : decode cX8_copyFrom 40 = .ok (.getfield 15, 3) := by decide +kernel
theorem dX8_copyFrom_43 : decode cX8_copyFrom 43 = .ok (.iload_n 2, 1) := by decide +kernel
theorem dX8_copyFrom_44 : decode cX8_copyFrom 44 = .ok (.aaload, 1) := by decide +kernel
theorem dX8_copyFrom_45 : decode cX8_copyFrom 45 = .ok (.iload_n 3, 1) := by decide +kernel
theorem dX8_copyFrom_46 : decode cX8_copyFrom 46 = .ok (.aload_n 1, 1) := by decide +kernel
theorem dX8_copyFrom_47 : decode cX8_copyFrom 47 = .ok (.iload_n 2, 1) := by decide +kernel
theorem dX8_copyFrom_48 : decode cX8_copyFrom 48 = .ok (.iload_n 3, 1) := by decide +kernel
theorem dX8_copyFrom_49 : decode cX8_copyFrom 49 = .ok (.invokevirtual 31, 3) := by decide +kernel
theorem dX8_copyFrom_52 : decode cX8_copyFrom 52 = .ok (.iastore, 1) := by decide +kernel
theorem dX8_copyFrom_53 : decode cX8_copyFrom 53 = .ok (.iinc 3 1, 3) := by decide +kernel
theorem dX8_copyFrom_56 : decode cX8_copyFrom 56 = .ok (.goto (-28), 3) := by decide +kernel
theorem dX8_copyFrom_59 : decode cX8_copyFrom 59 = .ok (.iinc 2 1, 3) := by decide +kernel
theorem dX8_copyFrom_62 : decode cX8_copyFrom 62 = .ok (.goto (-44), 3) := by decide +kernel
theorem dX8_copyFrom_65 : decode cX8_copyFrom 65 = .ok (.return_, 1) := by decide +kernel
theorem dX9_lostIfLaid_0 : decode cX9_lostIfLaid 0 = .ok (.aload_n 0, 1) := by decide +kernel
theorem dX9_lostIfLaid_1 : decode cX9_lostIfLaid 1 = .ok (.getfield 12, 3) := by decide +kernel
theorem dX9_lostIfLaid_4 : decode cX9_lostIfLaid 4 = .ok (.aload_n 1, 1) := by decide +kernel
theorem dX9_lostIfLaid_5 : decode cX9_lostIfLaid 5 = .ok (.invokevirtual 25, 3) := by decide +kernel
theorem dX9_lostIfLaid_8 : decode cX9_lostIfLaid 8 = .ok (.aload_n 0, 1) := by decide +kernel
theorem dX9_lostIfLaid_9 : decode cX9_lostIfLaid 9 = .ok (.getfield 12, 3) := by decide +kernel
theorem dX9_lostIfLaid_12 : decode cX9_lostIfLaid 12 = .ok (.iload_n 2, 1) := by decide +kernel
theorem dX9_lostIfLaid_13 : decode cX9_lostIfLaid 13 = .ok (.iload_n 3, 1) := by decide +kernel
theorem dX9_lostIfLaid_14 : decode cX9_lostIfLaid 14 = .ok (.invokevirtual 29, 3) := by decide +kernel
theorem dX9_lostIfLaid_17 : decode cX9_lostIfLaid 17 = .ok (.aload_n 0, 1) := by decide +kernel
theorem dX9_lostIfLaid_18 : decode cX9_lostIfLaid 18 = .ok (.getfield 21, 3) := by decide +kernel
theorem dX9_lostIfLaid_21 : decode cX9_lostIfLaid 21 = .ok (.aload_n 0, 1) := by decide +kernel
theorem dX9_lostIfLaid_22 : decode cX9_lostIfLaid 22 = .ok (.getfield 12, 3) := by decide +kernel
theorem dX9_lostIfLaid_25 : decode cX9_lostIfLaid 25 = .ok (.iconst 1, 1) := by decide +kernel
theorem dX9_lostIfLaid_26 : decode cX9_lostIfLaid 26 = .ok (.invokevirtual 33, 3) := by decide +kernel
theorem dX9_lostIfLaid_29 : decode cX9_lostIfLaid 29 = .ok (.lreturn, 1) := by decide +kernel
theorem dX9_bestLaying_0 : decode cX9_bestLaying 0 = .ok (.iconst 0, 1) := by decide +kernel
theorem dX9_bestLaying_1 : decode cX9_bestLaying 1 = .ok (.istore_n 2, 1) := by decide +kernel
theorem dX9_bestLaying_2 : decode cX9_bestLaying 2 = .ok (.aload_n 0, 1) := by decide +kernel
theorem dX9_bestLaying_3 : decode cX9_bestLaying 3 = .ok (.aload_n 1, 1) := by decide +kernel
theorem dX9_bestLaying_4 : decode cX9_bestLaying 4 = .ok (.iconst 0, 1) := by decide +kernel
theorem dX9_bestLaying_5 : decode cX9_bestLaying 5 = .ok (.bipush 8, 2) := by decide +kernel
theorem dX9_bestLaying_7 : decode cX9_bestLaying 7 = .ok (.invokevirtual 37, 3) := by decide +kernel
theorem dX9_bestLaying_10 : decode cX9_bestLaying 10 = .ok (.lstore_n 3, 1) := by decide +kernel
theorem dX9_bestLaying_11 : decode cX9_bestLaying 11 = .ok (.iconst 1, 1) := by decide +kernel
theorem dX9_bestLaying_12 : decode cX9_bestLaying 12 = .ok (.istore 5, 2) := by decide +kernel
theorem dX9_bestLaying_14 : decode cX9_bestLaying 14 = .ok (.iload 5, 2) := by decide +kernel
theorem dX9_bestLaying_16 : decode cX9_bestLaying 16 = .ok (.iconst 4, 1) := by decide +kernel
theorem dX9_bestLaying_17 : decode cX9_bestLaying 17 = .ok (.if_icmp .ge 33, 3) := by decide +kernel
theorem dX9_bestLaying_20 : decode cX9_bestLaying 20 = .ok (.aload_n 0, 1) := by decide +kernel
theorem dX9_bestLaying_21 : decode cX9_bestLaying 21 = .ok (.aload_n 1, 1) := by decide +kernel
theorem dX9_bestLaying_22 : decode cX9_bestLaying 22 = .ok (.iload 5, 2) := by decide +kernel
theorem dX9_bestLaying_24 : decode cX9_bestLaying 24 = .ok (.bipush 8, 2) := by decide +kernel
theorem dX9_bestLaying_26 : decode cX9_bestLaying 26 = .ok (.invokevirtual 37, 3) := by decide +kernel
theorem dX9_bestLaying_29 : decode cX9_bestLaying 29 = .ok (.lstore 6, 2) := by decide +kernel
theorem dX9_bestLaying_31 : decode cX9_bestLaying 31 = .ok (.lload 6, 2) := by decide +kernel
theorem dX9_bestLaying_33 : decode cX9_bestLaying 33 = .ok (.lload_n 3, 1) := by decide +kernel
theorem dX9_bestLaying_34 : decode cX9_bestLaying 34 = .ok (.lcmp, 1) := by decide +kernel
theorem dX9_bestLaying_35 : decode cX9_bestLaying 35 = .ok (.ifCond .ge 9, 3) := by decide +kernel
theorem dX9_bestLaying_38 : decode cX9_bestLaying 38 = .ok (.lload 6, 2) := by decide +kernel
theorem dX9_bestLaying_40 : decode cX9_bestLaying 40 = .ok (.lstore_n 3, 1) := by decide +kernel
theorem dX9_bestLaying_41 : decode cX9_bestLaying 41 = .ok (.iload 5, 2) := by decide +kernel
theorem dX9_bestLaying_43 : decode cX9_bestLaying 43 = .ok (.istore_n 2, 1) := by decide +kernel
theorem dX9_bestLaying_44 : decode cX9_bestLaying 44 = .ok (.iinc 5 1, 3) := by decide +kernel
theorem dX9_bestLaying_47 : decode cX9_bestLaying 47 = .ok (.goto (-33), 3) := by decide +kernel
theorem dX9_bestLaying_50 : decode cX9_bestLaying 50 = .ok (.iload_n 2, 1) := by decide +kernel
theorem dX9_bestLaying_51 : decode cX9_bestLaying 51 = .ok (.ireturn, 1) := by decide +kernel
theorem dX9_bestHeaps_0 : decode cX9_bestHeaps 0 = .ok (.iconst 1, 1) := by decide +kernel
theorem dX9_bestHeaps_1 : decode cX9_bestHeaps 1 = .ok (.istore_n 2, 1) := by decide +kernel
theorem dX9_bestHeaps_2 : decode cX9_bestHeaps 2 = .ok (.aload_n 0, 1) := by decide +kernel
theorem dX9_bestHeaps_3 : decode cX9_bestHeaps 3 = .ok (.aload_n 1, 1) := by decide +kernel
theorem dX9_bestHeaps_4 : decode cX9_bestHeaps 4 = .ok (.iconst 1, 1) := by decide +kernel
theorem dX9_bestHeaps_5 : decode cX9_bestHeaps 5 = .ok (.iconst 1, 1) := by decide +kernel
theorem dX9_bestHeaps_6 : decode cX9_bestHeaps 6 = .ok (.invokevirtual 37, 3) := by decide +kernel
theorem dX9_bestHeaps_9 : decode cX9_bestHeaps 9 = .ok (.lstore_n 3, 1) := by decide +kernel
theorem dX9_bestHeaps_10 : decode cX9_bestHeaps 10 = .ok (.iconst 2, 1) := by decide +kernel
theorem dX9_bestHeaps_11 : decode cX9_bestHeaps 11 = .ok (.istore 5, 2) := by decide +kernel
theorem dX9_bestHeaps_13 : decode cX9_bestHeaps 13 = .ok (.iload 5, 2) := by decide +kernel
theorem dX9_bestHeaps_15 : decode cX9_bestHeaps 15 = .ok (.aload_n 1, 1) := by decide +kernel
theorem dX9_bestHeaps_16 : decode cX9_bestHeaps 16 = .ok (.invokevirtual 41, 3) := by decide +kernel
theorem dX9_bestHeaps_19 : decode cX9_bestHeaps 19 = .ok (.if_icmp .gt 39, 3) := by decide +kernel
theorem dX9_bestHeaps_22 : decode cX9_bestHeaps 22 = .ok (.iload 5, 2) := by decide +kernel
theorem dX9_bestHeaps_24 : decode cX9_bestHeaps 24 = .ok (.bipush 8, 2) := by decide +kernel
theorem dX9_bestHeaps_26 : decode cX9_bestHeaps 26 = .ok (.if_icmp .gt 32, 3) := by decide +kernel
theorem dX9_bestHeaps_29 : decode cX9_bestHeaps 29 = .ok (.aload_n 0, 1) := by decide +kernel
theorem dX9_bestHeaps_30 : decode cX9_bestHeaps 30 = .ok (.aload_n 1, 1) := by decide +kernel
theorem dX9_bestHeaps_31 : decode cX9_bestHeaps 31 = .ok (.iconst 1, 1) := by decide +kernel
theorem dX9_bestHeaps_32 : decode cX9_bestHeaps 32 = .ok (.iload 5, 2) := by decide +kernel
theorem dX9_bestHeaps_34 : decode cX9_bestHeaps 34 = .ok (.invokevirtual 37, 3) := by decide +kernel
theorem dX9_bestHeaps_37 : decode cX9_bestHeaps 37 = .ok (.lstore 6, 2) := by decide +kernel
theorem dX9_bestHeaps_39 : decode cX9_bestHeaps 39 = .ok (.lload 6, 2) := by decide +kernel
theorem dX9_bestHeaps_41 : decode cX9_bestHeaps 41 = .ok (.lload_n 3, 1) := by decide +kernel
theorem dX9_bestHeaps_42 : decode cX9_bestHeaps 42 = .ok (.lcmp, 1) := by decide +kernel
theorem dX9_bestHeaps_43 : decode cX9_bestHeaps 43 = .ok (.ifCond .ge 9, 3) := by decide +kernel
theorem dX9_bestHeaps_46 : decode cX9_bestHeaps 46 = .ok (.lload 6, 2) := by decide +kernel
theorem dX9_bestHeaps_48 : decode cX9_bestHeaps 48 = .ok (.lstore_n 3, 1) := by decide +kernel
theorem dX9_bestHeaps_49 : decode cX9_bestHeaps 49 = .ok (.iload 5, 2) := by decide +kernel
theorem dX9_bestHeaps_51 : decode cX9_bestHeaps 51 = .ok (.istore_n 2, 1) := by decide +kernel
theorem dX9_bestHeaps_52 : decode cX9_bestHeaps 52 = .ok (.iinc 5 1, 3) := by decide +kernel
theorem dX9_bestHeaps_55 : decode cX9_bestHeaps 55 = .ok (.goto (-42), 3) := by decide +kernel
theorem dX9_bestHeaps_58 : decode cX9_bestHeaps 58 = .ok (.iload_n 2, 1) := by decide +kernel
theorem dX9_bestHeaps_59 : decode cX9_bestHeaps 59 = .ok (.ireturn, 1) := by decide +kernel
theorem dX9_bestCellFor_0 : decode cX9_bestCellFor 0 = .ok (.aload_n 0, 1) := by decide +kernel
theorem dX9_bestCellFor_1 : decode cX9_bestCellFor 1 = .ok (.getfield 12, 3) := by decide +kernel
theorem dX9_bestCellFor_4 : decode cX9_bestCellFor 4 = .ok (.aload_n 1, 1) := by decide +kernel
theorem dX9_bestCellFor_5 : decode cX9_bestCellFor 5 = .ok (.invokevirtual 25, 3) := by decide +kernel
theorem dX9_bestCellFor_8 : decode cX9_bestCellFor 8 = .ok (.iconst 0, 1) := by decide +kernel
theorem dX9_bestCellFor_9 : decode cX9_bestCellFor 9 = .ok (.istore_n 3, 1) := by decide +kernel
theorem dX9_bestCellFor_10 : decode cX9_bestCellFor 10 = .ok (.ldc2_w 45, 3) := by decide +kernel
theorem dX9_bestCellFor_13 : decode cX9_bestCellFor 13 = .ok (.lstore 4, 2) := by decide +kernel
theorem dX9_bestCellFor_15 : decode cX9_bestCellFor 15 = .ok (.iconst 0, 1) := by decide +kernel
theorem dX9_bestCellFor_16 : decode cX9_bestCellFor 16 = .ok (.istore 6, 2) := by decide +kernel
theorem dX9_bestCellFor_18 : decode cX9_bestCellFor 18 = .ok (.iload 6, 2) := by decide +kernel
theorem dX9_bestCellFor_20 : decode cX9_bestCellFor 20 = .ok (.aload_n 1, 1) := by decide +kernel
theorem dX9_bestCellFor_21 : decode cX9_bestCellFor 21 = .ok (.getfield 47, 3) := by decide +kernel
theorem dX9_bestCellFor_24 : decode cX9_bestCellFor 24 = .ok (.getfield 51, 3) := by decide +kernel
theorem dX9_bestCellFor_27 : decode cX9_bestCellFor 27 = .ok (.if_icmp .ge 91, 3) := by decide +kernel
theorem dX9_bestCellFor_30 : decode cX9_bestCellFor 30 = .ok (.iconst 0, 1) := by decide +kernel
theorem dX9_bestCellFor_31 : decode cX9_bestCellFor 31 = .ok (.istore 7, 2) := by decide +kernel
theorem dX9_bestCellFor_33 : decode cX9_bestCellFor 33 = .ok (.iload 7, 2) := by decide +kernel
theorem dX9_bestCellFor_35 : decode cX9_bestCellFor 35 = .ok (.aload_n 1, 1) := by decide +kernel
theorem dX9_bestCellFor_36 : decode cX9_bestCellFor 36 = .ok (.getfield 47, 3) := by decide +kernel
theorem dX9_bestCellFor_39 : decode cX9_bestCellFor 39 = .ok (.getfield 57, 3) := by decide +kernel
theorem dX9_bestCellFor_42 : decode cX9_bestCellFor 42 = .ok (.if_icmp .ge 70, 3) := by decide +kernel
theorem dX9_bestCellFor_45 : decode cX9_bestCellFor 45 = .ok (.aload_n 1, 1) := by decide +kernel
theorem dX9_bestCellFor_46 : decode cX9_bestCellFor 46 = .ok (.getfield 47, 3) := by decide +kernel
theorem dX9_bestCellFor_49 : decode cX9_bestCellFor 49 = .ok (.iload 7, 2) := by decide +kernel
theorem dX9_bestCellFor_51 : decode cX9_bestCellFor 51 = .ok (.iload 6, 2) := by decide +kernel
theorem dX9_bestCellFor_53 : decode cX9_bestCellFor 53 = .ok (.invokevirtual 60, 3) := by decide +kernel
theorem dX9_bestCellFor_56 : decode cX9_bestCellFor 56 = .ok (.ifCond .ne 50, 3) := by decide +kernel
theorem dX9_bestCellFor_59 : decode cX9_bestCellFor 59 = .ok (.aload_n 0, 1) := by decide +kernel
theorem dX9_bestCellFor_60 : decode cX9_bestCellFor 60 = .ok (.getfield 12, 3) := by decide +kernel
theorem dX9_bestCellFor_63 : decode cX9_bestCellFor 63 = .ok (.iload_n 2, 1) := by decide +kernel
theorem dX9_bestCellFor_64 : decode cX9_bestCellFor 64 = .ok (.iload 7, 2) := by decide +kernel
theorem dX9_bestCellFor_66 : decode cX9_bestCellFor 66 = .ok (.iload 6, 2) := by decide +kernel
theorem dX9_bestCellFor_68 : decode cX9_bestCellFor 68 = .ok (.invokevirtual 64, 3) := by decide +kernel
theorem dX9_bestCellFor_71 : decode cX9_bestCellFor 71 = .ok (.aload_n 0, 1) := by decide +kernel
theorem dX9_bestCellFor_72 : decode cX9_bestCellFor 72 = .ok (.getfield 21, 3) := by decide +kernel
theorem dX9_bestCellFor_75 : decode cX9_bestCellFor 75 = .ok (.aload_n 0, 1) := by decide +kernel
theorem dX9_bestCellFor_76 : decode cX9_bestCellFor 76 = .ok (.getfield 12, 3) := by decide +kernel
theorem dX9_bestCellFor_79 : decode cX9_bestCellFor 79 = .ok (.iconst 1, 1) := by decide +kernel
theorem dX9_bestCellFor_80 : decode cX9_bestCellFor 80 = .ok (.invokevirtual 33, 3) := by decide +kernel
theorem dX9_bestCellFor_83 : decode cX9_bestCellFor 83 = .ok (.lstore 8, 2) := by decide +kernel
theorem dX9_bestCellFor_85 : decode cX9_bestCellFor 85 = .ok (.lload 8, 2) := by decide +kernel
theorem dX9_bestCellFor_87 : decode cX9_bestCellFor 87 = .ok (.lload 4, 2) := by decide +kernel
theorem dX9_bestCellFor_89 : decode cX9_bestCellFor 89 = .ok (.lcmp, 1) := by decide +kernel
theorem dX9_bestCellFor_90 : decode cX9_bestCellFor 90 = .ok (.ifCond .ge 16, 3) := by decide +kernel
theorem dX9_bestCellFor_93 : decode cX9_bestCellFor 93 = .ok (.lload 8, 2) := by decide +kernel
theorem dX9_bestCellFor_95 : decode cX9_bestCellFor 95 = .ok (.lstore 4, 2) := by decide +kernel
theorem dX9_bestCellFor_97 : decode cX9_bestCellFor 97 = .ok (.iload 7, 2) := by decide +kernel
theorem dX9_bestCellFor_99 : decode cX9_bestCellFor 99 = .ok (.bipush 12, 2) := by decide +kernel
theorem dX9_bestCellFor_101 : decode cX9_bestCellFor 101 = .ok (.iload 6, 2) := by decide +kernel
theorem dX9_bestCellFor_103 : decode cX9_bestCellFor 103 = .ok (.imul, 1) := by decide +kernel
theorem dX9_bestCellFor_104 : decode cX9_bestCellFor 104 = .ok (.iadd, 1) := by decide +kernel
theorem dX9_bestCellFor_105 : decode cX9_bestCellFor 105 = .ok (.istore_n 3, 1) := by decide +kernel
theorem dX9_bestCellFor_106 : decode cX9_bestCellFor 106 = .ok (.iinc 7 1, 3) := by decide +kernel
theorem dX9_bestCellFor_109 : decode cX9_bestCellFor 109 = .ok (.goto (-76), 3) := by decide +kernel
theorem dX9_bestCellFor_112 : decode cX9_bestCellFor 112 = .ok (.iinc 6 1, 3) := by decide +kernel
theorem dX9_bestCellFor_115 : decode cX9_bestCellFor 115 = .ok (.goto (-97), 3) := by decide +kernel
theorem dX9_bestCellFor_118 : decode cX9_bestCellFor 118 = .ok (.iload_n 3, 1) := by decide +kernel
theorem dX9_bestCellFor_119 : decode cX9_bestCellFor 119 = .ok (.ireturn, 1) := by decide +kernel
theorem dX9_moveHeaps_0 : decode cX9_moveHeaps 0 = .ok (.iconst 0, 1) := by decide +kernel
theorem dX9_moveHeaps_1 : decode cX9_moveHeaps 1 = .ok (.istore_n 3, 1) := by decide +kernel
theorem dX9_moveHeaps_2 : decode cX9_moveHeaps 2 = .ok (.iload_n 3, 1) := by decide +kernel
theorem dX9_moveHeaps_3 : decode cX9_moveHeaps 3 = .ok (.iload_n 2, 1) := by decide +kernel
theorem dX9_moveHeaps_4 : decode cX9_moveHeaps 4 = .ok (.if_icmp .ge 33, 3) := by decide +kernel
theorem dX9_moveHeaps_7 : decode cX9_moveHeaps 7 = .ok (.aload_n 0, 1) := by decide +kernel
theorem dX9_moveHeaps_8 : decode cX9_moveHeaps 8 = .ok (.aload_n 1, 1) := by decide +kernel
theorem dX9_moveHeaps_9 : decode cX9_moveHeaps 9 = .ok (.invokevirtual 68, 3) := by decide +kernel
theorem dX9_moveHeaps_12 : decode cX9_moveHeaps 12 = .ok (.ifCond .eq 25, 3) := by decide +kernel
theorem dX9_moveHeaps_15 : decode cX9_moveHeaps 15 = .ok (.aload_n 1, 1) := by decide +kernel
theorem dX9_moveHeaps_16 : decode cX9_moveHeaps 16 = .ok (.aload_n 0, 1) := by decide +kernel
theorem dX9_moveHeaps_17 : decode cX9_moveHeaps 17 = .ok (.getfield 72, 3) := by decide +kernel
theorem dX9_moveHeaps_20 : decode cX9_moveHeaps 20 = .ok (.aload_n 0, 1) := by decide +kernel
theorem dX9_moveHeaps_21 : decode cX9_moveHeaps 21 = .ok (.getfield 75, 3) := by decide +kernel
theorem dX9_moveHeaps_24 : decode cX9_moveHeaps 24 = .ok (.aload_n 0, 1) := by decide +kernel
theorem dX9_moveHeaps_25 : decode cX9_moveHeaps 25 = .ok (.getfield 78, 3) := by decide +kernel
theorem dX9_moveHeaps_28 : decode cX9_moveHeaps 28 = .ok (.invokevirtual 81, 3) := by decide +kernel
theorem dX9_moveHeaps_31 : decode cX9_moveHeaps 31 = .ok (.iinc 3 1, 3) := by decide +kernel
theorem dX9_moveHeaps_34 : decode cX9_moveHeaps 34 = .ok (.goto (-32), 3) := by decide +kernel
theorem dX9_moveHeaps_37 : decode cX9_moveHeaps 37 = .ok (.iload_n 3, 1) := by decide +kernel
theorem dX9_moveHeaps_38 : decode cX9_moveHeaps 38 = .ok (.ireturn, 1) := by decide +kernel
theorem dX9_findBetter_0 : decode cX9_findBetter 0 = .ok (.aload_n 1, 1) := by decide +kernel
theorem dX9_findBetter_1 : decode cX9_findBetter 1 = .ok (.getfield 47, 3) := by decide +kernel
theorem dX9_findBetter_4 : decode cX9_findBetter 4 = .ok (.astore_n 2, 1) := by decide +kernel
theorem dX9_findBetter_5 : decode cX9_findBetter 5 = .ok (.aload_n 0, 1) := by decide +kernel
theorem dX9_findBetter_6 : decode cX9_findBetter 6 = .ok (.getfield 21, 3) := by decide +kernel
theorem dX9_findBetter_9 : decode cX9_findBetter 9 = .ok (.aload_n 1, 1) := by decide +kernel
theorem dX9_findBetter_10 : decode cX9_findBetter 10 = .ok (.iconst 1, 1) := by decide +kernel
theorem dX9_findBetter_11 : decode cX9_findBetter 11 = .ok (.invokevirtual 33, 3) := by decide +kernel
theorem dX9_findBetter_14 : decode cX9_findBetter 14 = .ok (.lstore_n 3, 1) := by decide +kernel
theorem dX9_findBetter_15 : decode cX9_findBetter 15 = .ok (.lload_n 3, 1) := by decide +kernel
theorem dX9_findBetter_16 : decode cX9_findBetter 16 = .ok (.lstore 5, 2) := by decide +kernel
theorem dX9_findBetter_18 : decode cX9_findBetter 18 = .ok (.iconst 0, 1) := by decide +kernel
theorem dX9_findBetter_19 : decode cX9_findBetter 19 = .ok (.istore 7, 2) := by decide +kernel
theorem dX9_findBetter_21 : decode cX9_findBetter 21 = .ok (.iload 7, 2) := by decide +kernel
theorem dX9_findBetter_23 : decode cX9_findBetter 23 = .ok (.bipush 8, 2) := by decide +kernel
theorem dX9_findBetter_25 : decode cX9_findBetter 25 = .ok (.if_icmp .ge 148, 3) := by decide +kernel
theorem dX9_findBetter_28 : decode cX9_findBetter 28 = .ok (.aload_n 1, 1) := by decide +kernel
theorem dX9_findBetter_29 : decode cX9_findBetter 29 = .ok (.getfield 84, 3) := by decide +kernel
theorem dX9_findBetter_32 : decode cX9_findBetter 32 = .ok (.iload 7, 2) := by decide +kernel
theorem dX9_findBetter_34 : decode cX9_findBetter 34 = .ok (.iaload, 1) := by decide +kernel
theorem dX9_findBetter_35 : decode cX9_findBetter 35 = .ok (.istore 8, 2) := by decide +kernel
theorem dX9_findBetter_37 : decode cX9_findBetter 37 = .ok (.aload_n 1, 1) := by decide +kernel
theorem dX9_findBetter_38 : decode cX9_findBetter 38 = .ok (.getfield 88, 3) := by decide +kernel
theorem dX9_findBetter_41 : decode cX9_findBetter 41 = .ok (.iload 7, 2) := by decide +kernel
theorem dX9_findBetter_43 : decode cX9_findBetter 43 = .ok (.iaload, 1) := by decide +kernel
theorem dX9_findBetter_44 : decode cX9_findBetter 44 = .ok (.istore 9, 2) := by decide +kernel
theorem dX9_findBetter_46 : decode cX9_findBetter 46 = .ok (.aload_n 1, 1) := by decide +kernel
theorem dX9_findBetter_47 : decode cX9_findBetter 47 = .ok (.iload 7, 2) := by decide +kernel
theorem dX9_findBetter_49 : decode cX9_findBetter 49 = .ok (.invokevirtual 91, 3) := by decide +kernel
theorem dX9_findBetter_52 : decode cX9_findBetter 52 = .ok (.ifCond .le 7, 3) := by decide +kernel
theorem dX9_findBetter_55 : decode cX9_findBetter 55 = .ok (.iconst 1, 1) := by decide +kernel
theorem dX9_findBetter_56 : decode cX9_findBetter 56 = .ok (.goto 4, 3) := by decide +kernel
theorem dX9_findBetter_59 : decode cX9_findBetter 59 = .ok (.iconst 0, 1) := by decide +kernel
theorem dX9_findBetter_60 : decode cX9_findBetter 60 = .ok (.istore 10, 2) := by decide +kernel
theorem dX9_findBetter_62 : decode cX9_findBetter 62 = .ok (.iconst 0, 1) := by decide +kernel
theorem dX9_findBetter_63 : decode cX9_findBetter 63 = .ok (.istore 11, 2) := by decide +kernel
theorem dX9_findBetter_65 : decode cX9_findBetter 65 = .ok (.iload 11, 2) := by decide +kernel
theorem dX9_findBetter_67 : decode cX9_findBetter 67 = .ok (.aload_n 2, 1) := by decide +kernel
theorem dX9_findBetter_68 : decode cX9_findBetter 68 = .ok (.getfield 51, 3) := by decide +kernel
theorem dX9_findBetter_71 : decode cX9_findBetter 71 = .ok (.if_icmp .ge 86, 3) := by decide +kernel
theorem dX9_findBetter_74 : decode cX9_findBetter 74 = .ok (.iload 10, 2) := by decide +kernel
theorem dX9_findBetter_76 : decode cX9_findBetter 76 = .ok (.ifCond .eq 81, 3) := by decide +kernel
theorem dX9_findBetter_79 : decode cX9_findBetter 79 = .ok (.iconst 0, 1) := by decide +kernel
theorem dX9_findBetter_80 : decode cX9_findBetter 80 = .ok (.istore 12, 2) := by decide +kernel
theorem dX9_findBetter_82 : decode cX9_findBetter 82 = .ok (.iload 12, 2) := by decide +kernel
theorem dX9_findBetter_84 : decode cX9_findBetter 84 = .ok (.aload_n 2, 1) := by decide +kernel
theorem dX9_findBetter_85 : decode cX9_findBetter 85 = .ok (.getfield 57, 3) := by decide +kernel
theorem dX9_findBetter_88 : decode cX9_findBetter 88 = .ok (.if_icmp .ge 63, 3) := by decide +kernel
theorem dX9_findBetter_91 : decode cX9_findBetter 91 = .ok (.aload_n 2, 1) := by decide +kernel
theorem dX9_findBetter_92 : decode cX9_findBetter 92 = .ok (.iload 12, 2) := by decide +kernel
theorem dX9_findBetter_94 : decode cX9_findBetter 94 = .ok (.iload 11, 2) := by decide +kernel
theorem dX9_findBetter_96 : decode cX9_findBetter 96 = .ok (.invokevirtual 60, 3) := by decide +kernel
theorem dX9_findBetter_99 : decode cX9_findBetter 99 = .ok (.ifCond .ne 46, 3) := by decide +kernel
theorem dX9_findBetter_102 : decode cX9_findBetter 102 = .ok (.aload_n 1, 1) := by decide +kernel
theorem dX9_findBetter_103 : decode cX9_findBetter 103 = .ok (.iload 7, 2) := by decide +kernel
theorem dX9_findBetter_105 : decode cX9_findBetter 105 = .ok (.iload 12, 2) := by decide +kernel
theorem dX9_findBetter_107 : decode cX9_findBetter 107 = .ok (.iload 11, 2) := by decide +kernel
theorem dX9_findBetter_109 : decode cX9_findBetter 109 = .ok (.invokevirtual 81, 3) := by decide +kernel
theorem dX9_findBetter_112 : decode cX9_findBetter 112 = .ok (.aload_n 0, 1) := by decide +kernel
theorem dX9_findBetter_113 : decode cX9_findBetter 113 = .ok (.getfield 21, 3) := by decide +kernel
theorem dX9_findBetter_116 : decode cX9_findBetter 116 = .ok (.aload_n 1, 1) := by decide +kernel
theorem dX9_findBetter_117 : decode cX9_findBetter 117 = .ok (.iconst 1, 1) := by decide +kernel
theorem dX9_findBetter_118 : decode cX9_findBetter 118 = .ok (.invokevirtual 33, 3) := by decide +kernel
theorem dX9_findBetter_121 : decode cX9_findBetter 121 = .ok (.lstore 13, 2) := by decide +kernel
theorem dX9_findBetter_123 : decode cX9_findBetter 123 = .ok (.lload 13, 2) := by decide +kernel
theorem dX9_findBetter_125 : decode cX9_findBetter 125 = .ok (.lload 5, 2) := by decide +kernel
theorem dX9_findBetter_127 : decode cX9_findBetter 127 = .ok (.lcmp, 1) := by decide +kernel
theorem dX9_findBetter_128 : decode cX9_findBetter 128 = .ok (.ifCond .ge 17, 3) := by decide +kernel
theorem dX9_findBetter_131 : decode cX9_findBetter 131 = .ok (.lload 13, 2) := by decide +kernel
theorem dX9_findBetter_133 : decode cX9_findBetter 133 = .ok (.lstore 5, 2) := by decide +kernel
theorem dX9_findBetter_135 : decode cX9_findBetter 135 = .ok (.aload_n 0, 1) := by decide +kernel
theorem dX9_findBetter_136 : decode cX9_findBetter 136 = .ok (.iload 7, 2) := by decide +kernel
theorem dX9_findBetter_138 : decode cX9_findBetter 138 = .ok (.iload 12, 2) := by decide +kernel
theorem dX9_findBetter_140 : decode cX9_findBetter 140 = .ok (.iload 11, 2) := by decide +kernel
theorem dX9_findBetter_142 : decode cX9_findBetter 142 = .ok (.invokevirtual 95, 3) := by decide +kernel
theorem dX9_findBetter_145 : decode cX9_findBetter 145 = .ok (.iinc 12 1, 3) := by decide +kernel
theorem dX9_findBetter_148 : decode cX9_findBetter 148 = .ok (.goto (-66), 3) := by decide +kernel
theorem dX9_findBetter_151 : decode cX9_findBetter 151 = .ok (.iinc 11 1, 3) := by decide +kernel
theorem dX9_findBetter_154 : decode cX9_findBetter 154 = .ok (.goto (-89), 3) := by decide +kernel
theorem dX9_findBetter_157 : decode cX9_findBetter 157 = .ok (.aload_n 1, 1) := by decide +kernel
theorem dX9_findBetter_158 : decode cX9_findBetter 158 = .ok (.iload 7, 2) := by decide +kernel
theorem dX9_findBetter_160 : decode cX9_findBetter 160 = .ok (.iload 8, 2) := by decide +kernel
theorem dX9_findBetter_162 : decode cX9_findBetter 162 = .ok (.iload 9, 2) := by decide +kernel
theorem dX9_findBetter_164 : decode cX9_findBetter 164 = .ok (.invokevirtual 81, 3) := by decide +kernel
theorem dX9_findBetter_167 : decode cX9_findBetter 167 = .ok (.iinc 7 1, 3) := by decide +kernel
theorem dX9_findBetter_170 : decode cX9_findBetter 170 = .ok (.goto (-149), 3) := by decide +kernel
theorem dX9_findBetter_173 : decode cX9_findBetter 173 = .ok (.lload 5, 2) := by decide +kernel
theorem dX9_findBetter_175 : decode cX9_findBetter 175 = .ok (.lload_n 3, 1) := by decide +kernel
theorem dX9_findBetter_176 : decode cX9_findBetter 176 = .ok (.lcmp, 1) := by decide +kernel
theorem dX9_findBetter_177 : decode cX9_findBetter 177 = .ok (.ifCond .ge 7, 3) := by decide +kernel
theorem dX9_findBetter_180 : decode cX9_findBetter 180 = .ok (.iconst 1, 1) := by decide +kernel
theorem dX9_findBetter_181 : decode cX9_findBetter 181 = .ok (.goto 4, 3) := by decide +kernel
theorem dX9_findBetter_184 : decode cX9_findBetter 184 = .ok (.iconst 0, 1) := by decide +kernel
theorem dX9_findBetter_185 : decode cX9_findBetter 185 = .ok (.ireturn, 1) := by decide +kernel
theorem dX9_noteMove_0 : decode cX9_noteMove 0 = .ok (.aload_n 0, 1) := by decide +kernel
theorem dX9_noteMove_1 : decode cX9_noteMove 1 = .ok (.iload_n 1, 1) := by decide +kernel
theorem dX9_noteMove_2 : decode cX9_noteMove 2 = .ok (.putfield 72, 3) := by decide +kernel
theorem dX9_noteMove_5 : decode cX9_noteMove 5 = .ok (.aload_n 0, 1) := by decide +kernel
theorem dX9_noteMove_6 : decode cX9_noteMove 6 = .ok (.iload_n 2, 1) := by decide +kernel
theorem dX9_noteMove_7 : decode cX9_noteMove 7 = .ok (.putfield 75, 3) := by decide +kernel
theorem dX9_noteMove_10 : decode cX9_noteMove 10 = .ok (.aload_n 0, 1) := by decide +kernel
theorem dX9_noteMove_11 : decode cX9_noteMove 11 = .ok (.iload_n 3, 1) := by decide +kernel
theorem dX9_noteMove_12 : decode cX9_noteMove 12 = .ok (.putfield 78, 3) := by decide +kernel
theorem dX9_noteMove_15 : decode cX9_noteMove 15 = .ok (.return_, 1) := by decide +kernel
theorem dX10_feed_0 : decode cX10_feed 0 = .ok (.aload_n 0, 1) := by decide +kernel
theorem dX10_feed_1 : decode cX10_feed 1 = .ok (.getfield 10, 3) := by decide +kernel
theorem dX10_feed_4 : decode cX10_feed 4 = .ok (.bipush 20, 2) := by decide +kernel
theorem dX10_feed_6 : decode cX10_feed 6 = .ok (.invokevirtual 73, 3) := by decide +kernel
theorem dX10_feed_9 : decode cX10_feed 9 = .ok (.ifCond .ne 5, 3) := by decide +kernel
theorem dX10_feed_12 : decode cX10_feed 12 = .ok (.iconst (-1), 1) := by decide +kernel
theorem dX10_feed_13 : decode cX10_feed 13 = .ok (.ireturn, 1) := by decide +kernel
theorem dX10_feed_14 : decode cX10_feed 14 = .ok (.aload_n 0, 1) := by decide +kernel
theorem dX10_feed_15 : decode cX10_feed 15 = .ok (.getfield 10, 3) := by decide +kernel
theorem dX10_feed_18 : decode cX10_feed 18 = .ok (.iload_n 1, 1) := by decide +kernel
theorem dX10_feed_19 : decode cX10_feed 19 = .ok (.invokevirtual 77, 3) := by decide +kernel
theorem dX10_feed_22 : decode cX10_feed 22 = .ok (.aload_n 0, 1) := by decide +kernel
theorem dX10_feed_23 : decode cX10_feed 23 = .ok (.getfield 10, 3) := by decide +kernel
theorem dX10_feed_26 : decode cX10_feed 26 = .ok (.iload_n 2, 1) := by decide +kernel
theorem dX10_feed_27 : decode cX10_feed 27 = .ok (.invokevirtual 77, 3) := by decide +kernel
theorem dX10_feed_30 : decode cX10_feed 30 = .ok (.aload_n 0, 1) := by decide +kernel
theorem dX10_feed_31 : decode cX10_feed 31 = .ok (.getfield 10, 3) := by decide +kernel
theorem dX10_feed_34 : decode cX10_feed 34 = .ok (.iload_n 3, 1) := by decide +kernel
theorem dX10_feed_35 : decode cX10_feed 35 = .ok (.invokevirtual 77, 3) := by decide +kernel
theorem dX10_feed_38 : decode cX10_feed 38 = .ok (.aload_n 0, 1) := by decide +kernel
theorem dX10_feed_39 : decode cX10_feed 39 = .ok (.getfield 10, 3) := by decide +kernel
theorem dX10_feed_42 : decode cX10_feed 42 = .ok (.iload 4, 2) := by decide +kernel
theorem dX10_feed_44 : decode cX10_feed 44 = .ok (.invokevirtual 77, 3) := by decide +kernel
theorem dX10_feed_47 : decode cX10_feed 47 = .ok (.aload_n 0, 1) := by decide +kernel
theorem dX10_feed_48 : decode cX10_feed 48 = .ok (.getfield 10, 3) := by decide +kernel
theorem dX10_feed_51 : decode cX10_feed 51 = .ok (.iload 5, 2) := by decide +kernel
theorem dX10_feed_53 : decode cX10_feed 53 = .ok (.invokevirtual 77, 3) := by decide +kernel
theorem dX10_feed_56 : decode cX10_feed 56 = .ok (.aload_n 0, 1) := by decide +kernel
theorem dX10_feed_57 : decode cX10_feed 57 = .ok (.getfield 10, 3) := by decide +kernel
theorem dX10_feed_60 : decode cX10_feed 60 = .ok (.getfield 81, 3) := by decide +kernel
theorem dX10_feed_63 : decode cX10_feed 63 = .ok (.ireturn, 1) := by decide +kernel
theorem dX10_end_0 : decode cX10_end 0 = .ok (.iload_n 1, 1) := by decide +kernel
theorem dX10_end_1 : decode cX10_end 1 = .ok (.ifCond .lt 14, 3) := by decide +kernel
theorem dX10_end_4 : decode cX10_end 4 = .ok (.iload_n 1, 1) := by decide +kernel
theorem dX10_end_5 : decode cX10_end 5 = .ok (.aload_n 0, 1) := by decide +kernel
theorem dX10_end_6 : decode cX10_end 6 = .ok (.getfield 10, 3) := by decide +kernel
theorem dX10_end_9 : decode cX10_end 9 = .ok (.getfield 81, 3) := by decide +kernel
theorem dX10_end_12 : decode cX10_end 12 = .ok (.if_icmp .le 5, 3) := by decide +kernel
theorem dX10_end_15 : decode cX10_end 15 = .ok (.iconst (-1), 1) := by decide +kernel
theorem dX10_end_16 : decode cX10_end 16 = .ok (.ireturn, 1) := by decide +kernel
theorem dX10_end_17 : decode cX10_end 17 = .ok (.aload_n 0, 1) := by decide +kernel
theorem dX10_end_18 : decode cX10_end 18 = .ok (.getfield 10, 3) := by decide +kernel
theorem dX10_end_21 : decode cX10_end 21 = .ok (.iload_n 1, 1) := by decide +kernel
theorem dX10_end_22 : decode cX10_end 22 = .ok (.putfield 81, 3) := by decide +kernel
theorem dX10_end_25 : decode cX10_end 25 = .ok (.iload_n 1, 1) := by decide +kernel
theorem dX10_end_26 : decode cX10_end 26 = .ok (.ireturn, 1) := by decide +kernel
theorem dX10_floe_0 : decode cX10_floe 0 = .ok (.aload_n 0, 1) := by decide +kernel
theorem dX10_floe_1 : decode cX10_floe 1 = .ok (.getfield 10, 3) := by decide +kernel
theorem dX10_floe_4 : decode cX10_floe 4 = .ok (.invokevirtual 85, 3) := by decide +kernel
theorem dX10_floe_7 : decode cX10_floe 7 = .ok (.aload_n 0, 1) := by decide +kernel
theorem dX10_floe_8 : decode cX10_floe 8 = .ok (.getfield 10, 3) := by decide +kernel
theorem dX10_floe_11 : decode cX10_floe 11 = .ok (.getfield 88, 3) := by decide +kernel
theorem dX10_floe_14 : decode cX10_floe 14 = .ok (.ifCond .eq 6, 3) := by decide +kernel
theorem dX10_floe_17 : decode cX10_floe 17 = .ok (.bipush (-4), 2) := by decide +kernel
theorem dX10_floe_19 : decode cX10_floe 19 = .ok (.ireturn, 1) := by decide +kernel
theorem dX10_floe_20 : decode cX10_floe 20 = .ok (.aload_n 0, 1) := by decide +kernel
theorem dX10_floe_21 : decode cX10_floe 21 = .ok (.getfield 19, 3) := by decide +kernel
theorem dX10_floe_24 : decode cX10_floe 24 = .ok (.aload_n 0, 1) := by decide +kernel
theorem dX10_floe_25 : decode cX10_floe 25 = .ok (.getfield 10, 3) := by decide +kernel
theorem dX10_floe_28 : decode cX10_floe 28 = .ok (.getfield 91, 3) := by decide +kernel
theorem dX10_floe_31 : decode cX10_floe 31 = .ok (.invokevirtual 95, 3) := by decide +kernel
theorem dX10_floe_34 : decode cX10_floe 34 = .ok (.aload_n 0, 1) := by decide +kernel
theorem dX10_floe_35 : decode cX10_floe 35 = .ok (.iconst 0, 1) := by decide +kernel
theorem dX10_floe_36 : decode cX10_floe 36 = .ok (.putfield 99, 3) := by decide +kernel
theorem dX10_floe_39 : decode cX10_floe 39 = .ok (.aload_n 0, 1) := by decide +kernel
theorem dX10_floe_40 : decode cX10_floe 40 = .ok (.getfield 19, 3) := by decide +kernel
theorem dX10_floe_43 : decode cX10_floe 43 = .ok (.getfield 102, 3) := by decide +kernel
theorem dX10_floe_46 : decode cX10_floe 46 = .ok (.getfield 105, 3) := by decide +kernel
theorem dX10_floe_49 : decode cX10_floe 49 = .ok (.ireturn, 1) := by decide +kernel
theorem dX10_fault_0 : decode cX10_fault 0 = .ok (.iload_n 1, 1) := by decide +kernel
theorem dX10_fault_1 : decode cX10_fault 1 = .ok (.lookupswitch 43 #[(0, 27), (1, 35)], 27) := by decide +kernel
theorem dX10_fault_28 : decode cX10_fault 28 = .ok (.aload_n 0, 1) := by decide +kernel
theorem dX10_fault_29 : decode cX10_fault 29 = .ok (.getfield 10, 3) := by decide +kernel
theorem dX10_fault_32 : decode cX10_fault 32 = .ok (.getfield 88, 3) := by decide +kernel
theorem dX10_fault_35 : decode cX10_fault 35 = .ok (.ireturn, 1) := by decide +kernel
theorem dX10_fault_36 : decode cX10_fault 36 = .ok (.aload_n 0, 1) := by decide +kernel
theorem dX10_fault_37 : decode cX10_fault 37 = .ok (.getfield 10, 3) := by decide +kernel
theorem dX10_fault_40 : decode cX10_fault 40 = .ok (.getfield 110, 3) := by decide +kernel
theorem dX10_fault_43 : decode cX10_fault 43 = .ok (.ireturn, 1) := by decide +kernel
theorem dX10_fault_44 : decode cX10_fault 44 = .ok (.iconst (-1), 1) := by decide +kernel
theorem dX10_fault_45 : decode cX10_fault 45 = .ok (.ireturn, 1) := by decide +kernel
theorem dX10_heap_0 : decode cX10_heap 0 = .ok (.iload_n 1, 1) := by decide +kernel
theorem dX10_heap_1 : decode cX10_heap 1 = .ok (.invokestatic 113, 3) := by decide +kernel
theorem dX10_heap_4 : decode cX10_heap 4 = .ok (.ifCond .eq 23, 3) := by decide +kernel
theorem dX10_heap_7 : decode cX10_heap 7 = .ok (.iload_n 2, 1) := by decide +kernel
theorem dX10_heap_8 : decode cX10_heap 8 = .ok (.iconst (-1), 1) := by decide +kernel
theorem dX10_heap_9 : decode cX10_heap 9 = .ok (.if_icmp .eq 21, 3) := by decide +kernel
theorem dX10_heap_12 : decode cX10_heap 12 = .ok (.aload_n 0, 1) := by decide +kernel
theorem dX10_heap_13 : decode cX10_heap 13 = .ok (.getfield 19, 3) := by decide +kernel
theorem dX10_heap_16 : decode cX10_heap 16 = .ok (.getfield 102, 3) := by decide +kernel
theorem dX10_heap_19 : decode cX10_heap 19 = .ok (.iload_n 2, 1) := by decide +kernel
theorem dX10_heap_20 : decode cX10_heap 20 = .ok (.iload_n 3, 1) := by decide +kernel
theorem dX10_heap_21 : decode cX10_heap 21 = .ok (.invokevirtual 116, 3) := by decide +kernel
theorem dX10_heap_24 : decode cX10_heap 24 = .ok (.ifCond .ne 6, 3) := by decide +kernel
theorem dX10_heap_27 : decode cX10_heap 27 = .ok (.bipush (-2), 2) := by decide +kernel
theorem dX10_heap_29 : decode cX10_heap 29 = .ok (.ireturn, 1) := by decide +kernel
theorem dX10_heap_30 : decode cX10_heap 30 = .ok (.aload_n 0, 1) := by decide +kernel
theorem dX10_heap_31 : decode cX10_heap 31 = .ok (.getfield 19, 3) := by decide +kernel
theorem dX10_heap_34 : decode cX10_heap 34 = .ok (.iload_n 1, 1) := by decide +kernel
theorem dX10_heap_35 : decode cX10_heap 35 = .ok (.invokevirtual 120, 3) := by decide +kernel
theorem dX10_heap_38 : decode cX10_heap 38 = .ok (.ifCond .eq 7, 3) := by decide +kernel
theorem dX10_heap_41 : decode cX10_heap 41 = .ok (.iconst 1, 1) := by decide +kernel
theorem dX10_heap_42 : decode cX10_heap 42 = .ok (.goto 4, 3) := by decide +kernel
theorem dX10_heap_45 : decode cX10_heap 45 = .ok (.iconst 0, 1) := by decide +kernel
theorem dX10_heap_46 : decode cX10_heap 46 = .ok (.istore 4, 2) := by decide +kernel
theorem dX10_heap_48 : decode cX10_heap 48 = .ok (.iload_n 2, 1) := by decide +kernel
theorem dX10_heap_49 : decode cX10_heap 49 = .ok (.iconst (-1), 1) := by decide +kernel
theorem dX10_heap_50 : decode cX10_heap 50 = .ok (.if_icmp .ne 14, 3) := by decide +kernel
theorem dX10_heap_53 : decode cX10_heap 53 = .ok (.aload_n 0, 1) := by decide +kernel
theorem dX10_heap_54 : decode cX10_heap 54 = .ok (.getfield 19, 3) := by decide +kernel
theorem dX10_heap_57 : decode cX10_heap 57 = .ok (.iload_n 1, 1) := by decide +kernel
theorem dX10_heap_58 : decode cX10_heap 58 = .ok (.invokevirtual 123, 3) := by decide +kernel
theorem dX10_heap_61 : decode cX10_heap 61 = .ok (.goto 13, 3) := by decide +kernel
theorem dX10_heap_64 : decode cX10_heap 64 = .ok (.aload_n 0, 1) := by decide +kernel
theorem dX10_heap_65 : decode cX10_heap 65 = .ok (.getfield 19, 3) := by decide +kernel
theorem dX10_heap_68 : decode cX10_heap 68 = .ok (.iload_n 1, 1) := by decide +kernel
theorem dX10_heap_69 : decode cX10_heap 69 = .ok (.iload_n 2, 1) := by decide +kernel
theorem dX10_heap_70 : decode cX10_heap 70 = .ok (.iload_n 3, 1) := by decide +kernel
theorem dX10_heap_71 : decode cX10_heap 71 = .ok (.invokevirtual 126, 3) := by decide +kernel
theorem dX10_heap_74 : decode cX10_heap 74 = .ok (.iload 4, 2) := by decide +kernel
theorem dX10_heap_76 : decode cX10_heap 76 = .ok (.ireturn, 1) := by decide +kernel
theorem dX10_put_0 : decode cX10_put 0 = .ok (.aload_n 0, 1) := by decide +kernel
theorem dX10_put_1 : decode cX10_put 1 = .ok (.getfield 19, 3) := by decide +kernel
theorem dX10_put_4 : decode cX10_put 4 = .ok (.iload_n 1, 1) := by decide +kernel
theorem dX10_put_5 : decode cX10_put 5 = .ok (.invokevirtual 120, 3) := by decide +kernel
theorem dX10_put_8 : decode cX10_put 8 = .ok (.ifCond .eq 24, 3) := by decide +kernel
theorem dX10_put_11 : decode cX10_put 11 = .ok (.aload_n 0, 1) := by decide +kernel
theorem dX10_put_12 : decode cX10_put 12 = .ok (.getfield 19, 3) := by decide +kernel
theorem dX10_put_15 : decode cX10_put 15 = .ok (.getfield 102, 3) := by decide +kernel
theorem dX10_put_18 : decode cX10_put 18 = .ok (.getfield 130, 3) := by decide +kernel
theorem dX10_put_21 : decode cX10_put 21 = .ok (.iload_n 2, 1) := by decide +kernel
theorem dX10_put_22 : decode cX10_put 22 = .ok (.invokevirtual 134, 3) := by decide +kernel
theorem dX10_put_25 : decode cX10_put 25 = .ok (.ifCond .eq 7, 3) := by decide +kernel
theorem dX10_put_28 : decode cX10_put 28 = .ok (.iload_n 3, 1) := by decide +kernel
theorem dX10_put_29 : decode cX10_put 29 = .ok (.ifCond .ge 6, 3) := by decide +kernel
theorem dX10_put_32 : decode cX10_put 32 = .ok (.bipush (-2), 2) := by decide +kernel
theorem dX10_put_34 : decode cX10_put 34 = .ok (.ireturn, 1) := by decide +kernel
theorem dX10_put_35 : decode cX10_put 35 = .ok (.aload_n 0, 1) := by decide +kernel
theorem dX10_put_36 : decode cX10_put 36 = .ok (.getfield 19, 3) := by decide +kernel
theorem dX10_put_39 : decode cX10_put 39 = .ok (.getfield 102, 3) := by decide +kernel
theorem dX10_put_42 : decode cX10_put 42 = .ok (.getfield 130, 3) := by decide +kernel
theorem dX10_put_45 : decode cX10_put 45 = .ok (.iload_n 2, 1) := by decide +kernel
theorem dX10_put_46 : decode cX10_put 46 = .ok (.iconst 3, 1) := by decide +kernel
theorem dX10_put_47 : decode cX10_put 47 = .ok (.invokevirtual 139, 3) := by decide +kernel
theorem dX10_put_50 : decode cX10_put 50 = .ok (.aload_n 0, 1) := by decide +kernel
theorem dX10_put_51 : decode cX10_put 51 = .ok (.getfield 19, 3) := by decide +kernel
theorem dX10_put_54 : decode cX10_put 54 = .ok (.iload_n 1, 1) := by decide +kernel
theorem dX10_put_55 : decode cX10_put 55 = .ok (.iload_n 2, 1) := by decide +kernel
theorem dX10_put_56 : decode cX10_put 56 = .ok (.invokevirtual 143, 3) := by decide +kernel
theorem dX10_put_59 : decode cX10_put 59 = .ok (.isub, 1) := by decide +kernel
theorem dX10_put_60 : decode cX10_put 60 = .ok (.istore 4, 2) := by decide +kernel
theorem dX10_put_62 : decode cX10_put 62 = .ok (.iload_n 3, 1) := by decide +kernel
theorem dX10_put_63 : decode cX10_put 63 = .ok (.iload 4, 2) := by decide +kernel
theorem dX10_put_65 : decode cX10_put 65 = .ok (.if_icmp .le 6, 3) := by decide +kernel
theorem dX10_put_68 : decode cX10_put 68 = .ok (.bipush (-3), 2) := by decide +kernel
theorem dX10_put_70 : decode cX10_put 70 = .ok (.ireturn, 1) := by decide +kernel
theorem dX10_put_71 : decode cX10_put 71 = .ok (.aload_n 0, 1) := by decide +kernel
theorem dX10_put_72 : decode cX10_put 72 = .ok (.getfield 19, 3) := by decide +kernel
theorem dX10_put_75 : decode cX10_put 75 = .ok (.getfield 146, 3) := by decide +kernel
theorem dX10_put_78 : decode cX10_put 78 = .ok (.iload_n 1, 1) := by decide +kernel
theorem dX10_put_79 : decode cX10_put 79 = .ok (.aaload, 1) := by decide +kernel
theorem dX10_put_80 : decode cX10_put 80 = .ok (.iload_n 2, 1) := by decide +kernel
theorem dX10_put_81 : decode cX10_put 81 = .ok (.iload_n 3, 1) := by decide +kernel
theorem dX10_put_82 : decode cX10_put 82 = .ok (.iastore, 1) := by decide +kernel
theorem dX10_put_83 : decode cX10_put 83 = .ok (.iload 4, 2) := by decide +kernel
theorem dX10_put_85 : decode cX10_put 85 = .ok (.iload_n 3, 1) := by decide +kernel
theorem dX10_put_86 : decode cX10_put 86 = .ok (.isub, 1) := by decide +kernel
theorem dX10_put_87 : decode cX10_put 87 = .ok (.ireturn, 1) := by decide +kernel
theorem dX10_sleep_0 : decode cX10_sleep 0 = .ok (.iload_n 1, 1) := by decide +kernel
theorem dX10_sleep_1 : decode cX10_sleep 1 = .ok (.invokestatic 150, 3) := by decide +kernel
theorem dX10_sleep_4 : decode cX10_sleep 4 = .ok (.ifCond .eq 30, 3) := by decide +kernel
theorem dX10_sleep_7 : decode cX10_sleep 7 = .ok (.aload_n 0, 1) := by decide +kernel
theorem dX10_sleep_8 : decode cX10_sleep 8 = .ok (.getfield 19, 3) := by decide +kernel
theorem dX10_sleep_11 : decode cX10_sleep 11 = .ok (.getfield 102, 3) := by decide +kernel
theorem dX10_sleep_14 : decode cX10_sleep 14 = .ok (.iload_n 2, 1) := by decide +kernel
theorem dX10_sleep_15 : decode cX10_sleep 15 = .ok (.iload_n 3, 1) := by decide +kernel
theorem dX10_sleep_16 : decode cX10_sleep 16 = .ok (.invokevirtual 116, 3) := by decide +kernel
theorem dX10_sleep_19 : decode cX10_sleep 19 = .ok (.ifCond .eq 15, 3) := by decide +kernel
theorem dX10_sleep_22 : decode cX10_sleep 22 = .ok (.iload 4, 2) := by decide +kernel
theorem dX10_sleep_24 : decode cX10_sleep 24 = .ok (.ifCond .lt 10, 3) := by decide +kernel
theorem dX10_sleep_27 : decode cX10_sleep 27 = .ok (.iload 4, 2) := by decide +kernel
theorem dX10_sleep_29 : decode cX10_sleep 29 = .ok (.bipush 28, 2) := by decide +kernel
theorem dX10_sleep_31 : decode cX10_sleep 31 = .ok (.if_icmp .le 6, 3) := by decide +kernel
theorem dX10_sleep_34 : decode cX10_sleep 34 = .ok (.bipush (-2), 2) := by decide +kernel
theorem dX10_sleep_36 : decode cX10_sleep 36 = .ok (.ireturn, 1) := by decide +kernel
theorem dX10_sleep_37 : decode cX10_sleep 37 = .ok (.aload_n 0, 1) := by decide +kernel
theorem dX10_sleep_38 : decode cX10_sleep 38 = .ok (.getfield 19, 3) := by decide +kernel
theorem dX10_sleep_41 : decode cX10_sleep 41 = .ok (.invokevirtual 153, 3) := by decide +kernel
theorem dX10_sleep_44 : decode cX10_sleep 44 = .ok (.aload_n 0, 1) := by decide +kernel
theorem dX10_sleep_45 : decode cX10_sleep 45 = .ok (.getfield 19, 3) := by decide +kernel
theorem dX10_sleep_48 : decode cX10_sleep 48 = .ok (.getfield 157, 3) := by decide +kernel
theorem dX10_sleep_51 : decode cX10_sleep 51 = .ok (.iload_n 1, 1) := by decide +kernel
theorem dX10_sleep_52 : decode cX10_sleep 52 = .ok (.iaload, 1) := by decide +kernel
theorem dX10_sleep_53 : decode cX10_sleep 53 = .ok (.isub, 1) := by decide +kernel
theorem dX10_sleep_54 : decode cX10_sleep 54 = .ok (.iload 4, 2) := by decide +kernel
theorem dX10_sleep_56 : decode cX10_sleep 56 = .ok (.iadd, 1) := by decide +kernel
theorem dX10_sleep_57 : decode cX10_sleep 57 = .ok (.istore 5, 2) := by decide +kernel
theorem dX10_sleep_59 : decode cX10_sleep 59 = .ok (.iload 5, 2) := by decide +kernel
theorem dX10_sleep_61 : decode cX10_sleep 61 = .ok (.aload_n 0, 1) := by decide +kernel
theorem dX10_sleep_62 : decode cX10_sleep 62 = .ok (.getfield 19, 3) := by decide +kernel
theorem dX10_sleep_65 : decode cX10_sleep 65 = .ok (.getfield 102, 3) := by decide +kernel
theorem dX10_sleep_68 : decode cX10_sleep 68 = .ok (.getfield 161, 3) := by decide +kernel
theorem dX10_sleep_71 : decode cX10_sleep 71 = .ok (.if_icmp .le 6, 3) := by decide +kernel
theorem dX10_sleep_74 : decode cX10_sleep 74 = .ok (.bipush (-3), 2) := by decide +kernel
theorem dX10_sleep_76 : decode cX10_sleep 76 = .ok (.ireturn, 1) := by decide +kernel
theorem dX10_sleep_77 : decode cX10_sleep 77 = .ok (.aload_n 0, 1) := by decide +kernel
theorem dX10_sleep_78 : decode cX10_sleep 78 = .ok (.getfield 19, 3) := by decide +kernel
theorem dX10_sleep_81 : decode cX10_sleep 81 = .ok (.iload_n 1, 1) := by decide +kernel
theorem dX10_sleep_82 : decode cX10_sleep 82 = .ok (.iload_n 2, 1) := by decide +kernel
theorem dX10_sleep_83 : decode cX10_sleep 83 = .ok (.iload_n 3, 1) := by decide +kernel
theorem dX10_sleep_84 : decode cX10_sleep 84 = .ok (.invokevirtual 164, 3) := by decide +kernel
theorem dX10_sleep_87 : decode cX10_sleep 87 = .ok (.aload_n 0, 1) := by decide +kernel
theorem dX10_sleep_88 : decode cX10_sleep 88 = .ok (.getfield 19, 3) := by decide +kernel
theorem dX10_sleep_91 : decode cX10_sleep 91 = .ok (.getfield 157, 3) := by decide +kernel
theorem dX10_sleep_94 : decode cX10_sleep 94 = .ok (.iload_n 1, 1) := by decide +kernel
theorem dX10_sleep_95 : decode cX10_sleep 95 = .ok (.iload 4, 2) := by decide +kernel
theorem dX10_sleep_97 : decode cX10_sleep 97 = .ok (.iastore, 1) := by decide +kernel
theorem dX10_sleep_98 : decode cX10_sleep 98 = .ok (.iload 5, 2) := by decide +kernel
theorem dX10_sleep_100 : decode cX10_sleep 100 = .ok (.ireturn, 1) := by decide +kernel
theorem dX10_open_0 : decode cX10_open 0 = .ok (.aload_n 0, 1) := by decide +kernel
theorem dX10_open_1 : decode cX10_open 1 = .ok (.getfield 19, 3) := by decide +kernel
theorem dX10_open_4 : decode cX10_open 4 = .ok (.getfield 102, 3) := by decide +kernel
theorem dX10_open_7 : decode cX10_open 7 = .ok (.iload_n 1, 1) := by decide +kernel
theorem dX10_open_8 : decode cX10_open 8 = .ok (.invokevirtual 167, 3) := by decide +kernel
theorem dX10_open_11 : decode cX10_open 11 = .ok (.ifCond .ne 6, 3) := by decide +kernel
theorem dX10_open_14 : decode cX10_open 14 = .ok (.bipush (-2), 2) := by decide +kernel
theorem dX10_open_16 : decode cX10_open 16 = .ok (.ireturn, 1) := by decide +kernel
theorem dX10_open_17 : decode cX10_open 17 = .ok (.aload_n 0, 1) := by decide +kernel
theorem dX10_open_18 : decode cX10_open 18 = .ok (.getfield 19, 3) := by decide +kernel
theorem dX10_open_21 : decode cX10_open 21 = .ok (.getfield 170, 3) := by decide +kernel
theorem dX10_open_24 : decode cX10_open 24 = .ok (.istore_n 2, 1) := by decide +kernel
theorem dX10_open_25 : decode cX10_open 25 = .ok (.aload_n 0, 1) := by decide +kernel
theorem dX10_open_26 : decode cX10_open 26 = .ok (.getfield 19, 3) := by decide +kernel
theorem dX10_open_29 : decode cX10_open 29 = .ok (.iload_n 1, 1) := by decide +kernel
theorem dX10_open_30 : decode cX10_open 30 = .ok (.putfield 170, 3) := by decide +kernel
theorem dX10_open_33 : decode cX10_open 33 = .ok (.iload_n 2, 1) := by decide +kernel
theorem dX10_open_34 : decode cX10_open 34 = .ok (.ireturn, 1) := by decide +kernel
theorem dX10_lies_0 : decode cX10_lies 0 = .ok (.iload_n 2, 1) := by decide +kernel
theorem dX10_lies_1 : decode cX10_lies 1 = .ok (.iconst 3, 1) := by decide +kernel
theorem dX10_lies_2 : decode cX10_lies 2 = .ok (.if_icmp .ge 7, 3) := by decide +kernel
theorem dX10_lies_5 : decode cX10_lies 5 = .ok (.iconst (-1), 1) := by decide +kernel
theorem dX10_lies_6 : decode cX10_lies 6 = .ok (.goto 6, 3) := by decide +kernel
theorem dX10_lies_9 : decode cX10_lies 9 = .ok (.iload_n 2, 1) := by decide +kernel
theorem dX10_lies_10 : decode cX10_lies 10 = .ok (.iconst 3, 1) := by decide +kernel
theorem dX10_lies_11 : decode cX10_lies 11 = .ok (.isub, 1) := by decide +kernel
theorem dX10_lies_12 : decode cX10_lies 12 = .ok (.istore_n 3, 1) := by decide +kernel
theorem dX10_lies_13 : decode cX10_lies 13 = .ok (.iload_n 1, 1) := by decide +kernel
theorem dX10_lies_14 : decode cX10_lies 14 = .ok (.invokestatic 113, 3) := by decide +kernel
theorem dX10_lies_17 : decode cX10_lies 17 = .ok (.ifCond .eq 29, 3) := by decide +kernel
theorem dX10_lies_20 : decode cX10_lies 20 = .ok (.iload_n 2, 1) := by decide +kernel
theorem dX10_lies_21 : decode cX10_lies 21 = .ok (.ifCond .lt 25, 3) := by decide +kernel
theorem dX10_lies_24 : decode cX10_lies 24 = .ok (.iload_n 2, 1) := by decide +kernel
theorem dX10_lies_25 : decode cX10_lies 25 = .ok (.iconst 2, 1) := by decide +kernel
theorem dX10_lies_26 : decode cX10_lies 26 = .ok (.if_icmp .le 23, 3) := by decide +kernel
theorem dX10_lies_29 : decode cX10_lies 29 = .ok (.aload_n 0, 1) := by decide +kernel
theorem dX10_lies_30 : decode cX10_lies 30 = .ok (.getfield 19, 3) := by decide +kernel
theorem dX10_lies_33 : decode cX10_lies 33 = .ok (.getfield 102, 3) := by decide +kernel
theorem dX10_lies_36 : decode cX10_lies 36 = .ok (.getfield 130, 3) := by decide +kernel
theorem dX10_lies_39 : decode cX10_lies 39 = .ok (.iload_n 3, 1) := by decide +kernel
theorem dX10_lies_40 : decode cX10_lies 40 = .ok (.invokevirtual 134, 3) := by decide +kernel
theorem dX10_lies_43 : decode cX10_lies 43 = .ok (.ifCond .ne 6, 3) := by decide +kernel
theorem dX10_lies_46 : decode cX10_lies 46 = .ok (.bipush (-2), 2) := by decide +kernel
theorem dX10_lies_48 : decode cX10_lies 48 = .ok (.ireturn, 1) := by decide +kernel
theorem dX10_lies_49 : decode cX10_lies 49 = .ok (.aload_n 0, 1) := by decide +kernel
theorem dX10_lies_50 : decode cX10_lies 50 = .ok (.getfield 19, 3) := by decide +kernel
theorem dX10_lies_53 : decode cX10_lies 53 = .ok (.iload_n 1, 1) := by decide +kernel
theorem dX10_lies_54 : decode cX10_lies 54 = .ok (.invokevirtual 120, 3) := by decide +kernel
theorem dX10_lies_57 : decode cX10_lies 57 = .ok (.ifCond .ne 5, 3) := by decide +kernel
theorem dX10_lies_60 : decode cX10_lies 60 = .ok (.iconst (-1), 1) := by decide +kernel
theorem dX10_lies_61 : decode cX10_lies 61 = .ok (.ireturn, 1) := by decide +kernel
theorem dX10_lies_62 : decode cX10_lies 62 = .ok (.iload_n 2, 1) := by decide +kernel
theorem dX10_lies_63 : decode cX10_lies 63 = .ok (.tableswitch 54 0 2 #[25, 35, 45], 25) := by decide +kernel
theorem dX10_lies_88 : decode cX10_lies 88 = .ok (.aload_n 0, 1) := by decide +kernel
theorem dX10_lies_89 : decode cX10_lies 89 = .ok (.getfield 19, 3) := by decide +kernel
theorem dX10_lies_92 : decode cX10_lies 92 = .ok (.getfield 173, 3) := by decide +kernel
theorem dX10_lies_95 : decode cX10_lies 95 = .ok (.iload_n 1, 1) := by decide +kernel
theorem dX10_lies_96 : decode cX10_lies 96 = .ok (.iaload, 1) := by decide +kernel
theorem dX10_lies_97 : decode cX10_lies 97 = .ok (.ireturn, 1) := by decide +kernel
theorem dX10_lies_98 : decode cX10_lies 98 = .ok (.aload_n 0, 1) := by decide +kernel
theorem dX10_lies_99 : decode cX10_lies 99 = .ok (.getfield 19, 3) := by decide +kernel
theorem dX10_lies_102 : decode cX10_lies 102 = .ok (.getfield 176, 3) := by decide +kernel
theorem dX10_lies_105 : decode cX10_lies 105 = .ok (.iload_n 1, 1) := by decide +kernel
theorem dX10_lies_106 : decode cX10_lies 106 = .ok (.iaload, 1) := by decide +kernel
theorem dX10_lies_107 : decode cX10_lies 107 = .ok (.ireturn, 1) := by decide +kernel
theorem dX10_lies_108 : decode cX10_lies 108 = .ok (.aload_n 0, 1) := by decide +kernel
theorem dX10_lies_109 : decode cX10_lies 109 = .ok (.getfield 19, 3) := by decide +kernel
theorem dX10_lies_112 : decode cX10_lies 112 = .ok (.iload_n 1, 1) := by decide +kernel
theorem dX10_lies_113 : decode cX10_lies 113 = .ok (.invokevirtual 179, 3) := by decide +kernel
theorem dX10_lies_116 : decode cX10_lies 116 = .ok (.ireturn, 1) := by decide +kernel
theorem dX10_lies_117 : decode cX10_lies 117 = .ok (.aload_n 0, 1) := by decide +kernel
theorem dX10_lies_118 : decode cX10_lies 118 = .ok (.getfield 19, 3) := by decide +kernel
theorem dX10_lies_121 : decode cX10_lies 121 = .ok (.iload_n 1, 1) := by decide +kernel
theorem dX10_lies_122 : decode cX10_lies 122 = .ok (.iload_n 3, 1) := by decide +kernel
theorem dX10_lies_123 : decode cX10_lies 123 = .ok (.invokevirtual 183, 3) := by decide +kernel
theorem dX10_lies_126 : decode cX10_lies 126 = .ok (.ireturn, 1) := by decide +kernel
theorem dX10_near_0 : decode cX10_near 0 = .ok (.aload_n 0, 1) := by decide +kernel
theorem dX10_near_1 : decode cX10_near 1 = .ok (.getfield 19, 3) := by decide +kernel
theorem dX10_near_4 : decode cX10_near 4 = .ok (.getfield 102, 3) := by decide +kernel
theorem dX10_near_7 : decode cX10_near 7 = .ok (.getfield 186, 3) := by decide +kernel
theorem dX10_near_10 : decode cX10_near 10 = .ok (.iload_n 1, 1) := by decide +kernel
theorem dX10_near_11 : decode cX10_near 11 = .ok (.invokevirtual 134, 3) := by decide +kernel
theorem dX10_near_14 : decode cX10_near 14 = .ok (.ifCond .eq 14, 3) := by decide +kernel
theorem dX10_near_17 : decode cX10_near 17 = .ok (.aload_n 0, 1) := by decide +kernel
theorem dX10_near_18 : decode cX10_near 18 = .ok (.getfield 19, 3) := by decide +kernel
theorem dX10_near_21 : decode cX10_near 21 = .ok (.iload_n 1, 1) := by decide +kernel
theorem dX10_near_22 : decode cX10_near 22 = .ok (.invokevirtual 189, 3) := by decide +kernel
theorem dX10_near_25 : decode cX10_near 25 = .ok (.goto 5, 3) := by decide +kernel
theorem dX10_near_28 : decode cX10_near 28 = .ok (.bipush (-2), 2) := by decide +kernel
theorem dX10_near_30 : decode cX10_near 30 = .ok (.ireturn, 1) := by decide +kernel
theorem dX10_odds_0 : decode cX10_odds 0 = .ok (.aload_n 0, 1) := by decide +kernel
theorem dX10_odds_1 : decode cX10_odds 1 = .ok (.getfield 19, 3) := by decide +kernel
theorem dX10_odds_4 : decode cX10_odds 4 = .ok (.getfield 102, 3) := by decide +kernel
theorem dX10_odds_7 : decode cX10_odds 7 = .ok (.getfield 186, 3) := by decide +kernel
theorem dX10_odds_10 : decode cX10_odds 10 = .ok (.iload_n 1, 1) := by decide +kernel
theorem dX10_odds_11 : decode cX10_odds 11 = .ok (.invokevirtual 134, 3) := by decide +kernel
theorem dX10_odds_14 : decode cX10_odds 14 = .ok (.ifCond .eq 14, 3) := by decide +kernel
theorem dX10_odds_17 : decode cX10_odds 17 = .ok (.aload_n 0, 1) := by decide +kernel
theorem dX10_odds_18 : decode cX10_odds 18 = .ok (.getfield 19, 3) := by decide +kernel
theorem dX10_odds_21 : decode cX10_odds 21 = .ok (.iload_n 1, 1) := by decide +kernel
theorem dX10_odds_22 : decode cX10_odds 22 = .ok (.invokevirtual 192, 3) := by decide +kernel
theorem dX10_odds_25 : decode cX10_odds 25 = .ok (.goto 5, 3) := by decide +kernel
theorem dX10_odds_28 : decode cX10_odds 28 = .ok (.bipush (-2), 2) := by decide +kernel
theorem dX10_odds_30 : decode cX10_odds 30 = .ok (.ireturn, 1) := by decide +kernel
theorem dX10_piece_0 : decode cX10_piece 0 = .ok (.aload_n 0, 1) := by decide +kernel
theorem dX10_piece_1 : decode cX10_piece 1 = .ok (.getfield 19, 3) := by decide +kernel
theorem dX10_piece_4 : decode cX10_piece 4 = .ok (.getfield 102, 3) := by decide +kernel
theorem dX10_piece_7 : decode cX10_piece 7 = .ok (.astore 4, 2) := by decide +kernel
theorem dX10_piece_9 : decode cX10_piece 9 = .ok (.aload 4, 2) := by decide +kernel
theorem dX10_piece_11 : decode cX10_piece 11 = .ok (.iload_n 1, 1) := by decide +kernel
theorem dX10_piece_12 : decode cX10_piece 12 = .ok (.invokevirtual 167, 3) := by decide +kernel
theorem dX10_piece_15 : decode cX10_piece 15 = .ok (.ifCond .eq 13, 3) := by decide +kernel
theorem dX10_piece_18 : decode cX10_piece 18 = .ok (.aload 4, 2) := by decide +kernel
theorem dX10_piece_20 : decode cX10_piece 20 = .ok (.iload_n 2, 1) := by decide +kernel
theorem dX10_piece_21 : decode cX10_piece 21 = .ok (.iload_n 3, 1) := by decide +kernel
theorem dX10_piece_22 : decode cX10_piece 22 = .ok (.invokevirtual 116, 3) := by decide +kernel
theorem dX10_piece_25 : decode cX10_piece 25 = .ok (.ifCond .ne 6, 3) := by decide +kernel
theorem dX10_piece_28 : decode cX10_piece 28 = .ok (.bipush (-2), 2) := by decide +kernel
theorem dX10_piece_30 : decode cX10_piece 30 = .ok (.ireturn, 1) := by decide +kernel
theorem dX10_piece_31 : decode cX10_piece 31 = .ok (.aload 4, 2) := by decide +kernel
theorem dX10_piece_33 : decode cX10_piece 33 = .ok (.iload_n 2, 1) := by decide +kernel
theorem dX10_piece_34 : decode cX10_piece 34 = .ok (.iload_n 3, 1) := by decide +kernel
theorem dX10_piece_35 : decode cX10_piece 35 = .ok (.invokevirtual 195, 3) := by decide +kernel
theorem dX10_piece_38 : decode cX10_piece 38 = .ok (.iload_n 1, 1) := by decide +kernel
theorem dX10_piece_39 : decode cX10_piece 39 = .ok (.iand, 1) := by decide +kernel
theorem dX10_piece_40 : decode cX10_piece 40 = .ok (.istore 5, 2) := by decide +kernel
theorem dX10_piece_42 : decode cX10_piece 42 = .ok (.iload 5, 2) := by decide +kernel
theorem dX10_piece_44 : decode cX10_piece 44 = .ok (.aload 4, 2) := by decide +kernel
theorem dX10_piece_46 : decode cX10_piece 46 = .ok (.invokevirtual 198, 3) := by decide +kernel
theorem dX10_piece_49 : decode cX10_piece 49 = .ok (.iand, 1) := by decide +kernel
theorem dX10_piece_50 : decode cX10_piece 50 = .ok (.istore 6, 2) := by decide +kernel
theorem dX10_piece_52 : decode cX10_piece 52 = .ok (.iload 5, 2) := by decide +kernel
theorem dX10_piece_54 : decode cX10_piece 54 = .ok (.invokestatic 201, 3) := by decide +kernel
theorem dX10_piece_57 : decode cX10_piece 57 = .ok (.iload 6, 2) := by decide +kernel
theorem dX10_piece_59 : decode cX10_piece 59 = .ok (.invokestatic 201, 3) := by decide +kernel
theorem dX10_piece_62 : decode cX10_piece 62 = .ok (.isub, 1) := by decide +kernel
theorem dX10_piece_63 : decode cX10_piece 63 = .ok (.bipush 8, 2) := by decide +kernel
theorem dX10_piece_65 : decode cX10_piece 65 = .ok (.iload 6, 2) := by decide +kernel
theorem dX10_piece_67 : decode cX10_piece 67 = .ok (.invokestatic 201, 3) := by decide +kernel
theorem dX10_piece_70 : decode cX10_piece 70 = .ok (.imul, 1) := by decide +kernel
theorem dX10_piece_71 : decode cX10_piece 71 = .ok (.iadd, 1) := by decide +kernel
theorem dX10_piece_72 : decode cX10_piece 72 = .ok (.ireturn, 1) := by decide +kernel
theorem dX10_pieces_0 : decode cX10_pieces 0 = .ok (.aload_n 0, 1) := by decide +kernel
theorem dX10_pieces_1 : decode cX10_pieces 1 = .ok (.getfield 19, 3) := by decide +kernel
theorem dX10_pieces_4 : decode cX10_pieces 4 = .ok (.getfield 102, 3) := by decide +kernel
theorem dX10_pieces_7 : decode cX10_pieces 7 = .ok (.astore_n 2, 1) := by decide +kernel
theorem dX10_pieces_8 : decode cX10_pieces 8 = .ok (.aload_n 2, 1) := by decide +kernel
theorem dX10_pieces_9 : decode cX10_pieces 9 = .ok (.iload_n 1, 1) := by decide +kernel
theorem dX10_pieces_10 : decode cX10_pieces 10 = .ok (.invokevirtual 167, 3) := by decide +kernel
theorem dX10_pieces_13 : decode cX10_pieces 13 = .ok (.ifCond .ne 6, 3) := by decide +kernel
theorem dX10_pieces_16 : decode cX10_pieces 16 = .ok (.bipush (-2), 2) := by decide +kernel
theorem dX10_pieces_18 : decode cX10_pieces 18 = .ok (.ireturn, 1) := by decide +kernel
theorem dX10_pieces_19 : decode cX10_pieces 19 = .ok (.iconst 1, 1) := by decide +kernel
theorem dX10_pieces_20 : decode cX10_pieces 20 = .ok (.aload_n 2, 1) := by decide +kernel
theorem dX10_pieces_21 : decode cX10_pieces 21 = .ok (.iload_n 1, 1) := by decide +kernel
theorem dX10_pieces_22 : decode cX10_pieces 22 = .ok (.iconst 0, 1) := by decide +kernel
theorem dX10_pieces_23 : decode cX10_pieces 23 = .ok (.invokevirtual 206, 3) := by decide +kernel
theorem dX10_pieces_26 : decode cX10_pieces 26 = .ok (.iadd, 1) := by decide +kernel
theorem dX10_pieces_27 : decode cX10_pieces 27 = .ok (.iconst 1, 1) := by decide +kernel
theorem dX10_pieces_28 : decode cX10_pieces 28 = .ok (.aload_n 2, 1) := by decide +kernel
theorem dX10_pieces_29 : decode cX10_pieces 29 = .ok (.iload_n 1, 1) := by decide +kernel
theorem dX10_pieces_30 : decode cX10_pieces 30 = .ok (.iconst 1, 1) := by decide +kernel
theorem dX10_pieces_31 : decode cX10_pieces 31 = .ok (.invokevirtual 206, 3) := by decide +kernel
theorem dX10_pieces_34 : decode cX10_pieces 34 = .ok (.iadd, 1) := by decide +kernel
theorem dX10_pieces_35 : decode cX10_pieces 35 = .ok (.imul, 1) := by decide +kernel
theorem dX10_pieces_36 : decode cX10_pieces 36 = .ok (.ireturn, 1) := by decide +kernel
theorem dX10_part_0 : decode cX10_part 0 = .ok (.aload_n 0, 1) := by decide +kernel
theorem dX10_part_1 : decode cX10_part 1 = .ok (.getfield 19, 3) := by decide +kernel
theorem dX10_part_4 : decode cX10_part 4 = .ok (.getfield 102, 3) := by decide +kernel
theorem dX10_part_7 : decode cX10_part 7 = .ok (.iload_n 1, 1) := by decide +kernel
theorem dX10_part_8 : decode cX10_part 8 = .ok (.invokevirtual 167, 3) := by decide +kernel
theorem dX10_part_11 : decode cX10_part 11 = .ok (.ifCond .ne 7, 3) := by decide +kernel
theorem dX10_part_14 : decode cX10_part 14 = .ok (.ldc2_w 209, 3) := by decide +kernel
theorem dX10_part_17 : decode cX10_part 17 = .ok (.lreturn, 1) := by decide +kernel
theorem dX10_part_18 : decode cX10_part 18 = .ok (.aload_n 0, 1) := by decide +kernel
theorem dX10_part_19 : decode cX10_part 19 = .ok (.getfield 41, 3) := by decide +kernel
theorem dX10_part_22 : decode cX10_part 22 = .ok (.aload_n 0, 1) := by decide +kernel
theorem dX10_part_23 : decode cX10_part 23 = .ok (.getfield 19, 3) := by decide +kernel
theorem dX10_part_26 : decode cX10_part 26 = .ok (.invokevirtual 211, 3) := by decide +kernel
theorem dX10_part_29 : decode cX10_part 29 = .ok (.aload_n 0, 1) := by decide +kernel
theorem dX10_part_30 : decode cX10_part 30 = .ok (.getfield 41, 3) := by decide +kernel
theorem dX10_part_33 : decode cX10_part 33 = .ok (.invokevirtual 215, 3) := by decide +kernel
theorem dX10_part_36 : decode cX10_part 36 = .ok (.aload_n 0, 1) := by decide +kernel
theorem dX10_part_37 : decode cX10_part 37 = .ok (.getfield 41, 3) := by decide +kernel
theorem dX10_part_40 : decode cX10_part 40 = .ok (.iload_n 1, 1) := by decide +kernel
theorem dX10_part_41 : decode cX10_part 41 = .ok (.invokevirtual 218, 3) := by decide +kernel
theorem dX10_part_44 : decode cX10_part 44 = .ok (.lreturn, 1) := by decide +kernel
theorem dX10_with_0 : decode cX10_with 0 = .ok (.aload_n 0, 1) := by decide +kernel
theorem dX10_with_1 : decode cX10_with 1 = .ok (.getfield 19, 3) := by decide +kernel
theorem dX10_with_4 : decode cX10_with 4 = .ok (.getfield 102, 3) := by decide +kernel
theorem dX10_with_7 : decode cX10_with 7 = .ok (.invokevirtual 222, 3) := by decide +kernel
theorem dX10_with_10 : decode cX10_with 10 = .ok (.ifCond .eq 24, 3) := by decide +kernel
theorem dX10_with_13 : decode cX10_with 13 = .ok (.iload_n 1, 1) := by decide +kernel
theorem dX10_with_14 : decode cX10_with 14 = .ok (.ifCond .lt 20, 3) := by decide +kernel
theorem dX10_with_17 : decode cX10_with 17 = .ok (.iload_n 1, 1) := by decide +kernel
theorem dX10_with_18 : decode cX10_with 18 = .ok (.aload_n 0, 1) := by decide +kernel
theorem dX10_with_19 : decode cX10_with 19 = .ok (.getfield 19, 3) := by decide +kernel
theorem dX10_with_22 : decode cX10_with 22 = .ok (.getfield 102, 3) := by decide +kernel
theorem dX10_with_25 : decode cX10_with 25 = .ok (.getfield 186, 3) := by decide +kernel
theorem dX10_with_28 : decode cX10_with 28 = .ok (.getfield 226, 3) := by decide +kernel
theorem dX10_with_31 : decode cX10_with 31 = .ok (.if_icmp .le 7, 3) := by decide +kernel
theorem dX10_with_34 : decode cX10_with 34 = .ok (.ldc2_w 209, 3) := by decide +kernel
theorem dX10_with_37 : decode cX10_with 37 = .ok (.lreturn, 1) := by decide +kernel
theorem dX10_with_38 : decode cX10_with 38 = .ok (.aload_n 0, 1) := by decide +kernel
theorem dX10_with_39 : decode cX10_with 39 = .ok (.getfield 41, 3) := by decide +kernel
theorem dX10_with_42 : decode cX10_with 42 = .ok (.aload_n 0, 1) := by decide +kernel
theorem dX10_with_43 : decode cX10_with 43 = .ok (.getfield 19, 3) := by decide +kernel
theorem dX10_with_46 : decode cX10_with 46 = .ok (.invokevirtual 211, 3) := by decide +kernel
theorem dX10_with_49 : decode cX10_with 49 = .ok (.aload_n 0, 1) := by decide +kernel
theorem dX10_with_50 : decode cX10_with 50 = .ok (.getfield 41, 3) := by decide +kernel
theorem dX10_with_53 : decode cX10_with 53 = .ok (.invokevirtual 215, 3) := by decide +kernel
theorem dX10_with_56 : decode cX10_with 56 = .ok (.lconst 0, 1) := by decide +kernel
theorem dX10_with_57 : decode cX10_with 57 = .ok (.lstore_n 3, 1) := by decide +kernel
theorem dX10_with_58 : decode cX10_with 58 = .ok (.iconst 0, 1) := by decide +kernel
theorem dX10_with_59 : decode cX10_with 59 = .ok (.istore 5, 2) := by decide +kernel
theorem dX10_with_61 : decode cX10_with 61 = .ok (.iload 5, 2) := by decide +kernel
theorem dX10_with_63 : decode cX10_with 63 = .ok (.aload_n 0, 1) := by decide +kernel
theorem dX10_with_64 : decode cX10_with 64 = .ok (.getfield 41, 3) := by decide +kernel
theorem dX10_with_67 : decode cX10_with 67 = .ok (.getfield 229, 3) := by decide +kernel
theorem dX10_with_70 : decode cX10_with 70 = .ok (.if_icmp .ge 46, 3) := by decide +kernel
theorem dX10_with_73 : decode cX10_with 73 = .ok (.iload 5, 2) := by decide +kernel
theorem dX10_with_75 : decode cX10_with 75 = .ok (.invokestatic 201, 3) := by decide +kernel
theorem dX10_with_78 : decode cX10_with 78 = .ok (.iload_n 1, 1) := by decide +kernel
theorem dX10_with_79 : decode cX10_with 79 = .ok (.if_icmp .ne 31, 3) := by decide +kernel
theorem dX10_with_82 : decode cX10_with 82 = .ok (.iload_n 2, 1) := by decide +kernel
theorem dX10_with_83 : decode cX10_with 83 = .ok (.ifCond .eq 15, 3) := by decide +kernel
theorem dX10_with_86 : decode cX10_with 86 = .ok (.aload_n 0, 1) := by decide +kernel
theorem dX10_with_87 : decode cX10_with 87 = .ok (.getfield 41, 3) := by decide +kernel
theorem dX10_with_90 : decode cX10_with 90 = .ok (.iload 5, 2) := by decide +kernel
theorem dX10_with_92 : decode cX10_with 92 = .ok (.invokevirtual 232, 3) := by decide +kernel
theorem dX10_with_95 : decode cX10_with 95 = .ok (.ifCond .ne 15, 3) := by decide +kernel
theorem dX10_with_98 : decode cX10_with 98 = .ok (.lload_n 3, 1) := by decide +kernel
theorem dX10_with_99 : decode cX10_with 99 = .ok (.aload_n 0, 1) := by decide +kernel
theorem dX10_with_100 : decode cX10_with 100 = .ok (.getfield 41, 3) := by decide +kernel
theorem dX10_with_103 : decode cX10_with 103 = .ok (.iload 5, 2) := by decide +kernel
theorem dX10_with_105 : decode cX10_with 105 = .ok (.invokevirtual 218, 3) := by decide +kernel
theorem dX10_with_108 : decode cX10_with 108 = .ok (.ladd, 1) := by decide +kernel
theorem dX10_with_109 : decode cX10_with 109 = .ok (.lstore_n 3, 1) := by decide +kernel
theorem dX10_with_110 : decode cX10_with 110 = .ok (.iinc 5 1, 3) := by decide +kernel
theorem dX10_with_113 : decode cX10_with 113 = .ok (.goto (-52), 3) := by decide +kernel
theorem dX10_with_116 : decode cX10_with 116 = .ok (.lload_n 3, 1) := by decide +kernel
theorem dX10_with_117 : decode cX10_with 117 = .ok (.lreturn, 1) := by decide +kernel
theorem dX10_enough_0 : decode cX10_enough 0 = .ok (.aload_n 0, 1) := by decide +kernel
theorem dX10_enough_1 : decode cX10_enough 1 = .ok (.getfield 19, 3) := by decide +kernel
theorem dX10_enough_4 : decode cX10_enough 4 = .ok (.getfield 102, 3) := by decide +kernel
theorem dX10_enough_7 : decode cX10_enough 7 = .ok (.iload_n 1, 1) := by decide +kernel
theorem dX10_enough_8 : decode cX10_enough 8 = .ok (.invokevirtual 167, 3) := by decide +kernel
theorem dX10_enough_11 : decode cX10_enough 11 = .ok (.ifCond .ne 6, 3) := by decide +kernel
theorem dX10_enough_14 : decode cX10_enough 14 = .ok (.bipush (-2), 2) := by decide +kernel
theorem dX10_enough_16 : decode cX10_enough 16 = .ok (.ireturn, 1) := by decide +kernel
theorem dX10_enough_17 : decode cX10_enough 17 = .ok (.aload_n 0, 1) := by decide +kernel
theorem dX10_enough_18 : decode cX10_enough 18 = .ok (.getfield 41, 3) := by decide +kernel
theorem dX10_enough_21 : decode cX10_enough 21 = .ok (.aload_n 0, 1) := by decide +kernel
theorem dX10_enough_22 : decode cX10_enough 22 = .ok (.getfield 19, 3) := by decide +kernel
theorem dX10_enough_25 : decode cX10_enough 25 = .ok (.invokevirtual 211, 3) := by decide +kernel
theorem dX10_enough_28 : decode cX10_enough 28 = .ok (.aload_n 0, 1) := by decide +kernel
theorem dX10_enough_29 : decode cX10_enough 29 = .ok (.getfield 41, 3) := by decide +kernel
theorem dX10_enough_32 : decode cX10_enough 32 = .ok (.iload_n 1, 1) := by decide +kernel
theorem dX10_enough_33 : decode cX10_enough 33 = .ok (.invokevirtual 232, 3) := by decide +kernel
theorem dX10_enough_36 : decode cX10_enough 36 = .ok (.ifCond .eq 7, 3) := by decide +kernel
theorem dX10_enough_39 : decode cX10_enough 39 = .ok (.iconst 1, 1) := by decide +kernel
theorem dX10_enough_40 : decode cX10_enough 40 = .ok (.goto 4, 3) := by decide +kernel
theorem dX10_enough_43 : decode cX10_enough 43 = .ok (.iconst 0, 1) := by decide +kernel
theorem dX10_enough_44 : decode cX10_enough 44 = .ok (.ireturn, 1) := by decide +kernel
theorem dX10_lacks_0 : decode cX10_lacks 0 = .ok (.aload_n 0, 1) := by decide +kernel
theorem dX10_lacks_1 : decode cX10_lacks 1 = .ok (.getfield 19, 3) := by decide +kernel
theorem dX10_lacks_4 : decode cX10_lacks 4 = .ok (.getfield 102, 3) := by decide +kernel
theorem dX10_lacks_7 : decode cX10_lacks 7 = .ok (.iload_n 1, 1) := by decide +kernel
theorem dX10_lacks_8 : decode cX10_lacks 8 = .ok (.invokevirtual 167, 3) := by decide +kernel
theorem dX10_lacks_11 : decode cX10_lacks 11 = .ok (.ifCond .eq 12, 3) := by decide +kernel
theorem dX10_lacks_14 : decode cX10_lacks 14 = .ok (.iload_n 2, 1) := by decide +kernel
theorem dX10_lacks_15 : decode cX10_lacks 15 = .ok (.ifCond .lt 8, 3) := by decide +kernel
theorem dX10_lacks_18 : decode cX10_lacks 18 = .ok (.iload_n 2, 1) := by decide +kernel
theorem dX10_lacks_19 : decode cX10_lacks 19 = .ok (.iconst 4, 1) := by decide +kernel
theorem dX10_lacks_20 : decode cX10_lacks 20 = .ok (.if_icmp .lt 6, 3) := by decide +kernel
theorem dX10_lacks_23 : decode cX10_lacks 23 = .ok (.bipush (-2), 2) := by decide +kernel
theorem dX10_lacks_25 : decode cX10_lacks 25 = .ok (.ireturn, 1) := by decide +kernel
theorem dX10_lacks_26 : decode cX10_lacks 26 = .ok (.aload_n 0, 1) := by decide +kernel
theorem dX10_lacks_27 : decode cX10_lacks 27 = .ok (.getfield 41, 3) := by decide +kernel
theorem dX10_lacks_30 : decode cX10_lacks 30 = .ok (.aload_n 0, 1) := by decide +kernel
theorem dX10_lacks_31 : decode cX10_lacks 31 = .ok (.getfield 19, 3) := by decide +kernel
theorem dX10_lacks_34 : decode cX10_lacks 34 = .ok (.invokevirtual 211, 3) := by decide +kernel
theorem dX10_lacks_37 : decode cX10_lacks 37 = .ok (.aload_n 0, 1) := by decide +kernel
theorem dX10_lacks_38 : decode cX10_lacks 38 = .ok (.getfield 41, 3) := by decide +kernel
theorem dX10_lacks_41 : decode cX10_lacks 41 = .ok (.iload_n 1, 1) := by decide +kernel
theorem dX10_lacks_42 : decode cX10_lacks 42 = .ok (.iload_n 2, 1) := by decide +kernel
theorem dX10_lacks_43 : decode cX10_lacks 43 = .ok (.invokevirtual 235, 3) := by decide +kernel
theorem dX10_lacks_46 : decode cX10_lacks 46 = .ok (.ireturn, 1) := by decide +kernel
theorem dX10_lost_0 : decode cX10_lost 0 = .ok (.aload_n 0, 1) := by decide +kernel
theorem dX10_lost_1 : decode cX10_lost 1 = .ok (.getfield 19, 3) := by decide +kernel
theorem dX10_lost_4 : decode cX10_lost 4 = .ok (.getfield 102, 3) := by decide +kernel
theorem dX10_lost_7 : decode cX10_lost 7 = .ok (.invokevirtual 222, 3) := by decide +kernel
theorem dX10_lost_10 : decode cX10_lost 10 = .ok (.ifCond .eq 14, 3) := by decide +kernel
theorem dX10_lost_13 : decode cX10_lost 13 = .ok (.iload_n 1, 1) := by decide +kernel
theorem dX10_lost_14 : decode cX10_lost 14 = .ok (.iconst 1, 1) := by decide +kernel
theorem dX10_lost_15 : decode cX10_lost 15 = .ok (.if_icmp .lt 9, 3) := by decide +kernel
theorem dX10_lost_18 : decode cX10_lost 18 = .ok (.iload_n 1, 1) := by decide +kernel
theorem dX10_lost_19 : decode cX10_lost 19 = .ok (.bipush 48, 2) := by decide +kernel
theorem dX10_lost_21 : decode cX10_lost 21 = .ok (.if_icmp .le 7, 3) := by decide +kernel
theorem dX10_lost_24 : decode cX10_lost 24 = .ok (.ldc2_w 209, 3) := by decide +kernel
theorem dX10_lost_27 : decode cX10_lost 27 = .ok (.lreturn, 1) := by decide +kernel
theorem dX10_lost_28 : decode cX10_lost 28 = .ok (.aload_n 0, 1) := by decide +kernel
theorem dX10_lost_29 : decode cX10_lost 29 = .ok (.getfield 41, 3) := by decide +kernel
theorem dX10_lost_32 : decode cX10_lost 32 = .ok (.aload_n 0, 1) := by decide +kernel
theorem dX10_lost_33 : decode cX10_lost 33 = .ok (.getfield 19, 3) := by decide +kernel
theorem dX10_lost_36 : decode cX10_lost 36 = .ok (.iload_n 1, 1) := by decide +kernel
theorem dX10_lost_37 : decode cX10_lost 37 = .ok (.invokevirtual 238, 3) := by decide +kernel
theorem dX10_lost_40 : decode cX10_lost 40 = .ok (.lreturn, 1) := by decide +kernel
theorem dX10_safe_0 : decode cX10_safe 0 = .ok (.aload_n 0, 1) := by decide +kernel
theorem dX10_safe_1 : decode cX10_safe 1 = .ok (.getfield 19, 3) := by decide +kernel
theorem dX10_safe_4 : decode cX10_safe 4 = .ok (.getfield 102, 3) := by decide +kernel
theorem dX10_safe_7 : decode cX10_safe 7 = .ok (.invokevirtual 222, 3) := by decide +kernel
theorem dX10_safe_10 : decode cX10_safe 10 = .ok (.ifCond .eq 10, 3) := by decide +kernel
theorem dX10_safe_13 : decode cX10_safe 13 = .ok (.iload_n 1, 1) := by decide +kernel
theorem dX10_safe_14 : decode cX10_safe 14 = .ok (.invokestatic 242, 3) := by decide +kernel
theorem dX10_safe_17 : decode cX10_safe 17 = .ok (.ifCond .ne 6, 3) := by decide +kernel
theorem dX10_safe_20 : decode cX10_safe 20 = .ok (.bipush (-2), 2) := by decide +kernel
theorem dX10_safe_22 : decode cX10_safe 22 = .ok (.ireturn, 1) := by decide +kernel
theorem dX10_safe_23 : decode cX10_safe 23 = .ok (.aload_n 0, 1) := by decide +kernel
theorem dX10_safe_24 : decode cX10_safe 24 = .ok (.getfield 41, 3) := by decide +kernel
theorem dX10_safe_27 : decode cX10_safe 27 = .ok (.aload_n 0, 1) := by decide +kernel
theorem dX10_safe_28 : decode cX10_safe 28 = .ok (.getfield 19, 3) := by decide +kernel
theorem dX10_safe_31 : decode cX10_safe 31 = .ok (.invokevirtual 211, 3) := by decide +kernel
theorem dX10_safe_34 : decode cX10_safe 34 = .ok (.lconst 0, 1) := by decide +kernel
theorem dX10_safe_35 : decode cX10_safe 35 = .ok (.lstore_n 2, 1) := by decide +kernel
theorem dX10_safe_36 : decode cX10_safe 36 = .ok (.iconst 1, 1) := by decide +kernel
theorem dX10_safe_37 : decode cX10_safe 37 = .ok (.istore 4, 2) := by decide +kernel
theorem dX10_safe_39 : decode cX10_safe 39 = .ok (.iload 4, 2) := by decide +kernel
theorem dX10_safe_41 : decode cX10_safe 41 = .ok (.bipush 48, 2) := by decide +kernel
theorem dX10_safe_43 : decode cX10_safe 43 = .ok (.if_icmp .gt 42, 3) := by decide +kernel
theorem dX10_safe_46 : decode cX10_safe 46 = .ok (.aload_n 0, 1) := by decide +kernel
theorem dX10_safe_47 : decode cX10_safe 47 = .ok (.getfield 41, 3) := by decide +kernel
theorem dX10_safe_50 : decode cX10_safe 50 = .ok (.invokevirtual 215, 3) := by decide +kernel
theorem dX10_safe_53 : decode cX10_safe 53 = .ok (.lload_n 2, 1) := by decide +kernel
theorem dX10_safe_54 : decode cX10_safe 54 = .ok (.aload_n 0, 1) := by decide +kernel
theorem dX10_safe_55 : decode cX10_safe 55 = .ok (.getfield 41, 3) := by decide +kernel
theorem dX10_safe_58 : decode cX10_safe 58 = .ok (.invokevirtual 245, 3) := by decide +kernel
theorem dX10_safe_61 : decode cX10_safe 61 = .ok (.ladd, 1) := by decide +kernel
theorem dX10_safe_62 : decode cX10_safe 62 = .ok (.lstore_n 2, 1) := by decide +kernel
theorem dX10_safe_63 : decode cX10_safe 63 = .ok (.lload_n 2, 1) := by decide +kernel
theorem dX10_safe_64 : decode cX10_safe 64 = .ok (.iload_n 1, 1) := by decide +kernel
theorem dX10_safe_65 : decode cX10_safe 65 = .ok (.i2l, 1) := by decide +kernel
theorem dX10_safe_66 : decode cX10_safe 66 = .ok (.ldc2_w 249, 3) := by decide +kernel
theorem dX10_safe_69 : decode cX10_safe 69 = .ok (.lmul, 1) := by decide +kernel
theorem dX10_safe_70 : decode cX10_safe 70 = .ok (.lcmp, 1) := by decide +kernel
theorem dX10_safe_71 : decode cX10_safe 71 = .ok (.ifCond .le 8, 3) := by decide +kernel
theorem dX10_safe_74 : decode cX10_safe 74 = .ok (.iload 4, 2) := by decide +kernel
theorem dX10_safe_76 : decode cX10_safe 76 = .ok (.iconst 1, 1) := by decide +kernel
theorem dX10_safe_77 : decode cX10_safe 77 = .ok (.isub, 1) := by decide +kernel
theorem dX10_safe_78 : decode cX10_safe 78 = .ok (.ireturn, 1) := by decide +kernel
theorem dX10_safe_79 : decode cX10_safe 79 = .ok (.iinc 4 1, 3) := by decide +kernel
theorem dX10_safe_82 : decode cX10_safe 82 = .ok (.goto (-43), 3) := by decide +kernel
theorem dX10_safe_85 : decode cX10_safe 85 = .ok (.bipush 48, 2) := by decide +kernel
theorem dX10_safe_87 : decode cX10_safe 87 = .ok (.ireturn, 1) := by decide +kernel
theorem dX10_judge_0 : decode cX10_judge 0 = .ok (.aload_n 0, 1) := by decide +kernel
theorem dX10_judge_1 : decode cX10_judge 1 = .ok (.iload_n 1, 1) := by decide +kernel
theorem dX10_judge_2 : decode cX10_judge 2 = .ok (.invokevirtual 251, 3) := by decide +kernel
theorem dX10_judge_5 : decode cX10_judge 5 = .ok (.astore_n 2, 1) := by decide +kernel
theorem dX10_judge_6 : decode cX10_judge 6 = .ok (.aload_n 2, 1) := by decide +kernel
theorem dX10_judge_7 : decode cX10_judge 7 = .ok (.ifnull 16, 3) := by decide +kernel
theorem dX10_judge_10 : decode cX10_judge 10 = .ok (.aload_n 0, 1) := by decide +kernel
theorem dX10_judge_11 : decode cX10_judge 11 = .ok (.getfield 19, 3) := by decide +kernel
theorem dX10_judge_14 : decode cX10_judge 14 = .ok (.getfield 102, 3) := by decide +kernel
theorem dX10_judge_17 : decode cX10_judge 17 = .ok (.invokevirtual 222, 3) := by decide +kernel
theorem dX10_judge_20 : decode cX10_judge 20 = .ok (.ifCond .ne 6, 3) := by decide +kernel
theorem dX10_judge_23 : decode cX10_judge 23 = .ok (.bipush (-2), 2) := by decide +kernel
theorem dX10_judge_25 : decode cX10_judge 25 = .ok (.ireturn, 1) := by decide +kernel
theorem dX10_judge_26 : decode cX10_judge 26 = .ok (.aload_n 2, 1) := by decide +kernel
theorem dX10_judge_27 : decode cX10_judge 27 = .ok (.getfield 255, 3) := by decide +kernel
theorem dX10_judge_30 : decode cX10_judge 30 = .ok (.ifCond .ne 6, 3) := by decide +kernel
theorem dX10_judge_33 : decode cX10_judge 33 = .ok (.bipush (-6), 2) := by decide +kernel
theorem dX10_judge_35 : decode cX10_judge 35 = .ok (.ireturn, 1) := by decide +kernel
theorem dX10_judge_36 : decode cX10_judge 36 = .ok (.aload_n 0, 1) := by decide +kernel
theorem dX10_judge_37 : decode cX10_judge 37 = .ok (.getfield 41, 3) := by decide +kernel
theorem dX10_judge_40 : decode cX10_judge 40 = .ok (.aload_n 0, 1) := by decide +kernel
theorem dX10_judge_41 : decode cX10_judge 41 = .ok (.getfield 19, 3) := by decide +kernel
theorem dX10_judge_44 : decode cX10_judge 44 = .ok (.invokevirtual 211, 3) := by decide +kernel
theorem dX10_judge_47 : decode cX10_judge 47 = .ok (.iconst 0, 1) := by decide +kernel
theorem dX10_judge_48 : decode cX10_judge 48 = .ok (.istore_n 3, 1) := by decide +kernel
theorem dX10_judge_49 : decode cX10_judge 49 = .ok (.iload_n 3, 1) := by decide +kernel
theorem dX10_judge_50 : decode cX10_judge 50 = .ok (.aload_n 2, 1) := by decide +kernel
theorem dX10_judge_51 : decode cX10_judge 51 = .ok (.getfield 259, 3) := by decide +kernel
theorem dX10_judge_54 : decode cX10_judge 54 = .ok (.if_icmp .ge 52, 3) := by decide +kernel
theorem dX10_judge_57 : decode cX10_judge 57 = .ok (.aload_n 2, 1) := by decide +kernel
theorem dX10_judge_58 : decode cX10_judge 58 = .ok (.iload_n 3, 1) := by decide +kernel
theorem dX10_judge_59 : decode cX10_judge 59 = .ok (.invokevirtual 260, 3) := by decide +kernel
theorem dX10_judge_62 : decode cX10_judge 62 = .ok (.lstore 4, 2) := by decide +kernel
theorem dX10_judge_64 : decode cX10_judge 64 = .ok (.lload 4, 2) := by decide +kernel
theorem dX10_judge_66 : decode cX10_judge 66 = .ok (.lconst 0, 1) := by decide +kernel
theorem dX10_judge_67 : decode cX10_judge 67 = .ok (.lcmp, 1) := by decide +kernel
theorem dX10_judge_68 : decode cX10_judge 68 = .ok (.ifCond .lt 30, 3) := by decide +kernel
theorem dX10_judge_71 : decode cX10_judge 71 = .ok (.lload 4, 2) := by decide +kernel
theorem dX10_judge_73 : decode cX10_judge 73 = .ok (.aload_n 0, 1) := by decide +kernel
theorem dX10_judge_74 : decode cX10_judge 74 = .ok (.getfield 41, 3) := by decide +kernel
theorem dX10_judge_77 : decode cX10_judge 77 = .ok (.getfield 229, 3) := by decide +kernel
theorem dX10_judge_80 : decode cX10_judge 80 = .ok (.i2l, 1) := by decide +kernel
theorem dX10_judge_81 : decode cX10_judge 81 = .ok (.lcmp, 1) := by decide +kernel
theorem dX10_judge_82 : decode cX10_judge 82 = .ok (.ifCond .ge 16, 3) := by decide +kernel
theorem dX10_judge_85 : decode cX10_judge 85 = .ok (.aload_n 0, 1) := by decide +kernel
theorem dX10_judge_86 : decode cX10_judge 86 = .ok (.getfield 41, 3) := by decide +kernel
theorem dX10_judge_89 : decode cX10_judge 89 = .ok (.lload 4, 2) := by decide +kernel
theorem dX10_judge_91 : decode cX10_judge 91 = .ok (.l2i, 1) := by decide +kernel
theorem dX10_judge_92 : decode cX10_judge 92 = .ok (.invokevirtual 232, 3) := by decide +kernel
theorem dX10_judge_95 : decode cX10_judge 95 = .ok (.ifCond .ne 5, 3) := by decide +kernel
theorem dX10_judge_98 : decode cX10_judge 98 = .ok (.iload_n 3, 1) := by decide +kernel
theorem dX10_judge_99 : decode cX10_judge 99 = .ok (.ireturn, 1) := by decide +kernel
theorem dX10_judge_100 : decode cX10_judge 100 = .ok (.iinc 3 1, 3) := by decide +kernel
theorem dX10_judge_103 : decode cX10_judge 103 = .ok (.goto (-54), 3) := by decide +kernel
theorem dX10_judge_106 : decode cX10_judge 106 = .ok (.aload_n 2, 1) := by decide +kernel
theorem dX10_judge_107 : decode cX10_judge 107 = .ok (.getfield 259, 3) := by decide +kernel
theorem dX10_judge_110 : decode cX10_judge 110 = .ok (.ireturn, 1) := by decide +kernel
theorem dX10_lay_0 : decode cX10_lay 0 = .ok (.aload_n 0, 1) := by decide +kernel
theorem dX10_lay_1 : decode cX10_lay 1 = .ok (.iload_n 1, 1) := by decide +kernel
theorem dX10_lay_2 : decode cX10_lay 2 = .ok (.invokevirtual 263, 3) := by decide +kernel
theorem dX10_lay_5 : decode cX10_lay 5 = .ok (.istore_n 2, 1) := by decide +kernel
theorem dX10_lay_6 : decode cX10_lay 6 = .ok (.iload_n 2, 1) := by decide +kernel
theorem dX10_lay_7 : decode cX10_lay 7 = .ok (.ifCond .eq 5, 3) := by decide +kernel
theorem dX10_lay_10 : decode cX10_lay 10 = .ok (.iload_n 2, 1) := by decide +kernel
theorem dX10_lay_11 : decode cX10_lay 11 = .ok (.ireturn, 1) := by decide +kernel
theorem dX10_lay_12 : decode cX10_lay 12 = .ok (.aload_n 0, 1) := by decide +kernel
theorem dX10_lay_13 : decode cX10_lay 13 = .ok (.getfield 19, 3) := by decide +kernel
theorem dX10_lay_16 : decode cX10_lay 16 = .ok (.iload_n 1, 1) := by decide +kernel
theorem dX10_lay_17 : decode cX10_lay 17 = .ok (.bipush 8, 2) := by decide +kernel
theorem dX10_lay_19 : decode cX10_lay 19 = .ok (.invokevirtual 266, 3) := by decide +kernel
theorem dX10_lay_22 : decode cX10_lay 22 = .ok (.aload_n 0, 1) := by decide +kernel
theorem dX10_lay_23 : decode cX10_lay 23 = .ok (.getfield 19, 3) := by decide +kernel
theorem dX10_lay_26 : decode cX10_lay 26 = .ok (.invokevirtual 270, 3) := by decide +kernel
theorem dX10_lay_29 : decode cX10_lay 29 = .ok (.ireturn, 1) := by decide +kernel
theorem dX10_trial_0 : decode cX10_trial 0 = .ok (.aload_n 0, 1) := by decide +kernel
theorem dX10_trial_1 : decode cX10_trial 1 = .ok (.iload_n 1, 1) := by decide +kernel
theorem dX10_trial_2 : decode cX10_trial 2 = .ok (.invokevirtual 263, 3) := by decide +kernel
theorem dX10_trial_5 : decode cX10_trial 5 = .ok (.istore_n 2, 1) := by decide +kernel
theorem dX10_trial_6 : decode cX10_trial 6 = .ok (.iload_n 2, 1) := by decide +kernel
theorem dX10_trial_7 : decode cX10_trial 7 = .ok (.ifCond .eq 8, 3) := by decide +kernel
theorem dX10_trial_10 : decode cX10_trial 10 = .ok (.iload_n 2, 1) := by decide +kernel
theorem dX10_trial_11 : decode cX10_trial 11 = .ok (.i2l, 1) := by decide +kernel
theorem dX10_trial_12 : decode cX10_trial 12 = .ok (.goto 17, 3) := by decide +kernel
theorem dX10_trial_15 : decode cX10_trial 15 = .ok (.aload_n 0, 1) := by decide +kernel
theorem dX10_trial_16 : decode cX10_trial 16 = .ok (.getfield 48, 3) := by decide +kernel
theorem dX10_trial_19 : decode cX10_trial 19 = .ok (.aload_n 0, 1) := by decide +kernel
theorem dX10_trial_20 : decode cX10_trial 20 = .ok (.getfield 19, 3) := by decide +kernel
theorem dX10_trial_23 : decode cX10_trial 23 = .ok (.iload_n 1, 1) := by decide +kernel
theorem dX10_trial_24 : decode cX10_trial 24 = .ok (.bipush 8, 2) := by decide +kernel
theorem dX10_trial_26 : decode cX10_trial 26 = .ok (.invokevirtual 273, 3) := by decide +kernel
theorem dX10_trial_29 : decode cX10_trial 29 = .ok (.lreturn, 1) := by decide +kernel
theorem dX10_best_0 : decode cX10_best 0 = .ok (.aload_n 0, 1) := by decide +kernel
theorem dX10_best_1 : decode cX10_best 1 = .ok (.iconst 0, 1) := by decide +kernel
theorem dX10_best_2 : decode cX10_best 2 = .ok (.invokevirtual 263, 3) := by decide +kernel
theorem dX10_best_5 : decode cX10_best 5 = .ok (.istore_n 1, 1) := by decide +kernel
theorem dX10_best_6 : decode cX10_best 6 = .ok (.iload_n 1, 1) := by decide +kernel
theorem dX10_best_7 : decode cX10_best 7 = .ok (.ifCond .eq 7, 3) := by decide +kernel
theorem dX10_best_10 : decode cX10_best 10 = .ok (.iload_n 1, 1) := by decide +kernel
theorem dX10_best_11 : decode cX10_best 11 = .ok (.goto 14, 3) := by decide +kernel
theorem dX10_best_14 : decode cX10_best 14 = .ok (.aload_n 0, 1) := by decide +kernel
theorem dX10_best_15 : decode cX10_best 15 = .ok (.getfield 48, 3) := by decide +kernel
theorem dX10_best_18 : decode cX10_best 18 = .ok (.aload_n 0, 1) := by decide +kernel
theorem dX10_best_19 : decode cX10_best 19 = .ok (.getfield 19, 3) := by decide +kernel
theorem dX10_best_22 : decode cX10_best 22 = .ok (.invokevirtual 277, 3) := by decide +kernel
theorem dX10_best_25 : decode cX10_best 25 = .ok (.ireturn, 1) := by decide +kernel
theorem dX10_betters_0 : decode cX10_betters 0 = .ok (.aload_n 0, 1) := by decide +kernel
theorem dX10_betters_1 : decode cX10_betters 1 = .ok (.getfield 19, 3) := by decide +kernel
theorem dX10_betters_4 : decode cX10_betters 4 = .ok (.getfield 102, 3) := by decide +kernel
theorem dX10_betters_7 : decode cX10_betters 7 = .ok (.invokevirtual 222, 3) := by decide +kernel
theorem dX10_betters_10 : decode cX10_betters 10 = .ok (.ifCond .eq 12, 3) := by decide +kernel
theorem dX10_betters_13 : decode cX10_betters 13 = .ok (.iload_n 1, 1) := by decide +kernel
theorem dX10_betters_14 : decode cX10_betters 14 = .ok (.ifCond .lt 8, 3) := by decide +kernel
theorem dX10_betters_17 : decode cX10_betters 17 = .ok (.iload_n 1, 1) := by decide +kernel
theorem dX10_betters_18 : decode cX10_betters 18 = .ok (.iconst 5, 1) := by decide +kernel
theorem dX10_betters_19 : decode cX10_betters 19 = .ok (.if_icmp .le 6, 3) := by decide +kernel
theorem dX10_betters_22 : decode cX10_betters 22 = .ok (.bipush (-2), 2) := by decide +kernel
theorem dX10_betters_24 : decode cX10_betters 24 = .ok (.ireturn, 1) := by decide +kernel
theorem dX10_betters_25 : decode cX10_betters 25 = .ok (.aload_n 0, 1) := by decide +kernel
theorem dX10_betters_26 : decode cX10_betters 26 = .ok (.getfield 48, 3) := by decide +kernel
theorem dX10_betters_29 : decode cX10_betters 29 = .ok (.aload_n 0, 1) := by decide +kernel
theorem dX10_betters_30 : decode cX10_betters 30 = .ok (.getfield 19, 3) := by decide +kernel
theorem dX10_betters_33 : decode cX10_betters 33 = .ok (.iload_n 1, 1) := by decide +kernel
theorem dX10_betters_34 : decode cX10_betters 34 = .ok (.invokevirtual 281, 3) := by decide +kernel
theorem dX10_betters_37 : decode cX10_betters 37 = .ok (.ireturn, 1) := by decide +kernel
theorem dX10_gap_0 : decode cX10_gap 0 = .ok (.aload_n 0, 1) := by decide +kernel
theorem dX10_gap_1 : decode cX10_gap 1 = .ok (.getfield 19, 3) := by decide +kernel
theorem dX10_gap_4 : decode cX10_gap 4 = .ok (.getfield 102, 3) := by decide +kernel
theorem dX10_gap_7 : decode cX10_gap 7 = .ok (.invokevirtual 222, 3) := by decide +kernel
theorem dX10_gap_10 : decode cX10_gap 10 = .ok (.ifCond .ne 7, 3) := by decide +kernel
theorem dX10_gap_13 : decode cX10_gap 13 = .ok (.ldc2_w 209, 3) := by decide +kernel
theorem dX10_gap_16 : decode cX10_gap 16 = .ok (.lreturn, 1) := by decide +kernel
theorem dX10_gap_17 : decode cX10_gap 17 = .ok (.aload_n 0, 1) := by decide +kernel
theorem dX10_gap_18 : decode cX10_gap 18 = .ok (.getfield 48, 3) := by decide +kernel
theorem dX10_gap_21 : decode cX10_gap 21 = .ok (.getfield 285, 3) := by decide +kernel
theorem dX10_gap_24 : decode cX10_gap 24 = .ok (.aload_n 0, 1) := by decide +kernel
theorem dX10_gap_25 : decode cX10_gap 25 = .ok (.getfield 19, 3) := by decide +kernel
theorem dX10_gap_28 : decode cX10_gap 28 = .ok (.invokevirtual 288, 3) := by decide +kernel
theorem dX10_gap_31 : decode cX10_gap 31 = .ok (.aload_n 0, 1) := by decide +kernel
theorem dX10_gap_32 : decode cX10_gap 32 = .ok (.getfield 48, 3) := by decide +kernel
theorem dX10_gap_35 : decode cX10_gap 35 = .ok (.aload_n 0, 1) := by decide +kernel
theorem dX10_gap_36 : decode cX10_gap 36 = .ok (.getfield 48, 3) := by decide +kernel
theorem dX10_gap_39 : decode cX10_gap 39 = .ok (.getfield 285, 3) := by decide +kernel
theorem dX10_gap_42 : decode cX10_gap 42 = .ok (.iconst 5, 1) := by decide +kernel
theorem dX10_gap_43 : decode cX10_gap 43 = .ok (.invokevirtual 281, 3) := by decide +kernel
theorem dX10_gap_46 : decode cX10_gap 46 = .ok (.pop, 1) := by decide +kernel
theorem dX10_gap_47 : decode cX10_gap 47 = .ok (.aload_n 0, 1) := by decide +kernel
theorem dX10_gap_48 : decode cX10_gap 48 = .ok (.getfield 41, 3) := by decide +kernel
theorem dX10_gap_51 : decode cX10_gap 51 = .ok (.aload_n 0, 1) := by decide +kernel
theorem dX10_gap_52 : decode cX10_gap 52 = .ok (.getfield 19, 3) := by decide +kernel
theorem dX10_gap_55 : decode cX10_gap 55 = .ok (.iconst 1, 1) := by decide +kernel
theorem dX10_gap_56 : decode cX10_gap 56 = .ok (.invokevirtual 238, 3) := by decide +kernel
theorem dX10_gap_59 : decode cX10_gap 59 = .ok (.aload_n 0, 1) := by decide +kernel
theorem dX10_gap_60 : decode cX10_gap 60 = .ok (.getfield 41, 3) := by decide +kernel
theorem dX10_gap_63 : decode cX10_gap 63 = .ok (.aload_n 0, 1) := by decide +kernel
theorem dX10_gap_64 : decode cX10_gap 64 = .ok (.getfield 48, 3) := by decide +kernel
theorem dX10_gap_67 : decode cX10_gap 67 = .ok (.getfield 285, 3) := by decide +kernel
theorem dX10_gap_70 : decode cX10_gap 70 = .ok (.iconst 1, 1) := by decide +kernel
theorem dX10_gap_71 : decode cX10_gap 71 = .ok (.invokevirtual 238, 3) := by decide +kernel
theorem dX10_gap_74 : decode cX10_gap 74 = .ok (.lsub, 1) := by decide +kernel
theorem dX10_gap_75 : decode cX10_gap 75 = .ok (.lreturn, 1) := by decide +kernel
theorem dX10_heaps_0 : decode cX10_heaps 0 = .ok (.aload_n 0, 1) := by decide +kernel
theorem dX10_heaps_1 : decode cX10_heaps 1 = .ok (.iconst 0, 1) := by decide +kernel
theorem dX10_heaps_2 : decode cX10_heaps 2 = .ok (.invokevirtual 263, 3) := by decide +kernel
theorem dX10_heaps_5 : decode cX10_heaps 5 = .ok (.istore_n 1, 1) := by decide +kernel
theorem dX10_heaps_6 : decode cX10_heaps 6 = .ok (.iload_n 1, 1) := by decide +kernel
theorem dX10_heaps_7 : decode cX10_heaps 7 = .ok (.ifCond .eq 7, 3) := by decide +kernel
theorem dX10_heaps_10 : decode cX10_heaps 10 = .ok (.iload_n 1, 1) := by decide +kernel
theorem dX10_heaps_11 : decode cX10_heaps 11 = .ok (.goto 14, 3) := by decide +kernel
theorem dX10_heaps_14 : decode cX10_heaps 14 = .ok (.aload_n 0, 1) := by decide +kernel
theorem dX10_heaps_15 : decode cX10_heaps 15 = .ok (.getfield 48, 3) := by decide +kernel
theorem dX10_heaps_18 : decode cX10_heaps 18 = .ok (.aload_n 0, 1) := by decide +kernel
theorem dX10_heaps_19 : decode cX10_heaps 19 = .ok (.getfield 19, 3) := by decide +kernel
theorem dX10_heaps_22 : decode cX10_heaps 22 = .ok (.invokevirtual 291, 3) := by decide +kernel
theorem dX10_heaps_25 : decode cX10_heaps 25 = .ok (.ireturn, 1) := by decide +kernel
theorem dX10_where_0 : decode cX10_where 0 = .ok (.aload_n 0, 1) := by decide +kernel
theorem dX10_where_1 : decode cX10_where 1 = .ok (.getfield 19, 3) := by decide +kernel
theorem dX10_where_4 : decode cX10_where 4 = .ok (.getfield 102, 3) := by decide +kernel
theorem dX10_where_7 : decode cX10_where 7 = .ok (.invokevirtual 222, 3) := by decide +kernel
theorem dX10_where_10 : decode cX10_where 10 = .ok (.ifCond .eq 10, 3) := by decide +kernel
theorem dX10_where_13 : decode cX10_where 13 = .ok (.iload_n 1, 1) := by decide +kernel
theorem dX10_where_14 : decode cX10_where 14 = .ok (.invokestatic 150, 3) := by decide +kernel
theorem dX10_where_17 : decode cX10_where 17 = .ok (.ifCond .ne 6, 3) := by decide +kernel
theorem dX10_where_20 : decode cX10_where 20 = .ok (.bipush (-2), 2) := by decide +kernel
theorem dX10_where_22 : decode cX10_where 22 = .ok (.ireturn, 1) := by decide +kernel
theorem dX10_where_23 : decode cX10_where 23 = .ok (.aload_n 0, 1) := by decide +kernel
theorem dX10_where_24 : decode cX10_where 24 = .ok (.getfield 48, 3) := by decide +kernel
theorem dX10_where_27 : decode cX10_where 27 = .ok (.aload_n 0, 1) := by decide +kernel
theorem dX10_where_28 : decode cX10_where 28 = .ok (.getfield 19, 3) := by decide +kernel
theorem dX10_where_31 : decode cX10_where 31 = .ok (.iload_n 1, 1) := by decide +kernel
theorem dX10_where_32 : decode cX10_where 32 = .ok (.invokevirtual 294, 3) := by decide +kernel
theorem dX10_where_35 : decode cX10_where 35 = .ok (.ireturn, 1) := by decide +kernel
theorem dX10_watch_0 : decode cX10_watch 0 = .ok (.iload_n 1, 1) := by decide +kernel
theorem dX10_watch_1 : decode cX10_watch 1 = .ok (.ifCond .lt 9, 3) := by decide +kernel
theorem dX10_watch_4 : decode cX10_watch 4 = .ok (.iload_n 1, 1) := by decide +kernel
theorem dX10_watch_5 : decode cX10_watch 5 = .ok (.bipush 28, 2) := by decide +kernel
theorem dX10_watch_7 : decode cX10_watch 7 = .ok (.if_icmp .le 9, 3) := by decide +kernel
theorem dX10_watch_10 : decode cX10_watch 10 = .ok (.ldc2_w 209, 3) := by decide +kernel
theorem dX10_watch_13 : decode cX10_watch 13 = .ok (.goto 8, 3) := by decide +kernel
theorem dX10_watch_16 : decode cX10_watch 16 = .ok (.aload_n 0, 1) := by decide +kernel
theorem dX10_watch_17 : decode cX10_watch 17 = .ok (.iload_n 1, 1) := by decide +kernel
theorem dX10_watch_18 : decode cX10_watch 18 = .ok (.invokevirtual 297, 3) := by decide +kernel
theorem dX10_watch_21 : decode cX10_watch 21 = .ok (.lreturn, 1) := by decide +kernel
theorem dX10_watches_0 : decode cX10_watches 0 = .ok (.iload_n 1, 1) := by decide +kernel
theorem dX10_watches_1 : decode cX10_watches 1 = .ok (.invokestatic 242, 3) := by decide +kernel
theorem dX10_watches_4 : decode cX10_watches 4 = .ok (.ifCond .ne 6, 3) := by decide +kernel
theorem dX10_watches_7 : decode cX10_watches 7 = .ok (.bipush (-2), 2) := by decide +kernel
theorem dX10_watches_9 : decode cX10_watches 9 = .ok (.ireturn, 1) := by decide +kernel
theorem dX10_watches_10 : decode cX10_watches 10 = .ok (.iconst 0, 1) := by decide +kernel
theorem dX10_watches_11 : decode cX10_watches 11 = .ok (.istore_n 2, 1) := by decide +kernel
theorem dX10_watches_12 : decode cX10_watches 12 = .ok (.iload_n 2, 1) := by decide +kernel
theorem dX10_watches_13 : decode cX10_watches 13 = .ok (.bipush 28, 2) := by decide +kernel
theorem dX10_watches_15 : decode cX10_watches 15 = .ok (.if_icmp .gt 26, 3) := by decide +kernel
theorem dX10_watches_18 : decode cX10_watches 18 = .ok (.aload_n 0, 1) := by decide +kernel
theorem dX10_watches_19 : decode cX10_watches 19 = .ok (.iload_n 2, 1) := by decide +kernel
theorem dX10_watches_20 : decode cX10_watches 20 = .ok (.invokevirtual 297, 3) := by decide +kernel
theorem dX10_watches_23 : decode cX10_watches 23 = .ok (.iload_n 1, 1) := by decide +kernel
theorem dX10_watches_24 : decode cX10_watches 24 = .ok (.i2l, 1) := by decide +kernel
theorem dX10_watches_25 : decode cX10_watches 25 = .ok (.ldc2_w 249, 3) := by decide +kernel
theorem dX10_watches_28 : decode cX10_watches 28 = .ok (.lmul, 1) := by decide +kernel
theorem dX10_watches_29 : decode cX10_watches 29 = .ok (.lcmp, 1) := by decide +kernel
theorem dX10_watches_30 : decode cX10_watches 30 = .ok (.ifCond .gt 5, 3) := by decide +kernel
theorem dX10_watches_33 : decode cX10_watches 33 = .ok (.iload_n 2, 1) := by decide +kernel
theorem dX10_watches_34 : decode cX10_watches 34 = .ok (.ireturn, 1) := by decide +kernel
theorem dX10_watches_35 : decode cX10_watches 35 = .ok (.iinc 2 1, 3) := by decide +kernel
theorem dX10_watches_38 : decode cX10_watches 38 = .ok (.goto (-26), 3) := by decide +kernel
theorem dX10_watches_41 : decode cX10_watches 41 = .ok (.iconst (-1), 1) := by decide +kernel
theorem dX10_watches_42 : decode cX10_watches 42 = .ok (.ireturn, 1) := by decide +kernel
theorem dX10_alive_0 : decode cX10_alive 0 = .ok (.aload_n 0, 1) := by decide +kernel
theorem dX10_alive_1 : decode cX10_alive 1 = .ok (.getfield 19, 3) := by decide +kernel
theorem dX10_alive_4 : decode cX10_alive 4 = .ok (.getfield 102, 3) := by decide +kernel
theorem dX10_alive_7 : decode cX10_alive 7 = .ok (.iload_n 1, 1) := by decide +kernel
theorem dX10_alive_8 : decode cX10_alive 8 = .ok (.iload_n 2, 1) := by decide +kernel
theorem dX10_alive_9 : decode cX10_alive 9 = .ok (.iload_n 3, 1) := by decide +kernel
theorem dX10_alive_10 : decode cX10_alive 10 = .ok (.invokestatic 300, 3) := by decide +kernel
theorem dX10_alive_13 : decode cX10_alive 13 = .ok (.ifCond .ne 7, 3) := by decide +kernel
theorem dX10_alive_16 : decode cX10_alive 16 = .ok (.ldc2_w 209, 3) := by decide +kernel
theorem dX10_alive_19 : decode cX10_alive 19 = .ok (.lreturn, 1) := by decide +kernel
theorem dX10_alive_20 : decode cX10_alive 20 = .ok (.aload_n 0, 1) := by decide +kernel
theorem dX10_alive_21 : decode cX10_alive 21 = .ok (.getfield 62, 3) := by decide +kernel
theorem dX10_alive_24 : decode cX10_alive 24 = .ok (.aload_n 0, 1) := by decide +kernel
theorem dX10_alive_25 : decode cX10_alive 25 = .ok (.getfield 19, 3) := by decide +kernel
theorem dX10_alive_28 : decode cX10_alive 28 = .ok (.getfield 102, 3) := by decide +kernel
theorem dX10_alive_31 : decode cX10_alive 31 = .ok (.iload_n 1, 1) := by decide +kernel
theorem dX10_alive_32 : decode cX10_alive 32 = .ok (.invokevirtual 304, 3) := by decide +kernel
theorem dX10_alive_35 : decode cX10_alive 35 = .ok (.aload_n 0, 1) := by decide +kernel
theorem dX10_alive_36 : decode cX10_alive 36 = .ok (.getfield 62, 3) := by decide +kernel
theorem dX10_alive_39 : decode cX10_alive 39 = .ok (.iload_n 2, 1) := by decide +kernel
theorem dX10_alive_40 : decode cX10_alive 40 = .ok (.iload_n 3, 1) := by decide +kernel
theorem dX10_alive_41 : decode cX10_alive 41 = .ok (.invokevirtual 308, 3) := by decide +kernel
theorem dX10_alive_44 : decode cX10_alive 44 = .ok (.lreturn, 1) := by decide +kernel
theorem dX10_go_0 : decode cX10_go 0 = .ok (.aload_n 0, 1) := by decide +kernel
theorem dX10_go_1 : decode cX10_go 1 = .ok (.getfield 19, 3) := by decide +kernel
theorem dX10_go_4 : decode cX10_go 4 = .ok (.getfield 102, 3) := by decide +kernel
theorem dX10_go_7 : decode cX10_go 7 = .ok (.iload_n 1, 1) := by decide +kernel
theorem dX10_go_8 : decode cX10_go 8 = .ok (.iload_n 2, 1) := by decide +kernel
theorem dX10_go_9 : decode cX10_go 9 = .ok (.iload_n 3, 1) := by decide +kernel
theorem dX10_go_10 : decode cX10_go 10 = .ok (.invokestatic 300, 3) := by decide +kernel
theorem dX10_go_13 : decode cX10_go 13 = .ok (.ifCond .ne 6, 3) := by decide +kernel
theorem dX10_go_16 : decode cX10_go 16 = .ok (.bipush (-2), 2) := by decide +kernel
theorem dX10_go_18 : decode cX10_go 18 = .ok (.ireturn, 1) := by decide +kernel
theorem dX10_go_19 : decode cX10_go 19 = .ok (.aload_n 0, 1) := by decide +kernel
theorem dX10_go_20 : decode cX10_go 20 = .ok (.getfield 62, 3) := by decide +kernel
theorem dX10_go_23 : decode cX10_go 23 = .ok (.aload_n 0, 1) := by decide +kernel
theorem dX10_go_24 : decode cX10_go 24 = .ok (.getfield 19, 3) := by decide +kernel
theorem dX10_go_27 : decode cX10_go 27 = .ok (.getfield 102, 3) := by decide +kernel
theorem dX10_go_30 : decode cX10_go 30 = .ok (.iload_n 1, 1) := by decide +kernel
theorem dX10_go_31 : decode cX10_go 31 = .ok (.iconst 1, 1) := by decide +kernel
theorem dX10_go_32 : decode cX10_go 32 = .ok (.iadd, 1) := by decide +kernel
theorem dX10_go_33 : decode cX10_go 33 = .ok (.invokevirtual 304, 3) := by decide +kernel
theorem dX10_go_36 : decode cX10_go 36 = .ok (.aload_n 0, 1) := by decide +kernel
theorem dX10_go_37 : decode cX10_go 37 = .ok (.getfield 62, 3) := by decide +kernel
theorem dX10_go_40 : decode cX10_go 40 = .ok (.aload_n 0, 1) := by decide +kernel
theorem dX10_go_41 : decode cX10_go 41 = .ok (.getfield 19, 3) := by decide +kernel
theorem dX10_go_44 : decode cX10_go 44 = .ok (.getfield 102, 3) := by decide +kernel
theorem dX10_go_47 : decode cX10_go 47 = .ok (.iload_n 2, 1) := by decide +kernel
theorem dX10_go_48 : decode cX10_go 48 = .ok (.iload_n 3, 1) := by decide +kernel
theorem dX10_go_49 : decode cX10_go 49 = .ok (.invokevirtual 312, 3) := by decide +kernel
theorem dX10_go_52 : decode cX10_go 52 = .ok (.ireturn, 1) := by decide +kernel
theorem dX10_leave_0 : decode cX10_leave 0 = .ok (.aload_n 0, 1) := by decide +kernel
theorem dX10_leave_1 : decode cX10_leave 1 = .ok (.getfield 19, 3) := by decide +kernel
theorem dX10_leave_4 : decode cX10_leave 4 = .ok (.getfield 102, 3) := by decide +kernel
theorem dX10_leave_7 : decode cX10_leave 7 = .ok (.invokevirtual 222, 3) := by decide +kernel
theorem dX10_leave_10 : decode cX10_leave 10 = .ok (.ifCond .eq 20, 3) := by decide +kernel
theorem dX10_leave_13 : decode cX10_leave 13 = .ok (.aload_n 0, 1) := by decide +kernel
theorem dX10_leave_14 : decode cX10_leave 14 = .ok (.getfield 62, 3) := by decide +kernel
theorem dX10_leave_17 : decode cX10_leave 17 = .ok (.aload_n 0, 1) := by decide +kernel
theorem dX10_leave_18 : decode cX10_leave 18 = .ok (.getfield 19, 3) := by decide +kernel
theorem dX10_leave_21 : decode cX10_leave 21 = .ok (.getfield 102, 3) := by decide +kernel
theorem dX10_leave_24 : decode cX10_leave 24 = .ok (.invokevirtual 316, 3) := by decide +kernel
theorem dX10_leave_27 : decode cX10_leave 27 = .ok (.goto 5, 3) := by decide +kernel
theorem dX10_leave_30 : decode cX10_leave 30 = .ok (.bipush (-2), 2) := by decide +kernel
theorem dX10_leave_32 : decode cX10_leave 32 = .ok (.ireturn, 1) := by decide +kernel
theorem dX10_least_0 : decode cX10_least 0 = .ok (.iload_n 1, 1) := by decide +kernel
theorem dX10_least_1 : decode cX10_least 1 = .ok (.iload_n 2, 1) := by decide +kernel
theorem dX10_least_2 : decode cX10_least 2 = .ok (.invokestatic 320, 3) := by decide +kernel
theorem dX10_least_5 : decode cX10_least 5 = .ok (.ifCond .eq 13, 3) := by decide +kernel
theorem dX10_least_8 : decode cX10_least 8 = .ok (.iload_n 3, 1) := by decide +kernel
theorem dX10_least_9 : decode cX10_least 9 = .ok (.iconst (-1), 1) := by decide +kernel
theorem dX10_least_10 : decode cX10_least 10 = .ok (.if_icmp .lt 8, 3) := by decide +kernel
theorem dX10_least_13 : decode cX10_least 13 = .ok (.iload_n 3, 1) := by decide +kernel
theorem dX10_least_14 : decode cX10_least 14 = .ok (.iconst 4, 1) := by decide +kernel
theorem dX10_least_15 : decode cX10_least 15 = .ok (.if_icmp .lt 6, 3) := by decide +kernel
theorem dX10_least_18 : decode cX10_least 18 = .ok (.bipush (-2), 2) := by decide +kernel
theorem dX10_least_20 : decode cX10_least 20 = .ok (.ireturn, 1) := by decide +kernel
theorem dX10_least_21 : decode cX10_least 21 = .ok (.iload_n 3, 1) := by decide +kernel
theorem dX10_least_22 : decode cX10_least 22 = .ok (.iconst (-1), 1) := by decide +kernel
theorem dX10_least_23 : decode cX10_least 23 = .ok (.if_icmp .eq 26, 3) := by decide +kernel
theorem dX10_least_26 : decode cX10_least 26 = .ok (.aload_n 0, 1) := by decide +kernel
theorem dX10_least_27 : decode cX10_least 27 = .ok (.getfield 55, 3) := by decide +kernel
theorem dX10_least_30 : decode cX10_least 30 = .ok (.aload_n 0, 1) := by decide +kernel
theorem dX10_least_31 : decode cX10_least 31 = .ok (.getfield 19, 3) := by decide +kernel
theorem dX10_least_34 : decode cX10_least 34 = .ok (.getfield 102, 3) := by decide +kernel
theorem dX10_least_37 : decode cX10_least 37 = .ok (.iload_n 3, 1) := by decide +kernel
theorem dX10_least_38 : decode cX10_least 38 = .ok (.iload_n 3, 1) := by decide +kernel
theorem dX10_least_39 : decode cX10_least 39 = .ok (.iload_n 1, 1) := by decide +kernel
theorem dX10_least_40 : decode cX10_least 40 = .ok (.iload_n 2, 1) := by decide +kernel
theorem dX10_least_41 : decode cX10_least 41 = .ok (.invokestatic 323, 3) := by decide +kernel
theorem dX10_least_44 : decode cX10_least 44 = .ok (.iconst (-1), 1) := by decide +kernel
theorem dX10_least_45 : decode cX10_least 45 = .ok (.invokevirtual 327, 3) := by decide +kernel
theorem dX10_least_48 : decode cX10_least 48 = .ok (.ireturn, 1) := by decide +kernel
theorem dX10_least_49 : decode cX10_least 49 = .ok (.aload_n 0, 1) := by decide +kernel
theorem dX10_least_50 : decode cX10_least 50 = .ok (.getfield 55, 3) := by decide +kernel
theorem dX10_least_53 : decode cX10_least 53 = .ok (.aload_n 0, 1) := by decide +kernel
theorem dX10_least_54 : decode cX10_least 54 = .ok (.getfield 19, 3) := by decide +kernel
theorem dX10_least_57 : decode cX10_least 57 = .ok (.getfield 102, 3) := by decide +kernel
theorem dX10_least_60 : decode cX10_least 60 = .ok (.iconst 0, 1) := by decide +kernel
theorem dX10_least_61 : decode cX10_least 61 = .ok (.iload_n 1, 1) := by decide +kernel
theorem dX10_least_62 : decode cX10_least 62 = .ok (.iload_n 2, 1) := by decide +kernel
theorem dX10_least_63 : decode cX10_least 63 = .ok (.invokevirtual 331, 3) := by decide +kernel
theorem dX10_least_66 : decode cX10_least 66 = .ok (.ireturn, 1) := by decide +kernel
theorem dX10_load_0 : decode cX10_load 0 = .ok (.iload_n 1, 1) := by decide +kernel
theorem dX10_load_1 : decode cX10_load 1 = .ok (.iload_n 2, 1) := by decide +kernel
theorem dX10_load_2 : decode cX10_load 2 = .ok (.invokestatic 320, 3) := by decide +kernel
theorem dX10_load_5 : decode cX10_load 5 = .ok (.ifCond .eq 20, 3) := by decide +kernel
theorem dX10_load_8 : decode cX10_load 8 = .ok (.aload_n 0, 1) := by decide +kernel
theorem dX10_load_9 : decode cX10_load 9 = .ok (.getfield 19, 3) := by decide +kernel
theorem dX10_load_12 : decode cX10_load 12 = .ok (.getfield 102, 3) := by decide +kernel
theorem dX10_load_15 : decode cX10_load 15 = .ok (.getfield 130, 3) := by decide +kernel
theorem dX10_load_18 : decode cX10_load 18 = .ok (.iload_n 3, 1) := by decide +kernel
theorem dX10_load_19 : decode cX10_load 19 = .ok (.invokevirtual 134, 3) := by decide +kernel
theorem dX10_load_22 : decode cX10_load 22 = .ok (.ifCond .ne 6, 3) := by decide +kernel
theorem dX10_load_25 : decode cX10_load 25 = .ok (.bipush (-2), 2) := by decide +kernel
theorem dX10_load_27 : decode cX10_load 27 = .ok (.ireturn, 1) := by decide +kernel
theorem dX10_load_28 : decode cX10_load 28 = .ok (.aload_n 0, 1) := by decide +kernel
theorem dX10_load_29 : decode cX10_load 29 = .ok (.getfield 19, 3) := by decide +kernel
theorem dX10_load_32 : decode cX10_load 32 = .ok (.getfield 102, 3) := by decide +kernel
theorem dX10_load_35 : decode cX10_load 35 = .ok (.getfield 130, 3) := by decide +kernel
theorem dX10_load_38 : decode cX10_load 38 = .ok (.iload_n 3, 1) := by decide +kernel
theorem dX10_load_39 : decode cX10_load 39 = .ok (.iconst 0, 1) := by decide +kernel
theorem dX10_load_40 : decode cX10_load 40 = .ok (.invokevirtual 139, 3) := by decide +kernel
theorem dX10_load_43 : decode cX10_load 43 = .ok (.istore 4, 2) := by decide +kernel
theorem dX10_load_45 : decode cX10_load 45 = .ok (.aload_n 0, 1) := by decide +kernel
theorem dX10_load_46 : decode cX10_load 46 = .ok (.getfield 55, 3) := by decide +kernel
theorem dX10_load_49 : decode cX10_load 49 = .ok (.aload_n 0, 1) := by decide +kernel
theorem dX10_load_50 : decode cX10_load 50 = .ok (.getfield 19, 3) := by decide +kernel
theorem dX10_load_53 : decode cX10_load 53 = .ok (.getfield 102, 3) := by decide +kernel
theorem dX10_load_56 : decode cX10_load 56 = .ok (.iload 4, 2) := by decide +kernel
theorem dX10_load_58 : decode cX10_load 58 = .ok (.iload 4, 2) := by decide +kernel
theorem dX10_load_60 : decode cX10_load 60 = .ok (.iload_n 1, 1) := by decide +kernel
theorem dX10_load_61 : decode cX10_load 61 = .ok (.iload_n 2, 1) := by decide +kernel
theorem dX10_load_62 : decode cX10_load 62 = .ok (.invokestatic 323, 3) := by decide +kernel
theorem dX10_load_65 : decode cX10_load 65 = .ok (.iload_n 3, 1) := by decide +kernel
theorem dX10_load_66 : decode cX10_load 66 = .ok (.invokevirtual 327, 3) := by decide +kernel
theorem dX10_load_69 : decode cX10_load 69 = .ok (.istore 5, 2) := by decide +kernel
theorem dX10_load_71 : decode cX10_load 71 = .ok (.iload 5, 2) := by decide +kernel
theorem dX10_load_73 : decode cX10_load 73 = .ok (.iconst (-1), 1) := by decide +kernel
theorem dX10_load_74 : decode cX10_load 74 = .ok (.if_icmp .ne 7, 3) := by decide +kernel
theorem dX10_load_77 : decode cX10_load 77 = .ok (.iconst (-1), 1) := by decide +kernel
theorem dX10_load_78 : decode cX10_load 78 = .ok (.goto 10, 3) := by decide +kernel
theorem dX10_load_81 : decode cX10_load 81 = .ok (.aload_n 0, 1) := by decide +kernel
theorem dX10_load_82 : decode cX10_load 82 = .ok (.getfield 55, 3) := by decide +kernel
theorem dX10_load_85 : decode cX10_load 85 = .ok (.invokevirtual 334, 3) := by decide +kernel
theorem dX10_load_88 : decode cX10_load 88 = .ok (.ireturn, 1) := by decide +kernel
theorem dX10_lasts_0 : decode cX10_lasts 0 = .ok (.iload_n 1, 1) := by decide +kernel
theorem dX10_lasts_1 : decode cX10_lasts 1 = .ok (.iconst 0, 1) := by decide +kernel
theorem dX10_lasts_2 : decode cX10_lasts 2 = .ok (.invokestatic 320, 3) := by decide +kernel
theorem dX10_lasts_5 : decode cX10_lasts 5 = .ok (.ifCond .eq 14, 3) := by decide +kernel
theorem dX10_lasts_8 : decode cX10_lasts 8 = .ok (.iload_n 2, 1) := by decide +kernel
theorem dX10_lasts_9 : decode cX10_lasts 9 = .ok (.ifCond .lt 10, 3) := by decide +kernel
theorem dX10_lasts_12 : decode cX10_lasts 12 = .ok (.iload_n 2, 1) := by decide +kernel
theorem dX10_lasts_13 : decode cX10_lasts 13 = .ok (.sipush 9999, 3) := by decide +kernel
theorem dX10_lasts_16 : decode cX10_lasts 16 = .ok (.if_icmp .le 6, 3) := by decide +kernel
theorem dX10_lasts_19 : decode cX10_lasts 19 = .ok (.bipush (-2), 2) := by decide +kernel
theorem dX10_lasts_21 : decode cX10_lasts 21 = .ok (.ireturn, 1) := by decide +kernel
theorem dX10_lasts_22 : decode cX10_lasts 22 = .ok (.aload_n 0, 1) := by decide +kernel
theorem dX10_lasts_23 : decode cX10_lasts 23 = .ok (.getfield 55, 3) := by decide +kernel
theorem dX10_lasts_26 : decode cX10_lasts 26 = .ok (.aload_n 0, 1) := by decide +kernel
theorem dX10_lasts_27 : decode cX10_lasts 27 = .ok (.getfield 19, 3) := by decide +kernel
theorem dX10_lasts_30 : decode cX10_lasts 30 = .ok (.getfield 102, 3) := by decide +kernel
theorem dX10_lasts_33 : decode cX10_lasts 33 = .ok (.iconst 1, 1) := by decide +kernel
theorem dX10_lasts_34 : decode cX10_lasts 34 = .ok (.iload_n 1, 1) := by decide +kernel
theorem dX10_lasts_35 : decode cX10_lasts 35 = .ok (.iconst 0, 1) := by decide +kernel
theorem dX10_lasts_36 : decode cX10_lasts 36 = .ok (.invokevirtual 331, 3) := by decide +kernel
theorem dX10_lasts_39 : decode cX10_lasts 39 = .ok (.istore_n 3, 1) := by decide +kernel
theorem dX10_lasts_40 : decode cX10_lasts 40 = .ok (.iload_n 3, 1) := by decide +kernel
theorem dX10_lasts_41 : decode cX10_lasts 41 = .ok (.iconst (-1), 1) := by decide +kernel
theorem dX10_lasts_42 : decode cX10_lasts 42 = .ok (.if_icmp .ne 5, 3) := by decide +kernel
theorem dX10_lasts_45 : decode cX10_lasts 45 = .ok (.iconst (-1), 1) := by decide +kernel
theorem dX10_lasts_46 : decode cX10_lasts 46 = .ok (.ireturn, 1) := by decide +kernel
theorem dX10_lasts_47 : decode cX10_lasts 47 = .ok (.aload_n 0, 1) := by decide +kernel
theorem dX10_lasts_48 : decode cX10_lasts 48 = .ok (.getfield 19, 3) := by decide +kernel
theorem dX10_lasts_51 : decode cX10_lasts 51 = .ok (.getfield 102, 3) := by decide +kernel
theorem dX10_lasts_54 : decode cX10_lasts 54 = .ok (.iconst 0, 1) := by decide +kernel
theorem dX10_lasts_55 : decode cX10_lasts 55 = .ok (.invokevirtual 337, 3) := by decide +kernel
theorem dX10_lasts_58 : decode cX10_lasts 58 = .ok (.istore 4, 2) := by decide +kernel
theorem dX10_lasts_60 : decode cX10_lasts 60 = .ok (.aload_n 0, 1) := by decide +kernel
theorem dX10_lasts_61 : decode cX10_lasts 61 = .ok (.getfield 55, 3) := by decide +kernel
theorem dX10_lasts_64 : decode cX10_lasts 64 = .ok (.aload_n 0, 1) := by decide +kernel
theorem dX10_lasts_65 : decode cX10_lasts 65 = .ok (.getfield 19, 3) := by decide +kernel
theorem dX10_lasts_68 : decode cX10_lasts 68 = .ok (.getfield 102, 3) := by decide +kernel
theorem dX10_lasts_71 : decode cX10_lasts 71 = .ok (.iconst 0, 1) := by decide +kernel
theorem dX10_lasts_72 : decode cX10_lasts 72 = .ok (.iload_n 1, 1) := by decide +kernel
theorem dX10_lasts_73 : decode cX10_lasts 73 = .ok (.bipush 60, 2) := by decide +kernel
theorem dX10_lasts_75 : decode cX10_lasts 75 = .ok (.imul, 1) := by decide +kernel
theorem dX10_lasts_76 : decode cX10_lasts 76 = .ok (.iconst (-1), 1) := by decide +kernel
theorem dX10_lasts_77 : decode cX10_lasts 77 = .ok (.invokevirtual 327, 3) := by decide +kernel
theorem dX10_lasts_80 : decode cX10_lasts 80 = .ok (.pop, 1) := by decide +kernel
theorem dX10_lasts_81 : decode cX10_lasts 81 = .ok (.bipush 60, 2) := by decide +kernel
theorem dX10_lasts_83 : decode cX10_lasts 83 = .ok (.istore 5, 2) := by decide +kernel
theorem dX10_lasts_85 : decode cX10_lasts 85 = .ok (.iload 5, 2) := by decide +kernel
theorem dX10_lasts_87 : decode cX10_lasts 87 = .ok (.ifCond .lt 48, 3) := by decide +kernel
theorem dX10_lasts_90 : decode cX10_lasts 90 = .ok (.iload 4, 2) := by decide +kernel
theorem dX10_lasts_92 : decode cX10_lasts 92 = .ok (.ifCond .eq 17, 3) := by decide +kernel
theorem dX10_lasts_95 : decode cX10_lasts 95 = .ok (.aload_n 0, 1) := by decide +kernel
theorem dX10_lasts_96 : decode cX10_lasts 96 = .ok (.getfield 55, 3) := by decide +kernel
theorem dX10_lasts_99 : decode cX10_lasts 99 = .ok (.iload_n 1, 1) := by decide +kernel
theorem dX10_lasts_100 : decode cX10_lasts 100 = .ok (.iload 5, 2) := by decide +kernel
theorem dX10_lasts_102 : decode cX10_lasts 102 = .ok (.imul, 1) := by decide +kernel
theorem dX10_lasts_103 : decode cX10_lasts 103 = .ok (.invokevirtual 340, 3) := by decide +kernel
theorem dX10_lasts_106 : decode cX10_lasts 106 = .ok (.goto 4, 3) := by decide +kernel
theorem dX10_lasts_109 : decode cX10_lasts 109 = .ok (.iconst 0, 1) := by decide +kernel
theorem dX10_lasts_110 : decode cX10_lasts 110 = .ok (.istore 6, 2) := by decide +kernel
theorem dX10_lasts_112 : decode cX10_lasts 112 = .ok (.iload 6, 2) := by decide +kernel
theorem dX10_lasts_114 : decode cX10_lasts 114 = .ok (.iconst (-1), 1) := by decide +kernel
theorem dX10_lasts_115 : decode cX10_lasts 115 = .ok (.if_icmp .eq 14, 3) := by decide +kernel
theorem dX10_lasts_118 : decode cX10_lasts 118 = .ok (.iload 6, 2) := by decide +kernel
theorem dX10_lasts_120 : decode cX10_lasts 120 = .ok (.iload_n 3, 1) := by decide +kernel
theorem dX10_lasts_121 : decode cX10_lasts 121 = .ok (.iadd, 1) := by decide +kernel
theorem dX10_lasts_122 : decode cX10_lasts 122 = .ok (.iload_n 2, 1) := by decide +kernel
theorem dX10_lasts_123 : decode cX10_lasts 123 = .ok (.if_icmp .gt 6, 3) := by decide +kernel
theorem dX10_lasts_126 : decode cX10_lasts 126 = .ok (.iload 5, 2) := by decide +kernel
theorem dX10_lasts_128 : decode cX10_lasts 128 = .ok (.ireturn, 1) := by decide +kernel
theorem dX10_lasts_129 : decode cX10_lasts 129 = .ok (.iinc 5 (-1), 3) := by decide +kernel
theorem dX10_lasts_132 : decode cX10_lasts 132 = .ok (.goto (-47), 3) := by decide +kernel
theorem dX10_lasts_135 : decode cX10_lasts 135 = .ok (.iconst (-1), 1) := by decide +kernel
theorem dX10_lasts_136 : decode cX10_lasts 136 = .ok (.ireturn, 1) := by decide +kernel
theorem dX10_across_0 : decode cX10_across 0 = .ok (.aload_n 0, 1) := by decide +kernel
theorem dX10_across_1 : decode cX10_across 1 = .ok (.getfield 19, 3) := by decide +kernel
theorem dX10_across_4 : decode cX10_across 4 = .ok (.getfield 102, 3) := by decide +kernel
theorem dX10_across_7 : decode cX10_across 7 = .ok (.iload_n 1, 1) := by decide +kernel
theorem dX10_across_8 : decode cX10_across 8 = .ok (.invokevirtual 167, 3) := by decide +kernel
theorem dX10_across_11 : decode cX10_across 11 = .ok (.ifCond .eq 17, 3) := by decide +kernel
theorem dX10_across_14 : decode cX10_across 14 = .ok (.iload_n 2, 1) := by decide +kernel
theorem dX10_across_15 : decode cX10_across 15 = .ok (.invokestatic 113, 3) := by decide +kernel
theorem dX10_across_18 : decode cX10_across 18 = .ok (.ifCond .eq 10, 3) := by decide +kernel
theorem dX10_across_21 : decode cX10_across 21 = .ok (.iload_n 3, 1) := by decide +kernel
theorem dX10_across_22 : decode cX10_across 22 = .ok (.invokestatic 150, 3) := by decide +kernel
theorem dX10_across_25 : decode cX10_across 25 = .ok (.ifCond .ne 6, 3) := by decide +kernel
theorem dX10_across_28 : decode cX10_across 28 = .ok (.bipush (-2), 2) := by decide +kernel
theorem dX10_across_30 : decode cX10_across 30 = .ok (.ireturn, 1) := by decide +kernel
theorem dX10_across_31 : decode cX10_across 31 = .ok (.aload_n 0, 1) := by decide +kernel
theorem dX10_across_32 : decode cX10_across 32 = .ok (.getfield 19, 3) := by decide +kernel
theorem dX10_across_35 : decode cX10_across 35 = .ok (.iload_n 2, 1) := by decide +kernel
theorem dX10_across_36 : decode cX10_across 36 = .ok (.invokevirtual 120, 3) := by decide +kernel
theorem dX10_across_39 : decode cX10_across 39 = .ok (.ifCond .eq 16, 3) := by decide +kernel
theorem dX10_across_42 : decode cX10_across 42 = .ok (.aload_n 0, 1) := by decide +kernel
theorem dX10_across_43 : decode cX10_across 43 = .ok (.getfield 19, 3) := by decide +kernel
theorem dX10_across_46 : decode cX10_across 46 = .ok (.iload_n 1, 1) := by decide +kernel
theorem dX10_across_47 : decode cX10_across 47 = .ok (.iload_n 2, 1) := by decide +kernel
theorem dX10_across_48 : decode cX10_across 48 = .ok (.iload_n 3, 1) := by decide +kernel
theorem dX10_across_49 : decode cX10_across 49 = .ok (.invokevirtual 343, 3) := by decide +kernel
theorem dX10_across_52 : decode cX10_across 52 = .ok (.goto 4, 3) := by decide +kernel
theorem dX10_across_55 : decode cX10_across 55 = .ok (.iconst (-1), 1) := by decide +kernel
theorem dX10_across_56 : decode cX10_across 56 = .ok (.ireturn, 1) := by decide +kernel
theorem dX10_minutes_0 : decode cX10_minutes 0 = .ok (.aload_n 0, 1) := by decide +kernel
theorem dX10_minutes_1 : decode cX10_minutes 1 = .ok (.getfield 19, 3) := by decide +kernel
theorem dX10_minutes_4 : decode cX10_minutes 4 = .ok (.getfield 102, 3) := by decide +kernel
theorem dX10_minutes_7 : decode cX10_minutes 7 = .ok (.iload_n 1, 1) := by decide +kernel
theorem dX10_minutes_8 : decode cX10_minutes 8 = .ok (.invokevirtual 167, 3) := by decide +kernel
theorem dX10_minutes_11 : decode cX10_minutes 11 = .ok (.ifCond .eq 35, 3) := by decide +kernel
theorem dX10_minutes_14 : decode cX10_minutes 14 = .ok (.iload_n 2, 1) := by decide +kernel
theorem dX10_minutes_15 : decode cX10_minutes 15 = .ok (.invokestatic 113, 3) := by decide +kernel
theorem dX10_minutes_18 : decode cX10_minutes 18 = .ok (.ifCond .eq 28, 3) := by decide +kernel
theorem dX10_minutes_21 : decode cX10_minutes 21 = .ok (.iload 4, 2) := by decide +kernel
theorem dX10_minutes_23 : decode cX10_minutes 23 = .ok (.invokestatic 150, 3) := by decide +kernel
theorem dX10_minutes_26 : decode cX10_minutes 26 = .ok (.ifCond .eq 20, 3) := by decide +kernel
theorem dX10_minutes_29 : decode cX10_minutes 29 = .ok (.aload_n 0, 1) := by decide +kernel
theorem dX10_minutes_30 : decode cX10_minutes 30 = .ok (.getfield 19, 3) := by decide +kernel
theorem dX10_minutes_33 : decode cX10_minutes 33 = .ok (.getfield 102, 3) := by decide +kernel
theorem dX10_minutes_36 : decode cX10_minutes 36 = .ok (.getfield 130, 3) := by decide +kernel
theorem dX10_minutes_39 : decode cX10_minutes 39 = .ok (.iload_n 3, 1) := by decide +kernel
theorem dX10_minutes_40 : decode cX10_minutes 40 = .ok (.invokevirtual 134, 3) := by decide +kernel
theorem dX10_minutes_43 : decode cX10_minutes 43 = .ok (.ifCond .ne 6, 3) := by decide +kernel
theorem dX10_minutes_46 : decode cX10_minutes 46 = .ok (.bipush (-2), 2) := by decide +kernel
theorem dX10_minutes_48 : decode cX10_minutes 48 = .ok (.ireturn, 1) := by decide +kernel
theorem dX10_minutes_49 : decode cX10_minutes 49 = .ok (.aload_n 0, 1) := by decide +kernel
theorem dX10_minutes_50 : decode cX10_minutes 50 = .ok (.getfield 19, 3) := by decide +kernel
theorem dX10_minutes_53 : decode cX10_minutes 53 = .ok (.iload_n 2, 1) := by decide +kernel
theorem dX10_minutes_54 : decode cX10_minutes 54 = .ok (.invokevirtual 120, 3) := by decide +kernel
theorem dX10_minutes_57 : decode cX10_minutes 57 = .ok (.ifCond .eq 18, 3) := by decide +kernel
theorem dX10_minutes_60 : decode cX10_minutes 60 = .ok (.aload_n 0, 1) := by decide +kernel
theorem dX10_minutes_61 : decode cX10_minutes 61 = .ok (.getfield 19, 3) := by decide +kernel
theorem dX10_minutes_64 : decode cX10_minutes 64 = .ok (.iload_n 1, 1) := by decide +kernel
theorem dX10_minutes_65 : decode cX10_minutes 65 = .ok (.iload_n 2, 1) := by decide +kernel
theorem dX10_minutes_66 : decode cX10_minutes 66 = .ok (.iload_n 3, 1) := by decide +kernel
theorem dX10_minutes_67 : decode cX10_minutes 67 = .ok (.iload 4, 2) := by decide +kernel
theorem dX10_minutes_69 : decode cX10_minutes 69 = .ok (.invokevirtual 346, 3) := by decide +kernel
theorem dX10_minutes_72 : decode cX10_minutes 72 = .ok (.goto 4, 3) := by decide +kernel
theorem dX10_minutes_75 : decode cX10_minutes 75 = .ok (.iconst (-1), 1) := by decide +kernel
theorem dX10_minutes_76 : decode cX10_minutes 76 = .ok (.ireturn, 1) := by decide +kernel
theorem dX10_fetch_0 : decode cX10_fetch 0 = .ok (.aload_n 0, 1) := by decide +kernel
theorem dX10_fetch_1 : decode cX10_fetch 1 = .ok (.getfield 19, 3) := by decide +kernel
theorem dX10_fetch_4 : decode cX10_fetch 4 = .ok (.getfield 102, 3) := by decide +kernel
theorem dX10_fetch_7 : decode cX10_fetch 7 = .ok (.iload_n 1, 1) := by decide +kernel
theorem dX10_fetch_8 : decode cX10_fetch 8 = .ok (.invokevirtual 167, 3) := by decide +kernel
theorem dX10_fetch_11 : decode cX10_fetch 11 = .ok (.ifCond .eq 10, 3) := by decide +kernel
theorem dX10_fetch_14 : decode cX10_fetch 14 = .ok (.iload_n 2, 1) := by decide +kernel
theorem dX10_fetch_15 : decode cX10_fetch 15 = .ok (.invokestatic 150, 3) := by decide +kernel
theorem dX10_fetch_18 : decode cX10_fetch 18 = .ok (.ifCond .ne 6, 3) := by decide +kernel
theorem dX10_fetch_21 : decode cX10_fetch 21 = .ok (.bipush (-2), 2) := by decide +kernel
theorem dX10_fetch_23 : decode cX10_fetch 23 = .ok (.ireturn, 1) := by decide +kernel
theorem dX10_fetch_24 : decode cX10_fetch 24 = .ok (.aload_n 0, 1) := by decide +kernel
theorem dX10_fetch_25 : decode cX10_fetch 25 = .ok (.getfield 41, 3) := by decide +kernel
theorem dX10_fetch_28 : decode cX10_fetch 28 = .ok (.aload_n 0, 1) := by decide +kernel
theorem dX10_fetch_29 : decode cX10_fetch 29 = .ok (.getfield 19, 3) := by decide +kernel
theorem dX10_fetch_32 : decode cX10_fetch 32 = .ok (.invokevirtual 211, 3) := by decide +kernel
theorem dX10_fetch_35 : decode cX10_fetch 35 = .ok (.iconst 0, 1) := by decide +kernel
theorem dX10_fetch_36 : decode cX10_fetch 36 = .ok (.istore_n 3, 1) := by decide +kernel
theorem dX10_fetch_37 : decode cX10_fetch 37 = .ok (.iconst 0, 1) := by decide +kernel
theorem dX10_fetch_38 : decode cX10_fetch 38 = .ok (.istore 4, 2) := by decide +kernel
theorem dX10_fetch_40 : decode cX10_fetch 40 = .ok (.iload 4, 2) := by decide +kernel
theorem dX10_fetch_42 : decode cX10_fetch 42 = .ok (.iconst 4, 1) := by decide +kernel
theorem dX10_fetch_43 : decode cX10_fetch 43 = .ok (.if_icmp .ge 45, 3) := by decide +kernel
theorem dX10_fetch_46 : decode cX10_fetch 46 = .ok (.aload_n 0, 1) := by decide +kernel
theorem dX10_fetch_47 : decode cX10_fetch 47 = .ok (.getfield 55, 3) := by decide +kernel
theorem dX10_fetch_50 : decode cX10_fetch 50 = .ok (.aload_n 0, 1) := by decide +kernel
theorem dX10_fetch_51 : decode cX10_fetch 51 = .ok (.getfield 41, 3) := by decide +kernel
theorem dX10_fetch_54 : decode cX10_fetch 54 = .ok (.aload_n 0, 1) := by decide +kernel
theorem dX10_fetch_55 : decode cX10_fetch 55 = .ok (.getfield 19, 3) := by decide +kernel
theorem dX10_fetch_58 : decode cX10_fetch 58 = .ok (.iload_n 1, 1) := by decide +kernel
theorem dX10_fetch_59 : decode cX10_fetch 59 = .ok (.iload_n 2, 1) := by decide +kernel
theorem dX10_fetch_60 : decode cX10_fetch 60 = .ok (.iload 4, 2) := by decide +kernel
theorem dX10_fetch_62 : decode cX10_fetch 62 = .ok (.iconst (-1), 1) := by decide +kernel
theorem dX10_fetch_63 : decode cX10_fetch 63 = .ok (.iconst (-1), 1) := by decide +kernel
theorem dX10_fetch_64 : decode cX10_fetch 64 = .ok (.invokevirtual 350, 3) := by decide +kernel
theorem dX10_fetch_67 : decode cX10_fetch 67 = .ok (.istore 5, 2) := by decide +kernel
theorem dX10_fetch_69 : decode cX10_fetch 69 = .ok (.iload 5, 2) := by decide +kernel
theorem dX10_fetch_71 : decode cX10_fetch 71 = .ok (.iconst (-1), 1) := by decide +kernel
theorem dX10_fetch_72 : decode cX10_fetch 72 = .ok (.if_icmp .ne 5, 3) := by decide +kernel
theorem dX10_fetch_75 : decode cX10_fetch 75 = .ok (.iconst (-1), 1) := by decide +kernel
theorem dX10_fetch_76 : decode cX10_fetch 76 = .ok (.ireturn, 1) := by decide +kernel
theorem dX10_fetch_77 : decode cX10_fetch 77 = .ok (.iload_n 3, 1) := by decide +kernel
theorem dX10_fetch_78 : decode cX10_fetch 78 = .ok (.iload 5, 2) := by decide +kernel
theorem dX10_fetch_80 : decode cX10_fetch 80 = .ok (.iadd, 1) := by decide +kernel
theorem dX10_fetch_81 : decode cX10_fetch 81 = .ok (.istore_n 3, 1) := by decide +kernel
theorem dX10_fetch_82 : decode cX10_fetch 82 = .ok (.iinc 4 1, 3) := by decide +kernel
theorem dX10_fetch_85 : decode cX10_fetch 85 = .ok (.goto (-45), 3) := by decide +kernel
theorem dX10_fetch_88 : decode cX10_fetch 88 = .ok (.iload_n 3, 1) := by decide +kernel
theorem dX10_fetch_89 : decode cX10_fetch 89 = .ok (.ireturn, 1) := by decide +kernel
theorem dX10_fetched_0 : decode cX10_fetched 0 = .ok (.aload_n 0, 1) := by decide +kernel
theorem dX10_fetched_1 : decode cX10_fetched 1 = .ok (.getfield 19, 3) := by decide +kernel
theorem dX10_fetched_4 : decode cX10_fetched 4 = .ok (.getfield 102, 3) := by decide +kernel
theorem dX10_fetched_7 : decode cX10_fetched 7 = .ok (.iload_n 1, 1) := by decide +kernel
theorem dX10_fetched_8 : decode cX10_fetched 8 = .ok (.invokevirtual 167, 3) := by decide +kernel
theorem dX10_fetched_11 : decode cX10_fetched 11 = .ok (.ifCond .eq 35, 3) := by decide +kernel
theorem dX10_fetched_14 : decode cX10_fetched 14 = .ok (.iload_n 2, 1) := by decide +kernel
theorem dX10_fetched_15 : decode cX10_fetched 15 = .ok (.invokestatic 150, 3) := by decide +kernel
theorem dX10_fetched_18 : decode cX10_fetched 18 = .ok (.ifCond .eq 28, 3) := by decide +kernel
theorem dX10_fetched_21 : decode cX10_fetched 21 = .ok (.iload_n 3, 1) := by decide +kernel
theorem dX10_fetched_22 : decode cX10_fetched 22 = .ok (.invokestatic 113, 3) := by decide +kernel
theorem dX10_fetched_25 : decode cX10_fetched 25 = .ok (.ifCond .eq 21, 3) := by decide +kernel
theorem dX10_fetched_28 : decode cX10_fetched 28 = .ok (.aload_n 0, 1) := by decide +kernel
theorem dX10_fetched_29 : decode cX10_fetched 29 = .ok (.getfield 19, 3) := by decide +kernel
theorem dX10_fetched_32 : decode cX10_fetched 32 = .ok (.getfield 102, 3) := by decide +kernel
theorem dX10_fetched_35 : decode cX10_fetched 35 = .ok (.getfield 130, 3) := by decide +kernel
theorem dX10_fetched_38 : decode cX10_fetched 38 = .ok (.iload 4, 2) := by decide +kernel
theorem dX10_fetched_40 : decode cX10_fetched 40 = .ok (.invokevirtual 134, 3) := by decide +kernel
theorem dX10_fetched_43 : decode cX10_fetched 43 = .ok (.ifCond .ne 6, 3) := by decide +kernel
theorem dX10_fetched_46 : decode cX10_fetched 46 = .ok (.bipush (-2), 2) := by decide +kernel
theorem dX10_fetched_48 : decode cX10_fetched 48 = .ok (.ireturn, 1) := by decide +kernel
theorem dX10_fetched_49 : decode cX10_fetched 49 = .ok (.aload_n 0, 1) := by decide +kernel
theorem dX10_fetched_50 : decode cX10_fetched 50 = .ok (.getfield 41, 3) := by decide +kernel
theorem dX10_fetched_53 : decode cX10_fetched 53 = .ok (.aload_n 0, 1) := by decide +kernel
theorem dX10_fetched_54 : decode cX10_fetched 54 = .ok (.getfield 19, 3) := by decide +kernel
theorem dX10_fetched_57 : decode cX10_fetched 57 = .ok (.invokevirtual 211, 3) := by decide +kernel
theorem dX10_fetched_60 : decode cX10_fetched 60 = .ok (.aload_n 0, 1) := by decide +kernel
theorem dX10_fetched_61 : decode cX10_fetched 61 = .ok (.getfield 19, 3) := by decide +kernel
theorem dX10_fetched_64 : decode cX10_fetched 64 = .ok (.getfield 102, 3) := by decide +kernel
theorem dX10_fetched_67 : decode cX10_fetched 67 = .ok (.getfield 130, 3) := by decide +kernel
theorem dX10_fetched_70 : decode cX10_fetched 70 = .ok (.iload 4, 2) := by decide +kernel
theorem dX10_fetched_72 : decode cX10_fetched 72 = .ok (.iconst 0, 1) := by decide +kernel
theorem dX10_fetched_73 : decode cX10_fetched 73 = .ok (.invokevirtual 139, 3) := by decide +kernel
theorem dX10_fetched_76 : decode cX10_fetched 76 = .ok (.istore 5, 2) := by decide +kernel
theorem dX10_fetched_78 : decode cX10_fetched 78 = .ok (.aload_n 0, 1) := by decide +kernel
theorem dX10_fetched_79 : decode cX10_fetched 79 = .ok (.getfield 55, 3) := by decide +kernel
theorem dX10_fetched_82 : decode cX10_fetched 82 = .ok (.aload_n 0, 1) := by decide +kernel
theorem dX10_fetched_83 : decode cX10_fetched 83 = .ok (.getfield 41, 3) := by decide +kernel
theorem dX10_fetched_86 : decode cX10_fetched 86 = .ok (.aload_n 0, 1) := by decide +kernel
theorem dX10_fetched_87 : decode cX10_fetched 87 = .ok (.getfield 19, 3) := by decide +kernel
theorem dX10_fetched_90 : decode cX10_fetched 90 = .ok (.iload_n 1, 1) := by decide +kernel
theorem dX10_fetched_91 : decode cX10_fetched 91 = .ok (.iload_n 2, 1) := by decide +kernel
theorem dX10_fetched_92 : decode cX10_fetched 92 = .ok (.iload 5, 2) := by decide +kernel
theorem dX10_fetched_94 : decode cX10_fetched 94 = .ok (.iload_n 3, 1) := by decide +kernel
theorem dX10_fetched_95 : decode cX10_fetched 95 = .ok (.iload 4, 2) := by decide +kernel
theorem dX10_fetched_97 : decode cX10_fetched 97 = .ok (.invokevirtual 350, 3) := by decide +kernel
theorem dX10_fetched_100 : decode cX10_fetched 100 = .ok (.istore 6, 2) := by decide +kernel
theorem dX10_fetched_102 : decode cX10_fetched 102 = .ok (.iload 6, 2) := by decide +kernel
theorem dX10_fetched_104 : decode cX10_fetched 104 = .ok (.iconst (-1), 1) := by decide +kernel
theorem dX10_fetched_105 : decode cX10_fetched 105 = .ok (.if_icmp .ne 7, 3) := by decide +kernel
theorem dX10_fetched_108 : decode cX10_fetched 108 = .ok (.iconst (-1), 1) := by decide +kernel
theorem dX10_fetched_109 : decode cX10_fetched 109 = .ok (.goto 10, 3) := by decide +kernel
theorem dX10_fetched_112 : decode cX10_fetched 112 = .ok (.aload_n 0, 1) := by decide +kernel
theorem dX10_fetched_113 : decode cX10_fetched 113 = .ok (.getfield 55, 3) := by decide +kernel
theorem dX10_fetched_116 : decode cX10_fetched 116 = .ok (.invokevirtual 334, 3) := by decide +kernel
theorem dX10_fetched_119 : decode cX10_fetched 119 = .ok (.ireturn, 1) := by decide +kernel
theorem dX10_thin_0 : decode cX10_thin 0 = .ok (.aload_n 0, 1) := by decide +kernel
theorem dX10_thin_1 : decode cX10_thin 1 = .ok (.getfield 19, 3) := by decide +kernel
theorem dX10_thin_4 : decode cX10_thin 4 = .ok (.getfield 102, 3) := by decide +kernel
theorem dX10_thin_7 : decode cX10_thin 7 = .ok (.getfield 186, 3) := by decide +kernel
theorem dX10_thin_10 : decode cX10_thin 10 = .ok (.iload_n 1, 1) := by decide +kernel
theorem dX10_thin_11 : decode cX10_thin 11 = .ok (.invokevirtual 134, 3) := by decide +kernel
theorem dX10_thin_14 : decode cX10_thin 14 = .ok (.ifCond .eq 14, 3) := by decide +kernel
theorem dX10_thin_17 : decode cX10_thin 17 = .ok (.iload_n 2, 1) := by decide +kernel
theorem dX10_thin_18 : decode cX10_thin 18 = .ok (.ifCond .lt 10, 3) := by decide +kernel
theorem dX10_thin_21 : decode cX10_thin 21 = .ok (.iload_n 2, 1) := by decide +kernel
theorem dX10_thin_22 : decode cX10_thin 22 = .ok (.sipush 10000, 3) := by decide +kernel
theorem dX10_thin_25 : decode cX10_thin 25 = .ok (.if_icmp .le 6, 3) := by decide +kernel
theorem dX10_thin_28 : decode cX10_thin 28 = .ok (.bipush (-2), 2) := by decide +kernel
theorem dX10_thin_30 : decode cX10_thin 30 = .ok (.ireturn, 1) := by decide +kernel
theorem dX10_thin_31 : decode cX10_thin 31 = .ok (.aload_n 0, 1) := by decide +kernel
theorem dX10_thin_32 : decode cX10_thin 32 = .ok (.getfield 19, 3) := by decide +kernel
theorem dX10_thin_35 : decode cX10_thin 35 = .ok (.iload_n 1, 1) := by decide +kernel
theorem dX10_thin_36 : decode cX10_thin 36 = .ok (.invokevirtual 189, 3) := by decide +kernel
theorem dX10_thin_39 : decode cX10_thin 39 = .ok (.istore_n 3, 1) := by decide +kernel
theorem dX10_thin_40 : decode cX10_thin 40 = .ok (.iconst 0, 1) := by decide +kernel
theorem dX10_thin_41 : decode cX10_thin 41 = .ok (.istore 4, 2) := by decide +kernel
theorem dX10_thin_43 : decode cX10_thin 43 = .ok (.iload 4, 2) := by decide +kernel
theorem dX10_thin_45 : decode cX10_thin 45 = .ok (.iload_n 3, 1) := by decide +kernel
theorem dX10_thin_46 : decode cX10_thin 46 = .ok (.if_icmp .gt 31, 3) := by decide +kernel
theorem dX10_thin_49 : decode cX10_thin 49 = .ok (.aload_n 0, 1) := by decide +kernel
theorem dX10_thin_50 : decode cX10_thin 50 = .ok (.getfield 19, 3) := by decide +kernel
theorem dX10_thin_53 : decode cX10_thin 53 = .ok (.getfield 102, 3) := by decide +kernel
theorem dX10_thin_56 : decode cX10_thin 56 = .ok (.iload_n 1, 1) := by decide +kernel
theorem dX10_thin_57 : decode cX10_thin 57 = .ok (.iload_n 3, 1) := by decide +kernel
theorem dX10_thin_58 : decode cX10_thin 58 = .ok (.iload 4, 2) := by decide +kernel
theorem dX10_thin_60 : decode cX10_thin 60 = .ok (.isub, 1) := by decide +kernel
theorem dX10_thin_61 : decode cX10_thin 61 = .ok (.invokevirtual 354, 3) := by decide +kernel
theorem dX10_thin_64 : decode cX10_thin 64 = .ok (.iload_n 2, 1) := by decide +kernel
theorem dX10_thin_65 : decode cX10_thin 65 = .ok (.if_icmp .gt 6, 3) := by decide +kernel
theorem dX10_thin_68 : decode cX10_thin 68 = .ok (.iload 4, 2) := by decide +kernel
theorem dX10_thin_70 : decode cX10_thin 70 = .ok (.ireturn, 1) := by decide +kernel
theorem dX10_thin_71 : decode cX10_thin 71 = .ok (.iinc 4 1, 3) := by decide +kernel
theorem dX10_thin_74 : decode cX10_thin 74 = .ok (.goto (-31), 3) := by decide +kernel
theorem dX10_thin_77 : decode cX10_thin 77 = .ok (.iconst (-1), 1) := by decide +kernel
theorem dX10_thin_78 : decode cX10_thin 78 = .ok (.ireturn, 1) := by decide +kernel
theorem dX10_apart_0 : decode cX10_apart 0 = .ok (.aload_n 0, 1) := by decide +kernel
theorem dX10_apart_1 : decode cX10_apart 1 = .ok (.getfield 19, 3) := by decide +kernel
theorem dX10_apart_4 : decode cX10_apart 4 = .ok (.getfield 102, 3) := by decide +kernel
theorem dX10_apart_7 : decode cX10_apart 7 = .ok (.iload_n 1, 1) := by decide +kernel
theorem dX10_apart_8 : decode cX10_apart 8 = .ok (.iload_n 2, 1) := by decide +kernel
theorem dX10_apart_9 : decode cX10_apart 9 = .ok (.invokevirtual 116, 3) := by decide +kernel
theorem dX10_apart_12 : decode cX10_apart 12 = .ok (.ifCond .ne 6, 3) := by decide +kernel
theorem dX10_apart_15 : decode cX10_apart 15 = .ok (.bipush (-2), 2) := by decide +kernel
theorem dX10_apart_17 : decode cX10_apart 17 = .ok (.ireturn, 1) := by decide +kernel
theorem dX10_apart_18 : decode cX10_apart 18 = .ok (.iconst (-1), 1) := by decide +kernel
theorem dX10_apart_19 : decode cX10_apart 19 = .ok (.istore_n 3, 1) := by decide +kernel
theorem dX10_apart_20 : decode cX10_apart 20 = .ok (.iconst 0, 1) := by decide +kernel
theorem dX10_apart_21 : decode cX10_apart 21 = .ok (.istore 4, 2) := by decide +kernel
theorem dX10_apart_23 : decode cX10_apart 23 = .ok (.iload 4, 2) := by decide +kernel
theorem dX10_apart_25 : decode cX10_apart 25 = .ok (.aload_n 0, 1) := by decide +kernel
theorem dX10_apart_26 : decode cX10_apart 26 = .ok (.getfield 19, 3) := by decide +kernel
theorem dX10_apart_29 : decode cX10_apart 29 = .ok (.getfield 102, 3) := by decide +kernel
theorem dX10_apart_32 : decode cX10_apart 32 = .ok (.getfield 186, 3) := by decide +kernel
theorem dX10_apart_35 : decode cX10_apart 35 = .ok (.getfield 226, 3) := by decide +kernel
theorem dX10_apart_38 : decode cX10_apart 38 = .ok (.if_icmp .ge 39, 3) := by decide +kernel
theorem dX10_apart_41 : decode cX10_apart 41 = .ok (.aload_n 0, 1) := by decide +kernel
theorem dX10_apart_42 : decode cX10_apart 42 = .ok (.getfield 19, 3) := by decide +kernel
theorem dX10_apart_45 : decode cX10_apart 45 = .ok (.getfield 102, 3) := by decide +kernel
theorem dX10_apart_48 : decode cX10_apart 48 = .ok (.iload 4, 2) := by decide +kernel
theorem dX10_apart_50 : decode cX10_apart 50 = .ok (.iload_n 1, 1) := by decide +kernel
theorem dX10_apart_51 : decode cX10_apart 51 = .ok (.iload_n 2, 1) := by decide +kernel
theorem dX10_apart_52 : decode cX10_apart 52 = .ok (.invokevirtual 357, 3) := by decide +kernel
theorem dX10_apart_55 : decode cX10_apart 55 = .ok (.istore 5, 2) := by decide +kernel
theorem dX10_apart_57 : decode cX10_apart 57 = .ok (.iload_n 3, 1) := by decide +kernel
theorem dX10_apart_58 : decode cX10_apart 58 = .ok (.iconst (-1), 1) := by decide +kernel
theorem dX10_apart_59 : decode cX10_apart 59 = .ok (.if_icmp .eq 9, 3) := by decide +kernel
theorem dX10_apart_62 : decode cX10_apart 62 = .ok (.iload 5, 2) := by decide +kernel
theorem dX10_apart_64 : decode cX10_apart 64 = .ok (.iload_n 3, 1) := by decide +kernel
theorem dX10_apart_65 : decode cX10_apart 65 = .ok (.if_icmp .ge 6, 3) := by decide +kernel
theorem dX10_apart_68 : decode cX10_apart 68 = .ok (.iload 5, 2) := by decide +kernel
theorem dX10_apart_70 : decode cX10_apart 70 = .ok (.istore_n 3, 1) := by decide +kernel
theorem dX10_apart_71 : decode cX10_apart 71 = .ok (.iinc 4 1, 3) := by decide +kernel
theorem dX10_apart_74 : decode cX10_apart 74 = .ok (.goto (-51), 3) := by decide +kernel
theorem dX10_apart_77 : decode cX10_apart 77 = .ok (.iload_n 3, 1) := by decide +kernel
theorem dX10_apart_78 : decode cX10_apart 78 = .ok (.ireturn, 1) := by decide +kernel
theorem dX10_miles_0 : decode cX10_miles 0 = .ok (.aload_n 0, 1) := by decide +kernel
theorem dX10_miles_1 : decode cX10_miles 1 = .ok (.getfield 19, 3) := by decide +kernel
theorem dX10_miles_4 : decode cX10_miles 4 = .ok (.getfield 102, 3) := by decide +kernel
theorem dX10_miles_7 : decode cX10_miles 7 = .ok (.invokevirtual 222, 3) := by decide +kernel
theorem dX10_miles_10 : decode cX10_miles 10 = .ok (.ifCond .eq 23, 3) := by decide +kernel
theorem dX10_miles_13 : decode cX10_miles 13 = .ok (.iload_n 1, 1) := by decide +kernel
theorem dX10_miles_14 : decode cX10_miles 14 = .ok (.ifCond .lt 19, 3) := by decide +kernel
theorem dX10_miles_17 : decode cX10_miles 17 = .ok (.iload_n 1, 1) := by decide +kernel
theorem dX10_miles_18 : decode cX10_miles 18 = .ok (.bipush 60, 2) := by decide +kernel
theorem dX10_miles_20 : decode cX10_miles 20 = .ok (.if_icmp .gt 13, 3) := by decide +kernel
theorem dX10_miles_23 : decode cX10_miles 23 = .ok (.iload_n 2, 1) := by decide +kernel
theorem dX10_miles_24 : decode cX10_miles 24 = .ok (.ifCond .lt 9, 3) := by decide +kernel
theorem dX10_miles_27 : decode cX10_miles 27 = .ok (.iload_n 2, 1) := by decide +kernel
theorem dX10_miles_28 : decode cX10_miles 28 = .ok (.bipush 99, 2) := by decide +kernel
theorem dX10_miles_30 : decode cX10_miles 30 = .ok (.if_icmp .le 7, 3) := by decide +kernel
theorem dX10_miles_33 : decode cX10_miles 33 = .ok (.ldc2_w 209, 3) := by decide +kernel
theorem dX10_miles_36 : decode cX10_miles 36 = .ok (.lreturn, 1) := by decide +kernel
theorem dX10_miles_37 : decode cX10_miles 37 = .ok (.aload_n 0, 1) := by decide +kernel
theorem dX10_miles_38 : decode cX10_miles 38 = .ok (.getfield 69, 3) := by decide +kernel
theorem dX10_miles_41 : decode cX10_miles 41 = .ok (.aload_n 0, 1) := by decide +kernel
theorem dX10_miles_42 : decode cX10_miles 42 = .ok (.getfield 19, 3) := by decide +kernel
theorem dX10_miles_45 : decode cX10_miles 45 = .ok (.getfield 102, 3) := by decide +kernel
theorem dX10_miles_48 : decode cX10_miles 48 = .ok (.getfield 360, 3) := by decide +kernel
theorem dX10_miles_51 : decode cX10_miles 51 = .ok (.invokevirtual 363, 3) := by decide +kernel
theorem dX10_miles_54 : decode cX10_miles 54 = .ok (.iconst 0, 1) := by decide +kernel
theorem dX10_miles_55 : decode cX10_miles 55 = .ok (.istore_n 3, 1) := by decide +kernel
theorem dX10_miles_56 : decode cX10_miles 56 = .ok (.iload_n 3, 1) := by decide +kernel
theorem dX10_miles_57 : decode cX10_miles 57 = .ok (.iload_n 1, 1) := by decide +kernel
theorem dX10_miles_58 : decode cX10_miles 58 = .ok (.if_icmp .ge 26, 3) := by decide +kernel
theorem dX10_miles_61 : decode cX10_miles 61 = .ok (.aload_n 0, 1) := by decide +kernel
theorem dX10_miles_62 : decode cX10_miles 62 = .ok (.getfield 69, 3) := by decide +kernel
theorem dX10_miles_65 : decode cX10_miles 65 = .ok (.aload_n 0, 1) := by decide +kernel
theorem dX10_miles_66 : decode cX10_miles 66 = .ok (.getfield 19, 3) := by decide +kernel
theorem dX10_miles_69 : decode cX10_miles 69 = .ok (.getfield 102, 3) := by decide +kernel
theorem dX10_miles_72 : decode cX10_miles 72 = .ok (.getfield 365, 3) := by decide +kernel
theorem dX10_miles_75 : decode cX10_miles 75 = .ok (.invokevirtual 367, 3) := by decide +kernel
theorem dX10_miles_78 : decode cX10_miles 78 = .ok (.iinc 3 1, 3) := by decide +kernel
theorem dX10_miles_81 : decode cX10_miles 81 = .ok (.goto (-25), 3) := by decide +kernel
theorem dX10_miles_84 : decode cX10_miles 84 = .ok (.aload_n 0, 1) := by decide +kernel
theorem dX10_miles_85 : decode cX10_miles 85 = .ok (.getfield 69, 3) := by decide +kernel
theorem dX10_miles_88 : decode cX10_miles 88 = .ok (.iload_n 2, 1) := by decide +kernel
theorem dX10_miles_89 : decode cX10_miles 89 = .ok (.invokevirtual 370, 3) := by decide +kernel
theorem dX10_miles_92 : decode cX10_miles 92 = .ok (.lreturn, 1) := by decide +kernel
theorem dX10_boats_0 : decode cX10_boats 0 = .ok (.aload_n 0, 1) := by decide +kernel
theorem dX10_boats_1 : decode cX10_boats 1 = .ok (.getfield 19, 3) := by decide +kernel
theorem dX10_boats_4 : decode cX10_boats 4 = .ok (.getfield 102, 3) := by decide +kernel
theorem dX10_boats_7 : decode cX10_boats 7 = .ok (.invokevirtual 222, 3) := by decide +kernel
theorem dX10_boats_10 : decode cX10_boats 10 = .ok (.ifCond .eq 24, 3) := by decide +kernel
theorem dX10_boats_13 : decode cX10_boats 13 = .ok (.iload_n 1, 1) := by decide +kernel
theorem dX10_boats_14 : decode cX10_boats 14 = .ok (.ifCond .lt 20, 3) := by decide +kernel
theorem dX10_boats_17 : decode cX10_boats 17 = .ok (.iload_n 1, 1) := by decide +kernel
theorem dX10_boats_18 : decode cX10_boats 18 = .ok (.bipush 99, 2) := by decide +kernel
theorem dX10_boats_20 : decode cX10_boats 20 = .ok (.if_icmp .gt 14, 3) := by decide +kernel
theorem dX10_boats_23 : decode cX10_boats 23 = .ok (.iload_n 2, 1) := by decide +kernel
theorem dX10_boats_24 : decode cX10_boats 24 = .ok (.invokestatic 242, 3) := by decide +kernel
theorem dX10_boats_27 : decode cX10_boats 27 = .ok (.ifCond .eq 7, 3) := by decide +kernel
theorem dX10_boats_30 : decode cX10_boats 30 = .ok (.iload_n 2, 1) := by decide +kernel
theorem dX10_boats_31 : decode cX10_boats 31 = .ok (.ifCond .ne 6, 3) := by decide +kernel
theorem dX10_boats_34 : decode cX10_boats 34 = .ok (.bipush (-2), 2) := by decide +kernel
theorem dX10_boats_36 : decode cX10_boats 36 = .ok (.ireturn, 1) := by decide +kernel
theorem dX10_boats_37 : decode cX10_boats 37 = .ok (.aload_n 0, 1) := by decide +kernel
theorem dX10_boats_38 : decode cX10_boats 38 = .ok (.getfield 69, 3) := by decide +kernel
theorem dX10_boats_41 : decode cX10_boats 41 = .ok (.aload_n 0, 1) := by decide +kernel
theorem dX10_boats_42 : decode cX10_boats 42 = .ok (.getfield 19, 3) := by decide +kernel
theorem dX10_boats_45 : decode cX10_boats 45 = .ok (.getfield 102, 3) := by decide +kernel
theorem dX10_boats_48 : decode cX10_boats 48 = .ok (.getfield 360, 3) := by decide +kernel
theorem dX10_boats_51 : decode cX10_boats 51 = .ok (.invokevirtual 363, 3) := by decide +kernel
theorem dX10_boats_54 : decode cX10_boats 54 = .ok (.iconst 0, 1) := by decide +kernel
theorem dX10_boats_55 : decode cX10_boats 55 = .ok (.istore_n 3, 1) := by decide +kernel
theorem dX10_boats_56 : decode cX10_boats 56 = .ok (.iload_n 3, 1) := by decide +kernel
theorem dX10_boats_57 : decode cX10_boats 57 = .ok (.bipush 60, 2) := by decide +kernel
theorem dX10_boats_59 : decode cX10_boats 59 = .ok (.if_icmp .gt 46, 3) := by decide +kernel
theorem dX10_boats_62 : decode cX10_boats 62 = .ok (.aload_n 0, 1) := by decide +kernel
theorem dX10_boats_63 : decode cX10_boats 63 = .ok (.getfield 69, 3) := by decide +kernel
theorem dX10_boats_66 : decode cX10_boats 66 = .ok (.iload_n 1, 1) := by decide +kernel
theorem dX10_boats_67 : decode cX10_boats 67 = .ok (.invokevirtual 373, 3) := by decide +kernel
theorem dX10_boats_70 : decode cX10_boats 70 = .ok (.iload_n 2, 1) := by decide +kernel
theorem dX10_boats_71 : decode cX10_boats 71 = .ok (.i2l, 1) := by decide +kernel
theorem dX10_boats_72 : decode cX10_boats 72 = .ok (.ldc2_w 249, 3) := by decide +kernel
theorem dX10_boats_75 : decode cX10_boats 75 = .ok (.lmul, 1) := by decide +kernel
theorem dX10_boats_76 : decode cX10_boats 76 = .ok (.lcmp, 1) := by decide +kernel
theorem dX10_boats_77 : decode cX10_boats 77 = .ok (.ifCond .lt 5, 3) := by decide +kernel
theorem dX10_boats_80 : decode cX10_boats 80 = .ok (.iload_n 3, 1) := by decide +kernel
theorem dX10_boats_81 : decode cX10_boats 81 = .ok (.ireturn, 1) := by decide +kernel
theorem dX10_boats_82 : decode cX10_boats 82 = .ok (.aload_n 0, 1) := by decide +kernel
theorem dX10_boats_83 : decode cX10_boats 83 = .ok (.getfield 69, 3) := by decide +kernel
theorem dX10_boats_86 : decode cX10_boats 86 = .ok (.aload_n 0, 1) := by decide +kernel
theorem dX10_boats_87 : decode cX10_boats 87 = .ok (.getfield 19, 3) := by decide +kernel
theorem dX10_boats_90 : decode cX10_boats 90 = .ok (.getfield 102, 3) := by decide +kernel
theorem dX10_boats_93 : decode cX10_boats 93 = .ok (.getfield 365, 3) := by decide +kernel
theorem dX10_boats_96 : decode cX10_boats 96 = .ok (.invokevirtual 367, 3) := by decide +kernel
theorem dX10_boats_99 : decode cX10_boats 99 = .ok (.iinc 3 1, 3) := by decide +kernel
theorem dX10_boats_102 : decode cX10_boats 102 = .ok (.goto (-46), 3) := by decide +kernel
theorem dX10_boats_105 : decode cX10_boats 105 = .ok (.iconst (-1), 1) := by decide +kernel
theorem dX10_boats_106 : decode cX10_boats 106 = .ok (.ireturn, 1) := by decide +kernel
theorem dX10_saw_0 : decode cX10_saw 0 = .ok (.aload_n 0, 1) := by decide +kernel
theorem dX10_saw_1 : decode cX10_saw 1 = .ok (.getfield 19, 3) := by decide +kernel
theorem dX10_saw_4 : decode cX10_saw 4 = .ok (.getfield 102, 3) := by decide +kernel
theorem dX10_saw_7 : decode cX10_saw 7 = .ok (.getfield 186, 3) := by decide +kernel
theorem dX10_saw_10 : decode cX10_saw 10 = .ok (.iload_n 1, 1) := by decide +kernel
theorem dX10_saw_11 : decode cX10_saw 11 = .ok (.invokevirtual 134, 3) := by decide +kernel
theorem dX10_saw_14 : decode cX10_saw 14 = .ok (.ifCond .ne 6, 3) := by decide +kernel
theorem dX10_saw_17 : decode cX10_saw 17 = .ok (.bipush (-2), 2) := by decide +kernel
theorem dX10_saw_19 : decode cX10_saw 19 = .ok (.ireturn, 1) := by decide +kernel
theorem dX10_saw_20 : decode cX10_saw 20 = .ok (.aload_n 0, 1) := by decide +kernel
theorem dX10_saw_21 : decode cX10_saw 21 = .ok (.getfield 19, 3) := by decide +kernel
theorem dX10_saw_24 : decode cX10_saw 24 = .ok (.getfield 376, 3) := by decide +kernel
theorem dX10_saw_27 : decode cX10_saw 27 = .ok (.iload_n 1, 1) := by decide +kernel
theorem dX10_saw_28 : decode cX10_saw 28 = .ok (.iaload, 1) := by decide +kernel
theorem dX10_saw_29 : decode cX10_saw 29 = .ok (.bipush 99, 2) := by decide +kernel
theorem dX10_saw_31 : decode cX10_saw 31 = .ok (.if_icmp .lt 6, 3) := by decide +kernel
theorem dX10_saw_34 : decode cX10_saw 34 = .ok (.bipush (-3), 2) := by decide +kernel
theorem dX10_saw_36 : decode cX10_saw 36 = .ok (.ireturn, 1) := by decide +kernel
theorem dX10_saw_37 : decode cX10_saw 37 = .ok (.aload_n 0, 1) := by decide +kernel
theorem dX10_saw_38 : decode cX10_saw 38 = .ok (.getfield 19, 3) := by decide +kernel
theorem dX10_saw_41 : decode cX10_saw 41 = .ok (.getfield 376, 3) := by decide +kernel
theorem dX10_saw_44 : decode cX10_saw 44 = .ok (.iload_n 1, 1) := by decide +kernel
theorem dX10_saw_45 : decode cX10_saw 45 = .ok (.dup2, 1) := by decide +kernel
theorem dX10_saw_46 : decode cX10_saw 46 = .ok (.iaload, 1) := by decide +kernel
theorem dX10_saw_47 : decode cX10_saw 47 = .ok (.iconst 1, 1) := by decide +kernel
theorem dX10_saw_48 : decode cX10_saw 48 = .ok (.iadd, 1) := by decide +kernel
theorem dX10_saw_49 : decode cX10_saw 49 = .ok (.iastore, 1) := by decide +kernel
theorem dX10_saw_50 : decode cX10_saw 50 = .ok (.aload_n 0, 1) := by decide +kernel
theorem dX10_saw_51 : decode cX10_saw 51 = .ok (.getfield 19, 3) := by decide +kernel
theorem dX10_saw_54 : decode cX10_saw 54 = .ok (.getfield 376, 3) := by decide +kernel
theorem dX10_saw_57 : decode cX10_saw 57 = .ok (.iload_n 1, 1) := by decide +kernel
theorem dX10_saw_58 : decode cX10_saw 58 = .ok (.iaload, 1) := by decide +kernel
theorem dX10_saw_59 : decode cX10_saw 59 = .ok (.ireturn, 1) := by decide +kernel
theorem dX10_pass_0 : decode cX10_pass 0 = .ok (.aload_n 0, 1) := by decide +kernel
theorem dX10_pass_1 : decode cX10_pass 1 = .ok (.getfield 19, 3) := by decide +kernel
theorem dX10_pass_4 : decode cX10_pass 4 = .ok (.getfield 102, 3) := by decide +kernel
theorem dX10_pass_7 : decode cX10_pass 7 = .ok (.invokevirtual 222, 3) := by decide +kernel
theorem dX10_pass_10 : decode cX10_pass 10 = .ok (.ifCond .eq 28, 3) := by decide +kernel
theorem dX10_pass_13 : decode cX10_pass 13 = .ok (.iload_n 1, 1) := by decide +kernel
theorem dX10_pass_14 : decode cX10_pass 14 = .ok (.ifCond .lt 24, 3) := by decide +kernel
theorem dX10_pass_17 : decode cX10_pass 17 = .ok (.iload_n 1, 1) := by decide +kernel
theorem dX10_pass_18 : decode cX10_pass 18 = .ok (.bipush 99, 2) := by decide +kernel
theorem dX10_pass_20 : decode cX10_pass 20 = .ok (.if_icmp .gt 18, 3) := by decide +kernel
theorem dX10_pass_23 : decode cX10_pass 23 = .ok (.aload_n 0, 1) := by decide +kernel
theorem dX10_pass_24 : decode cX10_pass 24 = .ok (.getfield 19, 3) := by decide +kernel
theorem dX10_pass_27 : decode cX10_pass 27 = .ok (.getfield 379, 3) := by decide +kernel
theorem dX10_pass_30 : decode cX10_pass 30 = .ok (.iload_n 1, 1) := by decide +kernel
theorem dX10_pass_31 : decode cX10_pass 31 = .ok (.iadd, 1) := by decide +kernel
theorem dX10_pass_32 : decode cX10_pass 32 = .ok (.sipush 9999, 3) := by decide +kernel
theorem dX10_pass_35 : decode cX10_pass 35 = .ok (.if_icmp .le 6, 3) := by decide +kernel
theorem dX10_pass_38 : decode cX10_pass 38 = .ok (.bipush (-2), 2) := by decide +kernel
theorem dX10_pass_40 : decode cX10_pass 40 = .ok (.ireturn, 1) := by decide +kernel
theorem dX10_pass_41 : decode cX10_pass 41 = .ok (.aload_n 0, 1) := by decide +kernel
theorem dX10_pass_42 : decode cX10_pass 42 = .ok (.getfield 19, 3) := by decide +kernel
theorem dX10_pass_45 : decode cX10_pass 45 = .ok (.dup, 1) := by decide +kernel
theorem dX10_pass_46 : decode cX10_pass 46 = .ok (.getfield 379, 3) := by decide +kernel
theorem dX10_pass_49 : decode cX10_pass 49 = .ok (.iload_n 1, 1) := by decide +kernel
theorem dX10_pass_50 : decode cX10_pass 50 = .ok (.iadd, 1) := by decide +kernel
theorem dX10_pass_51 : decode cX10_pass 51 = .ok (.putfield 379, 3) := by decide +kernel
theorem dX10_pass_54 : decode cX10_pass 54 = .ok (.aload_n 0, 1) := by decide +kernel
theorem dX10_pass_55 : decode cX10_pass 55 = .ok (.getfield 19, 3) := by decide +kernel
theorem dX10_pass_58 : decode cX10_pass 58 = .ok (.getfield 379, 3) := by decide +kernel
theorem dX10_pass_61 : decode cX10_pass 61 = .ok (.ireturn, 1) := by decide +kernel
theorem dX10_seam_0 : decode cX10_seam 0 = .ok (.aload_n 0, 1) := by decide +kernel
theorem dX10_seam_1 : decode cX10_seam 1 = .ok (.getfield 19, 3) := by decide +kernel
theorem dX10_seam_4 : decode cX10_seam 4 = .ok (.getfield 102, 3) := by decide +kernel
theorem dX10_seam_7 : decode cX10_seam 7 = .ok (.getfield 186, 3) := by decide +kernel
theorem dX10_seam_10 : decode cX10_seam 10 = .ok (.iload_n 1, 1) := by decide +kernel
theorem dX10_seam_11 : decode cX10_seam 11 = .ok (.invokevirtual 134, 3) := by decide +kernel
theorem dX10_seam_14 : decode cX10_seam 14 = .ok (.ifCond .ne 6, 3) := by decide +kernel
theorem dX10_seam_17 : decode cX10_seam 17 = .ok (.bipush (-2), 2) := by decide +kernel
theorem dX10_seam_19 : decode cX10_seam 19 = .ok (.ireturn, 1) := by decide +kernel
theorem dX10_seam_20 : decode cX10_seam 20 = .ok (.iconst 0, 1) := by decide +kernel
theorem dX10_seam_21 : decode cX10_seam 21 = .ok (.aload_n 0, 1) := by decide +kernel
theorem dX10_seam_22 : decode cX10_seam 22 = .ok (.getfield 19, 3) := by decide +kernel
theorem dX10_seam_25 : decode cX10_seam 25 = .ok (.getfield 379, 3) := by decide +kernel
theorem dX10_seam_28 : decode cX10_seam 28 = .ok (.invokestatic 382, 3) := by decide +kernel
theorem dX10_seam_31 : decode cX10_seam 31 = .ok (.istore_n 2, 1) := by decide +kernel
theorem dX10_seam_32 : decode cX10_seam 32 = .ok (.bipush 100, 2) := by decide +kernel
theorem dX10_seam_34 : decode cX10_seam 34 = .ok (.aload_n 0, 1) := by decide +kernel
theorem dX10_seam_35 : decode cX10_seam 35 = .ok (.getfield 19, 3) := by decide +kernel
theorem dX10_seam_38 : decode cX10_seam 38 = .ok (.iload_n 1, 1) := by decide +kernel
theorem dX10_seam_39 : decode cX10_seam 39 = .ok (.invokevirtual 192, 3) := by decide +kernel
theorem dX10_seam_42 : decode cX10_seam 42 = .ok (.imul, 1) := by decide +kernel
theorem dX10_seam_43 : decode cX10_seam 43 = .ok (.sipush 10000, 3) := by decide +kernel
theorem dX10_seam_46 : decode cX10_seam 46 = .ok (.aload_n 0, 1) := by decide +kernel
theorem dX10_seam_47 : decode cX10_seam 47 = .ok (.getfield 19, 3) := by decide +kernel
theorem dX10_seam_50 : decode cX10_seam 50 = .ok (.getfield 376, 3) := by decide +kernel
theorem dX10_seam_53 : decode cX10_seam 53 = .ok (.iload_n 1, 1) := by decide +kernel
theorem dX10_seam_54 : decode cX10_seam 54 = .ok (.iaload, 1) := by decide +kernel
theorem dX10_seam_55 : decode cX10_seam 55 = .ok (.imul, 1) := by decide +kernel
theorem dX10_seam_56 : decode cX10_seam 56 = .ok (.iadd, 1) := by decide +kernel
theorem dX10_seam_57 : decode cX10_seam 57 = .ok (.bipush 100, 2) := by decide +kernel
theorem dX10_seam_59 : decode cX10_seam 59 = .ok (.iload_n 2, 1) := by decide +kernel
theorem dX10_seam_60 : decode cX10_seam 60 = .ok (.iadd, 1) := by decide +kernel
theorem dX10_seam_61 : decode cX10_seam 61 = .ok (.idiv, 1) := by decide +kernel
theorem dX10_seam_62 : decode cX10_seam 62 = .ok (.ireturn, 1) := by decide +kernel
theorem dX10_run_0 : decode cX10_run 0 = .ok (.aload_n 0, 1) := by decide +kernel
theorem dX10_run_1 : decode cX10_run 1 = .ok (.getfield 19, 3) := by decide +kernel
theorem dX10_run_4 : decode cX10_run 4 = .ok (.getfield 102, 3) := by decide +kernel
theorem dX10_run_7 : decode cX10_run 7 = .ok (.invokevirtual 222, 3) := by decide +kernel
theorem dX10_run_10 : decode cX10_run 10 = .ok (.ifCond .eq 11, 3) := by decide +kernel
theorem dX10_run_13 : decode cX10_run 13 = .ok (.iload_n 1, 1) := by decide +kernel
theorem dX10_run_14 : decode cX10_run 14 = .ok (.iload_n 2, 1) := by decide +kernel
theorem dX10_run_15 : decode cX10_run 15 = .ok (.invokestatic 387, 3) := by decide +kernel
theorem dX10_run_18 : decode cX10_run 18 = .ok (.ifCond .ne 6, 3) := by decide +kernel
theorem dX10_run_21 : decode cX10_run 21 = .ok (.bipush (-2), 2) := by decide +kernel
theorem dX10_run_23 : decode cX10_run 23 = .ok (.ireturn, 1) := by decide +kernel
theorem dX10_run_24 : decode cX10_run 24 = .ok (.aload_n 0, 1) := by decide +kernel
theorem dX10_run_25 : decode cX10_run 25 = .ok (.getfield 41, 3) := by decide +kernel
theorem dX10_run_28 : decode cX10_run 28 = .ok (.aload_n 0, 1) := by decide +kernel
theorem dX10_run_29 : decode cX10_run 29 = .ok (.getfield 19, 3) := by decide +kernel
theorem dX10_run_32 : decode cX10_run 32 = .ok (.invokevirtual 211, 3) := by decide +kernel
theorem dX10_run_35 : decode cX10_run 35 = .ok (.aload_n 0, 1) := by decide +kernel
theorem dX10_run_36 : decode cX10_run 36 = .ok (.aload_n 0, 1) := by decide +kernel
theorem dX10_run_37 : decode cX10_run 37 = .ok (.getfield 41, 3) := by decide +kernel
theorem dX10_run_40 : decode cX10_run 40 = .ok (.iload_n 1, 1) := by decide +kernel
theorem dX10_run_41 : decode cX10_run 41 = .ok (.i2l, 1) := by decide +kernel
theorem dX10_run_42 : decode cX10_run 42 = .ok (.iload_n 2, 1) := by decide +kernel
theorem dX10_run_43 : decode cX10_run 43 = .ok (.invokevirtual 390, 3) := by decide +kernel
theorem dX10_run_46 : decode cX10_run 46 = .ok (.putfield 99, 3) := by decide +kernel
theorem dX10_run_49 : decode cX10_run 49 = .ok (.aload_n 0, 1) := by decide +kernel
theorem dX10_run_50 : decode cX10_run 50 = .ok (.getfield 19, 3) := by decide +kernel
theorem dX10_run_53 : decode cX10_run 53 = .ok (.aload_n 0, 1) := by decide +kernel
theorem dX10_run_54 : decode cX10_run 54 = .ok (.getfield 41, 3) := by decide +kernel
theorem dX10_run_57 : decode cX10_run 57 = .ok (.getfield 394, 3) := by decide +kernel
theorem dX10_run_60 : decode cX10_run 60 = .ok (.putfield 170, 3) := by decide +kernel
theorem dX10_run_63 : decode cX10_run 63 = .ok (.aload_n 0, 1) := by decide +kernel
theorem dX10_run_64 : decode cX10_run 64 = .ok (.getfield 19, 3) := by decide +kernel
theorem dX10_run_67 : decode cX10_run 67 = .ok (.getfield 170, 3) := by decide +kernel
theorem dX10_run_70 : decode cX10_run 70 = .ok (.ireturn, 1) := by decide +kernel
theorem dX10_struck_0 : decode cX10_struck 0 = .ok (.aload_n 0, 1) := by decide +kernel
theorem dX10_struck_1 : decode cX10_struck 1 = .ok (.getfield 99, 3) := by decide +kernel
theorem dX10_struck_4 : decode cX10_struck 4 = .ok (.ireturn, 1) := by decide +kernel
theorem dX10_springs_0 : decode cX10_springs 0 = .ok (.aload_n 0, 1) := by decide +kernel
theorem dX10_springs_1 : decode cX10_springs 1 = .ok (.getfield 19, 3) := by decide +kernel
theorem dX10_springs_4 : decode cX10_springs 4 = .ok (.getfield 102, 3) := by decide +kernel
theorem dX10_springs_7 : decode cX10_springs 7 = .ok (.invokevirtual 222, 3) := by decide +kernel
theorem dX10_springs_10 : decode cX10_springs 10 = .ok (.ifCond .eq 22, 3) := by decide +kernel
theorem dX10_springs_13 : decode cX10_springs 13 = .ok (.iload_n 1, 1) := by decide +kernel
theorem dX10_springs_14 : decode cX10_springs 14 = .ok (.iload_n 3, 1) := by decide +kernel
theorem dX10_springs_15 : decode cX10_springs 15 = .ok (.invokestatic 387, 3) := by decide +kernel
theorem dX10_springs_18 : decode cX10_springs 18 = .ok (.ifCond .eq 14, 3) := by decide +kernel
theorem dX10_springs_21 : decode cX10_springs 21 = .ok (.iload_n 2, 1) := by decide +kernel
theorem dX10_springs_22 : decode cX10_springs 22 = .ok (.iconst 1, 1) := by decide +kernel
theorem dX10_springs_23 : decode cX10_springs 23 = .ok (.if_icmp .lt 9, 3) := by decide +kernel
theorem dX10_springs_26 : decode cX10_springs 26 = .ok (.iload_n 2, 1) := by decide +kernel
theorem dX10_springs_27 : decode cX10_springs 27 = .ok (.bipush 60, 2) := by decide +kernel
theorem dX10_springs_29 : decode cX10_springs 29 = .ok (.if_icmp .le 6, 3) := by decide +kernel
theorem dX10_springs_32 : decode cX10_springs 32 = .ok (.bipush (-2), 2) := by decide +kernel
theorem dX10_springs_34 : decode cX10_springs 34 = .ok (.ireturn, 1) := by decide +kernel
theorem dX10_springs_35 : decode cX10_springs 35 = .ok (.aload_n 0, 1) := by decide +kernel
theorem dX10_springs_36 : decode cX10_springs 36 = .ok (.getfield 41, 3) := by decide +kernel
theorem dX10_springs_39 : decode cX10_springs 39 = .ok (.aload_n 0, 1) := by decide +kernel
theorem dX10_springs_40 : decode cX10_springs 40 = .ok (.getfield 19, 3) := by decide +kernel
theorem dX10_springs_43 : decode cX10_springs 43 = .ok (.invokevirtual 211, 3) := by decide +kernel
theorem dX10_springs_46 : decode cX10_springs 46 = .ok (.iconst 0, 1) := by decide +kernel
theorem dX10_springs_47 : decode cX10_springs 47 = .ok (.istore 4, 2) := by decide +kernel
theorem dX10_springs_49 : decode cX10_springs 49 = .ok (.iconst 0, 1) := by decide +kernel
theorem dX10_springs_50 : decode cX10_springs 50 = .ok (.istore 5, 2) := by decide +kernel
theorem dX10_springs_52 : decode cX10_springs 52 = .ok (.iload 5, 2) := by decide +kernel
theorem dX10_springs_54 : decode cX10_springs 54 = .ok (.iload_n 2, 1) := by decide +kernel
theorem dX10_springs_55 : decode cX10_springs 55 = .ok (.if_icmp .ge 29, 3) := by decide +kernel
theorem dX10_springs_58 : decode cX10_springs 58 = .ok (.aload_n 0, 1) := by decide +kernel
theorem dX10_springs_59 : decode cX10_springs 59 = .ok (.getfield 41, 3) := by decide +kernel
theorem dX10_springs_62 : decode cX10_springs 62 = .ok (.iload_n 1, 1) := by decide +kernel
theorem dX10_springs_63 : decode cX10_springs 63 = .ok (.i2l, 1) := by decide +kernel
theorem dX10_springs_64 : decode cX10_springs 64 = .ok (.iload 5, 2) := by decide +kernel
theorem dX10_springs_66 : decode cX10_springs 66 = .ok (.i2l, 1) := by decide +kernel
theorem dX10_springs_67 : decode cX10_springs 67 = .ok (.ladd, 1) := by decide +kernel
theorem dX10_springs_68 : decode cX10_springs 68 = .ok (.iload_n 3, 1) := by decide +kernel
theorem dX10_springs_69 : decode cX10_springs 69 = .ok (.invokevirtual 390, 3) := by decide +kernel
theorem dX10_springs_72 : decode cX10_springs 72 = .ok (.ifCond .eq 6, 3) := by decide +kernel
theorem dX10_springs_75 : decode cX10_springs 75 = .ok (.iinc 4 1, 3) := by decide +kernel
theorem dX10_springs_78 : decode cX10_springs 78 = .ok (.iinc 5 1, 3) := by decide +kernel
theorem dX10_springs_81 : decode cX10_springs 81 = .ok (.goto (-29), 3) := by decide +kernel
theorem dX10_springs_84 : decode cX10_springs 84 = .ok (.iload 4, 2) := by decide +kernel
theorem dX10_springs_86 : decode cX10_springs 86 = .ok (.ireturn, 1) := by decide +kernel
theorem dX10_count_0 : decode cX10_count 0 = .ok (.iload_n 1, 1) := by decide +kernel
theorem dX10_count_1 : decode cX10_count 1 = .ok (.tableswitch 213 0 13 #[71, 82, 93, 104, 115, 129, 143, 157, 165, 173, 184, 192, 200, 208], 71) := by decide +kernel
theorem dX10_count_72 : decode cX10_count 72 = .ok (.aload_n 0, 1) := by decide +kernel
theorem dX10_count_73 : decode cX10_count 73 = .ok (.getfield 19, 3) := by decide +kernel
theorem dX10_count_76 : decode cX10_count 76 = .ok (.getfield 102, 3) := by decide +kernel
theorem dX10_count_79 : decode cX10_count 79 = .ok (.getfield 397, 3) := by decide +kernel
theorem dX10_count_82 : decode cX10_count 82 = .ok (.ireturn, 1) := by decide +kernel
theorem dX10_count_83 : decode cX10_count 83 = .ok (.aload_n 0, 1) := by decide +kernel
theorem dX10_count_84 : decode cX10_count 84 = .ok (.getfield 19, 3) := by decide +kernel
theorem dX10_count_87 : decode cX10_count 87 = .ok (.getfield 102, 3) := by decide +kernel
theorem dX10_count_90 : decode cX10_count 90 = .ok (.getfield 400, 3) := by decide +kernel
theorem dX10_count_93 : decode cX10_count 93 = .ok (.ireturn, 1) := by decide +kernel
theorem dX10_count_94 : decode cX10_count 94 = .ok (.aload_n 0, 1) := by decide +kernel
theorem dX10_count_95 : decode cX10_count 95 = .ok (.getfield 19, 3) := by decide +kernel
theorem dX10_count_98 : decode cX10_count 98 = .ok (.getfield 102, 3) := by decide +kernel
theorem dX10_count_101 : decode cX10_count 101 = .ok (.getfield 161, 3) := by decide +kernel
theorem dX10_count_104 : decode cX10_count 104 = .ok (.ireturn, 1) := by decide +kernel
theorem dX10_count_105 : decode cX10_count 105 = .ok (.aload_n 0, 1) := by decide +kernel
theorem dX10_count_106 : decode cX10_count 106 = .ok (.getfield 19, 3) := by decide +kernel
theorem dX10_count_109 : decode cX10_count 109 = .ok (.getfield 102, 3) := by decide +kernel
theorem dX10_count_112 : decode cX10_count 112 = .ok (.getfield 403, 3) := by decide +kernel
theorem dX10_count_115 : decode cX10_count 115 = .ok (.ireturn, 1) := by decide +kernel
theorem dX10_count_116 : decode cX10_count 116 = .ok (.aload_n 0, 1) := by decide +kernel
theorem dX10_count_117 : decode cX10_count 117 = .ok (.getfield 19, 3) := by decide +kernel
theorem dX10_count_120 : decode cX10_count 120 = .ok (.getfield 102, 3) := by decide +kernel
theorem dX10_count_123 : decode cX10_count 123 = .ok (.getfield 186, 3) := by decide +kernel
theorem dX10_count_126 : decode cX10_count 126 = .ok (.getfield 226, 3) := by decide +kernel
theorem dX10_count_129 : decode cX10_count 129 = .ok (.ireturn, 1) := by decide +kernel
theorem dX10_count_130 : decode cX10_count 130 = .ok (.aload_n 0, 1) := by decide +kernel
theorem dX10_count_131 : decode cX10_count 131 = .ok (.getfield 19, 3) := by decide +kernel
theorem dX10_count_134 : decode cX10_count 134 = .ok (.getfield 102, 3) := by decide +kernel
theorem dX10_count_137 : decode cX10_count 137 = .ok (.getfield 130, 3) := by decide +kernel
theorem dX10_count_140 : decode cX10_count 140 = .ok (.getfield 226, 3) := by decide +kernel
theorem dX10_count_143 : decode cX10_count 143 = .ok (.ireturn, 1) := by decide +kernel
theorem dX10_count_144 : decode cX10_count 144 = .ok (.aload_n 0, 1) := by decide +kernel
theorem dX10_count_145 : decode cX10_count 145 = .ok (.getfield 19, 3) := by decide +kernel
theorem dX10_count_148 : decode cX10_count 148 = .ok (.getfield 102, 3) := by decide +kernel
theorem dX10_count_151 : decode cX10_count 151 = .ok (.getfield 406, 3) := by decide +kernel
theorem dX10_count_154 : decode cX10_count 154 = .ok (.getfield 226, 3) := by decide +kernel
theorem dX10_count_157 : decode cX10_count 157 = .ok (.ireturn, 1) := by decide +kernel
theorem dX10_count_158 : decode cX10_count 158 = .ok (.aload_n 0, 1) := by decide +kernel
theorem dX10_count_159 : decode cX10_count 159 = .ok (.getfield 19, 3) := by decide +kernel
theorem dX10_count_162 : decode cX10_count 162 = .ok (.invokevirtual 409, 3) := by decide +kernel
theorem dX10_count_165 : decode cX10_count 165 = .ok (.ireturn, 1) := by decide +kernel
theorem dX10_count_166 : decode cX10_count 166 = .ok (.aload_n 0, 1) := by decide +kernel
theorem dX10_count_167 : decode cX10_count 167 = .ok (.getfield 19, 3) := by decide +kernel
theorem dX10_count_170 : decode cX10_count 170 = .ok (.getfield 170, 3) := by decide +kernel
theorem dX10_count_173 : decode cX10_count 173 = .ok (.ireturn, 1) := by decide +kernel
theorem dX10_count_174 : decode cX10_count 174 = .ok (.aload_n 0, 1) := by decide +kernel
theorem dX10_count_175 : decode cX10_count 175 = .ok (.getfield 19, 3) := by decide +kernel
theorem dX10_count_178 : decode cX10_count 178 = .ok (.getfield 102, 3) := by decide +kernel
theorem dX10_count_181 : decode cX10_count 181 = .ok (.getfield 105, 3) := by decide +kernel
theorem dX10_count_184 : decode cX10_count 184 = .ok (.ireturn, 1) := by decide +kernel
theorem dX10_count_185 : decode cX10_count 185 = .ok (.aload_n 0, 1) := by decide +kernel
theorem dX10_count_186 : decode cX10_count 186 = .ok (.getfield 10, 3) := by decide +kernel
theorem dX10_count_189 : decode cX10_count 189 = .ok (.getfield 81, 3) := by decide +kernel
theorem dX10_count_192 : decode cX10_count 192 = .ok (.ireturn, 1) := by decide +kernel
theorem dX10_count_193 : decode cX10_count 193 = .ok (.aload_n 0, 1) := by decide +kernel
theorem dX10_count_194 : decode cX10_count 194 = .ok (.getfield 19, 3) := by decide +kernel
theorem dX10_count_197 : decode cX10_count 197 = .ok (.getfield 379, 3) := by decide +kernel
theorem dX10_count_200 : decode cX10_count 200 = .ok (.ireturn, 1) := by decide +kernel
theorem dX10_count_201 : decode cX10_count 201 = .ok (.aload_n 0, 1) := by decide +kernel
theorem dX10_count_202 : decode cX10_count 202 = .ok (.getfield 19, 3) := by decide +kernel
theorem dX10_count_205 : decode cX10_count 205 = .ok (.invokevirtual 153, 3) := by decide +kernel
theorem dX10_count_208 : decode cX10_count 208 = .ok (.ireturn, 1) := by decide +kernel
theorem dX10_count_209 : decode cX10_count 209 = .ok (.aload_n 0, 1) := by decide +kernel
theorem dX10_count_210 : decode cX10_count 210 = .ok (.invokevirtual 412, 3) := by decide +kernel
theorem dX10_count_213 : decode cX10_count 213 = .ok (.ireturn, 1) := by decide +kernel
theorem dX10_count_214 : decode cX10_count 214 = .ok (.iconst (-1), 1) := by decide +kernel
theorem dX10_count_215 : decode cX10_count 215 = .ok (.ireturn, 1) := by decide +kernel
theorem dX10_keep_0 : decode cX10_keep 0 = .ok (.aload_n 0, 1) := by decide +kernel
theorem dX10_keep_1 : decode cX10_keep 1 = .ok (.iload_n 1, 1) := by decide +kernel
theorem dX10_keep_2 : decode cX10_keep 2 = .ok (.invokevirtual 415, 3) := by decide +kernel
theorem dX10_keep_5 : decode cX10_keep 5 = .ok (.astore_n 2, 1) := by decide +kernel
theorem dX10_keep_6 : decode cX10_keep 6 = .ok (.aload_n 2, 1) := by decide +kernel
theorem dX10_keep_7 : decode cX10_keep 7 = .ok (.ifnonnull 6, 3) := by decide +kernel
theorem dX10_keep_10 : decode cX10_keep 10 = .ok (.bipush (-2), 2) := by decide +kernel
theorem dX10_keep_12 : decode cX10_keep 12 = .ok (.ireturn, 1) := by decide +kernel
theorem dX10_keep_13 : decode cX10_keep 13 = .ok (.aload_n 2, 1) := by decide +kernel
theorem dX10_keep_14 : decode cX10_keep 14 = .ok (.aload_n 0, 1) := by decide +kernel
theorem dX10_keep_15 : decode cX10_keep 15 = .ok (.getfield 19, 3) := by decide +kernel
theorem dX10_keep_18 : decode cX10_keep 18 = .ok (.invokevirtual 288, 3) := by decide +kernel
theorem dX10_keep_21 : decode cX10_keep 21 = .ok (.aload_n 0, 1) := by decide +kernel
theorem dX10_keep_22 : decode cX10_keep 22 = .ok (.getfield 27, 3) := by decide +kernel
theorem dX10_keep_25 : decode cX10_keep 25 = .ok (.iload_n 1, 1) := by decide +kernel
theorem dX10_keep_26 : decode cX10_keep 26 = .ok (.iconst 1, 1) := by decide +kernel
theorem dX10_keep_27 : decode cX10_keep 27 = .ok (.bastore, 1) := by decide +kernel
theorem dX10_keep_28 : decode cX10_keep 28 = .ok (.iconst 0, 1) := by decide +kernel
theorem dX10_keep_29 : decode cX10_keep 29 = .ok (.ireturn, 1) := by decide +kernel
theorem dX10_back_0 : decode cX10_back 0 = .ok (.aload_n 0, 1) := by decide +kernel
theorem dX10_back_1 : decode cX10_back 1 = .ok (.iload_n 1, 1) := by decide +kernel
theorem dX10_back_2 : decode cX10_back 2 = .ok (.invokevirtual 415, 3) := by decide +kernel
theorem dX10_back_5 : decode cX10_back 5 = .ok (.astore_n 2, 1) := by decide +kernel
theorem dX10_back_6 : decode cX10_back 6 = .ok (.aload_n 2, 1) := by decide +kernel
theorem dX10_back_7 : decode cX10_back 7 = .ok (.ifnonnull 6, 3) := by decide +kernel
theorem dX10_back_10 : decode cX10_back 10 = .ok (.bipush (-2), 2) := by decide +kernel
theorem dX10_back_12 : decode cX10_back 12 = .ok (.ireturn, 1) := by decide +kernel
theorem dX10_back_13 : decode cX10_back 13 = .ok (.aload_n 0, 1) := by decide +kernel
theorem dX10_back_14 : decode cX10_back 14 = .ok (.getfield 27, 3) := by decide +kernel
theorem dX10_back_17 : decode cX10_back 17 = .ok (.iload_n 1, 1) := by decide +kernel
theorem dX10_back_18 : decode cX10_back 18 = .ok (.baload, 1) := by decide +kernel
theorem dX10_back_19 : decode cX10_back 19 = .ok (.ifCond .ne 6, 3) := by decide +kernel
theorem dX10_back_22 : decode cX10_back 22 = .ok (.bipush (-6), 2) := by decide +kernel
theorem dX10_back_24 : decode cX10_back 24 = .ok (.ireturn, 1) := by decide +kernel
theorem dX10_back_25 : decode cX10_back 25 = .ok (.aload_n 0, 1) := by decide +kernel
theorem dX10_back_26 : decode cX10_back 26 = .ok (.getfield 19, 3) := by decide +kernel
theorem dX10_back_29 : decode cX10_back 29 = .ok (.aload_n 2, 1) := by decide +kernel
theorem dX10_back_30 : decode cX10_back 30 = .ok (.invokevirtual 288, 3) := by decide +kernel
theorem dX10_back_33 : decode cX10_back 33 = .ok (.iconst 0, 1) := by decide +kernel
theorem dX10_back_34 : decode cX10_back 34 = .ok (.ireturn, 1) := by decide +kernel
theorem dX10_row_0 : decode cX10_row 0 = .ok (.aload_n 0, 1) := by decide +kernel
theorem dX10_row_1 : decode cX10_row 1 = .ok (.iload_n 1, 1) := by decide +kernel
theorem dX10_row_2 : decode cX10_row 2 = .ok (.invokevirtual 251, 3) := by decide +kernel
theorem dX10_row_5 : decode cX10_row 5 = .ok (.astore 4, 2) := by decide +kernel
theorem dX10_row_7 : decode cX10_row 7 = .ok (.aload 4, 2) := by decide +kernel
theorem dX10_row_9 : decode cX10_row 9 = .ok (.ifnull 18, 3) := by decide +kernel
theorem dX10_row_12 : decode cX10_row 12 = .ok (.iload_n 2, 1) := by decide +kernel
theorem dX10_row_13 : decode cX10_row 13 = .ok (.ifCond .lt 14, 3) := by decide +kernel
theorem dX10_row_16 : decode cX10_row 16 = .ok (.iload_n 2, 1) := by decide +kernel
theorem dX10_row_17 : decode cX10_row 17 = .ok (.iconst 4, 1) := by decide +kernel
theorem dX10_row_18 : decode cX10_row 18 = .ok (.if_icmp .ge 9, 3) := by decide +kernel
theorem dX10_row_21 : decode cX10_row 21 = .ok (.iload_n 3, 1) := by decide +kernel
theorem dX10_row_22 : decode cX10_row 22 = .ok (.bipush 60, 2) := by decide +kernel
theorem dX10_row_24 : decode cX10_row 24 = .ok (.if_icmp .le 6, 3) := by decide +kernel
theorem dX10_row_27 : decode cX10_row 27 = .ok (.bipush (-2), 2) := by decide +kernel
theorem dX10_row_29 : decode cX10_row 29 = .ok (.ireturn, 1) := by decide +kernel
theorem dX10_row_30 : decode cX10_row 30 = .ok (.iload_n 3, 1) := by decide +kernel
theorem dX10_row_31 : decode cX10_row 31 = .ok (.ifCond .ge 6, 3) := by decide +kernel
theorem dX10_row_34 : decode cX10_row 34 = .ok (.bipush (-3), 2) := by decide +kernel
theorem dX10_row_36 : decode cX10_row 36 = .ok (.ireturn, 1) := by decide +kernel
theorem dX10_row_37 : decode cX10_row 37 = .ok (.aload 4, 2) := by decide +kernel
theorem dX10_row_39 : decode cX10_row 39 = .ok (.iload_n 2, 1) := by decide +kernel
theorem dX10_row_40 : decode cX10_row 40 = .ok (.iload_n 3, 1) := by decide +kernel
theorem dX10_row_41 : decode cX10_row 41 = .ok (.invokevirtual 419, 3) := by decide +kernel
theorem dX10_row_44 : decode cX10_row 44 = .ok (.iconst 0, 1) := by decide +kernel
theorem dX10_row_45 : decode cX10_row 45 = .ok (.ireturn, 1) := by decide +kernel
theorem dX10_write_0 : decode cX10_write 0 = .ok (.aload_n 0, 1) := by decide +kernel
theorem dX10_write_1 : decode cX10_write 1 = .ok (.iload_n 1, 1) := by decide +kernel
theorem dX10_write_2 : decode cX10_write 2 = .ok (.invokevirtual 251, 3) := by decide +kernel
theorem dX10_write_5 : decode cX10_write 5 = .ok (.astore 5, 2) := by decide +kernel
theorem dX10_write_7 : decode cX10_write 7 = .ok (.aload 5, 2) := by decide +kernel
theorem dX10_write_9 : decode cX10_write 9 = .ok (.ifnonnull 6, 3) := by decide +kernel
theorem dX10_write_12 : decode cX10_write 12 = .ok (.bipush (-2), 2) := by decide +kernel
theorem dX10_write_14 : decode cX10_write 14 = .ok (.ireturn, 1) := by decide +kernel
theorem dX10_write_15 : decode cX10_write 15 = .ok (.aload 5, 2) := by decide +kernel
theorem dX10_write_17 : decode cX10_write 17 = .ok (.getfield 255, 3) := by decide +kernel
theorem dX10_write_20 : decode cX10_write 20 = .ok (.ifCond .ne 6, 3) := by decide +kernel
theorem dX10_write_23 : decode cX10_write 23 = .ok (.bipush (-6), 2) := by decide +kernel
theorem dX10_write_25 : decode cX10_write 25 = .ok (.ireturn, 1) := by decide +kernel
theorem dX10_write_26 : decode cX10_write 26 = .ok (.aload 5, 2) := by decide +kernel
theorem dX10_write_28 : decode cX10_write 28 = .ok (.iload_n 2, 1) := by decide +kernel
theorem dX10_write_29 : decode cX10_write 29 = .ok (.iconst 1, 1) := by decide +kernel
theorem dX10_write_30 : decode cX10_write 30 = .ok (.invokevirtual 421, 3) := by decide +kernel
theorem dX10_write_33 : decode cX10_write 33 = .ok (.ifCond .ne 6, 3) := by decide +kernel
theorem dX10_write_36 : decode cX10_write 36 = .ok (.bipush (-7), 2) := by decide +kernel
theorem dX10_write_38 : decode cX10_write 38 = .ok (.ireturn, 1) := by decide +kernel
theorem dX10_write_39 : decode cX10_write 39 = .ok (.aload 5, 2) := by decide +kernel
theorem dX10_write_41 : decode cX10_write 41 = .ok (.iload_n 2, 1) := by decide +kernel
theorem dX10_write_42 : decode cX10_write 42 = .ok (.lload_n 3, 1) := by decide +kernel
theorem dX10_write_43 : decode cX10_write 43 = .ok (.invokevirtual 424, 3) := by decide +kernel
theorem dX10_write_46 : decode cX10_write 46 = .ok (.iconst 0, 1) := by decide +kernel
theorem dX10_write_47 : decode cX10_write 47 = .ok (.ireturn, 1) := by decide +kernel
theorem dX10_paste_0 : decode cX10_paste 0 = .ok (.aload_n 0, 1) := by decide +kernel
theorem dX10_paste_1 : decode cX10_paste 1 = .ok (.iload_n 1, 1) := by decide +kernel
theorem dX10_paste_2 : decode cX10_paste 2 = .ok (.invokevirtual 251, 3) := by decide +kernel
theorem dX10_paste_5 : decode cX10_paste 5 = .ok (.astore 6, 2) := by decide +kernel
theorem dX10_paste_7 : decode cX10_paste 7 = .ok (.aload_n 0, 1) := by decide +kernel
theorem dX10_paste_8 : decode cX10_paste 8 = .ok (.iload_n 3, 1) := by decide +kernel
theorem dX10_paste_9 : decode cX10_paste 9 = .ok (.invokevirtual 251, 3) := by decide +kernel
theorem dX10_paste_12 : decode cX10_paste 12 = .ok (.astore 7, 2) := by decide +kernel
theorem dX10_paste_14 : decode cX10_paste 14 = .ok (.aload 6, 2) := by decide +kernel
theorem dX10_paste_16 : decode cX10_paste 16 = .ok (.ifnull 8, 3) := by decide +kernel
theorem dX10_paste_19 : decode cX10_paste 19 = .ok (.aload 7, 2) := by decide +kernel
theorem dX10_paste_21 : decode cX10_paste 21 = .ok (.ifnonnull 6, 3) := by decide +kernel
theorem dX10_paste_24 : decode cX10_paste 24 = .ok (.bipush (-2), 2) := by decide +kernel
theorem dX10_paste_26 : decode cX10_paste 26 = .ok (.ireturn, 1) := by decide +kernel
theorem dX10_paste_27 : decode cX10_paste 27 = .ok (.aload 6, 2) := by decide +kernel
theorem dX10_paste_29 : decode cX10_paste 29 = .ok (.getfield 255, 3) := by decide +kernel
theorem dX10_paste_32 : decode cX10_paste 32 = .ok (.ifCond .eq 11, 3) := by decide +kernel
theorem dX10_paste_35 : decode cX10_paste 35 = .ok (.aload 7, 2) := by decide +kernel
theorem dX10_paste_37 : decode cX10_paste 37 = .ok (.getfield 255, 3) := by decide +kernel
theorem dX10_paste_40 : decode cX10_paste 40 = .ok (.ifCond .ne 6, 3) := by decide +kernel
theorem dX10_paste_43 : decode cX10_paste 43 = .ok (.bipush (-6), 2) := by decide +kernel
theorem dX10_paste_45 : decode cX10_paste 45 = .ok (.ireturn, 1) := by decide +kernel
theorem dX10_paste_46 : decode cX10_paste 46 = .ok (.aload 6, 2) := by decide +kernel
theorem dX10_paste_48 : decode cX10_paste 48 = .ok (.getfield 428, 3) := by decide +kernel
theorem dX10_paste_51 : decode cX10_paste 51 = .ok (.aload 7, 2) := by decide +kernel
theorem dX10_paste_53 : decode cX10_paste 53 = .ok (.getfield 428, 3) := by decide +kernel
theorem dX10_paste_56 : decode cX10_paste 56 = .ok (.if_icmp .eq 6, 3) := by decide +kernel
theorem dX10_paste_59 : decode cX10_paste 59 = .ok (.bipush (-8), 2) := by decide +kernel
theorem dX10_paste_61 : decode cX10_paste 61 = .ok (.ireturn, 1) := by decide +kernel
theorem dX10_paste_62 : decode cX10_paste 62 = .ok (.aload 6, 2) := by decide +kernel
theorem dX10_paste_64 : decode cX10_paste 64 = .ok (.iload_n 2, 1) := by decide +kernel
theorem dX10_paste_65 : decode cX10_paste 65 = .ok (.iload 5, 2) := by decide +kernel
theorem dX10_paste_67 : decode cX10_paste 67 = .ok (.invokevirtual 421, 3) := by decide +kernel
theorem dX10_paste_70 : decode cX10_paste 70 = .ok (.ifCond .eq 15, 3) := by decide +kernel
theorem dX10_paste_73 : decode cX10_paste 73 = .ok (.aload 7, 2) := by decide +kernel
theorem dX10_paste_75 : decode cX10_paste 75 = .ok (.iload 4, 2) := by decide +kernel
theorem dX10_paste_77 : decode cX10_paste 77 = .ok (.iload 5, 2) := by decide +kernel
theorem dX10_paste_79 : decode cX10_paste 79 = .ok (.invokevirtual 421, 3) := by decide +kernel
theorem dX10_paste_82 : decode cX10_paste 82 = .ok (.ifCond .ne 6, 3) := by decide +kernel
theorem dX10_paste_85 : decode cX10_paste 85 = .ok (.bipush (-7), 2) := by decide +kernel
theorem dX10_paste_87 : decode cX10_paste 87 = .ok (.ireturn, 1) := by decide +kernel
theorem dX10_paste_88 : decode cX10_paste 88 = .ok (.aload 6, 2) := by decide +kernel
theorem dX10_paste_90 : decode cX10_paste 90 = .ok (.getfield 431, 3) := by decide +kernel
theorem dX10_paste_93 : decode cX10_paste 93 = .ok (.iload_n 2, 1) := by decide +kernel
theorem dX10_paste_94 : decode cX10_paste 94 = .ok (.aload 7, 2) := by decide +kernel
theorem dX10_paste_96 : decode cX10_paste 96 = .ok (.getfield 431, 3) := by decide +kernel
theorem dX10_paste_99 : decode cX10_paste 99 = .ok (.iload 4, 2) := by decide +kernel
theorem dX10_paste_101 : decode cX10_paste 101 = .ok (.iload 5, 2) := by decide +kernel
theorem dX10_paste_103 : decode cX10_paste 103 = .ok (.invokestatic 435, 3) := by decide +kernel
theorem dX10_paste_106 : decode cX10_paste 106 = .ok (.iconst 0, 1) := by decide +kernel
theorem dX10_paste_107 : decode cX10_paste 107 = .ok (.ireturn, 1) := by decide +kernel
theorem dX10_isHeap_0 : decode cX10_isHeap 0 = .ok (.iload_n 0, 1) := by decide +kernel
theorem dX10_isHeap_1 : decode cX10_isHeap 1 = .ok (.ifCond .lt 13, 3) := by decide +kernel
theorem dX10_isHeap_4 : decode cX10_isHeap 4 = .ok (.iload_n 0, 1) := by decide +kernel
theorem dX10_isHeap_5 : decode cX10_isHeap 5 = .ok (.bipush 8, 2) := by decide +kernel
theorem dX10_isHeap_7 : decode cX10_isHeap 7 = .ok (.if_icmp .ge 7, 3) := by decide +kernel
theorem dX10_isHeap_10 : decode cX10_isHeap 10 = .ok (.iconst 1, 1) := by decide +kernel
theorem dX10_isHeap_11 : decode cX10_isHeap 11 = .ok (.goto 4, 3) := by decide +kernel
theorem dX10_isHeap_14 : decode cX10_isHeap 14 = .ok (.iconst 0, 1) := by decide +kernel
theorem dX10_isHeap_15 : decode cX10_isHeap 15 = .ok (.ireturn, 1) := by decide +kernel
theorem dX10_isGroup_0 : decode cX10_isGroup 0 = .ok (.iload_n 0, 1) := by decide +kernel
theorem dX10_isGroup_1 : decode cX10_isGroup 1 = .ok (.ifCond .lt 12, 3) := by decide +kernel
theorem dX10_isGroup_4 : decode cX10_isGroup 4 = .ok (.iload_n 0, 1) := by decide +kernel
theorem dX10_isGroup_5 : decode cX10_isGroup 5 = .ok (.iconst 4, 1) := by decide +kernel
theorem dX10_isGroup_6 : decode cX10_isGroup 6 = .ok (.if_icmp .ge 7, 3) := by decide +kernel
theorem dX10_isGroup_9 : decode cX10_isGroup 9 = .ok (.iconst 1, 1) := by decide +kernel
theorem dX10_isGroup_10 : decode cX10_isGroup 10 = .ok (.goto 4, 3) := by decide +kernel
theorem dX10_isGroup_13 : decode cX10_isGroup 13 = .ok (.iconst 0, 1) := by decide +kernel
theorem dX10_isGroup_14 : decode cX10_isGroup 14 = .ok (.ireturn, 1) := by decide +kernel
theorem dX10_isThousandths_0 : decode cX10_isThousandths 0 = .ok (.iload_n 0, 1) := by decide +kernel
theorem dX10_isThousandths_1 : decode cX10_isThousandths 1 = .ok (.ifCond .lt 14, 3) := by decide +kernel
theorem dX10_isThousandths_4 : decode cX10_isThousandths 4 = .ok (.iload_n 0, 1) := by decide +kernel
theorem dX10_isThousandths_5 : decode cX10_isThousandths 5 = .ok (.sipush 1000, 3) := by decide +kernel
theorem dX10_isThousandths_8 : decode cX10_isThousandths 8 = .ok (.if_icmp .gt 7, 3) := by decide +kernel
theorem dX10_isThousandths_11 : decode cX10_isThousandths 11 = .ok (.iconst 1, 1) := by decide +kernel
theorem dX10_isThousandths_12 : decode cX10_isThousandths 12 = .ok (.goto 4, 3) := by decide +kernel
theorem dX10_isThousandths_15 : decode cX10_isThousandths 15 = .ok (.iconst 0, 1) := by decide +kernel
theorem dX10_isThousandths_16 : decode cX10_isThousandths 16 = .ok (.ireturn, 1) := by decide +kernel
theorem dX10_isCrew_0 : decode cX10_isCrew 0 = .ok (.iload_n 0, 1) := by decide +kernel
theorem dX10_isCrew_1 : decode cX10_isCrew 1 = .ok (.ifCond .lt 23, 3) := by decide +kernel
theorem dX10_isCrew_4 : decode cX10_isCrew 4 = .ok (.iload_n 0, 1) := by decide +kernel
theorem dX10_isCrew_5 : decode cX10_isCrew 5 = .ok (.bipush 28, 2) := by decide +kernel
theorem dX10_isCrew_7 : decode cX10_isCrew 7 = .ok (.if_icmp .gt 17, 3) := by decide +kernel
theorem dX10_isCrew_10 : decode cX10_isCrew 10 = .ok (.iload_n 1, 1) := by decide +kernel
theorem dX10_isCrew_11 : decode cX10_isCrew 11 = .ok (.ifCond .lt 13, 3) := by decide +kernel
theorem dX10_isCrew_14 : decode cX10_isCrew 14 = .ok (.iload_n 1, 1) := by decide +kernel
theorem dX10_isCrew_15 : decode cX10_isCrew 15 = .ok (.bipush 60, 2) := by decide +kernel
theorem dX10_isCrew_17 : decode cX10_isCrew 17 = .ok (.if_icmp .gt 7, 3) := by decide +kernel
theorem dX10_isCrew_20 : decode cX10_isCrew 20 = .ok (.iconst 1, 1) := by decide +kernel
theorem dX10_isCrew_21 : decode cX10_isCrew 21 = .ok (.goto 4, 3) := by decide +kernel
theorem dX10_isCrew_24 : decode cX10_isCrew 24 = .ok (.iconst 0, 1) := by decide +kernel
theorem dX10_isCrew_25 : decode cX10_isCrew 25 = .ok (.ireturn, 1) := by decide +kernel
theorem dX10_isSpring_0 : decode cX10_isSpring 0 = .ok (.iload_n 0, 1) := by decide +kernel
theorem dX10_isSpring_1 : decode cX10_isSpring 1 = .ok (.ifCond .lt 24, 3) := by decide +kernel
theorem dX10_isSpring_4 : decode cX10_isSpring 4 = .ok (.iload_n 0, 1) := by decide +kernel
theorem dX10_isSpring_5 : decode cX10_isSpring 5 = .ok (.ldc_w 441, 3) := by decide +kernel
theorem dX10_isSpring_8 : decode cX10_isSpring 8 = .ok (.if_icmp .gt 17, 3) := by decide +kernel
theorem dX10_isSpring_11 : decode cX10_isSpring 11 = .ok (.iload_n 1, 1) := by decide +kernel
theorem dX10_isSpring_12 : decode cX10_isSpring 12 = .ok (.ifCond .lt 13, 3) := by decide +kernel
theorem dX10_isSpring_15 : decode cX10_isSpring 15 = .ok (.iload_n 1, 1) := by decide +kernel
theorem dX10_isSpring_16 : decode cX10_isSpring 16 = .ok (.bipush 99, 2) := by decide +kernel
theorem dX10_isSpring_18 : decode cX10_isSpring 18 = .ok (.if_icmp .gt 7, 3) := by decide +kernel
theorem dX10_isSpring_21 : decode cX10_isSpring 21 = .ok (.iconst 1, 1) := by decide +kernel
theorem dX10_isSpring_22 : decode cX10_isSpring 22 = .ok (.goto 4, 3) := by decide +kernel
theorem dX10_isSpring_25 : decode cX10_isSpring 25 = .ok (.iconst 0, 1) := by decide +kernel
theorem dX10_isSpring_26 : decode cX10_isSpring 26 = .ok (.ireturn, 1) := by decide +kernel
theorem dX10_neededOf_0 : decode cX10_neededOf 0 = .ok (.iload_n 0, 1) := by decide +kernel
theorem dX10_neededOf_1 : decode cX10_neededOf 1 = .ok (.ifCond .ne 9, 3) := by decide +kernel
theorem dX10_neededOf_4 : decode cX10_neededOf 4 = .ok (.iload_n 1, 1) := by decide +kernel
theorem dX10_neededOf_5 : decode cX10_neededOf 5 = .ok (.iload_n 2, 1) := by decide +kernel
theorem dX10_neededOf_6 : decode cX10_neededOf 6 = .ok (.imul, 1) := by decide +kernel
theorem dX10_neededOf_7 : decode cX10_neededOf 7 = .ok (.goto 4, 3) := by decide +kernel
theorem dX10_neededOf_10 : decode cX10_neededOf 10 = .ok (.iload_n 1, 1) := by decide +kernel
theorem dX10_neededOf_11 : decode cX10_neededOf 11 = .ok (.ireturn, 1) := by decide +kernel
theorem dX10_cannotLay_0 : decode cX10_cannotLay 0 = .ok (.aload_n 0, 1) := by decide +kernel
theorem dX10_cannotLay_1 : decode cX10_cannotLay 1 = .ok (.getfield 19, 3) := by decide +kernel
theorem dX10_cannotLay_4 : decode cX10_cannotLay 4 = .ok (.getfield 102, 3) := by decide +kernel
theorem dX10_cannotLay_7 : decode cX10_cannotLay 7 = .ok (.invokevirtual 222, 3) := by decide +kernel
theorem dX10_cannotLay_10 : decode cX10_cannotLay 10 = .ok (.ifCond .eq 12, 3) := by decide +kernel
theorem dX10_cannotLay_13 : decode cX10_cannotLay 13 = .ok (.iload_n 1, 1) := by decide +kernel
theorem dX10_cannotLay_14 : decode cX10_cannotLay 14 = .ok (.ifCond .lt 8, 3) := by decide +kernel
theorem dX10_cannotLay_17 : decode cX10_cannotLay 17 = .ok (.iload_n 1, 1) := by decide +kernel
theorem dX10_cannotLay_18 : decode cX10_cannotLay 18 = .ok (.iconst 4, 1) := by decide +kernel
theorem dX10_cannotLay_19 : decode cX10_cannotLay 19 = .ok (.if_icmp .lt 6, 3) := by decide +kernel
theorem dX10_cannotLay_22 : decode cX10_cannotLay 22 = .ok (.bipush (-2), 2) := by decide +kernel
theorem dX10_cannotLay_24 : decode cX10_cannotLay 24 = .ok (.ireturn, 1) := by decide +kernel
theorem dX10_cannotLay_25 : decode cX10_cannotLay 25 = .ok (.aload_n 0, 1) := by decide +kernel
theorem dX10_cannotLay_26 : decode cX10_cannotLay 26 = .ok (.getfield 19, 3) := by decide +kernel
theorem dX10_cannotLay_29 : decode cX10_cannotLay 29 = .ok (.invokevirtual 409, 3) := by decide +kernel
theorem dX10_cannotLay_32 : decode cX10_cannotLay 32 = .ok (.ifCond .ne 8, 3) := by decide +kernel
theorem dX10_cannotLay_35 : decode cX10_cannotLay 35 = .ok (.bipush (-5), 2) := by decide +kernel
theorem dX10_cannotLay_37 : decode cX10_cannotLay 37 = .ok (.goto 4, 3) := by decide +kernel
theorem dX10_cannotLay_40 : decode cX10_cannotLay 40 = .ok (.iconst 0, 1) := by decide +kernel
theorem dX10_cannotLay_41 : decode cX10_cannotLay 41 = .ok (.ireturn, 1) := by decide +kernel
theorem dX10_unseenBy_0 : decode cX10_unseenBy 0 = .ok (.ldc2_w 442, 3) := by decide +kernel
theorem dX10_unseenBy_3 : decode cX10_unseenBy 3 = .ok (.lstore_n 2, 1) := by decide +kernel
theorem dX10_unseenBy_4 : decode cX10_unseenBy 4 = .ok (.iconst 0, 1) := by decide +kernel
theorem dX10_unseenBy_5 : decode cX10_unseenBy 5 = .ok (.istore 4, 2) := by decide +kernel
theorem dX10_unseenBy_7 : decode cX10_unseenBy 7 = .ok (.iload 4, 2) := by decide +kernel
theorem dX10_unseenBy_9 : decode cX10_unseenBy 9 = .ok (.iload_n 1, 1) := by decide +kernel
theorem dX10_unseenBy_10 : decode cX10_unseenBy 10 = .ok (.if_icmp .ge 30, 3) := by decide +kernel
theorem dX10_unseenBy_13 : decode cX10_unseenBy 13 = .ok (.lload_n 2, 1) := by decide +kernel
theorem dX10_unseenBy_14 : decode cX10_unseenBy 14 = .ok (.bipush 100, 2) := by decide +kernel
theorem dX10_unseenBy_16 : decode cX10_unseenBy 16 = .ok (.aload_n 0, 1) := by decide +kernel
theorem dX10_unseenBy_17 : decode cX10_unseenBy 17 = .ok (.getfield 19, 3) := by decide +kernel
theorem dX10_unseenBy_20 : decode cX10_unseenBy 20 = .ok (.getfield 102, 3) := by decide +kernel
theorem dX10_unseenBy_23 : decode cX10_unseenBy 23 = .ok (.getfield 444, 3) := by decide +kernel
theorem dX10_unseenBy_26 : decode cX10_unseenBy 26 = .ok (.isub, 1) := by decide +kernel
theorem dX10_unseenBy_27 : decode cX10_unseenBy 27 = .ok (.i2l, 1) := by decide +kernel
theorem dX10_unseenBy_28 : decode cX10_unseenBy 28 = .ok (.lmul, 1) := by decide +kernel
theorem dX10_unseenBy_29 : decode cX10_unseenBy 29 = .ok (.ldc2_w 447, 3) := by decide +kernel
theorem dX10_unseenBy_32 : decode cX10_unseenBy 32 = .ok (.ldiv, 1) := by decide +kernel
theorem dX10_unseenBy_33 : decode cX10_unseenBy 33 = .ok (.lstore_n 2, 1) := by decide +kernel
theorem dX10_unseenBy_34 : decode cX10_unseenBy 34 = .ok (.iinc 4 1, 3) := by decide +kernel
theorem dX10_unseenBy_37 : decode cX10_unseenBy 37 = .ok (.goto (-30), 3) := by decide +kernel
theorem dX10_unseenBy_40 : decode cX10_unseenBy 40 = .ok (.lload_n 2, 1) := by decide +kernel
theorem dX10_unseenBy_41 : decode cX10_unseenBy 41 = .ok (.lreturn, 1) := by decide +kernel
theorem dX10_rowsThere_0 : decode cX10_rowsThere 0 = .ok (.iconst 0, 1) := by decide +kernel
theorem dX10_rowsThere_1 : decode cX10_rowsThere 1 = .ok (.istore_n 1, 1) := by decide +kernel
theorem dX10_rowsThere_2 : decode cX10_rowsThere 2 = .ok (.iconst 0, 1) := by decide +kernel
theorem dX10_rowsThere_3 : decode cX10_rowsThere 3 = .ok (.istore_n 2, 1) := by decide +kernel
theorem dX10_rowsThere_4 : decode cX10_rowsThere 4 = .ok (.iload_n 2, 1) := by decide +kernel
theorem dX10_rowsThere_5 : decode cX10_rowsThere 5 = .ok (.iconst 4, 1) := by decide +kernel
theorem dX10_rowsThere_6 : decode cX10_rowsThere 6 = .ok (.if_icmp .ge 29, 3) := by decide +kernel
theorem dX10_rowsThere_9 : decode cX10_rowsThere 9 = .ok (.aload_n 0, 1) := by decide +kernel
theorem dX10_rowsThere_10 : decode cX10_rowsThere 10 = .ok (.iload_n 2, 1) := by decide +kernel
theorem dX10_rowsThere_11 : decode cX10_rowsThere 11 = .ok (.invokevirtual 251, 3) := by decide +kernel
theorem dX10_rowsThere_14 : decode cX10_rowsThere 14 = .ok (.astore_n 3, 1) := by decide +kernel
theorem dX10_rowsThere_15 : decode cX10_rowsThere 15 = .ok (.aload_n 3, 1) := by decide +kernel
theorem dX10_rowsThere_16 : decode cX10_rowsThere 16 = .ok (.ifnull 13, 3) := by decide +kernel
theorem dX10_rowsThere_19 : decode cX10_rowsThere 19 = .ok (.aload_n 3, 1) := by decide +kernel
theorem dX10_rowsThere_20 : decode cX10_rowsThere 20 = .ok (.getfield 255, 3) := by decide +kernel
theorem dX10_rowsThere_23 : decode cX10_rowsThere 23 = .ok (.ifCond .eq 6, 3) := by decide +kernel
theorem dX10_rowsThere_26 : decode cX10_rowsThere 26 = .ok (.iinc 1 1, 3) := by decide +kernel
theorem dX10_rowsThere_29 : decode cX10_rowsThere 29 = .ok (.iinc 2 1, 3) := by decide +kernel
theorem dX10_rowsThere_32 : decode cX10_rowsThere 32 = .ok (.goto (-28), 3) := by decide +kernel
theorem dX10_rowsThere_35 : decode cX10_rowsThere 35 = .ok (.iload_n 1, 1) := by decide +kernel
theorem dX10_rowsThere_36 : decode cX10_rowsThere 36 = .ok (.ireturn, 1) := by decide +kernel
theorem dX10_slotAt_0 : decode cX10_slotAt 0 = .ok (.iload_n 1, 1) := by decide +kernel
theorem dX10_slotAt_1 : decode cX10_slotAt 1 = .ok (.ifCond .lt 17, 3) := by decide +kernel
theorem dX10_slotAt_4 : decode cX10_slotAt 4 = .ok (.iload_n 1, 1) := by decide +kernel
theorem dX10_slotAt_5 : decode cX10_slotAt 5 = .ok (.iconst 4, 1) := by decide +kernel
theorem dX10_slotAt_6 : decode cX10_slotAt 6 = .ok (.if_icmp .ge 12, 3) := by decide +kernel
theorem dX10_slotAt_9 : decode cX10_slotAt 9 = .ok (.aload_n 0, 1) := by decide +kernel
theorem dX10_slotAt_10 : decode cX10_slotAt 10 = .ok (.getfield 33, 3) := by decide +kernel
theorem dX10_slotAt_13 : decode cX10_slotAt 13 = .ok (.iload_n 1, 1) := by decide +kernel
theorem dX10_slotAt_14 : decode cX10_slotAt 14 = .ok (.aaload, 1) := by decide +kernel
theorem dX10_slotAt_15 : decode cX10_slotAt 15 = .ok (.goto 4, 3) := by decide +kernel
theorem dX10_slotAt_18 : decode cX10_slotAt 18 = .ok (.aconst_null, 1) := by decide +kernel
theorem dX10_slotAt_19 : decode cX10_slotAt 19 = .ok (.areturn, 1) := by decide +kernel
theorem dX10_imageAt_0 : decode cX10_imageAt 0 = .ok (.iload_n 1, 1) := by decide +kernel
theorem dX10_imageAt_1 : decode cX10_imageAt 1 = .ok (.ifCond .lt 17, 3) := by decide +kernel
theorem dX10_imageAt_4 : decode cX10_imageAt 4 = .ok (.iload_n 1, 1) := by decide +kernel
theorem dX10_imageAt_5 : decode cX10_imageAt 5 = .ok (.iconst 3, 1) := by decide +kernel
theorem dX10_imageAt_6 : decode cX10_imageAt 6 = .ok (.if_icmp .ge 12, 3) := by decide +kernel
theorem dX10_imageAt_9 : decode cX10_imageAt 9 = .ok (.aload_n 0, 1) := by decide +kernel
theorem dX10_imageAt_10 : decode cX10_imageAt 10 = .ok (.getfield 23, 3) := by decide +kernel
theorem dX10_imageAt_13 : decode cX10_imageAt 13 = .ok (.iload_n 1, 1) := by decide +kernel
theorem dX10_imageAt_14 : decode cX10_imageAt 14 = .ok (.aaload, 1) := by decide +kernel
theorem dX10_imageAt_15 : decode cX10_imageAt 15 = .ok (.goto 4, 3) := by decide +kernel
theorem dX10_imageAt_18 : decode cX10_imageAt 18 = .ok (.aconst_null, 1) := by decide +kernel
theorem dX10_imageAt_19 : decode cX10_imageAt 19 = .ok (.areturn, 1) := by decide +kernel
