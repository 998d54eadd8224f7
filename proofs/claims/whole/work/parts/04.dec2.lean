theorem dX7_init_0 : decode cX7_init 0 = .ok (.aload_n 0, 1) := by decide +kernel
theorem dX7_init_1 : decode cX7_init 1 = .ok (.invokespecial 3, 3) := by decide +kernel
theorem dX7_init_4 : decode cX7_init 4 = .ok (.aload_n 0, 1) := by decide +kernel
theorem dX7_init_5 : decode cX7_init 5 = .ok (.new 9, 3) := by decide +kernel
theorem dX7_init_8 : decode cX7_init 8 = .ok (.dup, 1) := by decide +kernel
theorem dX7_init_9 : decode cX7_init 9 = .ok (.invokespecial 11, 3) := by decide +kernel
theorem dX7_init_12 : decode cX7_init 12 = .ok (.putfield 12, 3) := by decide +kernel
theorem dX7_init_15 : decode cX7_init 15 = .ok (.aload_n 0, 1) := by decide +kernel
theorem dX7_init_16 : decode cX7_init 16 = .ok (.new 9, 3) := by decide +kernel
theorem dX7_init_19 : decode cX7_init 19 = .ok (.dup, 1) := by decide +kernel
theorem dX7_init_20 : decode cX7_init 20 = .ok (.invokespecial 11, 3) := by decide +kernel
theorem dX7_init_23 : decode cX7_init 23 = .ok (.putfield 18, 3) := by decide +kernel
theorem dX7_init_26 : decode cX7_init 26 = .ok (.aload_n 0, 1) := by decide +kernel
theorem dX7_init_27 : decode cX7_init 27 = .ok (.new 9, 3) := by decide +kernel
theorem dX7_init_30 : decode cX7_init 30 = .ok (.dup, 1) := by decide +kernel
theorem dX7_init_31 : decode cX7_init 31 = .ok (.invokespecial 11, 3) := by decide +kernel
theorem dX7_init_34 : decode cX7_init 34 = .ok (.putfield 21, 3) := by decide +kernel
theorem dX7_init_37 : decode cX7_init 37 = .ok (.aload_n 0, 1) := by decide +kernel
theorem dX7_init_38 : decode cX7_init 38 = .ok (.new 24, 3) := by decide +kernel
theorem dX7_init_41 : decode cX7_init 41 = .ok (.dup, 1) := by decide +kernel
theorem dX7_init_42 : decode cX7_init 42 = .ok (.invokespecial 26, 3) := by decide +kernel
theorem dX7_init_45 : decode cX7_init 45 = .ok (.putfield 27, 3) := by decide +kernel
theorem dX7_init_48 : decode cX7_init 48 = .ok (.aload_n 0, 1) := by decide +kernel
theorem dX7_init_49 : decode cX7_init 49 = .ok (.bipush 6, 2) := by decide +kernel
theorem dX7_init_51 : decode cX7_init 51 = .ok (.anewarray 31, 3) := by decide +kernel
theorem dX7_init_54 : decode cX7_init 54 = .ok (.putfield 33, 3) := by decide +kernel
theorem dX7_init_57 : decode cX7_init 57 = .ok (.iconst 0, 1) := by decide +kernel
theorem dX7_init_58 : decode cX7_init 58 = .ok (.istore_n 1, 1) := by decide +kernel
theorem dX7_init_59 : decode cX7_init 59 = .ok (.iload_n 1, 1) := by decide +kernel
theorem dX7_init_60 : decode cX7_init 60 = .ok (.aload_n 0, 1) := by decide +kernel
theorem dX7_init_61 : decode cX7_init 61 = .ok (.getfield 33, 3) := by decide +kernel
theorem dX7_init_64 : decode cX7_init 64 = .ok (.arraylength, 1) := by decide +kernel
theorem dX7_init_65 : decode cX7_init 65 = .ok (.if_icmp .ge 22, 3) := by decide +kernel
theorem dX7_init_68 : decode cX7_init 68 = .ok (.aload_n 0, 1) := by decide +kernel
theorem dX7_init_69 : decode cX7_init 69 = .ok (.getfield 33, 3) := by decide +kernel
theorem dX7_init_72 : decode cX7_init 72 = .ok (.iload_n 1, 1) := by decide +kernel
theorem dX7_init_73 : decode cX7_init 73 = .ok (.new 31, 3) := by decide +kernel
theorem dX7_init_76 : decode cX7_init 76 = .ok (.dup, 1) := by decide +kernel
theorem dX7_init_77 : decode cX7_init 77 = .ok (.invokespecial 37, 3) := by decide +kernel
theorem dX7_init_80 : decode cX7_init 80 = .ok (.aastore, 1) := by decide +kernel
theorem dX7_init_81 : decode cX7_init 81 = .ok (.iinc 1 1, 3) := by decide +kernel
theorem dX7_init_84 : decode cX7_init 84 = .ok (.goto (-25), 3) := by decide +kernel
theorem dX7_init_87 : decode cX7_init 87 = .ok (.aload_n 0, 1) := by decide +kernel
theorem dX7_init_88 : decode cX7_init 88 = .ok (.iconst 0, 1) := by decide +kernel
theorem dX7_init_89 : decode cX7_init 89 = .ok (.putfield 38, 3) := by decide +kernel
theorem dX7_init_92 : decode cX7_init 92 = .ok (.return_, 1) := by decide +kernel
theorem dX7_arms_0 : decode cX7_arms 0 = .ok (.iload_n 1, 1) := by decide +kernel
theorem dX7_arms_1 : decode cX7_arms 1 = .ok (.iconst 1, 1) := by decide +kernel
theorem dX7_arms_2 : decode cX7_arms 2 = .ok (.if_icmp .lt 8, 3) := by decide +kernel
theorem dX7_arms_5 : decode cX7_arms 5 = .ok (.iload_n 1, 1) := by decide +kernel
theorem dX7_arms_6 : decode cX7_arms 6 = .ok (.iconst 4, 1) := by decide +kernel
theorem dX7_arms_7 : decode cX7_arms 7 = .ok (.if_icmp .le 6, 3) := by decide +kernel
theorem dX7_arms_10 : decode cX7_arms 10 = .ok (.bipush (-2), 2) := by decide +kernel
theorem dX7_arms_12 : decode cX7_arms 12 = .ok (.ireturn, 1) := by decide +kernel
theorem dX7_arms_13 : decode cX7_arms 13 = .ok (.aload_n 0, 1) := by decide +kernel
theorem dX7_arms_14 : decode cX7_arms 14 = .ok (.getfield 12, 3) := by decide +kernel
theorem dX7_arms_17 : decode cX7_arms 17 = .ok (.getfield 42, 3) := by decide +kernel
theorem dX7_arms_20 : decode cX7_arms 20 = .ok (.istore_n 2, 1) := by decide +kernel
theorem dX7_arms_21 : decode cX7_arms 21 = .ok (.aload_n 0, 1) := by decide +kernel
theorem dX7_arms_22 : decode cX7_arms 22 = .ok (.getfield 12, 3) := by decide +kernel
theorem dX7_arms_25 : decode cX7_arms 25 = .ok (.iload_n 1, 1) := by decide +kernel
theorem dX7_arms_26 : decode cX7_arms 26 = .ok (.invokevirtual 46, 3) := by decide +kernel
theorem dX7_arms_29 : decode cX7_arms 29 = .ok (.iload_n 2, 1) := by decide +kernel
theorem dX7_arms_30 : decode cX7_arms 30 = .ok (.ireturn, 1) := by decide +kernel
theorem dX7_seed_0 : decode cX7_seed 0 = .ok (.aload_n 0, 1) := by decide +kernel
theorem dX7_seed_1 : decode cX7_seed 1 = .ok (.getfield 12, 3) := by decide +kernel
theorem dX7_seed_4 : decode cX7_seed 4 = .ok (.getfield 50, 3) := by decide +kernel
theorem dX7_seed_7 : decode cX7_seed 7 = .ok (.istore_n 2, 1) := by decide +kernel
theorem dX7_seed_8 : decode cX7_seed 8 = .ok (.aload_n 0, 1) := by decide +kernel
theorem dX7_seed_9 : decode cX7_seed 9 = .ok (.getfield 12, 3) := by decide +kernel
theorem dX7_seed_12 : decode cX7_seed 12 = .ok (.iload_n 1, 1) := by decide +kernel
theorem dX7_seed_13 : decode cX7_seed 13 = .ok (.putfield 50, 3) := by decide +kernel
theorem dX7_seed_16 : decode cX7_seed 16 = .ok (.iload_n 2, 1) := by decide +kernel
theorem dX7_seed_17 : decode cX7_seed 17 = .ok (.ireturn, 1) := by decide +kernel
theorem dX7_feed_0 : decode cX7_feed 0 = .ok (.iload_n 1, 1) := by decide +kernel
theorem dX7_feed_1 : decode cX7_feed 1 = .ok (.ifCond .lt 9, 3) := by decide +kernel
theorem dX7_feed_4 : decode cX7_feed 4 = .ok (.iload_n 1, 1) := by decide +kernel
theorem dX7_feed_5 : decode cX7_feed 5 = .ok (.bipush 127, 2) := by decide +kernel
theorem dX7_feed_7 : decode cX7_feed 7 = .ok (.if_icmp .le 6, 3) := by decide +kernel
theorem dX7_feed_10 : decode cX7_feed 10 = .ok (.bipush (-2), 2) := by decide +kernel
theorem dX7_feed_12 : decode cX7_feed 12 = .ok (.ireturn, 1) := by decide +kernel
theorem dX7_feed_13 : decode cX7_feed 13 = .ok (.aload_n 0, 1) := by decide +kernel
theorem dX7_feed_14 : decode cX7_feed 14 = .ok (.getfield 27, 3) := by decide +kernel
theorem dX7_feed_17 : decode cX7_feed 17 = .ok (.iload_n 1, 1) := by decide +kernel
theorem dX7_feed_18 : decode cX7_feed 18 = .ok (.invokevirtual 53, 3) := by decide +kernel
theorem dX7_feed_21 : decode cX7_feed 21 = .ok (.ifCond .eq 13, 3) := by decide +kernel
theorem dX7_feed_24 : decode cX7_feed 24 = .ok (.aload_n 0, 1) := by decide +kernel
theorem dX7_feed_25 : decode cX7_feed 25 = .ok (.getfield 27, 3) := by decide +kernel
theorem dX7_feed_28 : decode cX7_feed 28 = .ok (.getfield 57, 3) := by decide +kernel
theorem dX7_feed_31 : decode cX7_feed 31 = .ok (.goto 5, 3) := by decide +kernel
theorem dX7_feed_34 : decode cX7_feed 34 = .ok (.bipush (-4), 2) := by decide +kernel
theorem dX7_feed_36 : decode cX7_feed 36 = .ok (.ireturn, 1) := by decide +kernel
theorem dX7_tree_0 : decode cX7_tree 0 = .ok (.aload_n 0, 1) := by decide +kernel
theorem dX7_tree_1 : decode cX7_tree 1 = .ok (.iload_n 1, 1) := by decide +kernel
theorem dX7_tree_2 : decode cX7_tree 2 = .ok (.invokevirtual 60, 3) := by decide +kernel
theorem dX7_tree_5 : decode cX7_tree 5 = .ok (.ifCond .ne 5, 3) := by decide +kernel
theorem dX7_tree_8 : decode cX7_tree 8 = .ok (.iconst (-1), 1) := by decide +kernel
theorem dX7_tree_9 : decode cX7_tree 9 = .ok (.ireturn, 1) := by decide +kernel
theorem dX7_tree_10 : decode cX7_tree 10 = .ok (.aload_n 0, 1) := by decide +kernel
theorem dX7_tree_11 : decode cX7_tree 11 = .ok (.getfield 27, 3) := by decide +kernel
theorem dX7_tree_14 : decode cX7_tree 14 = .ok (.invokevirtual 63, 3) := by decide +kernel
theorem dX7_tree_17 : decode cX7_tree 17 = .ok (.istore_n 2, 1) := by decide +kernel
theorem dX7_tree_18 : decode cX7_tree 18 = .ok (.aload_n 0, 1) := by decide +kernel
theorem dX7_tree_19 : decode cX7_tree 19 = .ok (.getfield 27, 3) := by decide +kernel
theorem dX7_tree_22 : decode cX7_tree 22 = .ok (.iconst 0, 1) := by decide +kernel
theorem dX7_tree_23 : decode cX7_tree 23 = .ok (.putfield 57, 3) := by decide +kernel
theorem dX7_tree_26 : decode cX7_tree 26 = .ok (.iload_n 2, 1) := by decide +kernel
theorem dX7_tree_27 : decode cX7_tree 27 = .ok (.bipush (-5), 2) := by decide +kernel
theorem dX7_tree_29 : decode cX7_tree 29 = .ok (.if_icmp .eq 8, 3) := by decide +kernel
theorem dX7_tree_32 : decode cX7_tree 32 = .ok (.bipush (-10), 2) := by decide +kernel
theorem dX7_tree_34 : decode cX7_tree 34 = .ok (.iload_n 2, 1) := by decide +kernel
theorem dX7_tree_35 : decode cX7_tree 35 = .ok (.isub, 1) := by decide +kernel
theorem dX7_tree_36 : decode cX7_tree 36 = .ok (.ireturn, 1) := by decide +kernel
theorem dX7_tree_37 : decode cX7_tree 37 = .ok (.aload_n 0, 1) := by decide +kernel
theorem dX7_tree_38 : decode cX7_tree 38 = .ok (.getfield 12, 3) := by decide +kernel
theorem dX7_tree_41 : decode cX7_tree 41 = .ok (.getfield 67, 3) := by decide +kernel
theorem dX7_tree_44 : decode cX7_tree 44 = .ok (.getfield 71, 3) := by decide +kernel
theorem dX7_tree_47 : decode cX7_tree 47 = .ok (.istore_n 3, 1) := by decide +kernel
theorem dX7_tree_48 : decode cX7_tree 48 = .ok (.iload_n 3, 1) := by decide +kernel
theorem dX7_tree_49 : decode cX7_tree 49 = .ok (.aload_n 0, 1) := by decide +kernel
theorem dX7_tree_50 : decode cX7_tree 50 = .ok (.getfield 27, 3) := by decide +kernel
theorem dX7_tree_53 : decode cX7_tree 53 = .ok (.getfield 76, 3) := by decide +kernel
theorem dX7_tree_56 : decode cX7_tree 56 = .ok (.iadd, 1) := by decide +kernel
theorem dX7_tree_57 : decode cX7_tree 57 = .ok (.bipush 32, 2) := by decide +kernel
theorem dX7_tree_59 : decode cX7_tree 59 = .ok (.if_icmp .le 6, 3) := by decide +kernel
theorem dX7_tree_62 : decode cX7_tree 62 = .ok (.bipush (-4), 2) := by decide +kernel
theorem dX7_tree_64 : decode cX7_tree 64 = .ok (.ireturn, 1) := by decide +kernel
theorem dX7_tree_65 : decode cX7_tree 65 = .ok (.iconst 0, 1) := by decide +kernel
theorem dX7_tree_66 : decode cX7_tree 66 = .ok (.istore 4, 2) := by decide +kernel
theorem dX7_tree_68 : decode cX7_tree 68 = .ok (.iload 4, 2) := by decide +kernel
theorem dX7_tree_70 : decode cX7_tree 70 = .ok (.aload_n 0, 1) := by decide +kernel
theorem dX7_tree_71 : decode cX7_tree 71 = .ok (.getfield 27, 3) := by decide +kernel
theorem dX7_tree_74 : decode cX7_tree 74 = .ok (.getfield 76, 3) := by decide +kernel
theorem dX7_tree_77 : decode cX7_tree 77 = .ok (.if_icmp .ge 75, 3) := by decide +kernel
theorem dX7_tree_80 : decode cX7_tree 80 = .ok (.aload_n 0, 1) := by decide +kernel
theorem dX7_tree_81 : decode cX7_tree 81 = .ok (.getfield 27, 3) := by decide +kernel
theorem dX7_tree_84 : decode cX7_tree 84 = .ok (.getfield 77, 3) := by decide +kernel
theorem dX7_tree_87 : decode cX7_tree 87 = .ok (.iload 4, 2) := by decide +kernel
theorem dX7_tree_89 : decode cX7_tree 89 = .ok (.iaload, 1) := by decide +kernel
theorem dX7_tree_90 : decode cX7_tree 90 = .ok (.bipush (-5), 2) := by decide +kernel
theorem dX7_tree_92 : decode cX7_tree 92 = .ok (.if_icmp .ne 8, 3) := by decide +kernel
theorem dX7_tree_95 : decode cX7_tree 95 = .ok (.bipush (-5), 2) := by decide +kernel
theorem dX7_tree_97 : decode cX7_tree 97 = .ok (.goto 15, 3) := by decide +kernel
theorem dX7_tree_100 : decode cX7_tree 100 = .ok (.iload_n 3, 1) := by decide +kernel
theorem dX7_tree_101 : decode cX7_tree 101 = .ok (.aload_n 0, 1) := by decide +kernel
theorem dX7_tree_102 : decode cX7_tree 102 = .ok (.getfield 27, 3) := by decide +kernel
theorem dX7_tree_105 : decode cX7_tree 105 = .ok (.getfield 77, 3) := by decide +kernel
theorem dX7_tree_108 : decode cX7_tree 108 = .ok (.iload 4, 2) := by decide +kernel
theorem dX7_tree_110 : decode cX7_tree 110 = .ok (.iaload, 1) := by decide +kernel
theorem dX7_tree_111 : decode cX7_tree 111 = .ok (.iadd, 1) := by decide +kernel
theorem dX7_tree_112 : decode cX7_tree 112 = .ok (.istore 5, 2) := by decide +kernel
theorem dX7_tree_114 : decode cX7_tree 114 = .ok (.aload_n 0, 1) := by decide +kernel
theorem dX7_tree_115 : decode cX7_tree 115 = .ok (.getfield 12, 3) := by decide +kernel
theorem dX7_tree_118 : decode cX7_tree 118 = .ok (.getfield 67, 3) := by decide +kernel
theorem dX7_tree_121 : decode cX7_tree 121 = .ok (.aload_n 0, 1) := by decide +kernel
theorem dX7_tree_122 : decode cX7_tree 122 = .ok (.getfield 27, 3) := by decide +kernel
theorem dX7_tree_125 : decode cX7_tree 125 = .ok (.getfield 81, 3) := by decide +kernel
theorem dX7_tree_128 : decode cX7_tree 128 = .ok (.iload 4, 2) := by decide +kernel
theorem dX7_tree_130 : decode cX7_tree 130 = .ok (.iaload, 1) := by decide +kernel
theorem dX7_tree_131 : decode cX7_tree 131 = .ok (.aload_n 0, 1) := by decide +kernel
theorem dX7_tree_132 : decode cX7_tree 132 = .ok (.getfield 27, 3) := by decide +kernel
theorem dX7_tree_135 : decode cX7_tree 135 = .ok (.getfield 84, 3) := by decide +kernel
theorem dX7_tree_138 : decode cX7_tree 138 = .ok (.iload 4, 2) := by decide +kernel
theorem dX7_tree_140 : decode cX7_tree 140 = .ok (.iaload, 1) := by decide +kernel
theorem dX7_tree_141 : decode cX7_tree 141 = .ok (.iload 5, 2) := by decide +kernel
theorem dX7_tree_143 : decode cX7_tree 143 = .ok (.invokevirtual 87, 3) := by decide +kernel
theorem dX7_tree_146 : decode cX7_tree 146 = .ok (.iinc 4 1, 3) := by decide +kernel
theorem dX7_tree_149 : decode cX7_tree 149 = .ok (.goto (-81), 3) := by decide +kernel
theorem dX7_tree_152 : decode cX7_tree 152 = .ok (.aload_n 0, 1) := by decide +kernel
theorem dX7_tree_153 : decode cX7_tree 153 = .ok (.getfield 12, 3) := by decide +kernel
theorem dX7_tree_156 : decode cX7_tree 156 = .ok (.getfield 91, 3) := by decide +kernel
theorem dX7_tree_159 : decode cX7_tree 159 = .ok (.iload_n 1, 1) := by decide +kernel
theorem dX7_tree_160 : decode cX7_tree 160 = .ok (.aaload, 1) := by decide +kernel
theorem dX7_tree_161 : decode cX7_tree 161 = .ok (.iload_n 3, 1) := by decide +kernel
theorem dX7_tree_162 : decode cX7_tree 162 = .ok (.invokevirtual 95, 3) := by decide +kernel
theorem dX7_tree_165 : decode cX7_tree 165 = .ok (.iload_n 3, 1) := by decide +kernel
theorem dX7_tree_166 : decode cX7_tree 166 = .ok (.ireturn, 1) := by decide +kernel
theorem dX7_of_0 : decode cX7_of 0 = .ok (.aload_n 0, 1) := by decide +kernel
theorem dX7_of_1 : decode cX7_of 1 = .ok (.getfield 12, 3) := by decide +kernel
theorem dX7_of_4 : decode cX7_of 4 = .ok (.getfield 67, 3) := by decide +kernel
theorem dX7_of_7 : decode cX7_of 7 = .ok (.astore_n 3, 1) := by decide +kernel
theorem dX7_of_8 : decode cX7_of 8 = .ok (.aload_n 3, 1) := by decide +kernel
theorem dX7_of_9 : decode cX7_of 9 = .ok (.iload_n 1, 1) := by decide +kernel
theorem dX7_of_10 : decode cX7_of 10 = .ok (.invokevirtual 100, 3) := by decide +kernel
theorem dX7_of_13 : decode cX7_of 13 = .ok (.ifCond .ne 5, 3) := by decide +kernel
theorem dX7_of_16 : decode cX7_of 16 = .ok (.iconst (-1), 1) := by decide +kernel
theorem dX7_of_17 : decode cX7_of 17 = .ok (.ireturn, 1) := by decide +kernel
theorem dX7_of_18 : decode cX7_of 18 = .ok (.iload_n 2, 1) := by decide +kernel
theorem dX7_of_19 : decode cX7_of 19 = .ok (.tableswitch 145 0 11 #[61, 68, 75, 82, 89, 96, 102, 109, 115, 121, 127, 136], 61) := by decide +kernel
theorem dX7_of_80 : decode cX7_of 80 = .ok (.aload_n 3, 1) := by decide +kernel
theorem dX7_of_81 : decode cX7_of 81 = .ok (.getfield 103, 3) := by decide +kernel
theorem dX7_of_84 : decode cX7_of 84 = .ok (.iload_n 1, 1) := by decide +kernel
theorem dX7_of_85 : decode cX7_of 85 = .ok (.iaload, 1) := by decide +kernel
theorem dX7_of_86 : decode cX7_of 86 = .ok (.ireturn, 1) := by decide +kernel
theorem dX7_of_87 : decode cX7_of 87 = .ok (.aload_n 3, 1) := by decide +kernel
theorem dX7_of_88 : decode cX7_of 88 = .ok (.getfield 106, 3) := by decide +kernel
theorem dX7_of_91 : decode cX7_of 91 = .ok (.iload_n 1, 1) := by decide +kernel
theorem dX7_of_92 : decode cX7_of 92 = .ok (.iaload, 1) := by decide +kernel
theorem dX7_of_93 : decode cX7_of 93 = .ok (.ireturn, 1) := by decide +kernel
theorem dX7_of_94 : decode cX7_of 94 = .ok (.aload_n 3, 1) := by decide +kernel
theorem dX7_of_95 : decode cX7_of 95 = .ok (.getfield 107, 3) := by decide +kernel
theorem dX7_of_98 : decode cX7_of 98 = .ok (.iload_n 1, 1) := by decide +kernel
theorem dX7_of_99 : decode cX7_of 99 = .ok (.iaload, 1) := by decide +kernel
theorem dX7_of_100 : decode cX7_of 100 = .ok (.ireturn, 1) := by decide +kernel
theorem dX7_of_101 : decode cX7_of 101 = .ok (.aload_n 3, 1) := by decide +kernel
theorem dX7_of_102 : decode cX7_of 102 = .ok (.getfield 110, 3) := by decide +kernel
theorem dX7_of_105 : decode cX7_of 105 = .ok (.iload_n 1, 1) := by decide +kernel
theorem dX7_of_106 : decode cX7_of 106 = .ok (.iaload, 1) := by decide +kernel
theorem dX7_of_107 : decode cX7_of 107 = .ok (.ireturn, 1) := by decide +kernel
theorem dX7_of_108 : decode cX7_of 108 = .ok (.aload_n 3, 1) := by decide +kernel
theorem dX7_of_109 : decode cX7_of 109 = .ok (.getfield 113, 3) := by decide +kernel
theorem dX7_of_112 : decode cX7_of 112 = .ok (.iload_n 1, 1) := by decide +kernel
theorem dX7_of_113 : decode cX7_of 113 = .ok (.iaload, 1) := by decide +kernel
theorem dX7_of_114 : decode cX7_of 114 = .ok (.ireturn, 1) := by decide +kernel
theorem dX7_of_115 : decode cX7_of 115 = .ok (.aload_n 3, 1) := by decide +kernel
theorem dX7_of_116 : decode cX7_of 116 = .ok (.iload_n 1, 1) := by decide +kernel
theorem dX7_of_117 : decode cX7_of 117 = .ok (.invokevirtual 114, 3) := by decide +kernel
theorem dX7_of_120 : decode cX7_of 120 = .ok (.ireturn, 1) := by decide +kernel
theorem dX7_of_121 : decode cX7_of 121 = .ok (.aload_n 3, 1) := by decide +kernel
theorem dX7_of_122 : decode cX7_of 122 = .ok (.getfield 118, 3) := by decide +kernel
theorem dX7_of_125 : decode cX7_of 125 = .ok (.iload_n 1, 1) := by decide +kernel
theorem dX7_of_126 : decode cX7_of 126 = .ok (.iaload, 1) := by decide +kernel
theorem dX7_of_127 : decode cX7_of 127 = .ok (.ireturn, 1) := by decide +kernel
theorem dX7_of_128 : decode cX7_of 128 = .ok (.aload_n 3, 1) := by decide +kernel
theorem dX7_of_129 : decode cX7_of 129 = .ok (.iload_n 1, 1) := by decide +kernel
theorem dX7_of_130 : decode cX7_of 130 = .ok (.invokevirtual 119, 3) := by decide +kernel
theorem dX7_of_133 : decode cX7_of 133 = .ok (.ireturn, 1) := by decide +kernel
theorem dX7_of_134 : decode cX7_of 134 = .ok (.aload_n 3, 1) := by decide +kernel
theorem dX7_of_135 : decode cX7_of 135 = .ok (.iload_n 1, 1) := by decide +kernel
theorem dX7_of_136 : decode cX7_of 136 = .ok (.invokevirtual 122, 3) := by decide +kernel
theorem dX7_of_139 : decode cX7_of 139 = .ok (.ireturn, 1) := by decide +kernel
theorem dX7_of_140 : decode cX7_of 140 = .ok (.aload_n 3, 1) := by decide +kernel
theorem dX7_of_141 : decode cX7_of 141 = .ok (.iload_n 1, 1) := by decide +kernel
theorem dX7_of_142 : decode cX7_of 142 = .ok (.invokevirtual 125, 3) := by decide +kernel
theorem dX7_of_145 : decode cX7_of 145 = .ok (.ireturn, 1) := by decide +kernel
theorem dX7_of_146 : decode cX7_of 146 = .ok (.aload_n 0, 1) := by decide +kernel
theorem dX7_of_147 : decode cX7_of 147 = .ok (.getfield 12, 3) := by decide +kernel
theorem dX7_of_150 : decode cX7_of 150 = .ok (.iload_n 1, 1) := by decide +kernel
theorem dX7_of_151 : decode cX7_of 151 = .ok (.invokevirtual 128, 3) := by decide +kernel
theorem dX7_of_154 : decode cX7_of 154 = .ok (.ireturn, 1) := by decide +kernel
theorem dX7_of_155 : decode cX7_of 155 = .ok (.aload_n 0, 1) := by decide +kernel
theorem dX7_of_156 : decode cX7_of 156 = .ok (.getfield 12, 3) := by decide +kernel
theorem dX7_of_159 : decode cX7_of 159 = .ok (.iload_n 1, 1) := by decide +kernel
theorem dX7_of_160 : decode cX7_of 160 = .ok (.invokevirtual 131, 3) := by decide +kernel
theorem dX7_of_163 : decode cX7_of 163 = .ok (.ireturn, 1) := by decide +kernel
theorem dX7_of_164 : decode cX7_of 164 = .ok (.iconst (-1), 1) := by decide +kernel
theorem dX7_of_165 : decode cX7_of 165 = .ok (.ireturn, 1) := by decide +kernel
theorem dX7_cause_0 : decode cX7_cause 0 = .ok (.aload_n 0, 1) := by decide +kernel
theorem dX7_cause_1 : decode cX7_cause 1 = .ok (.getfield 12, 3) := by decide +kernel
theorem dX7_cause_4 : decode cX7_cause 4 = .ok (.getfield 67, 3) := by decide +kernel
theorem dX7_cause_7 : decode cX7_cause 7 = .ok (.astore_n 3, 1) := by decide +kernel
theorem dX7_cause_8 : decode cX7_cause 8 = .ok (.aload_n 3, 1) := by decide +kernel
theorem dX7_cause_9 : decode cX7_cause 9 = .ok (.iload_n 1, 1) := by decide +kernel
theorem dX7_cause_10 : decode cX7_cause 10 = .ok (.invokevirtual 100, 3) := by decide +kernel
theorem dX7_cause_13 : decode cX7_cause 13 = .ok (.ifCond .eq 7, 3) := by decide +kernel
theorem dX7_cause_16 : decode cX7_cause 16 = .ok (.iload_n 2, 1) := by decide +kernel
theorem dX7_cause_17 : decode cX7_cause 17 = .ok (.ifCond .ge 5, 3) := by decide +kernel
theorem dX7_cause_20 : decode cX7_cause 20 = .ok (.iconst (-1), 1) := by decide +kernel
theorem dX7_cause_21 : decode cX7_cause 21 = .ok (.ireturn, 1) := by decide +kernel
theorem dX7_cause_22 : decode cX7_cause 22 = .ok (.aload_n 3, 1) := by decide +kernel
theorem dX7_cause_23 : decode cX7_cause 23 = .ok (.getfield 103, 3) := by decide +kernel
theorem dX7_cause_26 : decode cX7_cause 26 = .ok (.iload_n 1, 1) := by decide +kernel
theorem dX7_cause_27 : decode cX7_cause 27 = .ok (.iaload, 1) := by decide +kernel
theorem dX7_cause_28 : decode cX7_cause 28 = .ok (.iconst 4, 1) := by decide +kernel
theorem dX7_cause_29 : decode cX7_cause 29 = .ok (.if_icmp .ne 7, 3) := by decide +kernel
theorem dX7_cause_32 : decode cX7_cause 32 = .ok (.iload_n 1, 1) := by decide +kernel
theorem dX7_cause_33 : decode cX7_cause 33 = .ok (.goto 5, 3) := by decide +kernel
theorem dX7_cause_36 : decode cX7_cause 36 = .ok (.bipush (-5), 2) := by decide +kernel
theorem dX7_cause_38 : decode cX7_cause 38 = .ok (.istore 4, 2) := by decide +kernel
theorem dX7_cause_40 : decode cX7_cause 40 = .ok (.iconst 0, 1) := by decide +kernel
theorem dX7_cause_41 : decode cX7_cause 41 = .ok (.istore 5, 2) := by decide +kernel
theorem dX7_cause_43 : decode cX7_cause 43 = .ok (.iload 5, 2) := by decide +kernel
theorem dX7_cause_45 : decode cX7_cause 45 = .ok (.iload_n 2, 1) := by decide +kernel
theorem dX7_cause_46 : decode cX7_cause 46 = .ok (.if_icmp .ge 27, 3) := by decide +kernel
theorem dX7_cause_49 : decode cX7_cause 49 = .ok (.aload_n 3, 1) := by decide +kernel
theorem dX7_cause_50 : decode cX7_cause 50 = .ok (.iload 4, 2) := by decide +kernel
theorem dX7_cause_52 : decode cX7_cause 52 = .ok (.invokevirtual 100, 3) := by decide +kernel
theorem dX7_cause_55 : decode cX7_cause 55 = .ok (.ifCond .eq 18, 3) := by decide +kernel
theorem dX7_cause_58 : decode cX7_cause 58 = .ok (.aload_n 3, 1) := by decide +kernel
theorem dX7_cause_59 : decode cX7_cause 59 = .ok (.getfield 134, 3) := by decide +kernel
theorem dX7_cause_62 : decode cX7_cause 62 = .ok (.iload 4, 2) := by decide +kernel
theorem dX7_cause_64 : decode cX7_cause 64 = .ok (.iaload, 1) := by decide +kernel
theorem dX7_cause_65 : decode cX7_cause 65 = .ok (.istore 4, 2) := by decide +kernel
theorem dX7_cause_67 : decode cX7_cause 67 = .ok (.iinc 5 1, 3) := by decide +kernel
theorem dX7_cause_70 : decode cX7_cause 70 = .ok (.goto (-27), 3) := by decide +kernel
theorem dX7_cause_73 : decode cX7_cause 73 = .ok (.iload 4, 2) := by decide +kernel
theorem dX7_cause_75 : decode cX7_cause 75 = .ok (.ireturn, 1) := by decide +kernel
theorem dX7_arm_0 : decode cX7_arm 0 = .ok (.aload_n 0, 1) := by decide +kernel
theorem dX7_arm_1 : decode cX7_arm 1 = .ok (.iload_n 1, 1) := by decide +kernel
theorem dX7_arm_2 : decode cX7_arm 2 = .ok (.invokevirtual 60, 3) := by decide +kernel
theorem dX7_arm_5 : decode cX7_arm 5 = .ok (.ifCond .ne 5, 3) := by decide +kernel
theorem dX7_arm_8 : decode cX7_arm 8 = .ok (.iconst (-1), 1) := by decide +kernel
theorem dX7_arm_9 : decode cX7_arm 9 = .ok (.ireturn, 1) := by decide +kernel
theorem dX7_arm_10 : decode cX7_arm 10 = .ok (.aload_n 0, 1) := by decide +kernel
theorem dX7_arm_11 : decode cX7_arm 11 = .ok (.getfield 12, 3) := by decide +kernel
theorem dX7_arm_14 : decode cX7_arm 14 = .ok (.getfield 91, 3) := by decide +kernel
theorem dX7_arm_17 : decode cX7_arm 17 = .ok (.iload_n 1, 1) := by decide +kernel
theorem dX7_arm_18 : decode cX7_arm 18 = .ok (.aaload, 1) := by decide +kernel
theorem dX7_arm_19 : decode cX7_arm 19 = .ok (.astore_n 3, 1) := by decide +kernel
theorem dX7_arm_20 : decode cX7_arm 20 = .ok (.iload_n 2, 1) := by decide +kernel
theorem dX7_arm_21 : decode cX7_arm 21 = .ok (.tableswitch 51 0 3 #[31, 36, 41, 46], 31) := by decide +kernel
theorem dX7_arm_52 : decode cX7_arm 52 = .ok (.aload_n 3, 1) := by decide +kernel
theorem dX7_arm_53 : decode cX7_arm 53 = .ok (.getfield 137, 3) := by decide +kernel
theorem dX7_arm_56 : decode cX7_arm 56 = .ok (.ireturn, 1) := by decide +kernel
theorem dX7_arm_57 : decode cX7_arm 57 = .ok (.aload_n 3, 1) := by decide +kernel
theorem dX7_arm_58 : decode cX7_arm 58 = .ok (.getfield 138, 3) := by decide +kernel
theorem dX7_arm_61 : decode cX7_arm 61 = .ok (.ireturn, 1) := by decide +kernel
theorem dX7_arm_62 : decode cX7_arm 62 = .ok (.aload_n 3, 1) := by decide +kernel
theorem dX7_arm_63 : decode cX7_arm 63 = .ok (.getfield 141, 3) := by decide +kernel
theorem dX7_arm_66 : decode cX7_arm 66 = .ok (.ireturn, 1) := by decide +kernel
theorem dX7_arm_67 : decode cX7_arm 67 = .ok (.aload_n 3, 1) := by decide +kernel
theorem dX7_arm_68 : decode cX7_arm 68 = .ok (.getfield 144, 3) := by decide +kernel
theorem dX7_arm_71 : decode cX7_arm 71 = .ok (.ireturn, 1) := by decide +kernel
theorem dX7_arm_72 : decode cX7_arm 72 = .ok (.iload_n 2, 1) := by decide +kernel
theorem dX7_arm_73 : decode cX7_arm 73 = .ok (.bipush 10, 2) := by decide +kernel
theorem dX7_arm_75 : decode cX7_arm 75 = .ok (.if_icmp .ge 7, 3) := by decide +kernel
theorem dX7_arm_78 : decode cX7_arm 78 = .ok (.iconst (-1), 1) := by decide +kernel
theorem dX7_arm_79 : decode cX7_arm 79 = .ok (.goto 11, 3) := by decide +kernel
theorem dX7_arm_82 : decode cX7_arm 82 = .ok (.aload_n 3, 1) := by decide +kernel
theorem dX7_arm_83 : decode cX7_arm 83 = .ok (.iload_n 2, 1) := by decide +kernel
theorem dX7_arm_84 : decode cX7_arm 84 = .ok (.bipush 10, 2) := by decide +kernel
theorem dX7_arm_86 : decode cX7_arm 86 = .ok (.isub, 1) := by decide +kernel
theorem dX7_arm_87 : decode cX7_arm 87 = .ok (.invokevirtual 147, 3) := by decide +kernel
theorem dX7_arm_90 : decode cX7_arm 90 = .ok (.ireturn, 1) := by decide +kernel
theorem dX7_pass_0 : decode cX7_pass 0 = .ok (.iload_n 1, 1) := by decide +kernel
theorem dX7_pass_1 : decode cX7_pass 1 = .ok (.ifCond .lt 9, 3) := by decide +kernel
theorem dX7_pass_4 : decode cX7_pass 4 = .ok (.iload_n 1, 1) := by decide +kernel
theorem dX7_pass_5 : decode cX7_pass 5 = .ok (.bipush 60, 2) := by decide +kernel
theorem dX7_pass_7 : decode cX7_pass 7 = .ok (.if_icmp .le 6, 3) := by decide +kernel
theorem dX7_pass_10 : decode cX7_pass 10 = .ok (.bipush (-2), 2) := by decide +kernel
theorem dX7_pass_12 : decode cX7_pass 12 = .ok (.ireturn, 1) := by decide +kernel
theorem dX7_pass_13 : decode cX7_pass 13 = .ok (.aload_n 0, 1) := by decide +kernel
theorem dX7_pass_14 : decode cX7_pass 14 = .ok (.getfield 12, 3) := by decide +kernel
theorem dX7_pass_17 : decode cX7_pass 17 = .ok (.getfield 150, 3) := by decide +kernel
theorem dX7_pass_20 : decode cX7_pass 20 = .ok (.iload_n 1, 1) := by decide +kernel
theorem dX7_pass_21 : decode cX7_pass 21 = .ok (.iadd, 1) := by decide +kernel
theorem dX7_pass_22 : decode cX7_pass 22 = .ok (.sipush 9999, 3) := by decide +kernel
theorem dX7_pass_25 : decode cX7_pass 25 = .ok (.if_icmp .le 6, 3) := by decide +kernel
theorem dX7_pass_28 : decode cX7_pass 28 = .ok (.bipush (-3), 2) := by decide +kernel
theorem dX7_pass_30 : decode cX7_pass 30 = .ok (.ireturn, 1) := by decide +kernel
theorem dX7_pass_31 : decode cX7_pass 31 = .ok (.aload_n 0, 1) := by decide +kernel
theorem dX7_pass_32 : decode cX7_pass 32 = .ok (.getfield 12, 3) := by decide +kernel
theorem dX7_pass_35 : decode cX7_pass 35 = .ok (.iload_n 1, 1) := by decide +kernel
theorem dX7_pass_36 : decode cX7_pass 36 = .ok (.invokevirtual 153, 3) := by decide +kernel
theorem dX7_pass_39 : decode cX7_pass 39 = .ok (.aload_n 0, 1) := by decide +kernel
theorem dX7_pass_40 : decode cX7_pass 40 = .ok (.getfield 12, 3) := by decide +kernel
theorem dX7_pass_43 : decode cX7_pass 43 = .ok (.getfield 150, 3) := by decide +kernel
theorem dX7_pass_46 : decode cX7_pass 46 = .ok (.ireturn, 1) := by decide +kernel
theorem dX7_cancel_0 : decode cX7_cancel 0 = .ok (.aload_n 0, 1) := by decide +kernel
theorem dX7_cancel_1 : decode cX7_cancel 1 = .ok (.getfield 12, 3) := by decide +kernel
theorem dX7_cancel_4 : decode cX7_cancel 4 = .ok (.getfield 67, 3) := by decide +kernel
theorem dX7_cancel_7 : decode cX7_cancel 7 = .ok (.iload_n 1, 1) := by decide +kernel
theorem dX7_cancel_8 : decode cX7_cancel 8 = .ok (.invokevirtual 100, 3) := by decide +kernel
theorem dX7_cancel_11 : decode cX7_cancel 11 = .ok (.ifCond .ne 5, 3) := by decide +kernel
theorem dX7_cancel_14 : decode cX7_cancel 14 = .ok (.iconst (-1), 1) := by decide +kernel
theorem dX7_cancel_15 : decode cX7_cancel 15 = .ok (.ireturn, 1) := by decide +kernel
theorem dX7_cancel_16 : decode cX7_cancel 16 = .ok (.aload_n 0, 1) := by decide +kernel
theorem dX7_cancel_17 : decode cX7_cancel 17 = .ok (.getfield 12, 3) := by decide +kernel
theorem dX7_cancel_20 : decode cX7_cancel 20 = .ok (.getfield 67, 3) := by decide +kernel
theorem dX7_cancel_23 : decode cX7_cancel 23 = .ok (.iload_n 1, 1) := by decide +kernel
theorem dX7_cancel_24 : decode cX7_cancel 24 = .ok (.invokevirtual 156, 3) := by decide +kernel
theorem dX7_cancel_27 : decode cX7_cancel 27 = .ok (.ifCond .eq 8, 3) := by decide +kernel
theorem dX7_cancel_30 : decode cX7_cancel 30 = .ok (.bipush (-3), 2) := by decide +kernel
theorem dX7_cancel_32 : decode cX7_cancel 32 = .ok (.goto 11, 3) := by decide +kernel
theorem dX7_cancel_35 : decode cX7_cancel 35 = .ok (.aload_n 0, 1) := by decide +kernel
theorem dX7_cancel_36 : decode cX7_cancel 36 = .ok (.getfield 12, 3) := by decide +kernel
theorem dX7_cancel_39 : decode cX7_cancel 39 = .ok (.iload_n 1, 1) := by decide +kernel
theorem dX7_cancel_40 : decode cX7_cancel 40 = .ok (.invokevirtual 159, 3) := by decide +kernel
theorem dX7_cancel_43 : decode cX7_cancel 43 = .ok (.ireturn, 1) := by decide +kernel
theorem dX7_told_0 : decode cX7_told 0 = .ok (.iload_n 1, 1) := by decide +kernel
theorem dX7_told_1 : decode cX7_told 1 = .ok (.tableswitch 111 0 6 #[43, 51, 59, 67, 83, 95, 100], 43) := by decide +kernel
theorem dX7_told_44 : decode cX7_told 44 = .ok (.aload_n 0, 1) := by decide +kernel
theorem dX7_told_45 : decode cX7_told 45 = .ok (.getfield 12, 3) := by decide +kernel
theorem dX7_told_48 : decode cX7_told 48 = .ok (.getfield 150, 3) := by decide +kernel
theorem dX7_told_51 : decode cX7_told 51 = .ok (.ireturn, 1) := by decide +kernel
theorem dX7_told_52 : decode cX7_told 52 = .ok (.aload_n 0, 1) := by decide +kernel
theorem dX7_told_53 : decode cX7_told 53 = .ok (.getfield 12, 3) := by decide +kernel
theorem dX7_told_56 : decode cX7_told 56 = .ok (.getfield 50, 3) := by decide +kernel
theorem dX7_told_59 : decode cX7_told 59 = .ok (.ireturn, 1) := by decide +kernel
theorem dX7_told_60 : decode cX7_told 60 = .ok (.aload_n 0, 1) := by decide +kernel
theorem dX7_told_61 : decode cX7_told 61 = .ok (.getfield 12, 3) := by decide +kernel
theorem dX7_told_64 : decode cX7_told 64 = .ok (.getfield 42, 3) := by decide +kernel
theorem dX7_told_67 : decode cX7_told 67 = .ok (.ireturn, 1) := by decide +kernel
theorem dX7_told_68 : decode cX7_told 68 = .ok (.aload_n 0, 1) := by decide +kernel
theorem dX7_told_69 : decode cX7_told 69 = .ok (.getfield 12, 3) := by decide +kernel
theorem dX7_told_72 : decode cX7_told 72 = .ok (.invokevirtual 162, 3) := by decide +kernel
theorem dX7_told_75 : decode cX7_told 75 = .ok (.ifCond .eq 7, 3) := by decide +kernel
theorem dX7_told_78 : decode cX7_told 78 = .ok (.iconst 1, 1) := by decide +kernel
theorem dX7_told_79 : decode cX7_told 79 = .ok (.goto 4, 3) := by decide +kernel
theorem dX7_told_82 : decode cX7_told 82 = .ok (.iconst 0, 1) := by decide +kernel
theorem dX7_told_83 : decode cX7_told 83 = .ok (.ireturn, 1) := by decide +kernel
theorem dX7_told_84 : decode cX7_told 84 = .ok (.aload_n 0, 1) := by decide +kernel
theorem dX7_told_85 : decode cX7_told 85 = .ok (.aload_n 0, 1) := by decide +kernel
theorem dX7_told_86 : decode cX7_told 86 = .ok (.getfield 12, 3) := by decide +kernel
theorem dX7_told_89 : decode cX7_told 89 = .ok (.getfield 42, 3) := by decide +kernel
theorem dX7_told_92 : decode cX7_told 92 = .ok (.invokevirtual 166, 3) := by decide +kernel
theorem dX7_told_95 : decode cX7_told 95 = .ok (.ireturn, 1) := by decide +kernel
theorem dX7_told_96 : decode cX7_told 96 = .ok (.aload_n 0, 1) := by decide +kernel
theorem dX7_told_97 : decode cX7_told 97 = .ok (.invokevirtual 169, 3) := by decide +kernel
theorem dX7_told_100 : decode cX7_told 100 = .ok (.ireturn, 1) := by decide +kernel
theorem dX7_told_101 : decode cX7_told 101 = .ok (.aload_n 0, 1) := by decide +kernel
theorem dX7_told_102 : decode cX7_told 102 = .ok (.getfield 12, 3) := by decide +kernel
theorem dX7_told_105 : decode cX7_told 105 = .ok (.getfield 172, 3) := by decide +kernel
theorem dX7_told_108 : decode cX7_told 108 = .ok (.getfield 176, 3) := by decide +kernel
theorem dX7_told_111 : decode cX7_told 111 = .ok (.ireturn, 1) := by decide +kernel
theorem dX7_told_112 : decode cX7_told 112 = .ok (.sipush (-10001), 3) := by decide +kernel
theorem dX7_told_115 : decode cX7_told 115 = .ok (.ireturn, 1) := by decide +kernel
theorem dX7_trace_0 : decode cX7_trace 0 = .ok (.aload_n 0, 1) := by decide +kernel
theorem dX7_trace_1 : decode cX7_trace 1 = .ok (.getfield 12, 3) := by decide +kernel
theorem dX7_trace_4 : decode cX7_trace 4 = .ok (.getfield 172, 3) := by decide +kernel
theorem dX7_trace_7 : decode cX7_trace 7 = .ok (.iload_n 1, 1) := by decide +kernel
theorem dX7_trace_8 : decode cX7_trace 8 = .ok (.iload_n 2, 1) := by decide +kernel
theorem dX7_trace_9 : decode cX7_trace 9 = .ok (.invokevirtual 179, 3) := by decide +kernel
theorem dX7_trace_12 : decode cX7_trace 12 = .ok (.ireturn, 1) := by decide +kernel
theorem dX7_on_0 : decode cX7_on 0 = .ok (.iload_n 2, 1) := by decide +kernel
theorem dX7_on_1 : decode cX7_on 1 = .ok (.ifCond .lt 8, 3) := by decide +kernel
theorem dX7_on_4 : decode cX7_on 4 = .ok (.iload_n 2, 1) := by decide +kernel
theorem dX7_on_5 : decode cX7_on 5 = .ok (.iconst 3, 1) := by decide +kernel
theorem dX7_on_6 : decode cX7_on 6 = .ok (.if_icmp .le 5, 3) := by decide +kernel
theorem dX7_on_9 : decode cX7_on 9 = .ok (.iconst (-1), 1) := by decide +kernel
theorem dX7_on_10 : decode cX7_on 10 = .ok (.ireturn, 1) := by decide +kernel
theorem dX7_on_11 : decode cX7_on 11 = .ok (.iload_n 1, 1) := by decide +kernel
theorem dX7_on_12 : decode cX7_on 12 = .ok (.ifCond .lt 9, 3) := by decide +kernel
theorem dX7_on_15 : decode cX7_on 15 = .ok (.iload_n 1, 1) := by decide +kernel
theorem dX7_on_16 : decode cX7_on 16 = .ok (.bipush 60, 2) := by decide +kernel
theorem dX7_on_18 : decode cX7_on 18 = .ok (.if_icmp .le 6, 3) := by decide +kernel
theorem dX7_on_21 : decode cX7_on 21 = .ok (.bipush (-2), 2) := by decide +kernel
theorem dX7_on_23 : decode cX7_on 23 = .ok (.ireturn, 1) := by decide +kernel
theorem dX7_on_24 : decode cX7_on 24 = .ok (.aload_n 0, 1) := by decide +kernel
theorem dX7_on_25 : decode cX7_on 25 = .ok (.getfield 21, 3) := by decide +kernel
theorem dX7_on_28 : decode cX7_on 28 = .ok (.aload_n 0, 1) := by decide +kernel
theorem dX7_on_29 : decode cX7_on 29 = .ok (.getfield 12, 3) := by decide +kernel
theorem dX7_on_32 : decode cX7_on 32 = .ok (.invokevirtual 183, 3) := by decide +kernel
theorem dX7_on_35 : decode cX7_on 35 = .ok (.aload_n 0, 1) := by decide +kernel
theorem dX7_on_36 : decode cX7_on 36 = .ok (.getfield 21, 3) := by decide +kernel
theorem dX7_on_39 : decode cX7_on 39 = .ok (.iload_n 1, 1) := by decide +kernel
theorem dX7_on_40 : decode cX7_on 40 = .ok (.invokevirtual 153, 3) := by decide +kernel
theorem dX7_on_43 : decode cX7_on 43 = .ok (.iload_n 2, 1) := by decide +kernel
theorem dX7_on_44 : decode cX7_on 44 = .ok (.tableswitch 58 0 2 #[28, 39, 50], 28) := by decide +kernel
theorem dX7_on_72 : decode cX7_on 72 = .ok (.aload_n 0, 1) := by decide +kernel
theorem dX7_on_73 : decode cX7_on 73 = .ok (.getfield 21, 3) := by decide +kernel
theorem dX7_on_76 : decode cX7_on 76 = .ok (.getfield 67, 3) := by decide +kernel
theorem dX7_on_79 : decode cX7_on 79 = .ok (.invokevirtual 187, 3) := by decide +kernel
theorem dX7_on_82 : decode cX7_on 82 = .ok (.ireturn, 1) := by decide +kernel
theorem dX7_on_83 : decode cX7_on 83 = .ok (.aload_n 0, 1) := by decide +kernel
theorem dX7_on_84 : decode cX7_on 84 = .ok (.getfield 21, 3) := by decide +kernel
theorem dX7_on_87 : decode cX7_on 87 = .ok (.getfield 67, 3) := by decide +kernel
theorem dX7_on_90 : decode cX7_on 90 = .ok (.invokevirtual 190, 3) := by decide +kernel
theorem dX7_on_93 : decode cX7_on 93 = .ok (.ireturn, 1) := by decide +kernel
theorem dX7_on_94 : decode cX7_on 94 = .ok (.aload_n 0, 1) := by decide +kernel
theorem dX7_on_95 : decode cX7_on 95 = .ok (.getfield 21, 3) := by decide +kernel
theorem dX7_on_98 : decode cX7_on 98 = .ok (.invokevirtual 193, 3) := by decide +kernel
theorem dX7_on_101 : decode cX7_on 101 = .ok (.ireturn, 1) := by decide +kernel
theorem dX7_on_102 : decode cX7_on 102 = .ok (.aload_n 0, 1) := by decide +kernel
theorem dX7_on_103 : decode cX7_on 103 = .ok (.getfield 21, 3) := by decide +kernel
theorem dX7_on_106 : decode cX7_on 106 = .ok (.invokevirtual 196, 3) := by decide +kernel
theorem dX7_on_109 : decode cX7_on 109 = .ok (.ireturn, 1) := by decide +kernel
theorem dX7_till_0 : decode cX7_till 0 = .ok (.iload_n 1, 1) := by decide +kernel
theorem dX7_till_1 : decode cX7_till 1 = .ok (.iconst 1, 1) := by decide +kernel
theorem dX7_till_2 : decode cX7_till 2 = .ok (.if_icmp .lt 8, 3) := by decide +kernel
theorem dX7_till_5 : decode cX7_till 5 = .ok (.iload_n 1, 1) := by decide +kernel
theorem dX7_till_6 : decode cX7_till 6 = .ok (.iconst 4, 1) := by decide +kernel
theorem dX7_till_7 : decode cX7_till 7 = .ok (.if_icmp .le 8, 3) := by decide +kernel
theorem dX7_till_10 : decode cX7_till 10 = .ok (.bipush (-2), 2) := by decide +kernel
theorem dX7_till_12 : decode cX7_till 12 = .ok (.goto 8, 3) := by decide +kernel
theorem dX7_till_15 : decode cX7_till 15 = .ok (.aload_n 0, 1) := by decide +kernel
theorem dX7_till_16 : decode cX7_till 16 = .ok (.iload_n 1, 1) := by decide +kernel
theorem dX7_till_17 : decode cX7_till 17 = .ok (.invokevirtual 166, 3) := by decide +kernel
theorem dX7_till_20 : decode cX7_till 20 = .ok (.ireturn, 1) := by decide +kernel
theorem dX7_see_0 : decode cX7_see 0 = .ok (.iload_n 1, 1) := by decide +kernel
theorem dX7_see_1 : decode cX7_see 1 = .ok (.iconst (-1), 1) := by decide +kernel
theorem dX7_see_2 : decode cX7_see 2 = .ok (.if_icmp .ne 14, 3) := by decide +kernel
theorem dX7_see_5 : decode cX7_see 5 = .ok (.aload_n 0, 1) := by decide +kernel
theorem dX7_see_6 : decode cX7_see 6 = .ok (.getfield 12, 3) := by decide +kernel
theorem dX7_see_9 : decode cX7_see 9 = .ok (.getfield 199, 3) := by decide +kernel
theorem dX7_see_12 : decode cX7_see 12 = .ok (.invokevirtual 203, 3) := by decide +kernel
theorem dX7_see_15 : decode cX7_see 15 = .ok (.ireturn, 1) := by decide +kernel
theorem dX7_see_16 : decode cX7_see 16 = .ok (.aload_n 0, 1) := by decide +kernel
theorem dX7_see_17 : decode cX7_see 17 = .ok (.getfield 12, 3) := by decide +kernel
theorem dX7_see_20 : decode cX7_see 20 = .ok (.getfield 67, 3) := by decide +kernel
theorem dX7_see_23 : decode cX7_see 23 = .ok (.iload_n 1, 1) := by decide +kernel
theorem dX7_see_24 : decode cX7_see 24 = .ok (.invokevirtual 100, 3) := by decide +kernel
theorem dX7_see_27 : decode cX7_see 27 = .ok (.ifCond .ne 5, 3) := by decide +kernel
theorem dX7_see_30 : decode cX7_see 30 = .ok (.iconst (-1), 1) := by decide +kernel
theorem dX7_see_31 : decode cX7_see 31 = .ok (.ireturn, 1) := by decide +kernel
theorem dX7_see_32 : decode cX7_see 32 = .ok (.iload_n 2, 1) := by decide +kernel
theorem dX7_see_33 : decode cX7_see 33 = .ok (.ifCond .lt 9, 3) := by decide +kernel
theorem dX7_see_36 : decode cX7_see 36 = .ok (.iload_n 2, 1) := by decide +kernel
theorem dX7_see_37 : decode cX7_see 37 = .ok (.bipush 40, 2) := by decide +kernel
theorem dX7_see_39 : decode cX7_see 39 = .ok (.if_icmp .lt 6, 3) := by decide +kernel
theorem dX7_see_42 : decode cX7_see 42 = .ok (.bipush (-2), 2) := by decide +kernel
theorem dX7_see_44 : decode cX7_see 44 = .ok (.ireturn, 1) := by decide +kernel
theorem dX7_see_45 : decode cX7_see 45 = .ok (.aload_n 0, 1) := by decide +kernel
theorem dX7_see_46 : decode cX7_see 46 = .ok (.getfield 12, 3) := by decide +kernel
theorem dX7_see_49 : decode cX7_see 49 = .ok (.getfield 199, 3) := by decide +kernel
theorem dX7_see_52 : decode cX7_see 52 = .ok (.iload_n 1, 1) := by decide +kernel
theorem dX7_see_53 : decode cX7_see 53 = .ok (.iload_n 2, 1) := by decide +kernel
theorem dX7_see_54 : decode cX7_see 54 = .ok (.invokevirtual 208, 3) := by decide +kernel
theorem dX7_see_57 : decode cX7_see 57 = .ok (.ireturn, 1) := by decide +kernel
theorem dX7_seeds_0 : decode cX7_seeds 0 = .ok (.iconst 0, 1) := by decide +kernel
theorem dX7_seeds_1 : decode cX7_seeds 1 = .ok (.istore_n 1, 1) := by decide +kernel
theorem dX7_seeds_2 : decode cX7_seeds 2 = .ok (.iconst 0, 1) := by decide +kernel
theorem dX7_seeds_3 : decode cX7_seeds 3 = .ok (.istore_n 2, 1) := by decide +kernel
theorem dX7_seeds_4 : decode cX7_seeds 4 = .ok (.iload_n 2, 1) := by decide +kernel
theorem dX7_seeds_5 : decode cX7_seeds 5 = .ok (.bipush 31, 2) := by decide +kernel
theorem dX7_seeds_7 : decode cX7_seeds 7 = .ok (.if_icmp .ge 23, 3) := by decide +kernel
theorem dX7_seeds_10 : decode cX7_seeds 10 = .ok (.aload_n 0, 1) := by decide +kernel
theorem dX7_seeds_11 : decode cX7_seeds 11 = .ok (.iload_n 2, 1) := by decide +kernel
theorem dX7_seeds_12 : decode cX7_seeds 12 = .ok (.invokevirtual 210, 3) := by decide +kernel
theorem dX7_seeds_15 : decode cX7_seeds 15 = .ok (.ifCond .eq 9, 3) := by decide +kernel
theorem dX7_seeds_18 : decode cX7_seeds 18 = .ok (.iload_n 1, 1) := by decide +kernel
theorem dX7_seeds_19 : decode cX7_seeds 19 = .ok (.iconst 1, 1) := by decide +kernel
theorem dX7_seeds_20 : decode cX7_seeds 20 = .ok (.iload_n 2, 1) := by decide +kernel
theorem dX7_seeds_21 : decode cX7_seeds 21 = .ok (.ishl, 1) := by decide +kernel
theorem dX7_seeds_22 : decode cX7_seeds 22 = .ok (.ior, 1) := by decide +kernel
theorem dX7_seeds_23 : decode cX7_seeds 23 = .ok (.istore_n 1, 1) := by decide +kernel
theorem dX7_seeds_24 : decode cX7_seeds 24 = .ok (.iinc 2 1, 3) := by decide +kernel
theorem dX7_seeds_27 : decode cX7_seeds 27 = .ok (.goto (-23), 3) := by decide +kernel
theorem dX7_seeds_30 : decode cX7_seeds 30 = .ok (.iload_n 1, 1) := by decide +kernel
theorem dX7_seeds_31 : decode cX7_seeds 31 = .ok (.ireturn, 1) := by decide +kernel
theorem dX7_odds_0 : decode cX7_odds 0 = .ok (.iload_n 1, 1) := by decide +kernel
theorem dX7_odds_1 : decode cX7_odds 1 = .ok (.ifCond .lt 18, 3) := by decide +kernel
theorem dX7_odds_4 : decode cX7_odds 4 = .ok (.iload_n 1, 1) := by decide +kernel
theorem dX7_odds_5 : decode cX7_odds 5 = .ok (.bipush 60, 2) := by decide +kernel
theorem dX7_odds_7 : decode cX7_odds 7 = .ok (.if_icmp .gt 12, 3) := by decide +kernel
theorem dX7_odds_10 : decode cX7_odds 10 = .ok (.iload_n 2, 1) := by decide +kernel
theorem dX7_odds_11 : decode cX7_odds 11 = .ok (.ifCond .lt 8, 3) := by decide +kernel
theorem dX7_odds_14 : decode cX7_odds 14 = .ok (.iload_n 2, 1) := by decide +kernel
theorem dX7_odds_15 : decode cX7_odds 15 = .ok (.iconst 1, 1) := by decide +kernel
theorem dX7_odds_16 : decode cX7_odds 16 = .ok (.if_icmp .le 7, 3) := by decide +kernel
theorem dX7_odds_19 : decode cX7_odds 19 = .ok (.ldc2_w 213, 3) := by decide +kernel
theorem dX7_odds_22 : decode cX7_odds 22 = .ok (.lreturn, 1) := by decide +kernel
theorem dX7_odds_23 : decode cX7_odds 23 = .ok (.iconst 0, 1) := by decide +kernel
theorem dX7_odds_24 : decode cX7_odds 24 = .ok (.istore_n 3, 1) := by decide +kernel
theorem dX7_odds_25 : decode cX7_odds 25 = .ok (.iconst 0, 1) := by decide +kernel
theorem dX7_odds_26 : decode cX7_odds 26 = .ok (.istore 4, 2) := by decide +kernel
theorem dX7_odds_28 : decode cX7_odds 28 = .ok (.iload 4, 2) := by decide +kernel
theorem dX7_odds_30 : decode cX7_odds 30 = .ok (.bipush 20, 2) := by decide +kernel
theorem dX7_odds_32 : decode cX7_odds 32 = .ok (.if_icmp .ge 50, 3) := by decide +kernel
theorem dX7_odds_35 : decode cX7_odds 35 = .ok (.aload_n 0, 1) := by decide +kernel
theorem dX7_odds_36 : decode cX7_odds 36 = .ok (.getfield 21, 3) := by decide +kernel
theorem dX7_odds_39 : decode cX7_odds 39 = .ok (.aload_n 0, 1) := by decide +kernel
theorem dX7_odds_40 : decode cX7_odds 40 = .ok (.getfield 12, 3) := by decide +kernel
theorem dX7_odds_43 : decode cX7_odds 43 = .ok (.invokevirtual 183, 3) := by decide +kernel
theorem dX7_odds_46 : decode cX7_odds 46 = .ok (.aload_n 0, 1) := by decide +kernel
theorem dX7_odds_47 : decode cX7_odds 47 = .ok (.getfield 21, 3) := by decide +kernel
theorem dX7_odds_50 : decode cX7_odds 50 = .ok (.iload 4, 2) := by decide +kernel
theorem dX7_odds_52 : decode cX7_odds 52 = .ok (.putfield 50, 3) := by decide +kernel
theorem dX7_odds_55 : decode cX7_odds 55 = .ok (.aload_n 0, 1) := by decide +kernel
theorem dX7_odds_56 : decode cX7_odds 56 = .ok (.getfield 21, 3) := by decide +kernel
theorem dX7_odds_59 : decode cX7_odds 59 = .ok (.iload_n 1, 1) := by decide +kernel
theorem dX7_odds_60 : decode cX7_odds 60 = .ok (.invokevirtual 215, 3) := by decide +kernel
theorem dX7_odds_63 : decode cX7_odds 63 = .ok (.aload_n 0, 1) := by decide +kernel
theorem dX7_odds_64 : decode cX7_odds 64 = .ok (.getfield 21, 3) := by decide +kernel
theorem dX7_odds_67 : decode cX7_odds 67 = .ok (.invokevirtual 162, 3) := by decide +kernel
theorem dX7_odds_70 : decode cX7_odds 70 = .ok (.ifCond .eq 6, 3) := by decide +kernel
theorem dX7_odds_73 : decode cX7_odds 73 = .ok (.iinc 3 1, 3) := by decide +kernel
theorem dX7_odds_76 : decode cX7_odds 76 = .ok (.iinc 4 1, 3) := by decide +kernel
theorem dX7_odds_79 : decode cX7_odds 79 = .ok (.goto (-51), 3) := by decide +kernel
theorem dX7_odds_82 : decode cX7_odds 82 = .ok (.iload_n 3, 1) := by decide +kernel
theorem dX7_odds_83 : decode cX7_odds 83 = .ok (.bipush 20, 2) := by decide +kernel
theorem dX7_odds_85 : decode cX7_odds 85 = .ok (.iload_n 2, 1) := by decide +kernel
theorem dX7_odds_86 : decode cX7_odds 86 = .ok (.invokestatic 218, 3) := by decide +kernel
theorem dX7_odds_89 : decode cX7_odds 89 = .ok (.i2l, 1) := by decide +kernel
theorem dX7_odds_90 : decode cX7_odds 90 = .ok (.lreturn, 1) := by decide +kernel
theorem dX7_mean_0 : decode cX7_mean 0 = .ok (.aload_n 0, 1) := by decide +kernel
theorem dX7_mean_1 : decode cX7_mean 1 = .ok (.getfield 12, 3) := by decide +kernel
theorem dX7_mean_4 : decode cX7_mean 4 = .ok (.getfield 67, 3) := by decide +kernel
theorem dX7_mean_7 : decode cX7_mean 7 = .ok (.invokevirtual 190, 3) := by decide +kernel
theorem dX7_mean_10 : decode cX7_mean 10 = .ok (.istore_n 2, 1) := by decide +kernel
theorem dX7_mean_11 : decode cX7_mean 11 = .ok (.iload_n 1, 1) := by decide +kernel
theorem dX7_mean_12 : decode cX7_mean 12 = .ok (.ifCond .lt 12, 3) := by decide +kernel
theorem dX7_mean_15 : decode cX7_mean 15 = .ok (.iload_n 1, 1) := by decide +kernel
theorem dX7_mean_16 : decode cX7_mean 16 = .ok (.iconst 1, 1) := by decide +kernel
theorem dX7_mean_17 : decode cX7_mean 17 = .ok (.if_icmp .gt 7, 3) := by decide +kernel
theorem dX7_mean_20 : decode cX7_mean 20 = .ok (.iload_n 2, 1) := by decide +kernel
theorem dX7_mean_21 : decode cX7_mean 21 = .ok (.ifCond .ne 7, 3) := by decide +kernel
theorem dX7_mean_24 : decode cX7_mean 24 = .ok (.ldc2_w 213, 3) := by decide +kernel
theorem dX7_mean_27 : decode cX7_mean 27 = .ok (.lreturn, 1) := by decide +kernel
theorem dX7_mean_28 : decode cX7_mean 28 = .ok (.aload_n 0, 1) := by decide +kernel
theorem dX7_mean_29 : decode cX7_mean 29 = .ok (.getfield 12, 3) := by decide +kernel
theorem dX7_mean_32 : decode cX7_mean 32 = .ok (.getfield 67, 3) := by decide +kernel
theorem dX7_mean_35 : decode cX7_mean 35 = .ok (.invokevirtual 222, 3) := by decide +kernel
theorem dX7_mean_38 : decode cX7_mean 38 = .ok (.iload_n 2, 1) := by decide +kernel
theorem dX7_mean_39 : decode cX7_mean 39 = .ok (.iload_n 1, 1) := by decide +kernel
theorem dX7_mean_40 : decode cX7_mean 40 = .ok (.invokestatic 218, 3) := by decide +kernel
theorem dX7_mean_43 : decode cX7_mean 43 = .ok (.i2l, 1) := by decide +kernel
theorem dX7_mean_44 : decode cX7_mean 44 = .ok (.lreturn, 1) := by decide +kernel
theorem dX7_plan_0 : decode cX7_plan 0 = .ok (.iload_n 1, 1) := by decide +kernel
theorem dX7_plan_1 : decode cX7_plan 1 = .ok (.iconst (-1), 1) := by decide +kernel
theorem dX7_plan_2 : decode cX7_plan 2 = .ok (.if_icmp .ne 14, 3) := by decide +kernel
theorem dX7_plan_5 : decode cX7_plan 5 = .ok (.aload_n 0, 1) := by decide +kernel
theorem dX7_plan_6 : decode cX7_plan 6 = .ok (.getfield 12, 3) := by decide +kernel
theorem dX7_plan_9 : decode cX7_plan 9 = .ok (.getfield 225, 3) := by decide +kernel
theorem dX7_plan_12 : decode cX7_plan 12 = .ok (.invokevirtual 203, 3) := by decide +kernel
theorem dX7_plan_15 : decode cX7_plan 15 = .ok (.ireturn, 1) := by decide +kernel
theorem dX7_plan_16 : decode cX7_plan 16 = .ok (.iload_n 1, 1) := by decide +kernel
theorem dX7_plan_17 : decode cX7_plan 17 = .ok (.ifCond .lt 8, 3) := by decide +kernel
theorem dX7_plan_20 : decode cX7_plan 20 = .ok (.iload_n 1, 1) := by decide +kernel
theorem dX7_plan_21 : decode cX7_plan 21 = .ok (.iconst 2, 1) := by decide +kernel
theorem dX7_plan_22 : decode cX7_plan 22 = .ok (.if_icmp .le 5, 3) := by decide +kernel
theorem dX7_plan_25 : decode cX7_plan 25 = .ok (.iconst (-1), 1) := by decide +kernel
theorem dX7_plan_26 : decode cX7_plan 26 = .ok (.ireturn, 1) := by decide +kernel
theorem dX7_plan_27 : decode cX7_plan 27 = .ok (.iload_n 1, 1) := by decide +kernel
theorem dX7_plan_28 : decode cX7_plan 28 = .ok (.iconst 1, 1) := by decide +kernel
theorem dX7_plan_29 : decode cX7_plan 29 = .ok (.if_icmp .ne 19, 3) := by decide +kernel
theorem dX7_plan_32 : decode cX7_plan 32 = .ok (.aload_n 0, 1) := by decide +kernel
theorem dX7_plan_33 : decode cX7_plan 33 = .ok (.getfield 12, 3) := by decide +kernel
theorem dX7_plan_36 : decode cX7_plan 36 = .ok (.getfield 67, 3) := by decide +kernel
theorem dX7_plan_39 : decode cX7_plan 39 = .ok (.iload_n 2, 1) := by decide +kernel
theorem dX7_plan_40 : decode cX7_plan 40 = .ok (.invokevirtual 100, 3) := by decide +kernel
theorem dX7_plan_43 : decode cX7_plan 43 = .ok (.ifCond .ne 5, 3) := by decide +kernel
theorem dX7_plan_46 : decode cX7_plan 46 = .ok (.iconst (-1), 1) := by decide +kernel
theorem dX7_plan_47 : decode cX7_plan 47 = .ok (.ireturn, 1) := by decide +kernel
theorem dX7_plan_48 : decode cX7_plan 48 = .ok (.aload_n 0, 1) := by decide +kernel
theorem dX7_plan_49 : decode cX7_plan 49 = .ok (.getfield 12, 3) := by decide +kernel
theorem dX7_plan_52 : decode cX7_plan 52 = .ok (.getfield 225, 3) := by decide +kernel
theorem dX7_plan_55 : decode cX7_plan 55 = .ok (.iload_n 1, 1) := by decide +kernel
theorem dX7_plan_56 : decode cX7_plan 56 = .ok (.iload_n 2, 1) := by decide +kernel
theorem dX7_plan_57 : decode cX7_plan 57 = .ok (.invokevirtual 208, 3) := by decide +kernel
theorem dX7_plan_60 : decode cX7_plan 60 = .ok (.ireturn, 1) := by decide +kernel
theorem dX7_ends_0 : decode cX7_ends 0 = .ok (.iload_n 1, 1) := by decide +kernel
theorem dX7_ends_1 : decode cX7_ends 1 = .ok (.ifCond .lt 8, 3) := by decide +kernel
theorem dX7_ends_4 : decode cX7_ends 4 = .ok (.iload_n 1, 1) := by decide +kernel
theorem dX7_ends_5 : decode cX7_ends 5 = .ok (.iconst 1, 1) := by decide +kernel
theorem dX7_ends_6 : decode cX7_ends 6 = .ok (.if_icmp .le 5, 3) := by decide +kernel
theorem dX7_ends_9 : decode cX7_ends 9 = .ok (.iconst (-1), 1) := by decide +kernel
theorem dX7_ends_10 : decode cX7_ends 10 = .ok (.ireturn, 1) := by decide +kernel
theorem dX7_ends_11 : decode cX7_ends 11 = .ok (.aload_n 0, 1) := by decide +kernel
theorem dX7_ends_12 : decode cX7_ends 12 = .ok (.getfield 21, 3) := by decide +kernel
theorem dX7_ends_15 : decode cX7_ends 15 = .ok (.aload_n 0, 1) := by decide +kernel
theorem dX7_ends_16 : decode cX7_ends 16 = .ok (.getfield 12, 3) := by decide +kernel
theorem dX7_ends_19 : decode cX7_ends 19 = .ok (.invokevirtual 183, 3) := by decide +kernel
theorem dX7_ends_22 : decode cX7_ends 22 = .ok (.iconst 0, 1) := by decide +kernel
theorem dX7_ends_23 : decode cX7_ends 23 = .ok (.istore_n 2, 1) := by decide +kernel
theorem dX7_ends_24 : decode cX7_ends 24 = .ok (.iload_n 2, 1) := by decide +kernel
theorem dX7_ends_25 : decode cX7_ends 25 = .ok (.aload_n 0, 1) := by decide +kernel
theorem dX7_ends_26 : decode cX7_ends 26 = .ok (.getfield 12, 3) := by decide +kernel
theorem dX7_ends_29 : decode cX7_ends 29 = .ok (.getfield 225, 3) := by decide +kernel
theorem dX7_ends_32 : decode cX7_ends 32 = .ok (.getfield 228, 3) := by decide +kernel
theorem dX7_ends_35 : decode cX7_ends 35 = .ok (.if_icmp .ge 40, 3) := by decide +kernel
theorem dX7_ends_38 : decode cX7_ends 38 = .ok (.aload_n 0, 1) := by decide +kernel
theorem dX7_ends_39 : decode cX7_ends 39 = .ok (.getfield 21, 3) := by decide +kernel
theorem dX7_ends_42 : decode cX7_ends 42 = .ok (.aload_n 0, 1) := by decide +kernel
theorem dX7_ends_43 : decode cX7_ends 43 = .ok (.getfield 12, 3) := by decide +kernel
theorem dX7_ends_46 : decode cX7_ends 46 = .ok (.getfield 225, 3) := by decide +kernel
theorem dX7_ends_49 : decode cX7_ends 49 = .ok (.getfield 229, 3) := by decide +kernel
theorem dX7_ends_52 : decode cX7_ends 52 = .ok (.iload_n 2, 1) := by decide +kernel
theorem dX7_ends_53 : decode cX7_ends 53 = .ok (.iaload, 1) := by decide +kernel
theorem dX7_ends_54 : decode cX7_ends 54 = .ok (.aload_n 0, 1) := by decide +kernel
theorem dX7_ends_55 : decode cX7_ends 55 = .ok (.getfield 12, 3) := by decide +kernel
theorem dX7_ends_58 : decode cX7_ends 58 = .ok (.getfield 225, 3) := by decide +kernel
theorem dX7_ends_61 : decode cX7_ends 61 = .ok (.getfield 232, 3) := by decide +kernel
theorem dX7_ends_64 : decode cX7_ends 64 = .ok (.iload_n 2, 1) := by decide +kernel
theorem dX7_ends_65 : decode cX7_ends 65 = .ok (.iaload, 1) := by decide +kernel
theorem dX7_ends_66 : decode cX7_ends 66 = .ok (.invokevirtual 235, 3) := by decide +kernel
theorem dX7_ends_69 : decode cX7_ends 69 = .ok (.iinc 2 1, 3) := by decide +kernel
theorem dX7_ends_72 : decode cX7_ends 72 = .ok (.goto (-48), 3) := by decide +kernel
theorem dX7_ends_75 : decode cX7_ends 75 = .ok (.iload_n 1, 1) := by decide +kernel
theorem dX7_ends_76 : decode cX7_ends 76 = .ok (.ifCond .ne 16, 3) := by decide +kernel
theorem dX7_ends_79 : decode cX7_ends 79 = .ok (.aload_n 0, 1) := by decide +kernel
theorem dX7_ends_80 : decode cX7_ends 80 = .ok (.getfield 21, 3) := by decide +kernel
theorem dX7_ends_83 : decode cX7_ends 83 = .ok (.getfield 67, 3) := by decide +kernel
theorem dX7_ends_86 : decode cX7_ends 86 = .ok (.invokevirtual 187, 3) := by decide +kernel
theorem dX7_ends_89 : decode cX7_ends 89 = .ok (.goto 13, 3) := by decide +kernel
theorem dX7_ends_92 : decode cX7_ends 92 = .ok (.aload_n 0, 1) := by decide +kernel
theorem dX7_ends_93 : decode cX7_ends 93 = .ok (.getfield 21, 3) := by decide +kernel
theorem dX7_ends_96 : decode cX7_ends 96 = .ok (.getfield 67, 3) := by decide +kernel
theorem dX7_ends_99 : decode cX7_ends 99 = .ok (.invokevirtual 222, 3) := by decide +kernel
theorem dX7_ends_102 : decode cX7_ends 102 = .ok (.ireturn, 1) := by decide +kernel
theorem dX7_book_0 : decode cX7_book 0 = .ok (.iload_n 1, 1) := by decide +kernel
theorem dX7_book_1 : decode cX7_book 1 = .ok (.iconst (-1), 1) := by decide +kernel
theorem dX7_book_2 : decode cX7_book 2 = .ok (.if_icmp .ne 14, 3) := by decide +kernel
theorem dX7_book_5 : decode cX7_book 5 = .ok (.aload_n 0, 1) := by decide +kernel
theorem dX7_book_6 : decode cX7_book 6 = .ok (.getfield 12, 3) := by decide +kernel
theorem dX7_book_9 : decode cX7_book 9 = .ok (.getfield 239, 3) := by decide +kernel
theorem dX7_book_12 : decode cX7_book 12 = .ok (.invokevirtual 203, 3) := by decide +kernel
theorem dX7_book_15 : decode cX7_book 15 = .ok (.ireturn, 1) := by decide +kernel
theorem dX7_book_16 : decode cX7_book 16 = .ok (.aload_n 0, 1) := by decide +kernel
theorem dX7_book_17 : decode cX7_book 17 = .ok (.getfield 12, 3) := by decide +kernel
theorem dX7_book_20 : decode cX7_book 20 = .ok (.getfield 67, 3) := by decide +kernel
theorem dX7_book_23 : decode cX7_book 23 = .ok (.iload_n 1, 1) := by decide +kernel
theorem dX7_book_24 : decode cX7_book 24 = .ok (.invokevirtual 100, 3) := by decide +kernel
theorem dX7_book_27 : decode cX7_book 27 = .ok (.ifCond .ne 5, 3) := by decide +kernel
theorem dX7_book_30 : decode cX7_book 30 = .ok (.iconst (-1), 1) := by decide +kernel
theorem dX7_book_31 : decode cX7_book 31 = .ok (.ireturn, 1) := by decide +kernel
theorem dX7_book_32 : decode cX7_book 32 = .ok (.iload_n 2, 1) := by decide +kernel
theorem dX7_book_33 : decode cX7_book 33 = .ok (.ifCond .lt 8, 3) := by decide +kernel
theorem dX7_book_36 : decode cX7_book 36 = .ok (.iload_n 2, 1) := by decide +kernel
theorem dX7_book_37 : decode cX7_book 37 = .ok (.iconst 5, 1) := by decide +kernel
theorem dX7_book_38 : decode cX7_book 38 = .ok (.if_icmp .le 6, 3) := by decide +kernel
theorem dX7_book_41 : decode cX7_book 41 = .ok (.bipush (-2), 2) := by decide +kernel
theorem dX7_book_43 : decode cX7_book 43 = .ok (.ireturn, 1) := by decide +kernel
theorem dX7_book_44 : decode cX7_book 44 = .ok (.aload_n 0, 1) := by decide +kernel
theorem dX7_book_45 : decode cX7_book 45 = .ok (.getfield 12, 3) := by decide +kernel
theorem dX7_book_48 : decode cX7_book 48 = .ok (.getfield 239, 3) := by decide +kernel
theorem dX7_book_51 : decode cX7_book 51 = .ok (.iload_n 1, 1) := by decide +kernel
theorem dX7_book_52 : decode cX7_book 52 = .ok (.iload_n 2, 1) := by decide +kernel
theorem dX7_book_53 : decode cX7_book 53 = .ok (.invokevirtual 208, 3) := by decide +kernel
theorem dX7_book_56 : decode cX7_book 56 = .ok (.ireturn, 1) := by decide +kernel
theorem dX7_looked_0 : decode cX7_looked 0 = .ok (.iconst 0, 1) := by decide +kernel
theorem dX7_looked_1 : decode cX7_looked 1 = .ok (.istore_n 1, 1) := by decide +kernel
theorem dX7_looked_2 : decode cX7_looked 2 = .ok (.iload_n 1, 1) := by decide +kernel
theorem dX7_looked_3 : decode cX7_looked 3 = .ok (.aload_n 0, 1) := by decide +kernel
theorem dX7_looked_4 : decode cX7_looked 4 = .ok (.getfield 12, 3) := by decide +kernel
theorem dX7_looked_7 : decode cX7_looked 7 = .ok (.getfield 239, 3) := by decide +kernel
theorem dX7_looked_10 : decode cX7_looked 10 = .ok (.getfield 228, 3) := by decide +kernel
theorem dX7_looked_13 : decode cX7_looked 13 = .ok (.if_icmp .ge 65, 3) := by decide +kernel
theorem dX7_looked_16 : decode cX7_looked 16 = .ok (.aload_n 0, 1) := by decide +kernel
theorem dX7_looked_17 : decode cX7_looked 17 = .ok (.getfield 12, 3) := by decide +kernel
theorem dX7_looked_20 : decode cX7_looked 20 = .ok (.getfield 239, 3) := by decide +kernel
theorem dX7_looked_23 : decode cX7_looked 23 = .ok (.getfield 229, 3) := by decide +kernel
theorem dX7_looked_26 : decode cX7_looked 26 = .ok (.iload_n 1, 1) := by decide +kernel
theorem dX7_looked_27 : decode cX7_looked 27 = .ok (.iaload, 1) := by decide +kernel
theorem dX7_looked_28 : decode cX7_looked 28 = .ok (.istore_n 2, 1) := by decide +kernel
theorem dX7_looked_29 : decode cX7_looked 29 = .ok (.aload_n 0, 1) := by decide +kernel
theorem dX7_looked_30 : decode cX7_looked 30 = .ok (.getfield 12, 3) := by decide +kernel
theorem dX7_looked_33 : decode cX7_looked 33 = .ok (.getfield 67, 3) := by decide +kernel
theorem dX7_looked_36 : decode cX7_looked 36 = .ok (.iload_n 2, 1) := by decide +kernel
theorem dX7_looked_37 : decode cX7_looked 37 = .ok (.invokevirtual 100, 3) := by decide +kernel
theorem dX7_looked_40 : decode cX7_looked 40 = .ok (.ifCond .eq 32, 3) := by decide +kernel
theorem dX7_looked_43 : decode cX7_looked 43 = .ok (.aload_n 0, 1) := by decide +kernel
theorem dX7_looked_44 : decode cX7_looked 44 = .ok (.getfield 12, 3) := by decide +kernel
theorem dX7_looked_47 : decode cX7_looked 47 = .ok (.getfield 67, 3) := by decide +kernel
theorem dX7_looked_50 : decode cX7_looked 50 = .ok (.getfield 103, 3) := by decide +kernel
theorem dX7_looked_53 : decode cX7_looked 53 = .ok (.iload_n 2, 1) := by decide +kernel
theorem dX7_looked_54 : decode cX7_looked 54 = .ok (.iaload, 1) := by decide +kernel
theorem dX7_looked_55 : decode cX7_looked 55 = .ok (.aload_n 0, 1) := by decide +kernel
theorem dX7_looked_56 : decode cX7_looked 56 = .ok (.getfield 12, 3) := by decide +kernel
theorem dX7_looked_59 : decode cX7_looked 59 = .ok (.getfield 239, 3) := by decide +kernel
theorem dX7_looked_62 : decode cX7_looked 62 = .ok (.getfield 232, 3) := by decide +kernel
theorem dX7_looked_65 : decode cX7_looked 65 = .ok (.iload_n 1, 1) := by decide +kernel
theorem dX7_looked_66 : decode cX7_looked 66 = .ok (.iaload, 1) := by decide +kernel
theorem dX7_looked_67 : decode cX7_looked 67 = .ok (.if_icmp .eq 5, 3) := by decide +kernel
theorem dX7_looked_70 : decode cX7_looked 70 = .ok (.iload_n 1, 1) := by decide +kernel
theorem dX7_looked_71 : decode cX7_looked 71 = .ok (.ireturn, 1) := by decide +kernel
theorem dX7_looked_72 : decode cX7_looked 72 = .ok (.iinc 1 1, 3) := by decide +kernel
theorem dX7_looked_75 : decode cX7_looked 75 = .ok (.goto (-73), 3) := by decide +kernel
theorem dX7_looked_78 : decode cX7_looked 78 = .ok (.bipush (-5), 2) := by decide +kernel
theorem dX7_looked_80 : decode cX7_looked 80 = .ok (.ireturn, 1) := by decide +kernel
theorem dX7_judge_0 : decode cX7_judge 0 = .ok (.aload_n 0, 1) := by decide +kernel
theorem dX7_judge_1 : decode cX7_judge 1 = .ok (.iload_n 1, 1) := by decide +kernel
theorem dX7_judge_2 : decode cX7_judge 2 = .ok (.invokevirtual 242, 3) := by decide +kernel
theorem dX7_judge_5 : decode cX7_judge 5 = .ok (.ifCond .ne 5, 3) := by decide +kernel
theorem dX7_judge_8 : decode cX7_judge 8 = .ok (.iconst (-1), 1) := by decide +kernel
theorem dX7_judge_9 : decode cX7_judge 9 = .ok (.ireturn, 1) := by decide +kernel
theorem dX7_judge_10 : decode cX7_judge 10 = .ok (.aload_n 0, 1) := by decide +kernel
theorem dX7_judge_11 : decode cX7_judge 11 = .ok (.getfield 33, 3) := by decide +kernel
theorem dX7_judge_14 : decode cX7_judge 14 = .ok (.iload_n 1, 1) := by decide +kernel
theorem dX7_judge_15 : decode cX7_judge 15 = .ok (.aaload, 1) := by decide +kernel
theorem dX7_judge_16 : decode cX7_judge 16 = .ok (.astore_n 3, 1) := by decide +kernel
theorem dX7_judge_17 : decode cX7_judge 17 = .ok (.aload_n 3, 1) := by decide +kernel
theorem dX7_judge_18 : decode cX7_judge 18 = .ok (.getfield 245, 3) := by decide +kernel
theorem dX7_judge_21 : decode cX7_judge 21 = .ok (.iconst (-1), 1) := by decide +kernel
theorem dX7_judge_22 : decode cX7_judge 22 = .ok (.if_icmp .eq 13, 3) := by decide +kernel
theorem dX7_judge_25 : decode cX7_judge 25 = .ok (.aload_n 3, 1) := by decide +kernel
theorem dX7_judge_26 : decode cX7_judge 26 = .ok (.getfield 245, 3) := by decide +kernel
theorem dX7_judge_29 : decode cX7_judge 29 = .ok (.ifCond .eq 6, 3) := by decide +kernel
theorem dX7_judge_32 : decode cX7_judge 32 = .ok (.bipush (-12), 2) := by decide +kernel
theorem dX7_judge_34 : decode cX7_judge 34 = .ok (.ireturn, 1) := by decide +kernel
theorem dX7_judge_35 : decode cX7_judge 35 = .ok (.aload_n 0, 1) := by decide +kernel
theorem dX7_judge_36 : decode cX7_judge 36 = .ok (.getfield 12, 3) := by decide +kernel
theorem dX7_judge_39 : decode cX7_judge 39 = .ok (.getfield 67, 3) := by decide +kernel
theorem dX7_judge_42 : decode cX7_judge 42 = .ok (.getfield 71, 3) := by decide +kernel
theorem dX7_judge_45 : decode cX7_judge 45 = .ok (.istore 4, 2) := by decide +kernel
theorem dX7_judge_47 : decode cX7_judge 47 = .ok (.iload_n 2, 1) := by decide +kernel
theorem dX7_judge_48 : decode cX7_judge 48 = .ok (.ifCond .ge 16, 3) := by decide +kernel
theorem dX7_judge_51 : decode cX7_judge 51 = .ok (.iload 4, 2) := by decide +kernel
theorem dX7_judge_53 : decode cX7_judge 53 = .ok (.ifCond .ne 8, 3) := by decide +kernel
theorem dX7_judge_56 : decode cX7_judge 56 = .ok (.bipush (-5), 2) := by decide +kernel
theorem dX7_judge_58 : decode cX7_judge 58 = .ok (.goto 5, 3) := by decide +kernel
theorem dX7_judge_61 : decode cX7_judge 61 = .ok (.bipush 100, 2) := by decide +kernel
theorem dX7_judge_63 : decode cX7_judge 63 = .ok (.ireturn, 1) := by decide +kernel
theorem dX7_judge_64 : decode cX7_judge 64 = .ok (.iconst 0, 1) := by decide +kernel
theorem dX7_judge_65 : decode cX7_judge 65 = .ok (.istore 5, 2) := by decide +kernel
theorem dX7_judge_67 : decode cX7_judge 67 = .ok (.iload 5, 2) := by decide +kernel
theorem dX7_judge_69 : decode cX7_judge 69 = .ok (.iload 4, 2) := by decide +kernel
theorem dX7_judge_71 : decode cX7_judge 71 = .ok (.if_icmp .ge 56, 3) := by decide +kernel
theorem dX7_judge_74 : decode cX7_judge 74 = .ok (.iload 5, 2) := by decide +kernel
theorem dX7_judge_76 : decode cX7_judge 76 = .ok (.aload_n 3, 1) := by decide +kernel
theorem dX7_judge_77 : decode cX7_judge 77 = .ok (.getfield 248, 3) := by decide +kernel
theorem dX7_judge_80 : decode cX7_judge 80 = .ok (.iload_n 2, 1) := by decide +kernel
theorem dX7_judge_81 : decode cX7_judge 81 = .ok (.isub, 1) := by decide +kernel
theorem dX7_judge_82 : decode cX7_judge 82 = .ok (.if_icmp .lt 9, 3) := by decide +kernel
theorem dX7_judge_85 : decode cX7_judge 85 = .ok (.bipush 100, 2) := by decide +kernel
theorem dX7_judge_87 : decode cX7_judge 87 = .ok (.iload 5, 2) := by decide +kernel
theorem dX7_judge_89 : decode cX7_judge 89 = .ok (.iadd, 1) := by decide +kernel
theorem dX7_judge_90 : decode cX7_judge 90 = .ok (.ireturn, 1) := by decide +kernel
theorem dX7_judge_91 : decode cX7_judge 91 = .ok (.aload_n 3, 1) := by decide +kernel
theorem dX7_judge_92 : decode cX7_judge 92 = .ok (.getfield 249, 3) := by decide +kernel
theorem dX7_judge_95 : decode cX7_judge 95 = .ok (.iload_n 2, 1) := by decide +kernel
theorem dX7_judge_96 : decode cX7_judge 96 = .ok (.iload 5, 2) := by decide +kernel
theorem dX7_judge_98 : decode cX7_judge 98 = .ok (.iadd, 1) := by decide +kernel
theorem dX7_judge_99 : decode cX7_judge 99 = .ok (.laload, 1) := by decide +kernel
theorem dX7_judge_100 : decode cX7_judge 100 = .ok (.aload_n 0, 1) := by decide +kernel
theorem dX7_judge_101 : decode cX7_judge 101 = .ok (.getfield 12, 3) := by decide +kernel
theorem dX7_judge_104 : decode cX7_judge 104 = .ok (.getfield 67, 3) := by decide +kernel
theorem dX7_judge_107 : decode cX7_judge 107 = .ok (.getfield 110, 3) := by decide +kernel
theorem dX7_judge_110 : decode cX7_judge 110 = .ok (.iload 5, 2) := by decide +kernel
theorem dX7_judge_112 : decode cX7_judge 112 = .ok (.iaload, 1) := by decide +kernel
theorem dX7_judge_113 : decode cX7_judge 113 = .ok (.i2l, 1) := by decide +kernel
theorem dX7_judge_114 : decode cX7_judge 114 = .ok (.lcmp, 1) := by decide +kernel
theorem dX7_judge_115 : decode cX7_judge 115 = .ok (.ifCond .eq 6, 3) := by decide +kernel
theorem dX7_judge_118 : decode cX7_judge 118 = .ok (.iload 5, 2) := by decide +kernel
theorem dX7_judge_120 : decode cX7_judge 120 = .ok (.ireturn, 1) := by decide +kernel
theorem dX7_judge_121 : decode cX7_judge 121 = .ok (.iinc 5 1, 3) := by decide +kernel
theorem dX7_judge_124 : decode cX7_judge 124 = .ok (.goto (-57), 3) := by decide +kernel
theorem dX7_judge_127 : decode cX7_judge 127 = .ok (.bipush (-5), 2) := by decide +kernel
theorem dX7_judge_129 : decode cX7_judge 129 = .ok (.ireturn, 1) := by decide +kernel
theorem dX7_image_0 : decode cX7_image 0 = .ok (.aload_n 0, 1) := by decide +kernel
theorem dX7_image_1 : decode cX7_image 1 = .ok (.getfield 18, 3) := by decide +kernel
theorem dX7_image_4 : decode cX7_image 4 = .ok (.aload_n 0, 1) := by decide +kernel
theorem dX7_image_5 : decode cX7_image 5 = .ok (.getfield 12, 3) := by decide +kernel
theorem dX7_image_8 : decode cX7_image 8 = .ok (.invokevirtual 183, 3) := by decide +kernel
theorem dX7_image_11 : decode cX7_image 11 = .ok (.aload_n 0, 1) := by decide +kernel
theorem dX7_image_12 : decode cX7_image 12 = .ok (.iconst 1, 1) := by decide +kernel
theorem dX7_image_13 : decode cX7_image 13 = .ok (.putfield 38, 3) := by decide +kernel
theorem dX7_image_16 : decode cX7_image 16 = .ok (.aload_n 0, 1) := by decide +kernel
theorem dX7_image_17 : decode cX7_image 17 = .ok (.getfield 18, 3) := by decide +kernel
theorem dX7_image_20 : decode cX7_image 20 = .ok (.getfield 67, 3) := by decide +kernel
theorem dX7_image_23 : decode cX7_image 23 = .ok (.getfield 71, 3) := by decide +kernel
theorem dX7_image_26 : decode cX7_image 26 = .ok (.ireturn, 1) := by decide +kernel
theorem dX7_undo_0 : decode cX7_undo 0 = .ok (.aload_n 0, 1) := by decide +kernel
theorem dX7_undo_1 : decode cX7_undo 1 = .ok (.getfield 38, 3) := by decide +kernel
theorem dX7_undo_4 : decode cX7_undo 4 = .ok (.ifCond .ne 6, 3) := by decide +kernel
theorem dX7_undo_7 : decode cX7_undo 7 = .ok (.bipush (-3), 2) := by decide +kernel
theorem dX7_undo_9 : decode cX7_undo 9 = .ok (.ireturn, 1) := by decide +kernel
theorem dX7_undo_10 : decode cX7_undo 10 = .ok (.aload_n 0, 1) := by decide +kernel
theorem dX7_undo_11 : decode cX7_undo 11 = .ok (.getfield 12, 3) := by decide +kernel
theorem dX7_undo_14 : decode cX7_undo 14 = .ok (.aload_n 0, 1) := by decide +kernel
theorem dX7_undo_15 : decode cX7_undo 15 = .ok (.getfield 18, 3) := by decide +kernel
theorem dX7_undo_18 : decode cX7_undo 18 = .ok (.invokevirtual 183, 3) := by decide +kernel
theorem dX7_undo_21 : decode cX7_undo 21 = .ok (.aload_n 0, 1) := by decide +kernel
theorem dX7_undo_22 : decode cX7_undo 22 = .ok (.getfield 12, 3) := by decide +kernel
theorem dX7_undo_25 : decode cX7_undo 25 = .ok (.getfield 67, 3) := by decide +kernel
theorem dX7_undo_28 : decode cX7_undo 28 = .ok (.getfield 71, 3) := by decide +kernel
theorem dX7_undo_31 : decode cX7_undo 31 = .ok (.ireturn, 1) := by decide +kernel
theorem dX7_count_0 : decode cX7_count 0 = .ok (.iload_n 1, 1) := by decide +kernel
theorem dX7_count_1 : decode cX7_count 1 = .ok (.tableswitch 102 0 5 #[39, 50, 61, 72, 83, 94], 39) := by decide +kernel
theorem dX7_count_40 : decode cX7_count 40 = .ok (.aload_n 0, 1) := by decide +kernel
theorem dX7_count_41 : decode cX7_count 41 = .ok (.getfield 12, 3) := by decide +kernel
theorem dX7_count_44 : decode cX7_count 44 = .ok (.getfield 67, 3) := by decide +kernel
theorem dX7_count_47 : decode cX7_count 47 = .ok (.getfield 71, 3) := by decide +kernel
theorem dX7_count_50 : decode cX7_count 50 = .ok (.ireturn, 1) := by decide +kernel
theorem dX7_count_51 : decode cX7_count 51 = .ok (.aload_n 0, 1) := by decide +kernel
theorem dX7_count_52 : decode cX7_count 52 = .ok (.getfield 12, 3) := by decide +kernel
theorem dX7_count_55 : decode cX7_count 55 = .ok (.getfield 67, 3) := by decide +kernel
theorem dX7_count_58 : decode cX7_count 58 = .ok (.invokevirtual 187, 3) := by decide +kernel
theorem dX7_count_61 : decode cX7_count 61 = .ok (.ireturn, 1) := by decide +kernel
theorem dX7_count_62 : decode cX7_count 62 = .ok (.aload_n 0, 1) := by decide +kernel
theorem dX7_count_63 : decode cX7_count 63 = .ok (.getfield 12, 3) := by decide +kernel
theorem dX7_count_66 : decode cX7_count 66 = .ok (.getfield 199, 3) := by decide +kernel
theorem dX7_count_69 : decode cX7_count 69 = .ok (.getfield 228, 3) := by decide +kernel
theorem dX7_count_72 : decode cX7_count 72 = .ok (.ireturn, 1) := by decide +kernel
theorem dX7_count_73 : decode cX7_count 73 = .ok (.aload_n 0, 1) := by decide +kernel
theorem dX7_count_74 : decode cX7_count 74 = .ok (.getfield 12, 3) := by decide +kernel
theorem dX7_count_77 : decode cX7_count 77 = .ok (.getfield 225, 3) := by decide +kernel
theorem dX7_count_80 : decode cX7_count 80 = .ok (.getfield 228, 3) := by decide +kernel
theorem dX7_count_83 : decode cX7_count 83 = .ok (.ireturn, 1) := by decide +kernel
theorem dX7_count_84 : decode cX7_count 84 = .ok (.aload_n 0, 1) := by decide +kernel
theorem dX7_count_85 : decode cX7_count 85 = .ok (.getfield 12, 3) := by decide +kernel
theorem dX7_count_88 : decode cX7_count 88 = .ok (.getfield 239, 3) := by decide +kernel
theorem dX7_count_91 : decode cX7_count 91 = .ok (.getfield 228, 3) := by decide +kernel
theorem dX7_count_94 : decode cX7_count 94 = .ok (.ireturn, 1) := by decide +kernel
theorem dX7_count_95 : decode cX7_count 95 = .ok (.aload_n 0, 1) := by decide +kernel
theorem dX7_count_96 : decode cX7_count 96 = .ok (.getfield 27, 3) := by decide +kernel
theorem dX7_count_99 : decode cX7_count 99 = .ok (.getfield 57, 3) := by decide +kernel
theorem dX7_count_102 : decode cX7_count 102 = .ok (.ireturn, 1) := by decide +kernel
theorem dX7_count_103 : decode cX7_count 103 = .ok (.bipush (-2), 2) := by decide +kernel
theorem dX7_count_105 : decode cX7_count 105 = .ok (.ireturn, 1) := by decide +kernel
theorem dX7_tape_0 : decode cX7_tape 0 = .ok (.aload_n 0, 1) := by decide +kernel
theorem dX7_tape_1 : decode cX7_tape 1 = .ok (.iload_n 1, 1) := by decide +kernel
theorem dX7_tape_2 : decode cX7_tape 2 = .ok (.invokevirtual 242, 3) := by decide +kernel
theorem dX7_tape_5 : decode cX7_tape 5 = .ok (.ifCond .ne 5, 3) := by decide +kernel
theorem dX7_tape_8 : decode cX7_tape 8 = .ok (.iconst (-1), 1) := by decide +kernel
theorem dX7_tape_9 : decode cX7_tape 9 = .ok (.ireturn, 1) := by decide +kernel
theorem dX7_tape_10 : decode cX7_tape 10 = .ok (.iload_n 2, 1) := by decide +kernel
theorem dX7_tape_11 : decode cX7_tape 11 = .ok (.iconst (-1), 1) := by decide +kernel
theorem dX7_tape_12 : decode cX7_tape 12 = .ok (.if_icmp .ne 16, 3) := by decide +kernel
theorem dX7_tape_15 : decode cX7_tape 15 = .ok (.aload_n 0, 1) := by decide +kernel
theorem dX7_tape_16 : decode cX7_tape 16 = .ok (.getfield 33, 3) := by decide +kernel
theorem dX7_tape_19 : decode cX7_tape 19 = .ok (.iload_n 1, 1) := by decide +kernel
theorem dX7_tape_20 : decode cX7_tape 20 = .ok (.aaload, 1) := by decide +kernel
theorem dX7_tape_21 : decode cX7_tape 21 = .ok (.iconst (-1), 1) := by decide +kernel
theorem dX7_tape_22 : decode cX7_tape 22 = .ok (.iconst 0, 1) := by decide +kernel
theorem dX7_tape_23 : decode cX7_tape 23 = .ok (.invokevirtual 253, 3) := by decide +kernel
theorem dX7_tape_26 : decode cX7_tape 26 = .ok (.iconst 1, 1) := by decide +kernel
theorem dX7_tape_27 : decode cX7_tape 27 = .ok (.ireturn, 1) := by decide +kernel
theorem dX7_tape_28 : decode cX7_tape 28 = .ok (.iload_n 2, 1) := by decide +kernel
theorem dX7_tape_29 : decode cX7_tape 29 = .ok (.ifCond .lt 14, 3) := by decide +kernel
theorem dX7_tape_32 : decode cX7_tape 32 = .ok (.iload_n 2, 1) := by decide +kernel
theorem dX7_tape_33 : decode cX7_tape 33 = .ok (.iconst 4, 1) := by decide +kernel
theorem dX7_tape_34 : decode cX7_tape 34 = .ok (.if_icmp .gt 9, 3) := by decide +kernel
theorem dX7_tape_37 : decode cX7_tape 37 = .ok (.iload_n 3, 1) := by decide +kernel
theorem dX7_tape_38 : decode cX7_tape 38 = .ok (.bipush 60, 2) := by decide +kernel
theorem dX7_tape_40 : decode cX7_tape 40 = .ok (.if_icmp .le 6, 3) := by decide +kernel
theorem dX7_tape_43 : decode cX7_tape 43 = .ok (.bipush (-2), 2) := by decide +kernel
theorem dX7_tape_45 : decode cX7_tape 45 = .ok (.ireturn, 1) := by decide +kernel
theorem dX7_tape_46 : decode cX7_tape 46 = .ok (.iload_n 3, 1) := by decide +kernel
theorem dX7_tape_47 : decode cX7_tape 47 = .ok (.ifCond .ge 6, 3) := by decide +kernel
theorem dX7_tape_50 : decode cX7_tape 50 = .ok (.bipush (-14), 2) := by decide +kernel
theorem dX7_tape_52 : decode cX7_tape 52 = .ok (.ireturn, 1) := by decide +kernel
theorem dX7_tape_53 : decode cX7_tape 53 = .ok (.aload_n 0, 1) := by decide +kernel
theorem dX7_tape_54 : decode cX7_tape 54 = .ok (.getfield 33, 3) := by decide +kernel
theorem dX7_tape_57 : decode cX7_tape 57 = .ok (.iload_n 1, 1) := by decide +kernel
theorem dX7_tape_58 : decode cX7_tape 58 = .ok (.aaload, 1) := by decide +kernel
theorem dX7_tape_59 : decode cX7_tape 59 = .ok (.iload_n 2, 1) := by decide +kernel
theorem dX7_tape_60 : decode cX7_tape 60 = .ok (.iload_n 3, 1) := by decide +kernel
theorem dX7_tape_61 : decode cX7_tape 61 = .ok (.invokevirtual 253, 3) := by decide +kernel
theorem dX7_tape_64 : decode cX7_tape 64 = .ok (.iconst 1, 1) := by decide +kernel
theorem dX7_tape_65 : decode cX7_tape 65 = .ok (.ireturn, 1) := by decide +kernel
theorem dX7_item_0 : decode cX7_item 0 = .ok (.aload_n 0, 1) := by decide +kernel
theorem dX7_item_1 : decode cX7_item 1 = .ok (.iload_n 1, 1) := by decide +kernel
theorem dX7_item_2 : decode cX7_item 2 = .ok (.invokevirtual 242, 3) := by decide +kernel
theorem dX7_item_5 : decode cX7_item 5 = .ok (.ifCond .ne 5, 3) := by decide +kernel
theorem dX7_item_8 : decode cX7_item 8 = .ok (.iconst (-1), 1) := by decide +kernel
theorem dX7_item_9 : decode cX7_item 9 = .ok (.ireturn, 1) := by decide +kernel
theorem dX7_item_10 : decode cX7_item 10 = .ok (.aload_n 0, 1) := by decide +kernel
theorem dX7_item_11 : decode cX7_item 11 = .ok (.getfield 33, 3) := by decide +kernel
theorem dX7_item_14 : decode cX7_item 14 = .ok (.iload_n 1, 1) := by decide +kernel
theorem dX7_item_15 : decode cX7_item 15 = .ok (.aaload, 1) := by decide +kernel
theorem dX7_item_16 : decode cX7_item 16 = .ok (.astore 5, 2) := by decide +kernel
theorem dX7_item_18 : decode cX7_item 18 = .ok (.aload 5, 2) := by decide +kernel
theorem dX7_item_20 : decode cX7_item 20 = .ok (.getfield 245, 3) := by decide +kernel
theorem dX7_item_23 : decode cX7_item 23 = .ok (.iconst (-1), 1) := by decide +kernel
theorem dX7_item_24 : decode cX7_item 24 = .ok (.if_icmp .ne 6, 3) := by decide +kernel
theorem dX7_item_27 : decode cX7_item 27 = .ok (.bipush (-11), 2) := by decide +kernel
theorem dX7_item_29 : decode cX7_item 29 = .ok (.ireturn, 1) := by decide +kernel
theorem dX7_item_30 : decode cX7_item 30 = .ok (.iload_n 2, 1) := by decide +kernel
theorem dX7_item_31 : decode cX7_item 31 = .ok (.ifCond .lt 12, 3) := by decide +kernel
theorem dX7_item_34 : decode cX7_item 34 = .ok (.iload_n 2, 1) := by decide +kernel
theorem dX7_item_35 : decode cX7_item 35 = .ok (.aload 5, 2) := by decide +kernel
theorem dX7_item_37 : decode cX7_item 37 = .ok (.getfield 248, 3) := by decide +kernel
theorem dX7_item_40 : decode cX7_item 40 = .ok (.if_icmp .lt 6, 3) := by decide +kernel
theorem dX7_item_43 : decode cX7_item 43 = .ok (.bipush (-13), 2) := by decide +kernel
theorem dX7_item_45 : decode cX7_item 45 = .ok (.ireturn, 1) := by decide +kernel
theorem dX7_item_46 : decode cX7_item 46 = .ok (.aload 5, 2) := by decide +kernel
theorem dX7_item_48 : decode cX7_item 48 = .ok (.getfield 249, 3) := by decide +kernel
theorem dX7_item_51 : decode cX7_item 51 = .ok (.iload_n 2, 1) := by decide +kernel
theorem dX7_item_52 : decode cX7_item 52 = .ok (.aload 5, 2) := by decide +kernel
theorem dX7_item_54 : decode cX7_item 54 = .ok (.lload_n 3, 1) := by decide +kernel
theorem dX7_item_55 : decode cX7_item 55 = .ok (.invokevirtual 256, 3) := by decide +kernel
theorem dX7_item_58 : decode cX7_item 58 = .ok (.lastore, 1) := by decide +kernel
theorem dX7_item_59 : decode cX7_item 59 = .ok (.iconst 1, 1) := by decide +kernel
theorem dX7_item_60 : decode cX7_item 60 = .ok (.ireturn, 1) := by decide +kernel
theorem dX7_read_0 : decode cX7_read 0 = .ok (.aload_n 0, 1) := by decide +kernel
theorem dX7_read_1 : decode cX7_read 1 = .ok (.iload_n 1, 1) := by decide +kernel
theorem dX7_read_2 : decode cX7_read 2 = .ok (.invokevirtual 242, 3) := by decide +kernel
theorem dX7_read_5 : decode cX7_read 5 = .ok (.ifCond .ne 7, 3) := by decide +kernel
theorem dX7_read_8 : decode cX7_read 8 = .ok (.ldc2_w 213, 3) := by decide +kernel
theorem dX7_read_11 : decode cX7_read 11 = .ok (.lreturn, 1) := by decide +kernel
theorem dX7_read_12 : decode cX7_read 12 = .ok (.aload_n 0, 1) := by decide +kernel
theorem dX7_read_13 : decode cX7_read 13 = .ok (.getfield 33, 3) := by decide +kernel
theorem dX7_read_16 : decode cX7_read 16 = .ok (.iload_n 1, 1) := by decide +kernel
theorem dX7_read_17 : decode cX7_read 17 = .ok (.aaload, 1) := by decide +kernel
theorem dX7_read_18 : decode cX7_read 18 = .ok (.astore_n 3, 1) := by decide +kernel
theorem dX7_read_19 : decode cX7_read 19 = .ok (.iload_n 2, 1) := by decide +kernel
theorem dX7_read_20 : decode cX7_read 20 = .ok (.ifCond .lt 11, 3) := by decide +kernel
theorem dX7_read_23 : decode cX7_read 23 = .ok (.iload_n 2, 1) := by decide +kernel
theorem dX7_read_24 : decode cX7_read 24 = .ok (.aload_n 3, 1) := by decide +kernel
theorem dX7_read_25 : decode cX7_read 25 = .ok (.getfield 248, 3) := by decide +kernel
theorem dX7_read_28 : decode cX7_read 28 = .ok (.if_icmp .lt 9, 3) := by decide +kernel
theorem dX7_read_31 : decode cX7_read 31 = .ok (.ldc2_w 213, 3) := by decide +kernel
theorem dX7_read_34 : decode cX7_read 34 = .ok (.goto 9, 3) := by decide +kernel
theorem dX7_read_37 : decode cX7_read 37 = .ok (.aload_n 3, 1) := by decide +kernel
theorem dX7_read_38 : decode cX7_read 38 = .ok (.getfield 249, 3) := by decide +kernel
theorem dX7_read_41 : decode cX7_read 41 = .ok (.iload_n 2, 1) := by decide +kernel
theorem dX7_read_42 : decode cX7_read 42 = .ok (.laload, 1) := by decide +kernel
theorem dX7_read_43 : decode cX7_read 43 = .ok (.lreturn, 1) := by decide +kernel
theorem dX7_shift_0 : decode cX7_shift 0 = .ok (.aload_n 0, 1) := by decide +kernel
theorem dX7_shift_1 : decode cX7_shift 1 = .ok (.iload_n 1, 1) := by decide +kernel
theorem dX7_shift_2 : decode cX7_shift 2 = .ok (.invokevirtual 242, 3) := by decide +kernel
theorem dX7_shift_5 : decode cX7_shift 5 = .ok (.ifCond .eq 11, 3) := by decide +kernel
theorem dX7_shift_8 : decode cX7_shift 8 = .ok (.aload_n 0, 1) := by decide +kernel
theorem dX7_shift_9 : decode cX7_shift 9 = .ok (.iload_n 3, 1) := by decide +kernel
theorem dX7_shift_10 : decode cX7_shift 10 = .ok (.invokevirtual 242, 3) := by decide +kernel
theorem dX7_shift_13 : decode cX7_shift 13 = .ok (.ifCond .ne 5, 3) := by decide +kernel
theorem dX7_shift_16 : decode cX7_shift 16 = .ok (.iconst (-1), 1) := by decide +kernel
theorem dX7_shift_17 : decode cX7_shift 17 = .ok (.ireturn, 1) := by decide +kernel
theorem dX7_shift_18 : decode cX7_shift 18 = .ok (.aload_n 0, 1) := by decide +kernel
theorem dX7_shift_19 : decode cX7_shift 19 = .ok (.getfield 33, 3) := by decide +kernel
theorem dX7_shift_22 : decode cX7_shift 22 = .ok (.iload_n 1, 1) := by decide +kernel
theorem dX7_shift_23 : decode cX7_shift 23 = .ok (.aaload, 1) := by decide +kernel
theorem dX7_shift_24 : decode cX7_shift 24 = .ok (.astore 6, 2) := by decide +kernel
theorem dX7_shift_26 : decode cX7_shift 26 = .ok (.aload_n 0, 1) := by decide +kernel
theorem dX7_shift_27 : decode cX7_shift 27 = .ok (.getfield 33, 3) := by decide +kernel
theorem dX7_shift_30 : decode cX7_shift 30 = .ok (.iload_n 3, 1) := by decide +kernel
theorem dX7_shift_31 : decode cX7_shift 31 = .ok (.aaload, 1) := by decide +kernel
theorem dX7_shift_32 : decode cX7_shift 32 = .ok (.astore 7, 2) := by decide +kernel
theorem dX7_shift_34 : decode cX7_shift 34 = .ok (.aload 6, 2) := by decide +kernel
theorem dX7_shift_36 : decode cX7_shift 36 = .ok (.getfield 245, 3) := by decide +kernel
theorem dX7_shift_39 : decode cX7_shift 39 = .ok (.iconst (-1), 1) := by decide +kernel
theorem dX7_shift_40 : decode cX7_shift 40 = .ok (.if_icmp .eq 12, 3) := by decide +kernel
theorem dX7_shift_43 : decode cX7_shift 43 = .ok (.aload 7, 2) := by decide +kernel
theorem dX7_shift_45 : decode cX7_shift 45 = .ok (.getfield 245, 3) := by decide +kernel
theorem dX7_shift_48 : decode cX7_shift 48 = .ok (.iconst (-1), 1) := by decide +kernel
theorem dX7_shift_49 : decode cX7_shift 49 = .ok (.if_icmp .ne 6, 3) := by decide +kernel
theorem dX7_shift_52 : decode cX7_shift 52 = .ok (.bipush (-11), 2) := by decide +kernel
theorem dX7_shift_54 : decode cX7_shift 54 = .ok (.ireturn, 1) := by decide +kernel
theorem dX7_shift_55 : decode cX7_shift 55 = .ok (.aload 6, 2) := by decide +kernel
theorem dX7_shift_57 : decode cX7_shift 57 = .ok (.getfield 245, 3) := by decide +kernel
theorem dX7_shift_60 : decode cX7_shift 60 = .ok (.aload 7, 2) := by decide +kernel
theorem dX7_shift_62 : decode cX7_shift 62 = .ok (.getfield 245, 3) := by decide +kernel
theorem dX7_shift_65 : decode cX7_shift 65 = .ok (.if_icmp .eq 6, 3) := by decide +kernel
theorem dX7_shift_68 : decode cX7_shift 68 = .ok (.bipush (-12), 2) := by decide +kernel
theorem dX7_shift_70 : decode cX7_shift 70 = .ok (.ireturn, 1) := by decide +kernel
theorem dX7_shift_71 : decode cX7_shift 71 = .ok (.iload 5, 2) := by decide +kernel
theorem dX7_shift_73 : decode cX7_shift 73 = .ok (.ifCond .lt 37, 3) := by decide +kernel
theorem dX7_shift_76 : decode cX7_shift 76 = .ok (.iload_n 2, 1) := by decide +kernel
theorem dX7_shift_77 : decode cX7_shift 77 = .ok (.ifCond .lt 33, 3) := by decide +kernel
theorem dX7_shift_80 : decode cX7_shift 80 = .ok (.iload 4, 2) := by decide +kernel
theorem dX7_shift_82 : decode cX7_shift 82 = .ok (.ifCond .lt 28, 3) := by decide +kernel
theorem dX7_shift_85 : decode cX7_shift 85 = .ok (.iload 5, 2) := by decide +kernel
theorem dX7_shift_87 : decode cX7_shift 87 = .ok (.aload 6, 2) := by decide +kernel
theorem dX7_shift_89 : decode cX7_shift 89 = .ok (.getfield 248, 3) := by decide +kernel
theorem dX7_shift_92 : decode cX7_shift 92 = .ok (.iload_n 2, 1) := by decide +kernel
theorem dX7_shift_93 : decode cX7_shift 93 = .ok (.isub, 1) := by decide +kernel
theorem dX7_shift_94 : decode cX7_shift 94 = .ok (.if_icmp .gt 16, 3) := by decide +kernel
theorem dX7_shift_97 : decode cX7_shift 97 = .ok (.iload 5, 2) := by decide +kernel
theorem dX7_shift_99 : decode cX7_shift 99 = .ok (.aload 7, 2) := by decide +kernel
theorem dX7_shift_101 : decode cX7_shift 101 = .ok (.getfield 248, 3) := by decide +kernel
theorem dX7_shift_104 : decode cX7_shift 104 = .ok (.iload 4, 2) := by decide +kernel
theorem dX7_shift_106 : decode cX7_shift 106 = .ok (.isub, 1) := by decide +kernel
theorem dX7_shift_107 : decode cX7_shift 107 = .ok (.if_icmp .le 6, 3) := by decide +kernel
theorem dX7_shift_110 : decode cX7_shift 110 = .ok (.bipush (-13), 2) := by decide +kernel
theorem dX7_shift_112 : decode cX7_shift 112 = .ok (.ireturn, 1) := by decide +kernel
theorem dX7_shift_113 : decode cX7_shift 113 = .ok (.aload 6, 2) := by decide +kernel
theorem dX7_shift_115 : decode cX7_shift 115 = .ok (.getfield 249, 3) := by decide +kernel
theorem dX7_shift_118 : decode cX7_shift 118 = .ok (.iload_n 2, 1) := by decide +kernel
theorem dX7_shift_119 : decode cX7_shift 119 = .ok (.aload 7, 2) := by decide +kernel
theorem dX7_shift_121 : decode cX7_shift 121 = .ok (.getfield 249, 3) := by decide +kernel
theorem dX7_shift_124 : decode cX7_shift 124 = .ok (.iload 4, 2) := by decide +kernel
theorem dX7_shift_126 : decode cX7_shift 126 = .ok (.iload 5, 2) := by decide +kernel
theorem dX7_shift_128 : decode cX7_shift 128 = .ok (.invokestatic 260, 3) := by decide +kernel
theorem dX7_shift_131 : decode cX7_shift 131 = .ok (.iload 5, 2) := by decide +kernel
theorem dX7_shift_133 : decode cX7_shift 133 = .ok (.ireturn, 1) := by decide +kernel
theorem dX7_isArm_0 : decode cX7_isArm 0 = .ok (.iload_n 1, 1) := by decide +kernel
theorem dX7_isArm_1 : decode cX7_isArm 1 = .ok (.ifCond .lt 18, 3) := by decide +kernel
theorem dX7_isArm_4 : decode cX7_isArm 4 = .ok (.iload_n 1, 1) := by decide +kernel
theorem dX7_isArm_5 : decode cX7_isArm 5 = .ok (.aload_n 0, 1) := by decide +kernel
theorem dX7_isArm_6 : decode cX7_isArm 6 = .ok (.getfield 12, 3) := by decide +kernel
theorem dX7_isArm_9 : decode cX7_isArm 9 = .ok (.getfield 42, 3) := by decide +kernel
theorem dX7_isArm_12 : decode cX7_isArm 12 = .ok (.if_icmp .ge 7, 3) := by decide +kernel
theorem dX7_isArm_15 : decode cX7_isArm 15 = .ok (.iconst 1, 1) := by decide +kernel
theorem dX7_isArm_16 : decode cX7_isArm 16 = .ok (.goto 4, 3) := by decide +kernel
theorem dX7_isArm_19 : decode cX7_isArm 19 = .ok (.iconst 0, 1) := by decide +kernel
theorem dX7_isArm_20 : decode cX7_isArm 20 = .ok (.ireturn, 1) := by decide +kernel
theorem dX7_isTape_0 : decode cX7_isTape 0 = .ok (.iload_n 1, 1) := by decide +kernel
theorem dX7_isTape_1 : decode cX7_isTape 1 = .ok (.ifCond .lt 16, 3) := by decide +kernel
theorem dX7_isTape_4 : decode cX7_isTape 4 = .ok (.iload_n 1, 1) := by decide +kernel
theorem dX7_isTape_5 : decode cX7_isTape 5 = .ok (.aload_n 0, 1) := by decide +kernel
theorem dX7_isTape_6 : decode cX7_isTape 6 = .ok (.getfield 33, 3) := by decide +kernel
theorem dX7_isTape_9 : decode cX7_isTape 9 = .ok (.arraylength, 1) := by decide +kernel
theorem dX7_isTape_10 : decode cX7_isTape 10 = .ok (.if_icmp .ge 7, 3) := by decide +kernel
theorem dX7_isTape_13 : decode cX7_isTape 13 = .ok (.iconst 1, 1) := by decide +kernel
theorem dX7_isTape_14 : decode cX7_isTape 14 = .ok (.goto 4, 3) := by decide +kernel
theorem dX7_isTape_17 : decode cX7_isTape 17 = .ok (.iconst 0, 1) := by decide +kernel
theorem dX7_isTape_18 : decode cX7_isTape 18 = .ok (.ireturn, 1) := by decide +kernel
theorem dX7_roundsTillOver_0 : decode cX7_roundsTillOver 0 = .ok (.aload_n 0, 1) := by decide +kernel
theorem dX7_roundsTillOver_1 : decode cX7_roundsTillOver 1 = .ok (.getfield 21, 3) := by decide +kernel
theorem dX7_roundsTillOver_4 : decode cX7_roundsTillOver 4 = .ok (.aload_n 0, 1) := by decide +kernel
theorem dX7_roundsTillOver_5 : decode cX7_roundsTillOver 5 = .ok (.getfield 12, 3) := by decide +kernel
theorem dX7_roundsTillOver_8 : decode cX7_roundsTillOver 8 = .ok (.invokevirtual 183, 3) := by decide +kernel
theorem dX7_roundsTillOver_11 : decode cX7_roundsTillOver 11 = .ok (.aload_n 0, 1) := by decide +kernel
theorem dX7_roundsTillOver_12 : decode cX7_roundsTillOver 12 = .ok (.getfield 21, 3) := by decide +kernel
theorem dX7_roundsTillOver_15 : decode cX7_roundsTillOver 15 = .ok (.iload_n 1, 1) := by decide +kernel
theorem dX7_roundsTillOver_16 : decode cX7_roundsTillOver 16 = .ok (.invokevirtual 46, 3) := by decide +kernel
theorem dX7_roundsTillOver_19 : decode cX7_roundsTillOver 19 = .ok (.iconst 0, 1) := by decide +kernel
theorem dX7_roundsTillOver_20 : decode cX7_roundsTillOver 20 = .ok (.istore_n 2, 1) := by decide +kernel
theorem dX7_roundsTillOver_21 : decode cX7_roundsTillOver 21 = .ok (.iload_n 2, 1) := by decide +kernel
theorem dX7_roundsTillOver_22 : decode cX7_roundsTillOver 22 = .ok (.sipush 300, 3) := by decide +kernel
theorem dX7_roundsTillOver_25 : decode cX7_roundsTillOver 25 = .ok (.if_icmp .gt 28, 3) := by decide +kernel
theorem dX7_roundsTillOver_28 : decode cX7_roundsTillOver 28 = .ok (.aload_n 0, 1) := by decide +kernel
theorem dX7_roundsTillOver_29 : decode cX7_roundsTillOver 29 = .ok (.getfield 21, 3) := by decide +kernel
theorem dX7_roundsTillOver_32 : decode cX7_roundsTillOver 32 = .ok (.invokevirtual 162, 3) := by decide +kernel
theorem dX7_roundsTillOver_35 : decode cX7_roundsTillOver 35 = .ok (.ifCond .eq 5, 3) := by decide +kernel
theorem dX7_roundsTillOver_38 : decode cX7_roundsTillOver 38 = .ok (.iload_n 2, 1) := by decide +kernel
theorem dX7_roundsTillOver_39 : decode cX7_roundsTillOver 39 = .ok (.ireturn, 1) := by decide +kernel
theorem dX7_roundsTillOver_40 : decode cX7_roundsTillOver 40 = .ok (.aload_n 0, 1) := by decide +kernel
theorem dX7_roundsTillOver_41 : decode cX7_roundsTillOver 41 = .ok (.getfield 21, 3) := by decide +kernel
theorem dX7_roundsTillOver_44 : decode cX7_roundsTillOver 44 = .ok (.invokevirtual 266, 3) := by decide +kernel
theorem dX7_roundsTillOver_47 : decode cX7_roundsTillOver 47 = .ok (.iinc 2 1, 3) := by decide +kernel
theorem dX7_roundsTillOver_50 : decode cX7_roundsTillOver 50 = .ok (.goto (-29), 3) := by decide +kernel
theorem dX7_roundsTillOver_53 : decode cX7_roundsTillOver 53 = .ok (.bipush (-5), 2) := by decide +kernel
theorem dX7_roundsTillOver_55 : decode cX7_roundsTillOver 55 = .ok (.ireturn, 1) := by decide +kernel
theorem dX7_bestArms_0 : decode cX7_bestArms 0 = .ok (.bipush (-5), 2) := by decide +kernel
theorem dX7_bestArms_2 : decode cX7_bestArms 2 = .ok (.istore_n 1, 1) := by decide +kernel
theorem dX7_bestArms_3 : decode cX7_bestArms 3 = .ok (.sipush 301, 3) := by decide +kernel
theorem dX7_bestArms_6 : decode cX7_bestArms 6 = .ok (.istore_n 2, 1) := by decide +kernel
theorem dX7_bestArms_7 : decode cX7_bestArms 7 = .ok (.iconst 1, 1) := by decide +kernel
theorem dX7_bestArms_8 : decode cX7_bestArms 8 = .ok (.istore_n 3, 1) := by decide +kernel
theorem dX7_bestArms_9 : decode cX7_bestArms 9 = .ok (.iload_n 3, 1) := by decide +kernel
theorem dX7_bestArms_10 : decode cX7_bestArms 10 = .ok (.iconst 4, 1) := by decide +kernel
theorem dX7_bestArms_11 : decode cX7_bestArms 11 = .ok (.if_icmp .gt 34, 3) := by decide +kernel
theorem dX7_bestArms_14 : decode cX7_bestArms 14 = .ok (.aload_n 0, 1) := by decide +kernel
theorem dX7_bestArms_15 : decode cX7_bestArms 15 = .ok (.iload_n 3, 1) := by decide +kernel
theorem dX7_bestArms_16 : decode cX7_bestArms 16 = .ok (.invokevirtual 166, 3) := by decide +kernel
theorem dX7_bestArms_19 : decode cX7_bestArms 19 = .ok (.istore 4, 2) := by decide +kernel
theorem dX7_bestArms_21 : decode cX7_bestArms 21 = .ok (.iload 4, 2) := by decide +kernel
theorem dX7_bestArms_23 : decode cX7_bestArms 23 = .ok (.bipush (-5), 2) := by decide +kernel
theorem dX7_bestArms_25 : decode cX7_bestArms 25 = .ok (.if_icmp .eq 14, 3) := by decide +kernel
theorem dX7_bestArms_28 : decode cX7_bestArms 28 = .ok (.iload 4, 2) := by decide +kernel
theorem dX7_bestArms_30 : decode cX7_bestArms 30 = .ok (.iload_n 2, 1) := by decide +kernel
theorem dX7_bestArms_31 : decode cX7_bestArms 31 = .ok (.if_icmp .ge 8, 3) := by decide +kernel
theorem dX7_bestArms_34 : decode cX7_bestArms 34 = .ok (.iload 4, 2) := by decide +kernel
theorem dX7_bestArms_36 : decode cX7_bestArms 36 = .ok (.istore_n 2, 1) := by decide +kernel
theorem dX7_bestArms_37 : decode cX7_bestArms 37 = .ok (.iload_n 3, 1) := by decide +kernel
theorem dX7_bestArms_38 : decode cX7_bestArms 38 = .ok (.istore_n 1, 1) := by decide +kernel
theorem dX7_bestArms_39 : decode cX7_bestArms 39 = .ok (.iinc 3 1, 3) := by decide +kernel
theorem dX7_bestArms_42 : decode cX7_bestArms 42 = .ok (.goto (-33), 3) := by decide +kernel
theorem dX7_bestArms_45 : decode cX7_bestArms 45 = .ok (.iload_n 1, 1) := by decide +kernel
theorem dX7_bestArms_46 : decode cX7_bestArms 46 = .ok (.ireturn, 1) := by decide +kernel
theorem dX7_isAsSeen_0 : decode cX7_isAsSeen 0 = .ok (.aload_n 0, 1) := by decide +kernel
theorem dX7_isAsSeen_1 : decode cX7_isAsSeen 1 = .ok (.getfield 21, 3) := by decide +kernel
theorem dX7_isAsSeen_4 : decode cX7_isAsSeen 4 = .ok (.aload_n 0, 1) := by decide +kernel
theorem dX7_isAsSeen_5 : decode cX7_isAsSeen 5 = .ok (.getfield 12, 3) := by decide +kernel
theorem dX7_isAsSeen_8 : decode cX7_isAsSeen 8 = .ok (.invokevirtual 183, 3) := by decide +kernel
theorem dX7_isAsSeen_11 : decode cX7_isAsSeen 11 = .ok (.aload_n 0, 1) := by decide +kernel
theorem dX7_isAsSeen_12 : decode cX7_isAsSeen 12 = .ok (.getfield 21, 3) := by decide +kernel
theorem dX7_isAsSeen_15 : decode cX7_isAsSeen 15 = .ok (.iload_n 1, 1) := by decide +kernel
theorem dX7_isAsSeen_16 : decode cX7_isAsSeen 16 = .ok (.putfield 50, 3) := by decide +kernel
theorem dX7_isAsSeen_19 : decode cX7_isAsSeen 19 = .ok (.aload_n 0, 1) := by decide +kernel
theorem dX7_isAsSeen_20 : decode cX7_isAsSeen 20 = .ok (.getfield 21, 3) := by decide +kernel
theorem dX7_isAsSeen_23 : decode cX7_isAsSeen 23 = .ok (.getfield 172, 3) := by decide +kernel
theorem dX7_isAsSeen_26 : decode cX7_isAsSeen 26 = .ok (.invokevirtual 269, 3) := by decide +kernel
theorem dX7_isAsSeen_29 : decode cX7_isAsSeen 29 = .ok (.aload_n 0, 1) := by decide +kernel
theorem dX7_isAsSeen_30 : decode cX7_isAsSeen 30 = .ok (.getfield 21, 3) := by decide +kernel
theorem dX7_isAsSeen_33 : decode cX7_isAsSeen 33 = .ok (.bipush 60, 2) := by decide +kernel
theorem dX7_isAsSeen_35 : decode cX7_isAsSeen 35 = .ok (.invokevirtual 215, 3) := by decide +kernel
theorem dX7_isAsSeen_38 : decode cX7_isAsSeen 38 = .ok (.iconst 0, 1) := by decide +kernel
theorem dX7_isAsSeen_39 : decode cX7_isAsSeen 39 = .ok (.istore_n 2, 1) := by decide +kernel
theorem dX7_isAsSeen_40 : decode cX7_isAsSeen 40 = .ok (.iload_n 2, 1) := by decide +kernel
theorem dX7_isAsSeen_41 : decode cX7_isAsSeen 41 = .ok (.aload_n 0, 1) := by decide +kernel
theorem dX7_isAsSeen_42 : decode cX7_isAsSeen 42 = .ok (.getfield 12, 3) := by decide +kernel
theorem dX7_isAsSeen_45 : decode cX7_isAsSeen 45 = .ok (.getfield 199, 3) := by decide +kernel
theorem dX7_isAsSeen_48 : decode cX7_isAsSeen 48 = .ok (.getfield 228, 3) := by decide +kernel
theorem dX7_isAsSeen_51 : decode cX7_isAsSeen 51 = .ok (.if_icmp .ge 48, 3) := by decide +kernel
theorem dX7_isAsSeen_54 : decode cX7_isAsSeen 54 = .ok (.aload_n 0, 1) := by decide +kernel
theorem dX7_isAsSeen_55 : decode cX7_isAsSeen 55 = .ok (.getfield 21, 3) := by decide +kernel
theorem dX7_isAsSeen_58 : decode cX7_isAsSeen 58 = .ok (.getfield 172, 3) := by decide +kernel
theorem dX7_isAsSeen_61 : decode cX7_isAsSeen 61 = .ok (.aload_n 0, 1) := by decide +kernel
theorem dX7_isAsSeen_62 : decode cX7_isAsSeen 62 = .ok (.getfield 12, 3) := by decide +kernel
theorem dX7_isAsSeen_65 : decode cX7_isAsSeen 65 = .ok (.getfield 199, 3) := by decide +kernel
theorem dX7_isAsSeen_68 : decode cX7_isAsSeen 68 = .ok (.getfield 232, 3) := by decide +kernel
theorem dX7_isAsSeen_71 : decode cX7_isAsSeen 71 = .ok (.iload_n 2, 1) := by decide +kernel
theorem dX7_isAsSeen_72 : decode cX7_isAsSeen 72 = .ok (.iaload, 1) := by decide +kernel
theorem dX7_isAsSeen_73 : decode cX7_isAsSeen 73 = .ok (.invokevirtual 272, 3) := by decide +kernel
theorem dX7_isAsSeen_76 : decode cX7_isAsSeen 76 = .ok (.aload_n 0, 1) := by decide +kernel
theorem dX7_isAsSeen_77 : decode cX7_isAsSeen 77 = .ok (.getfield 12, 3) := by decide +kernel
theorem dX7_isAsSeen_80 : decode cX7_isAsSeen 80 = .ok (.getfield 199, 3) := by decide +kernel
theorem dX7_isAsSeen_83 : decode cX7_isAsSeen 83 = .ok (.getfield 229, 3) := by decide +kernel
theorem dX7_isAsSeen_86 : decode cX7_isAsSeen 86 = .ok (.iload_n 2, 1) := by decide +kernel
theorem dX7_isAsSeen_87 : decode cX7_isAsSeen 87 = .ok (.iaload, 1) := by decide +kernel
theorem dX7_isAsSeen_88 : decode cX7_isAsSeen 88 = .ok (.if_icmp .eq 5, 3) := by decide +kernel
theorem dX7_isAsSeen_91 : decode cX7_isAsSeen 91 = .ok (.iconst 0, 1) := by decide +kernel
theorem dX7_isAsSeen_92 : decode cX7_isAsSeen 92 = .ok (.ireturn, 1) := by decide +kernel
theorem dX7_isAsSeen_93 : decode cX7_isAsSeen 93 = .ok (.iinc 2 1, 3) := by decide +kernel
theorem dX7_isAsSeen_96 : decode cX7_isAsSeen 96 = .ok (.goto (-56), 3) := by decide +kernel
theorem dX7_isAsSeen_99 : decode cX7_isAsSeen 99 = .ok (.iconst 1, 1) := by decide +kernel
theorem dX7_isAsSeen_100 : decode cX7_isAsSeen 100 = .ok (.ireturn, 1) := by decide +kernel
theorem dX7_lowest_0 : decode cX7_lowest 0 = .ok (.iload_n 1, 1) := by decide +kernel
theorem dX7_lowest_1 : decode cX7_lowest 1 = .ok (.istore_n 3, 1) := by decide +kernel
theorem dX7_lowest_2 : decode cX7_lowest 2 = .ok (.iload_n 0, 1) := by decide +kernel
theorem dX7_lowest_3 : decode cX7_lowest 3 = .ok (.istore 4, 2) := by decide +kernel
theorem dX7_lowest_5 : decode cX7_lowest 5 = .ok (.iconst 0, 1) := by decide +kernel
theorem dX7_lowest_6 : decode cX7_lowest 6 = .ok (.istore 5, 2) := by decide +kernel
theorem dX7_lowest_8 : decode cX7_lowest 8 = .ok (.iload 5, 2) := by decide +kernel
theorem dX7_lowest_10 : decode cX7_lowest 10 = .ok (.bipush 64, 2) := by decide +kernel
theorem dX7_lowest_12 : decode cX7_lowest 12 = .ok (.if_icmp .ge 27, 3) := by decide +kernel
theorem dX7_lowest_15 : decode cX7_lowest 15 = .ok (.iload 4, 2) := by decide +kernel
theorem dX7_lowest_17 : decode cX7_lowest 17 = .ok (.ifCond .eq 22, 3) := by decide +kernel
theorem dX7_lowest_20 : decode cX7_lowest 20 = .ok (.iload_n 3, 1) := by decide +kernel
theorem dX7_lowest_21 : decode cX7_lowest 21 = .ok (.iload 4, 2) := by decide +kernel
theorem dX7_lowest_23 : decode cX7_lowest 23 = .ok (.irem, 1) := by decide +kernel
theorem dX7_lowest_24 : decode cX7_lowest 24 = .ok (.istore 6, 2) := by decide +kernel
theorem dX7_lowest_26 : decode cX7_lowest 26 = .ok (.iload 4, 2) := by decide +kernel
theorem dX7_lowest_28 : decode cX7_lowest 28 = .ok (.istore_n 3, 1) := by decide +kernel
theorem dX7_lowest_29 : decode cX7_lowest 29 = .ok (.iload 6, 2) := by decide +kernel
theorem dX7_lowest_31 : decode cX7_lowest 31 = .ok (.istore 4, 2) := by decide +kernel
theorem dX7_lowest_33 : decode cX7_lowest 33 = .ok (.iinc 5 1, 3) := by decide +kernel
theorem dX7_lowest_36 : decode cX7_lowest 36 = .ok (.goto (-28), 3) := by decide +kernel
theorem dX7_lowest_39 : decode cX7_lowest 39 = .ok (.iload_n 3, 1) := by decide +kernel
theorem dX7_lowest_40 : decode cX7_lowest 40 = .ok (.iconst 1, 1) := by decide +kernel
theorem dX7_lowest_41 : decode cX7_lowest 41 = .ok (.if_icmp .ge 5, 3) := by decide +kernel
theorem dX7_lowest_44 : decode cX7_lowest 44 = .ok (.iconst 0, 1) := by decide +kernel
theorem dX7_lowest_45 : decode cX7_lowest 45 = .ok (.ireturn, 1) := by decide +kernel
theorem dX7_lowest_46 : decode cX7_lowest 46 = .ok (.iload_n 2, 1) := by decide +kernel
theorem dX7_lowest_47 : decode cX7_lowest 47 = .ok (.ifCond .ne 9, 3) := by decide +kernel
theorem dX7_lowest_50 : decode cX7_lowest 50 = .ok (.iload_n 0, 1) := by decide +kernel
theorem dX7_lowest_51 : decode cX7_lowest 51 = .ok (.iload_n 3, 1) := by decide +kernel
theorem dX7_lowest_52 : decode cX7_lowest 52 = .ok (.idiv, 1) := by decide +kernel
theorem dX7_lowest_53 : decode cX7_lowest 53 = .ok (.goto 6, 3) := by decide +kernel
theorem dX7_lowest_56 : decode cX7_lowest 56 = .ok (.iload_n 1, 1) := by decide +kernel
theorem dX7_lowest_57 : decode cX7_lowest 57 = .ok (.iload_n 3, 1) := by decide +kernel
theorem dX7_lowest_58 : decode cX7_lowest 58 = .ok (.idiv, 1) := by decide +kernel
theorem dX7_lowest_59 : decode cX7_lowest 59 = .ok (.ireturn, 1) := by decide +kernel
