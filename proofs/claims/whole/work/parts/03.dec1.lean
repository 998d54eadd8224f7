theorem dX0_init_0 : decode cX0_init 0 = .ok (.aload_n 0, 1) := by decide +kernel
theorem dX0_init_1 : decode cX0_init 1 = .ok (.invokespecial 3, 3) := by decide +kernel
theorem dX0_init_4 : decode cX0_init 4 = .ok (.aload_n 0, 1) := by decide +kernel
theorem dX0_init_5 : decode cX0_init 5 = .ok (.bipush 32, 2) := by decide +kernel
theorem dX0_init_7 : decode cX0_init 7 = .ok (.newarray .int, 2) := by decide +kernel
theorem dX0_init_9 : decode cX0_init 9 = .ok (.putfield 9, 3) := by decide +kernel
theorem dX0_init_12 : decode cX0_init 12 = .ok (.aload_n 0, 1) := by decide +kernel
theorem dX0_init_13 : decode cX0_init 13 = .ok (.iconst 0, 1) := by decide +kernel
theorem dX0_init_14 : decode cX0_init 14 = .ok (.putfield 15, 3) := by decide +kernel
theorem dX0_init_17 : decode cX0_init 17 = .ok (.aload_n 0, 1) := by decide +kernel
theorem dX0_init_18 : decode cX0_init 18 = .ok (.bipush (-5), 2) := by decide +kernel
theorem dX0_init_20 : decode cX0_init 20 = .ok (.putfield 19, 3) := by decide +kernel
theorem dX0_init_23 : decode cX0_init 23 = .ok (.aload_n 0, 1) := by decide +kernel
theorem dX0_init_24 : decode cX0_init 24 = .ok (.iconst 0, 1) := by decide +kernel
theorem dX0_init_25 : decode cX0_init 25 = .ok (.putfield 22, 3) := by decide +kernel
theorem dX0_init_28 : decode cX0_init 28 = .ok (.aload_n 0, 1) := by decide +kernel
theorem dX0_init_29 : decode cX0_init 29 = .ok (.iconst 0, 1) := by decide +kernel
theorem dX0_init_30 : decode cX0_init 30 = .ok (.putfield 25, 3) := by decide +kernel
theorem dX0_init_33 : decode cX0_init 33 = .ok (.return_, 1) := by decide +kernel
theorem dX0_become_0 : decode cX0_become 0 = .ok (.aload_n 1, 1) := by decide +kernel
theorem dX0_become_1 : decode cX0_become 1 = .ok (.getfield 9, 3) := by decide +kernel
theorem dX0_become_4 : decode cX0_become 4 = .ok (.iconst 0, 1) := by decide +kernel
theorem dX0_become_5 : decode cX0_become 5 = .ok (.aload_n 0, 1) := by decide +kernel
theorem dX0_become_6 : decode cX0_become 6 = .ok (.getfield 9, 3) := by decide +kernel
theorem dX0_become_9 : decode cX0_become 9 = .ok (.iconst 0, 1) := by decide +kernel
theorem dX0_become_10 : decode cX0_become 10 = .ok (.aload_n 0, 1) := by decide +kernel
theorem dX0_become_11 : decode cX0_become 11 = .ok (.getfield 9, 3) := by decide +kernel
theorem dX0_become_14 : decode cX0_become 14 = .ok (.arraylength, 1) := by decide +kernel
theorem dX0_become_15 : decode cX0_become 15 = .ok (.invokestatic 28, 3) := by decide +kernel
theorem dX0_become_18 : decode cX0_become 18 = .ok (.aload_n 0, 1) := by decide +kernel
theorem dX0_become_19 : decode cX0_become 19 = .ok (.aload_n 1, 1) := by decide +kernel
theorem dX0_become_20 : decode cX0_become 20 = .ok (.getfield 15, 3) := by decide +kernel
theorem dX0_become_23 : decode cX0_become 23 = .ok (.putfield 15, 3) := by decide +kernel
theorem dX0_become_26 : decode cX0_become 26 = .ok (.aload_n 0, 1) := by decide +kernel
theorem dX0_become_27 : decode cX0_become 27 = .ok (.aload_n 1, 1) := by decide +kernel
theorem dX0_become_28 : decode cX0_become 28 = .ok (.getfield 19, 3) := by decide +kernel
theorem dX0_become_31 : decode cX0_become 31 = .ok (.putfield 19, 3) := by decide +kernel
theorem dX0_become_34 : decode cX0_become 34 = .ok (.aload_n 0, 1) := by decide +kernel
theorem dX0_become_35 : decode cX0_become 35 = .ok (.aload_n 1, 1) := by decide +kernel
theorem dX0_become_36 : decode cX0_become 36 = .ok (.getfield 22, 3) := by decide +kernel
theorem dX0_become_39 : decode cX0_become 39 = .ok (.putfield 22, 3) := by decide +kernel
theorem dX0_become_42 : decode cX0_become 42 = .ok (.aload_n 0, 1) := by decide +kernel
theorem dX0_become_43 : decode cX0_become 43 = .ok (.aload_n 1, 1) := by decide +kernel
theorem dX0_become_44 : decode cX0_become 44 = .ok (.getfield 25, 3) := by decide +kernel
theorem dX0_become_47 : decode cX0_become 47 = .ok (.putfield 25, 3) := by decide +kernel
theorem dX0_become_50 : decode cX0_become 50 = .ok (.return_, 1) := by decide +kernel
theorem dX0_clear_0 : decode cX0_clear 0 = .ok (.aload_n 0, 1) := by decide +kernel
theorem dX0_clear_1 : decode cX0_clear 1 = .ok (.iconst 0, 1) := by decide +kernel
theorem dX0_clear_2 : decode cX0_clear 2 = .ok (.putfield 15, 3) := by decide +kernel
theorem dX0_clear_5 : decode cX0_clear 5 = .ok (.aload_n 0, 1) := by decide +kernel
theorem dX0_clear_6 : decode cX0_clear 6 = .ok (.bipush (-5), 2) := by decide +kernel
theorem dX0_clear_8 : decode cX0_clear 8 = .ok (.putfield 19, 3) := by decide +kernel
theorem dX0_clear_11 : decode cX0_clear 11 = .ok (.aload_n 0, 1) := by decide +kernel
theorem dX0_clear_12 : decode cX0_clear 12 = .ok (.iconst 0, 1) := by decide +kernel
theorem dX0_clear_13 : decode cX0_clear 13 = .ok (.putfield 22, 3) := by decide +kernel
theorem dX0_clear_16 : decode cX0_clear 16 = .ok (.aload_n 0, 1) := by decide +kernel
theorem dX0_clear_17 : decode cX0_clear 17 = .ok (.iconst 0, 1) := by decide +kernel
theorem dX0_clear_18 : decode cX0_clear 18 = .ok (.putfield 25, 3) := by decide +kernel
theorem dX0_clear_21 : decode cX0_clear 21 = .ok (.return_, 1) := by decide +kernel
theorem dX0_taskAt_0 : decode cX0_taskAt 0 = .ok (.iload_n 1, 1) := by decide +kernel
theorem dX0_taskAt_1 : decode cX0_taskAt 1 = .ok (.ifCond .lt 20, 3) := by decide +kernel
theorem dX0_taskAt_4 : decode cX0_taskAt 4 = .ok (.iload_n 1, 1) := by decide +kernel
theorem dX0_taskAt_5 : decode cX0_taskAt 5 = .ok (.aload_n 0, 1) := by decide +kernel
theorem dX0_taskAt_6 : decode cX0_taskAt 6 = .ok (.getfield 15, 3) := by decide +kernel
theorem dX0_taskAt_9 : decode cX0_taskAt 9 = .ok (.if_icmp .ge 12, 3) := by decide +kernel
theorem dX0_taskAt_12 : decode cX0_taskAt 12 = .ok (.aload_n 0, 1) := by decide +kernel
theorem dX0_taskAt_13 : decode cX0_taskAt 13 = .ok (.getfield 9, 3) := by decide +kernel
theorem dX0_taskAt_16 : decode cX0_taskAt 16 = .ok (.iload_n 1, 1) := by decide +kernel
theorem dX0_taskAt_17 : decode cX0_taskAt 17 = .ok (.iaload, 1) := by decide +kernel
theorem dX0_taskAt_18 : decode cX0_taskAt 18 = .ok (.goto 5, 3) := by decide +kernel
theorem dX0_taskAt_21 : decode cX0_taskAt 21 = .ok (.bipush (-5), 2) := by decide +kernel
theorem dX0_taskAt_23 : decode cX0_taskAt 23 = .ok (.ireturn, 1) := by decide +kernel
theorem dX0_holds_0 : decode cX0_holds 0 = .ok (.iconst 0, 1) := by decide +kernel
theorem dX0_holds_1 : decode cX0_holds 1 = .ok (.istore_n 2, 1) := by decide +kernel
theorem dX0_holds_2 : decode cX0_holds 2 = .ok (.iload_n 2, 1) := by decide +kernel
theorem dX0_holds_3 : decode cX0_holds 3 = .ok (.aload_n 0, 1) := by decide +kernel
theorem dX0_holds_4 : decode cX0_holds 4 = .ok (.getfield 15, 3) := by decide +kernel
theorem dX0_holds_7 : decode cX0_holds 7 = .ok (.if_icmp .ge 21, 3) := by decide +kernel
theorem dX0_holds_10 : decode cX0_holds 10 = .ok (.aload_n 0, 1) := by decide +kernel
theorem dX0_holds_11 : decode cX0_holds 11 = .ok (.getfield 9, 3) := by decide +kernel
theorem dX0_holds_14 : decode cX0_holds 14 = .ok (.iload_n 2, 1) := by decide +kernel
theorem dX0_holds_15 : decode cX0_holds 15 = .ok (.iaload, 1) := by decide +kernel
theorem dX0_holds_16 : decode cX0_holds 16 = .ok (.iload_n 1, 1) := by decide +kernel
theorem dX0_holds_17 : decode cX0_holds 17 = .ok (.if_icmp .ne 5, 3) := by decide +kernel
theorem dX0_holds_20 : decode cX0_holds 20 = .ok (.iconst 1, 1) := by decide +kernel
theorem dX0_holds_21 : decode cX0_holds 21 = .ok (.ireturn, 1) := by decide +kernel
theorem dX0_holds_22 : decode cX0_holds 22 = .ok (.iinc 2 1, 3) := by decide +kernel
theorem dX0_holds_25 : decode cX0_holds 25 = .ok (.goto (-23), 3) := by decide +kernel
theorem dX0_holds_28 : decode cX0_holds 28 = .ok (.iconst 0, 1) := by decide +kernel
theorem dX0_holds_29 : decode cX0_holds 29 = .ok (.ireturn, 1) := by decide +kernel
theorem dX0_put_0 : decode cX0_put 0 = .ok (.aload_n 0, 1) := by decide +kernel
theorem dX0_put_1 : decode cX0_put 1 = .ok (.getfield 15, 3) := by decide +kernel
theorem dX0_put_4 : decode cX0_put 4 = .ok (.aload_n 0, 1) := by decide +kernel
theorem dX0_put_5 : decode cX0_put 5 = .ok (.getfield 9, 3) := by decide +kernel
theorem dX0_put_8 : decode cX0_put 8 = .ok (.arraylength, 1) := by decide +kernel
theorem dX0_put_9 : decode cX0_put 9 = .ok (.if_icmp .ge 23, 3) := by decide +kernel
theorem dX0_put_12 : decode cX0_put 12 = .ok (.aload_n 0, 1) := by decide +kernel
theorem dX0_put_13 : decode cX0_put 13 = .ok (.getfield 9, 3) := by decide +kernel
theorem dX0_put_16 : decode cX0_put 16 = .ok (.aload_n 0, 1) := by decide +kernel
theorem dX0_put_17 : decode cX0_put 17 = .ok (.getfield 15, 3) := by decide +kernel
theorem dX0_put_20 : decode cX0_put 20 = .ok (.iload_n 1, 1) := by decide +kernel
theorem dX0_put_21 : decode cX0_put 21 = .ok (.iastore, 1) := by decide +kernel
theorem dX0_put_22 : decode cX0_put 22 = .ok (.aload_n 0, 1) := by decide +kernel
theorem dX0_put_23 : decode cX0_put 23 = .ok (.dup, 1) := by decide +kernel
theorem dX0_put_24 : decode cX0_put 24 = .ok (.getfield 15, 3) := by decide +kernel
theorem dX0_put_27 : decode cX0_put 27 = .ok (.iconst 1, 1) := by decide +kernel
theorem dX0_put_28 : decode cX0_put 28 = .ok (.iadd, 1) := by decide +kernel
theorem dX0_put_29 : decode cX0_put 29 = .ok (.putfield 15, 3) := by decide +kernel
theorem dX0_put_32 : decode cX0_put 32 = .ok (.return_, 1) := by decide +kernel
theorem dX0_takeNear_0 : decode cX0_takeNear 0 = .ok (.aload_n 0, 1) := by decide +kernel
theorem dX0_takeNear_1 : decode cX0_takeNear 1 = .ok (.aload_n 0, 1) := by decide +kernel
theorem dX0_takeNear_2 : decode cX0_takeNear 2 = .ok (.getfield 15, 3) := by decide +kernel
theorem dX0_takeNear_5 : decode cX0_takeNear 5 = .ok (.iconst 1, 1) := by decide +kernel
theorem dX0_takeNear_6 : decode cX0_takeNear 6 = .ok (.isub, 1) := by decide +kernel
theorem dX0_takeNear_7 : decode cX0_takeNear 7 = .ok (.invokevirtual 34, 3) := by decide +kernel
theorem dX0_takeNear_10 : decode cX0_takeNear 10 = .ok (.istore_n 1, 1) := by decide +kernel
theorem dX0_takeNear_11 : decode cX0_takeNear 11 = .ok (.iload_n 1, 1) := by decide +kernel
theorem dX0_takeNear_12 : decode cX0_takeNear 12 = .ok (.bipush (-5), 2) := by decide +kernel
theorem dX0_takeNear_14 : decode cX0_takeNear 14 = .ok (.if_icmp .eq 13, 3) := by decide +kernel
theorem dX0_takeNear_17 : decode cX0_takeNear 17 = .ok (.aload_n 0, 1) := by decide +kernel
theorem dX0_takeNear_18 : decode cX0_takeNear 18 = .ok (.dup, 1) := by decide +kernel
theorem dX0_takeNear_19 : decode cX0_takeNear 19 = .ok (.getfield 15, 3) := by decide +kernel
theorem dX0_takeNear_22 : decode cX0_takeNear 22 = .ok (.iconst 1, 1) := by decide +kernel
theorem dX0_takeNear_23 : decode cX0_takeNear 23 = .ok (.isub, 1) := by decide +kernel
theorem dX0_takeNear_24 : decode cX0_takeNear 24 = .ok (.putfield 15, 3) := by decide +kernel
theorem dX0_takeNear_27 : decode cX0_takeNear 27 = .ok (.iload_n 1, 1) := by decide +kernel
theorem dX0_takeNear_28 : decode cX0_takeNear 28 = .ok (.ireturn, 1) := by decide +kernel
theorem dX0_takeFar_0 : decode cX0_takeFar 0 = .ok (.aload_n 0, 1) := by decide +kernel
theorem dX0_takeFar_1 : decode cX0_takeFar 1 = .ok (.iconst 0, 1) := by decide +kernel
theorem dX0_takeFar_2 : decode cX0_takeFar 2 = .ok (.invokevirtual 34, 3) := by decide +kernel
theorem dX0_takeFar_5 : decode cX0_takeFar 5 = .ok (.istore_n 1, 1) := by decide +kernel
theorem dX0_takeFar_6 : decode cX0_takeFar 6 = .ok (.iload_n 1, 1) := by decide +kernel
theorem dX0_takeFar_7 : decode cX0_takeFar 7 = .ok (.bipush (-5), 2) := by decide +kernel
theorem dX0_takeFar_9 : decode cX0_takeFar 9 = .ok (.if_icmp .eq 8, 3) := by decide +kernel
theorem dX0_takeFar_12 : decode cX0_takeFar 12 = .ok (.aload_n 0, 1) := by decide +kernel
theorem dX0_takeFar_13 : decode cX0_takeFar 13 = .ok (.iload_n 1, 1) := by decide +kernel
theorem dX0_takeFar_14 : decode cX0_takeFar 14 = .ok (.invokevirtual 38, 3) := by decide +kernel
theorem dX0_takeFar_17 : decode cX0_takeFar 17 = .ok (.iload_n 1, 1) := by decide +kernel
theorem dX0_takeFar_18 : decode cX0_takeFar 18 = .ok (.ireturn, 1) := by decide +kernel
theorem dX0_drop_0 : decode cX0_drop 0 = .ok (.aload_n 0, 1) := by decide +kernel
theorem dX0_drop_1 : decode cX0_drop 1 = .ok (.getfield 19, 3) := by decide +kernel
theorem dX0_drop_4 : decode cX0_drop 4 = .ok (.iload_n 1, 1) := by decide +kernel
theorem dX0_drop_5 : decode cX0_drop 5 = .ok (.if_icmp .ne 9, 3) := by decide +kernel
theorem dX0_drop_8 : decode cX0_drop 8 = .ok (.aload_n 0, 1) := by decide +kernel
theorem dX0_drop_9 : decode cX0_drop 9 = .ok (.bipush (-5), 2) := by decide +kernel
theorem dX0_drop_11 : decode cX0_drop 11 = .ok (.putfield 19, 3) := by decide +kernel
theorem dX0_drop_14 : decode cX0_drop 14 = .ok (.iconst 0, 1) := by decide +kernel
theorem dX0_drop_15 : decode cX0_drop 15 = .ok (.istore_n 2, 1) := by decide +kernel
theorem dX0_drop_16 : decode cX0_drop 16 = .ok (.iconst 0, 1) := by decide +kernel
theorem dX0_drop_17 : decode cX0_drop 17 = .ok (.istore_n 3, 1) := by decide +kernel
theorem dX0_drop_18 : decode cX0_drop 18 = .ok (.iload_n 3, 1) := by decide +kernel
theorem dX0_drop_19 : decode cX0_drop 19 = .ok (.aload_n 0, 1) := by decide +kernel
theorem dX0_drop_20 : decode cX0_drop 20 = .ok (.getfield 15, 3) := by decide +kernel
theorem dX0_drop_23 : decode cX0_drop 23 = .ok (.if_icmp .ge 34, 3) := by decide +kernel
theorem dX0_drop_26 : decode cX0_drop 26 = .ok (.aload_n 0, 1) := by decide +kernel
theorem dX0_drop_27 : decode cX0_drop 27 = .ok (.getfield 9, 3) := by decide +kernel
theorem dX0_drop_30 : decode cX0_drop 30 = .ok (.iload_n 3, 1) := by decide +kernel
theorem dX0_drop_31 : decode cX0_drop 31 = .ok (.iaload, 1) := by decide +kernel
theorem dX0_drop_32 : decode cX0_drop 32 = .ok (.iload_n 1, 1) := by decide +kernel
theorem dX0_drop_33 : decode cX0_drop 33 = .ok (.if_icmp .eq 18, 3) := by decide +kernel
theorem dX0_drop_36 : decode cX0_drop 36 = .ok (.aload_n 0, 1) := by decide +kernel
theorem dX0_drop_37 : decode cX0_drop 37 = .ok (.getfield 9, 3) := by decide +kernel
theorem dX0_drop_40 : decode cX0_drop 40 = .ok (.iload_n 2, 1) := by decide +kernel
theorem dX0_drop_41 : decode cX0_drop 41 = .ok (.aload_n 0, 1) := by decide +kernel
theorem dX0_drop_42 : decode cX0_drop 42 = .ok (.getfield 9, 3) := by decide +kernel
theorem dX0_drop_45 : decode cX0_drop 45 = .ok (.iload_n 3, 1) := by decide +kernel
theorem dX0_drop_46 : decode cX0_drop 46 = .ok (.iaload, 1) := by decide +kernel
theorem dX0_drop_47 : decode cX0_drop 47 = .ok (.iastore, 1) := by decide +kernel
theorem dX0_drop_48 : decode cX0_drop 48 = .ok (.iinc 2 1, 3) := by decide +kernel
theorem dX0_drop_51 : decode cX0_drop 51 = .ok (.iinc 3 1, 3) := by decide +kernel
theorem dX0_drop_54 : decode cX0_drop 54 = .ok (.goto (-36), 3) := by decide +kernel
theorem dX0_drop_57 : decode cX0_drop 57 = .ok (.aload_n 0, 1) := by decide +kernel
theorem dX0_drop_58 : decode cX0_drop 58 = .ok (.iload_n 2, 1) := by decide +kernel
theorem dX0_drop_59 : decode cX0_drop 59 = .ok (.putfield 15, 3) := by decide +kernel
theorem dX0_drop_62 : decode cX0_drop 62 = .ok (.return_, 1) := by decide +kernel
theorem dX1_init_0 : decode cX1_init 0 = .ok (.aload_n 0, 1) := by decide +kernel
theorem dX1_init_1 : decode cX1_init 1 = .ok (.invokespecial 3, 3) := by decide +kernel
theorem dX1_init_4 : decode cX1_init 4 = .ok (.aload_n 0, 1) := by decide +kernel
theorem dX1_init_5 : decode cX1_init 5 = .ok (.bipush 40, 2) := by decide +kernel
theorem dX1_init_7 : decode cX1_init 7 = .ok (.newarray .int, 2) := by decide +kernel
theorem dX1_init_9 : decode cX1_init 9 = .ok (.putfield 9, 3) := by decide +kernel
theorem dX1_init_12 : decode cX1_init 12 = .ok (.aload_n 0, 1) := by decide +kernel
theorem dX1_init_13 : decode cX1_init 13 = .ok (.bipush 40, 2) := by decide +kernel
theorem dX1_init_15 : decode cX1_init 15 = .ok (.newarray .int, 2) := by decide +kernel
theorem dX1_init_17 : decode cX1_init 17 = .ok (.putfield 15, 3) := by decide +kernel
theorem dX1_init_20 : decode cX1_init 20 = .ok (.aload_n 0, 1) := by decide +kernel
theorem dX1_init_21 : decode cX1_init 21 = .ok (.bipush 40, 2) := by decide +kernel
theorem dX1_init_23 : decode cX1_init 23 = .ok (.newarray .int, 2) := by decide +kernel
theorem dX1_init_25 : decode cX1_init 25 = .ok (.putfield 18, 3) := by decide +kernel
theorem dX1_init_28 : decode cX1_init 28 = .ok (.aload_n 0, 1) := by decide +kernel
theorem dX1_init_29 : decode cX1_init 29 = .ok (.bipush 40, 2) := by decide +kernel
theorem dX1_init_31 : decode cX1_init 31 = .ok (.newarray .int, 2) := by decide +kernel
theorem dX1_init_33 : decode cX1_init 33 = .ok (.putfield 21, 3) := by decide +kernel
theorem dX1_init_36 : decode cX1_init 36 = .ok (.aload_n 0, 1) := by decide +kernel
theorem dX1_init_37 : decode cX1_init 37 = .ok (.bipush 40, 2) := by decide +kernel
theorem dX1_init_39 : decode cX1_init 39 = .ok (.newarray .int, 2) := by decide +kernel
theorem dX1_init_41 : decode cX1_init 41 = .ok (.putfield 24, 3) := by decide +kernel
theorem dX1_init_44 : decode cX1_init 44 = .ok (.aload_n 0, 1) := by decide +kernel
theorem dX1_init_45 : decode cX1_init 45 = .ok (.iconst 0, 1) := by decide +kernel
theorem dX1_init_46 : decode cX1_init 46 = .ok (.putfield 27, 3) := by decide +kernel
theorem dX1_init_49 : decode cX1_init 49 = .ok (.aload_n 0, 1) := by decide +kernel
theorem dX1_init_50 : decode cX1_init 50 = .ok (.iconst 0, 1) := by decide +kernel
theorem dX1_init_51 : decode cX1_init 51 = .ok (.putfield 31, 3) := by decide +kernel
theorem dX1_init_54 : decode cX1_init 54 = .ok (.aload_n 0, 1) := by decide +kernel
theorem dX1_init_55 : decode cX1_init 55 = .ok (.iconst 0, 1) := by decide +kernel
theorem dX1_init_56 : decode cX1_init 56 = .ok (.putfield 34, 3) := by decide +kernel
theorem dX1_init_59 : decode cX1_init 59 = .ok (.return_, 1) := by decide +kernel
theorem dX1_become_0 : decode cX1_become 0 = .ok (.aload_n 1, 1) := by decide +kernel
theorem dX1_become_1 : decode cX1_become 1 = .ok (.getfield 9, 3) := by decide +kernel
theorem dX1_become_4 : decode cX1_become 4 = .ok (.iconst 0, 1) := by decide +kernel
theorem dX1_become_5 : decode cX1_become 5 = .ok (.aload_n 0, 1) := by decide +kernel
theorem dX1_become_6 : decode cX1_become 6 = .ok (.getfield 9, 3) := by decide +kernel
theorem dX1_become_9 : decode cX1_become 9 = .ok (.iconst 0, 1) := by decide +kernel
theorem dX1_become_10 : decode cX1_become 10 = .ok (.bipush 40, 2) := by decide +kernel
theorem dX1_become_12 : decode cX1_become 12 = .ok (.invokestatic 37, 3) := by decide +kernel
theorem dX1_become_15 : decode cX1_become 15 = .ok (.aload_n 1, 1) := by decide +kernel
theorem dX1_become_16 : decode cX1_become 16 = .ok (.getfield 15, 3) := by decide +kernel
theorem dX1_become_19 : decode cX1_become 19 = .ok (.iconst 0, 1) := by decide +kernel
theorem dX1_become_20 : decode cX1_become 20 = .ok (.aload_n 0, 1) := by decide +kernel
theorem dX1_become_21 : decode cX1_become 21 = .ok (.getfield 15, 3) := by decide +kernel
theorem dX1_become_24 : decode cX1_become 24 = .ok (.iconst 0, 1) := by decide +kernel
theorem dX1_become_25 : decode cX1_become 25 = .ok (.bipush 40, 2) := by decide +kernel
theorem dX1_become_27 : decode cX1_become 27 = .ok (.invokestatic 37, 3) := by decide +kernel
theorem dX1_become_30 : decode cX1_become 30 = .ok (.aload_n 1, 1) := by decide +kernel
theorem dX1_become_31 : decode cX1_become 31 = .ok (.getfield 18, 3) := by decide +kernel
theorem dX1_become_34 : decode cX1_become 34 = .ok (.iconst 0, 1) := by decide +kernel
theorem dX1_become_35 : decode cX1_become 35 = .ok (.aload_n 0, 1) := by decide +kernel
theorem dX1_become_36 : decode cX1_become 36 = .ok (.getfield 18, 3) := by decide +kernel
theorem dX1_become_39 : decode cX1_become 39 = .ok (.iconst 0, 1) := by decide +kernel
theorem dX1_become_40 : decode cX1_become 40 = .ok (.bipush 40, 2) := by decide +kernel
theorem dX1_become_42 : decode cX1_become 42 = .ok (.invokestatic 37, 3) := by decide +kernel
theorem dX1_become_45 : decode cX1_become 45 = .ok (.aload_n 1, 1) := by decide +kernel
theorem dX1_become_46 : decode cX1_become 46 = .ok (.getfield 21, 3) := by decide +kernel
theorem dX1_become_49 : decode cX1_become 49 = .ok (.iconst 0, 1) := by decide +kernel
theorem dX1_become_50 : decode cX1_become 50 = .ok (.aload_n 0, 1) := by decide +kernel
theorem dX1_become_51 : decode cX1_become 51 = .ok (.getfield 21, 3) := by decide +kernel
theorem dX1_become_54 : decode cX1_become 54 = .ok (.iconst 0, 1) := by decide +kernel
theorem dX1_become_55 : decode cX1_become 55 = .ok (.bipush 40, 2) := by decide +kernel
theorem dX1_become_57 : decode cX1_become 57 = .ok (.invokestatic 37, 3) := by decide +kernel
theorem dX1_become_60 : decode cX1_become 60 = .ok (.aload_n 0, 1) := by decide +kernel
theorem dX1_become_61 : decode cX1_become 61 = .ok (.aload_n 1, 1) := by decide +kernel
theorem dX1_become_62 : decode cX1_become 62 = .ok (.getfield 31, 3) := by decide +kernel
theorem dX1_become_65 : decode cX1_become 65 = .ok (.putfield 31, 3) := by decide +kernel
theorem dX1_become_68 : decode cX1_become 68 = .ok (.aload_n 0, 1) := by decide +kernel
theorem dX1_become_69 : decode cX1_become 69 = .ok (.aload_n 1, 1) := by decide +kernel
theorem dX1_become_70 : decode cX1_become 70 = .ok (.getfield 34, 3) := by decide +kernel
theorem dX1_become_73 : decode cX1_become 73 = .ok (.putfield 34, 3) := by decide +kernel
theorem dX1_become_76 : decode cX1_become 76 = .ok (.return_, 1) := by decide +kernel
theorem dX1_add_0 : decode cX1_add 0 = .ok (.aload_n 0, 1) := by decide +kernel
theorem dX1_add_1 : decode cX1_add 1 = .ok (.getfield 31, 3) := by decide +kernel
theorem dX1_add_4 : decode cX1_add 4 = .ok (.aload_n 0, 1) := by decide +kernel
theorem dX1_add_5 : decode cX1_add 5 = .ok (.getfield 34, 3) := by decide +kernel
theorem dX1_add_8 : decode cX1_add 8 = .ok (.iadd, 1) := by decide +kernel
theorem dX1_add_9 : decode cX1_add 9 = .ok (.bipush 40, 2) := by decide +kernel
theorem dX1_add_11 : decode cX1_add 11 = .ok (.irem, 1) := by decide +kernel
theorem dX1_add_12 : decode cX1_add 12 = .ok (.istore 5, 2) := by decide +kernel
theorem dX1_add_14 : decode cX1_add 14 = .ok (.aload_n 0, 1) := by decide +kernel
theorem dX1_add_15 : decode cX1_add 15 = .ok (.getfield 9, 3) := by decide +kernel
theorem dX1_add_18 : decode cX1_add 18 = .ok (.iload 5, 2) := by decide +kernel
theorem dX1_add_20 : decode cX1_add 20 = .ok (.iload_n 1, 1) := by decide +kernel
theorem dX1_add_21 : decode cX1_add 21 = .ok (.iastore, 1) := by decide +kernel
theorem dX1_add_22 : decode cX1_add 22 = .ok (.aload_n 0, 1) := by decide +kernel
theorem dX1_add_23 : decode cX1_add 23 = .ok (.getfield 15, 3) := by decide +kernel
theorem dX1_add_26 : decode cX1_add 26 = .ok (.iload 5, 2) := by decide +kernel
theorem dX1_add_28 : decode cX1_add 28 = .ok (.iload_n 2, 1) := by decide +kernel
theorem dX1_add_29 : decode cX1_add 29 = .ok (.iastore, 1) := by decide +kernel
theorem dX1_add_30 : decode cX1_add 30 = .ok (.aload_n 0, 1) := by decide +kernel
theorem dX1_add_31 : decode cX1_add 31 = .ok (.getfield 18, 3) := by decide +kernel
theorem dX1_add_34 : decode cX1_add 34 = .ok (.iload 5, 2) := by decide +kernel
theorem dX1_add_36 : decode cX1_add 36 = .ok (.iload_n 3, 1) := by decide +kernel
theorem dX1_add_37 : decode cX1_add 37 = .ok (.iastore, 1) := by decide +kernel
theorem dX1_add_38 : decode cX1_add 38 = .ok (.aload_n 0, 1) := by decide +kernel
theorem dX1_add_39 : decode cX1_add 39 = .ok (.getfield 21, 3) := by decide +kernel
theorem dX1_add_42 : decode cX1_add 42 = .ok (.iload 5, 2) := by decide +kernel
theorem dX1_add_44 : decode cX1_add 44 = .ok (.iload 4, 2) := by decide +kernel
theorem dX1_add_46 : decode cX1_add 46 = .ok (.iastore, 1) := by decide +kernel
theorem dX1_add_47 : decode cX1_add 47 = .ok (.aload_n 0, 1) := by decide +kernel
theorem dX1_add_48 : decode cX1_add 48 = .ok (.getfield 34, 3) := by decide +kernel
theorem dX1_add_51 : decode cX1_add 51 = .ok (.bipush 40, 2) := by decide +kernel
theorem dX1_add_53 : decode cX1_add 53 = .ok (.if_icmp .ge 16, 3) := by decide +kernel
theorem dX1_add_56 : decode cX1_add 56 = .ok (.aload_n 0, 1) := by decide +kernel
theorem dX1_add_57 : decode cX1_add 57 = .ok (.dup, 1) := by decide +kernel
theorem dX1_add_58 : decode cX1_add 58 = .ok (.getfield 34, 3) := by decide +kernel
theorem dX1_add_61 : decode cX1_add 61 = .ok (.iconst 1, 1) := by decide +kernel
theorem dX1_add_62 : decode cX1_add 62 = .ok (.iadd, 1) := by decide +kernel
theorem dX1_add_63 : decode cX1_add 63 = .ok (.putfield 34, 3) := by decide +kernel
theorem dX1_add_66 : decode cX1_add 66 = .ok (.goto 16, 3) := by decide +kernel
theorem dX1_add_69 : decode cX1_add 69 = .ok (.aload_n 0, 1) := by decide +kernel
theorem dX1_add_70 : decode cX1_add 70 = .ok (.aload_n 0, 1) := by decide +kernel
theorem dX1_add_71 : decode cX1_add 71 = .ok (.getfield 31, 3) := by decide +kernel
theorem dX1_add_74 : decode cX1_add 74 = .ok (.iconst 1, 1) := by decide +kernel
theorem dX1_add_75 : decode cX1_add 75 = .ok (.iadd, 1) := by decide +kernel
theorem dX1_add_76 : decode cX1_add 76 = .ok (.bipush 40, 2) := by decide +kernel
theorem dX1_add_78 : decode cX1_add 78 = .ok (.irem, 1) := by decide +kernel
theorem dX1_add_79 : decode cX1_add 79 = .ok (.putfield 31, 3) := by decide +kernel
theorem dX1_add_82 : decode cX1_add 82 = .ok (.aload_n 0, 1) := by decide +kernel
theorem dX1_add_83 : decode cX1_add 83 = .ok (.getfield 27, 3) := by decide +kernel
theorem dX1_add_86 : decode cX1_add 86 = .ok (.bipush 40, 2) := by decide +kernel
theorem dX1_add_88 : decode cX1_add 88 = .ok (.if_icmp .ge 24, 3) := by decide +kernel
theorem dX1_add_91 : decode cX1_add 91 = .ok (.aload_n 0, 1) := by decide +kernel
theorem dX1_add_92 : decode cX1_add 92 = .ok (.getfield 24, 3) := by decide +kernel
theorem dX1_add_95 : decode cX1_add 95 = .ok (.aload_n 0, 1) := by decide +kernel
theorem dX1_add_96 : decode cX1_add 96 = .ok (.getfield 27, 3) := by decide +kernel
theorem dX1_add_99 : decode cX1_add 99 = .ok (.iload 4, 2) := by decide +kernel
theorem dX1_add_101 : decode cX1_add 101 = .ok (.iastore, 1) := by decide +kernel
theorem dX1_add_102 : decode cX1_add 102 = .ok (.aload_n 0, 1) := by decide +kernel
theorem dX1_add_103 : decode cX1_add 103 = .ok (.dup, 1) := by decide +kernel
theorem dX1_add_104 : decode cX1_add 104 = .ok (.getfield 27, 3) := by decide +kernel
theorem dX1_add_107 : decode cX1_add 107 = .ok (.iconst 1, 1) := by decide +kernel
theorem dX1_add_108 : decode cX1_add 108 = .ok (.iadd, 1) := by decide +kernel
theorem dX1_add_109 : decode cX1_add 109 = .ok (.putfield 27, 3) := by decide +kernel
theorem dX1_add_112 : decode cX1_add 112 = .ok (.return_, 1) := by decide +kernel
theorem dX1_entry_0 : decode cX1_entry 0 = .ok (.iload_n 1, 1) := by decide +kernel
theorem dX1_entry_1 : decode cX1_entry 1 = .ok (.ifCond .lt 11, 3) := by decide +kernel
theorem dX1_entry_4 : decode cX1_entry 4 = .ok (.iload_n 1, 1) := by decide +kernel
theorem dX1_entry_5 : decode cX1_entry 5 = .ok (.aload_n 0, 1) := by decide +kernel
theorem dX1_entry_6 : decode cX1_entry 6 = .ok (.getfield 34, 3) := by decide +kernel
theorem dX1_entry_9 : decode cX1_entry 9 = .ok (.if_icmp .lt 5, 3) := by decide +kernel
theorem dX1_entry_12 : decode cX1_entry 12 = .ok (.iconst (-1), 1) := by decide +kernel
theorem dX1_entry_13 : decode cX1_entry 13 = .ok (.ireturn, 1) := by decide +kernel
theorem dX1_entry_14 : decode cX1_entry 14 = .ok (.aload_n 0, 1) := by decide +kernel
theorem dX1_entry_15 : decode cX1_entry 15 = .ok (.getfield 31, 3) := by decide +kernel
theorem dX1_entry_18 : decode cX1_entry 18 = .ok (.iload_n 1, 1) := by decide +kernel
theorem dX1_entry_19 : decode cX1_entry 19 = .ok (.iadd, 1) := by decide +kernel
theorem dX1_entry_20 : decode cX1_entry 20 = .ok (.bipush 40, 2) := by decide +kernel
theorem dX1_entry_22 : decode cX1_entry 22 = .ok (.irem, 1) := by decide +kernel
theorem dX1_entry_23 : decode cX1_entry 23 = .ok (.istore_n 3, 1) := by decide +kernel
theorem dX1_entry_24 : decode cX1_entry 24 = .ok (.iload_n 2, 1) := by decide +kernel
theorem dX1_entry_25 : decode cX1_entry 25 = .ok (.tableswitch 59 0 3 #[31, 38, 45, 52], 31) := by decide +kernel
theorem dX1_entry_56 : decode cX1_entry 56 = .ok (.aload_n 0, 1) := by decide +kernel
theorem dX1_entry_57 : decode cX1_entry 57 = .ok (.getfield 9, 3) := by decide +kernel
theorem dX1_entry_60 : decode cX1_entry 60 = .ok (.iload_n 3, 1) := by decide +kernel
theorem dX1_entry_61 : decode cX1_entry 61 = .ok (.iaload, 1) := by decide +kernel
theorem dX1_entry_62 : decode cX1_entry 62 = .ok (.ireturn, 1) := by decide +kernel
theorem dX1_entry_63 : decode cX1_entry 63 = .ok (.aload_n 0, 1) := by decide +kernel
theorem dX1_entry_64 : decode cX1_entry 64 = .ok (.getfield 15, 3) := by decide +kernel
theorem dX1_entry_67 : decode cX1_entry 67 = .ok (.iload_n 3, 1) := by decide +kernel
theorem dX1_entry_68 : decode cX1_entry 68 = .ok (.iaload, 1) := by decide +kernel
theorem dX1_entry_69 : decode cX1_entry 69 = .ok (.ireturn, 1) := by decide +kernel
theorem dX1_entry_70 : decode cX1_entry 70 = .ok (.aload_n 0, 1) := by decide +kernel
theorem dX1_entry_71 : decode cX1_entry 71 = .ok (.getfield 18, 3) := by decide +kernel
theorem dX1_entry_74 : decode cX1_entry 74 = .ok (.iload_n 3, 1) := by decide +kernel
theorem dX1_entry_75 : decode cX1_entry 75 = .ok (.iaload, 1) := by decide +kernel
theorem dX1_entry_76 : decode cX1_entry 76 = .ok (.ireturn, 1) := by decide +kernel
theorem dX1_entry_77 : decode cX1_entry 77 = .ok (.aload_n 0, 1) := by decide +kernel
theorem dX1_entry_78 : decode cX1_entry 78 = .ok (.getfield 21, 3) := by decide +kernel
theorem dX1_entry_81 : decode cX1_entry 81 = .ok (.iload_n 3, 1) := by decide +kernel
theorem dX1_entry_82 : decode cX1_entry 82 = .ok (.iaload, 1) := by decide +kernel
theorem dX1_entry_83 : decode cX1_entry 83 = .ok (.ireturn, 1) := by decide +kernel
theorem dX1_entry_84 : decode cX1_entry 84 = .ok (.iconst (-1), 1) := by decide +kernel
theorem dX1_entry_85 : decode cX1_entry 85 = .ok (.ireturn, 1) := by decide +kernel
theorem dX1_watch_0 : decode cX1_watch 0 = .ok (.aload_n 0, 1) := by decide +kernel
theorem dX1_watch_1 : decode cX1_watch 1 = .ok (.iconst 0, 1) := by decide +kernel
theorem dX1_watch_2 : decode cX1_watch 2 = .ok (.putfield 27, 3) := by decide +kernel
theorem dX1_watch_5 : decode cX1_watch 5 = .ok (.return_, 1) := by decide +kernel
theorem dX1_watchedTask_0 : decode cX1_watchedTask 0 = .ok (.iload_n 1, 1) := by decide +kernel
theorem dX1_watchedTask_1 : decode cX1_watchedTask 1 = .ok (.ifCond .lt 20, 3) := by decide +kernel
theorem dX1_watchedTask_4 : decode cX1_watchedTask 4 = .ok (.iload_n 1, 1) := by decide +kernel
theorem dX1_watchedTask_5 : decode cX1_watchedTask 5 = .ok (.aload_n 0, 1) := by decide +kernel
theorem dX1_watchedTask_6 : decode cX1_watchedTask 6 = .ok (.getfield 27, 3) := by decide +kernel
theorem dX1_watchedTask_9 : decode cX1_watchedTask 9 = .ok (.if_icmp .ge 12, 3) := by decide +kernel
theorem dX1_watchedTask_12 : decode cX1_watchedTask 12 = .ok (.aload_n 0, 1) := by decide +kernel
theorem dX1_watchedTask_13 : decode cX1_watchedTask 13 = .ok (.getfield 24, 3) := by decide +kernel
theorem dX1_watchedTask_16 : decode cX1_watchedTask 16 = .ok (.iload_n 1, 1) := by decide +kernel
theorem dX1_watchedTask_17 : decode cX1_watchedTask 17 = .ok (.iaload, 1) := by decide +kernel
theorem dX1_watchedTask_18 : decode cX1_watchedTask 18 = .ok (.goto 5, 3) := by decide +kernel
theorem dX1_watchedTask_21 : decode cX1_watchedTask 21 = .ok (.bipush (-5), 2) := by decide +kernel
theorem dX1_watchedTask_23 : decode cX1_watchedTask 23 = .ok (.ireturn, 1) := by decide +kernel
theorem dX2_init_0 : decode cX2_init 0 = .ok (.aload_n 0, 1) := by decide +kernel
theorem dX2_init_1 : decode cX2_init 1 = .ok (.invokespecial 3, 3) := by decide +kernel
theorem dX2_init_4 : decode cX2_init 4 = .ok (.aload_n 0, 1) := by decide +kernel
theorem dX2_init_5 : decode cX2_init 5 = .ok (.iconst 0, 1) := by decide +kernel
theorem dX2_init_6 : decode cX2_init 6 = .ok (.iload_n 1, 1) := by decide +kernel
theorem dX2_init_7 : decode cX2_init 7 = .ok (.invokestatic 9, 3) := by decide +kernel
theorem dX2_init_10 : decode cX2_init 10 = .ok (.newarray .int, 2) := by decide +kernel
theorem dX2_init_12 : decode cX2_init 12 = .ok (.putfield 15, 3) := by decide +kernel
theorem dX2_init_15 : decode cX2_init 15 = .ok (.aload_n 0, 1) := by decide +kernel
theorem dX2_init_16 : decode cX2_init 16 = .ok (.iconst 0, 1) := by decide +kernel
theorem dX2_init_17 : decode cX2_init 17 = .ok (.iload_n 1, 1) := by decide +kernel
theorem dX2_init_18 : decode cX2_init 18 = .ok (.invokestatic 9, 3) := by decide +kernel
theorem dX2_init_21 : decode cX2_init 21 = .ok (.newarray .int, 2) := by decide +kernel
theorem dX2_init_23 : decode cX2_init 23 = .ok (.putfield 21, 3) := by decide +kernel
theorem dX2_init_26 : decode cX2_init 26 = .ok (.aload_n 0, 1) := by decide +kernel
theorem dX2_init_27 : decode cX2_init 27 = .ok (.iconst 0, 1) := by decide +kernel
theorem dX2_init_28 : decode cX2_init 28 = .ok (.putfield 24, 3) := by decide +kernel
theorem dX2_init_31 : decode cX2_init 31 = .ok (.return_, 1) := by decide +kernel
theorem dX2_become_0 : decode cX2_become 0 = .ok (.aload_n 0, 1) := by decide +kernel
theorem dX2_become_1 : decode cX2_become 1 = .ok (.aload_n 1, 1) := by decide +kernel
theorem dX2_become_2 : decode cX2_become 2 = .ok (.getfield 24, 3) := by decide +kernel
theorem dX2_become_5 : decode cX2_become 5 = .ok (.aload_n 0, 1) := by decide +kernel
theorem dX2_become_6 : decode cX2_become 6 = .ok (.getfield 15, 3) := by decide +kernel
theorem dX2_become_9 : decode cX2_become 9 = .ok (.arraylength, 1) := by decide +kernel
theorem dX2_become_10 : decode cX2_become 10 = .ok (.invokestatic 28, 3) := by decide +kernel
theorem dX2_become_13 : decode cX2_become 13 = .ok (.putfield 24, 3) := by decide +kernel
theorem dX2_become_16 : decode cX2_become 16 = .ok (.aload_n 1, 1) := by decide +kernel
theorem dX2_become_17 : decode cX2_become 17 = .ok (.getfield 15, 3) := by decide +kernel
theorem dX2_become_20 : decode cX2_become 20 = .ok (.iconst 0, 1) := by decide +kernel
theorem dX2_become_21 : decode cX2_become 21 = .ok (.aload_n 0, 1) := by decide +kernel
theorem dX2_become_22 : decode cX2_become 22 = .ok (.getfield 15, 3) := by decide +kernel
theorem dX2_become_25 : decode cX2_become 25 = .ok (.iconst 0, 1) := by decide +kernel
theorem dX2_become_26 : decode cX2_become 26 = .ok (.aload_n 0, 1) := by decide +kernel
theorem dX2_become_27 : decode cX2_become 27 = .ok (.getfield 24, 3) := by decide +kernel
theorem dX2_become_30 : decode cX2_become 30 = .ok (.invokestatic 31, 3) := by decide +kernel
theorem dX2_become_33 : decode cX2_become 33 = .ok (.aload_n 1, 1) := by decide +kernel
theorem dX2_become_34 : decode cX2_become 34 = .ok (.getfield 21, 3) := by decide +kernel
theorem dX2_become_37 : decode cX2_become 37 = .ok (.iconst 0, 1) := by decide +kernel
theorem dX2_become_38 : decode cX2_become 38 = .ok (.aload_n 0, 1) := by decide +kernel
theorem dX2_become_39 : decode cX2_become 39 = .ok (.getfield 21, 3) := by decide +kernel
theorem dX2_become_42 : decode cX2_become 42 = .ok (.iconst 0, 1) := by decide +kernel
theorem dX2_become_43 : decode cX2_become 43 = .ok (.aload_n 0, 1) := by decide +kernel
theorem dX2_become_44 : decode cX2_become 44 = .ok (.getfield 24, 3) := by decide +kernel
theorem dX2_become_47 : decode cX2_become 47 = .ok (.invokestatic 31, 3) := by decide +kernel
theorem dX2_become_50 : decode cX2_become 50 = .ok (.return_, 1) := by decide +kernel
theorem dX2_clear_0 : decode cX2_clear 0 = .ok (.aload_n 0, 1) := by decide +kernel
theorem dX2_clear_1 : decode cX2_clear 1 = .ok (.iconst 0, 1) := by decide +kernel
theorem dX2_clear_2 : decode cX2_clear 2 = .ok (.putfield 24, 3) := by decide +kernel
theorem dX2_clear_5 : decode cX2_clear 5 = .ok (.iconst 0, 1) := by decide +kernel
theorem dX2_clear_6 : decode cX2_clear 6 = .ok (.ireturn, 1) := by decide +kernel
theorem dX2_add_0 : decode cX2_add 0 = .ok (.aload_n 0, 1) := by decide +kernel
theorem dX2_add_1 : decode cX2_add 1 = .ok (.getfield 24, 3) := by decide +kernel
theorem dX2_add_4 : decode cX2_add 4 = .ok (.aload_n 0, 1) := by decide +kernel
theorem dX2_add_5 : decode cX2_add 5 = .ok (.getfield 15, 3) := by decide +kernel
theorem dX2_add_8 : decode cX2_add 8 = .ok (.arraylength, 1) := by decide +kernel
theorem dX2_add_9 : decode cX2_add 9 = .ok (.if_icmp .lt 6, 3) := by decide +kernel
theorem dX2_add_12 : decode cX2_add 12 = .ok (.bipush (-4), 2) := by decide +kernel
theorem dX2_add_14 : decode cX2_add 14 = .ok (.ireturn, 1) := by decide +kernel
theorem dX2_add_15 : decode cX2_add 15 = .ok (.aload_n 0, 1) := by decide +kernel
theorem dX2_add_16 : decode cX2_add 16 = .ok (.getfield 15, 3) := by decide +kernel
theorem dX2_add_19 : decode cX2_add 19 = .ok (.aload_n 0, 1) := by decide +kernel
theorem dX2_add_20 : decode cX2_add 20 = .ok (.getfield 24, 3) := by decide +kernel
theorem dX2_add_23 : decode cX2_add 23 = .ok (.iload_n 1, 1) := by decide +kernel
theorem dX2_add_24 : decode cX2_add 24 = .ok (.iastore, 1) := by decide +kernel
theorem dX2_add_25 : decode cX2_add 25 = .ok (.aload_n 0, 1) := by decide +kernel
theorem dX2_add_26 : decode cX2_add 26 = .ok (.getfield 21, 3) := by decide +kernel
theorem dX2_add_29 : decode cX2_add 29 = .ok (.aload_n 0, 1) := by decide +kernel
theorem dX2_add_30 : decode cX2_add 30 = .ok (.getfield 24, 3) := by decide +kernel
theorem dX2_add_33 : decode cX2_add 33 = .ok (.iload_n 2, 1) := by decide +kernel
theorem dX2_add_34 : decode cX2_add 34 = .ok (.iastore, 1) := by decide +kernel
theorem dX2_add_35 : decode cX2_add 35 = .ok (.aload_n 0, 1) := by decide +kernel
theorem dX2_add_36 : decode cX2_add 36 = .ok (.dup, 1) := by decide +kernel
theorem dX2_add_37 : decode cX2_add 37 = .ok (.getfield 24, 3) := by decide +kernel
theorem dX2_add_40 : decode cX2_add 40 = .ok (.iconst 1, 1) := by decide +kernel
theorem dX2_add_41 : decode cX2_add 41 = .ok (.iadd, 1) := by decide +kernel
theorem dX2_add_42 : decode cX2_add 42 = .ok (.putfield 24, 3) := by decide +kernel
theorem dX2_add_45 : decode cX2_add 45 = .ok (.aload_n 0, 1) := by decide +kernel
theorem dX2_add_46 : decode cX2_add 46 = .ok (.getfield 24, 3) := by decide +kernel
theorem dX2_add_49 : decode cX2_add 49 = .ok (.ireturn, 1) := by decide +kernel
theorem dX3_init_0 : decode cX3_init 0 = .ok (.aload_n 0, 1) := by decide +kernel
theorem dX3_init_1 : decode cX3_init 1 = .ok (.invokespecial 3, 3) := by decide +kernel
theorem dX3_init_4 : decode cX3_init 4 = .ok (.aload_n 0, 1) := by decide +kernel
theorem dX3_init_5 : decode cX3_init 5 = .ok (.bipush 60, 2) := by decide +kernel
theorem dX3_init_7 : decode cX3_init 7 = .ok (.newarray .long, 2) := by decide +kernel
theorem dX3_init_9 : decode cX3_init 9 = .ok (.putfield 9, 3) := by decide +kernel
theorem dX3_init_12 : decode cX3_init 12 = .ok (.aload_n 0, 1) := by decide +kernel
theorem dX3_init_13 : decode cX3_init 13 = .ok (.iconst (-1), 1) := by decide +kernel
theorem dX3_init_14 : decode cX3_init 14 = .ok (.putfield 15, 3) := by decide +kernel
theorem dX3_init_17 : decode cX3_init 17 = .ok (.aload_n 0, 1) := by decide +kernel
theorem dX3_init_18 : decode cX3_init 18 = .ok (.iconst 0, 1) := by decide +kernel
theorem dX3_init_19 : decode cX3_init 19 = .ok (.putfield 19, 3) := by decide +kernel
theorem dX3_init_22 : decode cX3_init 22 = .ok (.return_, 1) := by decide +kernel
theorem dX3_becomeRow_0 : decode cX3_becomeRow 0 = .ok (.iconst 0, 1) := by decide +kernel
theorem dX3_becomeRow_1 : decode cX3_becomeRow 1 = .ok (.istore_n 3, 1) := by decide +kernel
theorem dX3_becomeRow_2 : decode cX3_becomeRow 2 = .ok (.iload_n 3, 1) := by decide +kernel
theorem dX3_becomeRow_3 : decode cX3_becomeRow 3 = .ok (.aload_n 0, 1) := by decide +kernel
theorem dX3_becomeRow_4 : decode cX3_becomeRow 4 = .ok (.getfield 9, 3) := by decide +kernel
theorem dX3_becomeRow_7 : decode cX3_becomeRow 7 = .ok (.arraylength, 1) := by decide +kernel
theorem dX3_becomeRow_8 : decode cX3_becomeRow 8 = .ok (.if_icmp .ge 16, 3) := by decide +kernel
theorem dX3_becomeRow_11 : decode cX3_becomeRow 11 = .ok (.aload_n 0, 1) := by decide +kernel
theorem dX3_becomeRow_12 : decode cX3_becomeRow 12 = .ok (.getfield 9, 3) := by decide +kernel
theorem dX3_becomeRow_15 : decode cX3_becomeRow 15 = .ok (.iload_n 3, 1) := by decide +kernel
theorem dX3_becomeRow_16 : decode cX3_becomeRow 16 = .ok (.lconst 0, 1) := by decide +kernel
theorem dX3_becomeRow_17 : decode cX3_becomeRow 17 = .ok (.lastore, 1) := by decide +kernel
theorem dX3_becomeRow_18 : decode cX3_becomeRow 18 = .ok (.iinc 3 1, 3) := by decide +kernel
theorem dX3_becomeRow_21 : decode cX3_becomeRow 21 = .ok (.goto (-19), 3) := by decide +kernel
theorem dX3_becomeRow_24 : decode cX3_becomeRow 24 = .ok (.aload_n 0, 1) := by decide +kernel
theorem dX3_becomeRow_25 : decode cX3_becomeRow 25 = .ok (.iload_n 1, 1) := by decide +kernel
theorem dX3_becomeRow_26 : decode cX3_becomeRow 26 = .ok (.putfield 15, 3) := by decide +kernel
theorem dX3_becomeRow_29 : decode cX3_becomeRow 29 = .ok (.aload_n 0, 1) := by decide +kernel
theorem dX3_becomeRow_30 : decode cX3_becomeRow 30 = .ok (.iload_n 2, 1) := by decide +kernel
theorem dX3_becomeRow_31 : decode cX3_becomeRow 31 = .ok (.putfield 19, 3) := by decide +kernel
theorem dX3_becomeRow_34 : decode cX3_becomeRow 34 = .ok (.return_, 1) := by decide +kernel
theorem dX3_cut_0 : decode cX3_cut 0 = .ok (.aload_n 0, 1) := by decide +kernel
theorem dX3_cut_1 : decode cX3_cut 1 = .ok (.getfield 15, 3) := by decide +kernel
theorem dX3_cut_4 : decode cX3_cut 4 = .ok (.tableswitch 48 0 3 #[32, 37, 42, 46], 32) := by decide +kernel
theorem dX3_cut_36 : decode cX3_cut 36 = .ok (.lload_n 1, 1) := by decide +kernel
theorem dX3_cut_37 : decode cX3_cut 37 = .ok (.l2i, 1) := by decide +kernel
theorem dX3_cut_38 : decode cX3_cut 38 = .ok (.i2b, 1) := by decide +kernel
theorem dX3_cut_39 : decode cX3_cut 39 = .ok (.i2l, 1) := by decide +kernel
theorem dX3_cut_40 : decode cX3_cut 40 = .ok (.lreturn, 1) := by decide +kernel
theorem dX3_cut_41 : decode cX3_cut 41 = .ok (.lload_n 1, 1) := by decide +kernel
theorem dX3_cut_42 : decode cX3_cut 42 = .ok (.l2i, 1) := by decide +kernel
theorem dX3_cut_43 : decode cX3_cut 43 = .ok (.i2s, 1) := by decide +kernel
theorem dX3_cut_44 : decode cX3_cut 44 = .ok (.i2l, 1) := by decide +kernel
theorem dX3_cut_45 : decode cX3_cut 45 = .ok (.lreturn, 1) := by decide +kernel
theorem dX3_cut_46 : decode cX3_cut 46 = .ok (.lload_n 1, 1) := by decide +kernel
theorem dX3_cut_47 : decode cX3_cut 47 = .ok (.l2i, 1) := by decide +kernel
theorem dX3_cut_48 : decode cX3_cut 48 = .ok (.i2l, 1) := by decide +kernel
theorem dX3_cut_49 : decode cX3_cut 49 = .ok (.lreturn, 1) := by decide +kernel
theorem dX3_cut_50 : decode cX3_cut 50 = .ok (.lload_n 1, 1) := by decide +kernel
theorem dX3_cut_51 : decode cX3_cut 51 = .ok (.lreturn, 1) := by decide +kernel
theorem dX3_cut_52 : decode cX3_cut 52 = .ok (.lload_n 1, 1) := by decide +kernel
theorem dX3_cut_53 : decode cX3_cut 53 = .ok (.lconst 0, 1) := by decide +kernel
theorem dX3_cut_54 : decode cX3_cut 54 = .ok (.lcmp, 1) := by decide +kernel
theorem dX3_cut_55 : decode cX3_cut 55 = .ok (.ifCond .eq 7, 3) := by decide +kernel
theorem dX3_cut_58 : decode cX3_cut 58 = .ok (.lconst 1, 1) := by decide +kernel
theorem dX3_cut_59 : decode cX3_cut 59 = .ok (.goto 4, 3) := by decide +kernel
theorem dX3_cut_62 : decode cX3_cut 62 = .ok (.lconst 0, 1) := by decide +kernel
theorem dX3_cut_63 : decode cX3_cut 63 = .ok (.lreturn, 1) := by decide +kernel
theorem dX4_init_0 : decode cX4_init 0 = .ok (.aload_n 0, 1) := by decide +kernel
theorem dX4_init_1 : decode cX4_init 1 = .ok (.invokespecial 3, 3) := by decide +kernel
theorem dX4_init_4 : decode cX4_init 4 = .ok (.aload_n 0, 1) := by decide +kernel
theorem dX4_init_5 : decode cX4_init 5 = .ok (.bipush 32, 2) := by decide +kernel
theorem dX4_init_7 : decode cX4_init 7 = .ok (.newarray .int, 2) := by decide +kernel
theorem dX4_init_9 : decode cX4_init 9 = .ok (.putfield 9, 3) := by decide +kernel
theorem dX4_init_12 : decode cX4_init 12 = .ok (.aload_n 0, 1) := by decide +kernel
theorem dX4_init_13 : decode cX4_init 13 = .ok (.bipush 32, 2) := by decide +kernel
theorem dX4_init_15 : decode cX4_init 15 = .ok (.newarray .int, 2) := by decide +kernel
theorem dX4_init_17 : decode cX4_init 17 = .ok (.putfield 15, 3) := by decide +kernel
theorem dX4_init_20 : decode cX4_init 20 = .ok (.aload_n 0, 1) := by decide +kernel
theorem dX4_init_21 : decode cX4_init 21 = .ok (.bipush 32, 2) := by decide +kernel
theorem dX4_init_23 : decode cX4_init 23 = .ok (.newarray .int, 2) := by decide +kernel
theorem dX4_init_25 : decode cX4_init 25 = .ok (.putfield 18, 3) := by decide +kernel
theorem dX4_init_28 : decode cX4_init 28 = .ok (.aload_n 0, 1) := by decide +kernel
theorem dX4_init_29 : decode cX4_init 29 = .ok (.bipush 32, 2) := by decide +kernel
theorem dX4_init_31 : decode cX4_init 31 = .ok (.newarray .int, 2) := by decide +kernel
theorem dX4_init_33 : decode cX4_init 33 = .ok (.putfield 21, 3) := by decide +kernel
theorem dX4_init_36 : decode cX4_init 36 = .ok (.aload_n 0, 1) := by decide +kernel
theorem dX4_init_37 : decode cX4_init 37 = .ok (.bipush 32, 2) := by decide +kernel
theorem dX4_init_39 : decode cX4_init 39 = .ok (.newarray .int, 2) := by decide +kernel
theorem dX4_init_41 : decode cX4_init 41 = .ok (.putfield 24, 3) := by decide +kernel
theorem dX4_init_44 : decode cX4_init 44 = .ok (.aload_n 0, 1) := by decide +kernel
theorem dX4_init_45 : decode cX4_init 45 = .ok (.bipush 32, 2) := by decide +kernel
theorem dX4_init_47 : decode cX4_init 47 = .ok (.newarray .int, 2) := by decide +kernel
theorem dX4_init_49 : decode cX4_init 49 = .ok (.putfield 27, 3) := by decide +kernel
theorem dX4_init_52 : decode cX4_init 52 = .ok (.aload_n 0, 1) := by decide +kernel
theorem dX4_init_53 : decode cX4_init 53 = .ok (.bipush 32, 2) := by decide +kernel
theorem dX4_init_55 : decode cX4_init 55 = .ok (.newarray .int, 2) := by decide +kernel
theorem dX4_init_57 : decode cX4_init 57 = .ok (.putfield 30, 3) := by decide +kernel
theorem dX4_init_60 : decode cX4_init 60 = .ok (.aload_n 0, 1) := by decide +kernel
theorem dX4_init_61 : decode cX4_init 61 = .ok (.bipush 32, 2) := by decide +kernel
theorem dX4_init_63 : decode cX4_init 63 = .ok (.newarray .int, 2) := by decide +kernel
theorem dX4_init_65 : decode cX4_init 65 = .ok (.putfield 33, 3) := by decide +kernel
theorem dX4_init_68 : decode cX4_init 68 = .ok (.aload_n 0, 1) := by decide +kernel
theorem dX4_init_69 : decode cX4_init 69 = .ok (.iconst 0, 1) := by decide +kernel
theorem dX4_init_70 : decode cX4_init 70 = .ok (.putfield 36, 3) := by decide +kernel
theorem dX4_init_73 : decode cX4_init 73 = .ok (.return_, 1) := by decide +kernel
theorem dX4_become_0 : decode cX4_become 0 = .ok (.aload_n 0, 1) := by decide +kernel
theorem dX4_become_1 : decode cX4_become 1 = .ok (.aload_n 1, 1) := by decide +kernel
theorem dX4_become_2 : decode cX4_become 2 = .ok (.getfield 36, 3) := by decide +kernel
theorem dX4_become_5 : decode cX4_become 5 = .ok (.putfield 36, 3) := by decide +kernel
theorem dX4_become_8 : decode cX4_become 8 = .ok (.aload_n 1, 1) := by decide +kernel
theorem dX4_become_9 : decode cX4_become 9 = .ok (.getfield 9, 3) := by decide +kernel
theorem dX4_become_12 : decode cX4_become 12 = .ok (.iconst 0, 1) := by decide +kernel
theorem dX4_become_13 : decode cX4_become 13 = .ok (.aload_n 0, 1) := by decide +kernel
theorem dX4_become_14 : decode cX4_become 14 = .ok (.getfield 9, 3) := by decide +kernel
theorem dX4_become_17 : decode cX4_become 17 = .ok (.iconst 0, 1) := by decide +kernel
theorem dX4_become_18 : decode cX4_become 18 = .ok (.aload_n 0, 1) := by decide +kernel
theorem dX4_become_19 : decode cX4_become 19 = .ok (.getfield 36, 3) := by decide +kernel
theorem dX4_become_22 : decode cX4_become 22 = .ok (.invokestatic 40, 3) := by decide +kernel
theorem dX4_become_25 : decode cX4_become 25 = .ok (.aload_n 1, 1) := by decide +kernel
theorem dX4_become_26 : decode cX4_become 26 = .ok (.getfield 15, 3) := by decide +kernel
theorem dX4_become_29 : decode cX4_become 29 = .ok (.iconst 0, 1) := by decide +kernel
theorem dX4_become_30 : decode cX4_become 30 = .ok (.aload_n 0, 1) := by decide +kernel
theorem dX4_become_31 : decode cX4_become 31 = .ok (.getfield 15, 3) := by decide +kernel
theorem dX4_become_34 : decode cX4_become 34 = .ok (.iconst 0, 1) := by decide +kernel
theorem dX4_become_35 : decode cX4_become 35 = .ok (.aload_n 0, 1) := by decide +kernel
theorem dX4_become_36 : decode cX4_become 36 = .ok (.getfield 36, 3) := by decide +kernel
theorem dX4_become_39 : decode cX4_become 39 = .ok (.invokestatic 40, 3) := by decide +kernel
theorem dX4_become_42 : decode cX4_become 42 = .ok (.aload_n 1, 1) := by decide +kernel
theorem dX4_become_43 : decode cX4_become 43 = .ok (.getfield 18, 3) := by decide +kernel
theorem dX4_become_46 : decode cX4_become 46 = .ok (.iconst 0, 1) := by decide +kernel
theorem dX4_become_47 : decode cX4_become 47 = .ok (.aload_n 0, 1) := by decide +kernel
theorem dX4_become_48 : decode cX4_become 48 = .ok (.getfield 18, 3) := by decide +kernel
theorem dX4_become_51 : decode cX4_become 51 = .ok (.iconst 0, 1) := by decide +kernel
theorem dX4_become_52 : decode cX4_become 52 = .ok (.aload_n 0, 1) := by decide +kernel
theorem dX4_become_53 : decode cX4_become 53 = .ok (.getfield 36, 3) := by decide +kernel
theorem dX4_become_56 : decode cX4_become 56 = .ok (.invokestatic 40, 3) := by decide +kernel
theorem dX4_become_59 : decode cX4_become 59 = .ok (.aload_n 1, 1) := by decide +kernel
theorem dX4_become_60 : decode cX4_become 60 = .ok (.getfield 21, 3) := by decide +kernel
theorem dX4_become_63 : decode cX4_become 63 = .ok (.iconst 0, 1) := by decide +kernel
theorem dX4_become_64 : decode cX4_become 64 = .ok (.aload_n 0, 1) := by decide +kernel
theorem dX4_become_65 : decode cX4_become 65 = .ok (.getfield 21, 3) := by decide +kernel
theorem dX4_become_68 : decode cX4_become 68 = .ok (.iconst 0, 1) := by decide +kernel
theorem dX4_become_69 : decode cX4_become 69 = .ok (.aload_n 0, 1) := by decide +kernel
theorem dX4_become_70 : decode cX4_become 70 = .ok (.getfield 36, 3) := by decide +kernel
theorem dX4_become_73 : decode cX4_become 73 = .ok (.invokestatic 40, 3) := by decide +kernel
theorem dX4_become_76 : decode cX4_become 76 = .ok (.aload_n 1, 1) := by decide +kernel
theorem dX4_become_77 : decode cX4_become 77 = .ok (.getfield 24, 3) := by decide +kernel
theorem dX4_become_80 : decode cX4_become 80 = .ok (.iconst 0, 1) := by decide +kernel
theorem dX4_become_81 : decode cX4_become 81 = .ok (.aload_n 0, 1) := by decide +kernel
theorem dX4_become_82 : decode cX4_become 82 = .ok (.getfield 24, 3) := by decide +kernel
theorem dX4_become_85 : decode cX4_become 85 = .ok (.iconst 0, 1) := by decide +kernel
theorem dX4_become_86 : decode cX4_become 86 = .ok (.aload_n 0, 1) := by decide +kernel
theorem dX4_become_87 : decode cX4_become 87 = .ok (.getfield 36, 3) := by decide +kernel
theorem dX4_become_90 : decode cX4_become 90 = .ok (.invokestatic 40, 3) := by decide +kernel
theorem dX4_become_93 : decode cX4_become 93 = .ok (.aload_n 1, 1) := by decide +kernel
theorem dX4_become_94 : decode cX4_become 94 = .ok (.getfield 27, 3) := by decide +kernel
theorem dX4_become_97 : decode cX4_become 97 = .ok (.iconst 0, 1) := by decide +kernel
theorem dX4_become_98 : decode cX4_become 98 = .ok (.aload_n 0, 1) := by decide +kernel
theorem dX4_become_99 : decode cX4_become 99 = .ok (.getfield 27, 3) := by decide +kernel
theorem dX4_become_102 : decode cX4_become 102 = .ok (.iconst 0, 1) := by decide +kernel
theorem dX4_become_103 : decode cX4_become 103 = .ok (.aload_n 0, 1) := by decide +kernel
theorem dX4_become_104 : decode cX4_become 104 = .ok (.getfield 36, 3) := by decide +kernel
theorem dX4_become_107 : decode cX4_become 107 = .ok (.invokestatic 40, 3) := by decide +kernel
theorem dX4_become_110 : decode cX4_become 110 = .ok (.aload_n 1, 1) := by decide +kernel
theorem dX4_become_111 : decode cX4_become 111 = .ok (.getfield 30, 3) := by decide +kernel
theorem dX4_become_114 : decode cX4_become 114 = .ok (.iconst 0, 1) := by decide +kernel
theorem dX4_become_115 : decode cX4_become 115 = .ok (.aload_n 0, 1) := by decide +kernel
theorem dX4_become_116 : decode cX4_become 116 = .ok (.getfield 30, 3) := by decide +kernel
theorem dX4_become_119 : decode cX4_become 119 = .ok (.iconst 0, 1) := by decide +kernel
theorem dX4_become_120 : decode cX4_become 120 = .ok (.aload_n 0, 1) := by decide +kernel
theorem dX4_become_121 : decode cX4_become 121 = .ok (.getfield 36, 3) := by decide +kernel
theorem dX4_become_124 : decode cX4_become 124 = .ok (.invokestatic 40, 3) := by decide +kernel
theorem dX4_become_127 : decode cX4_become 127 = .ok (.return_, 1) := by decide +kernel
theorem dX4_add_0 : decode cX4_add 0 = .ok (.aload_n 0, 1) := by decide +kernel
theorem dX4_add_1 : decode cX4_add 1 = .ok (.getfield 36, 3) := by decide +kernel
theorem dX4_add_4 : decode cX4_add 4 = .ok (.bipush 32, 2) := by decide +kernel
theorem dX4_add_6 : decode cX4_add 6 = .ok (.if_icmp .ge 84, 3) := by decide +kernel
theorem dX4_add_9 : decode cX4_add 9 = .ok (.aload_n 0, 1) := by decide +kernel
theorem dX4_add_10 : decode cX4_add 10 = .ok (.getfield 9, 3) := by decide +kernel
theorem dX4_add_13 : decode cX4_add 13 = .ok (.aload_n 0, 1) := by decide +kernel
theorem dX4_add_14 : decode cX4_add 14 = .ok (.getfield 36, 3) := by decide +kernel
theorem dX4_add_17 : decode cX4_add 17 = .ok (.iload_n 1, 1) := by decide +kernel
theorem dX4_add_18 : decode cX4_add 18 = .ok (.iastore, 1) := by decide +kernel
theorem dX4_add_19 : decode cX4_add 19 = .ok (.aload_n 0, 1) := by decide +kernel
theorem dX4_add_20 : decode cX4_add 20 = .ok (.getfield 15, 3) := by decide +kernel
theorem dX4_add_23 : decode cX4_add 23 = .ok (.aload_n 0, 1) := by decide +kernel
theorem dX4_add_24 : decode cX4_add 24 = .ok (.getfield 36, 3) := by decide +kernel
theorem dX4_add_27 : decode cX4_add 27 = .ok (.iload_n 1, 1) := by decide +kernel
theorem dX4_add_28 : decode cX4_add 28 = .ok (.iastore, 1) := by decide +kernel
theorem dX4_add_29 : decode cX4_add 29 = .ok (.aload_n 0, 1) := by decide +kernel
theorem dX4_add_30 : decode cX4_add 30 = .ok (.getfield 18, 3) := by decide +kernel
theorem dX4_add_33 : decode cX4_add 33 = .ok (.aload_n 0, 1) := by decide +kernel
theorem dX4_add_34 : decode cX4_add 34 = .ok (.getfield 36, 3) := by decide +kernel
theorem dX4_add_37 : decode cX4_add 37 = .ok (.iconst 0, 1) := by decide +kernel
theorem dX4_add_38 : decode cX4_add 38 = .ok (.iastore, 1) := by decide +kernel
theorem dX4_add_39 : decode cX4_add 39 = .ok (.aload_n 0, 1) := by decide +kernel
theorem dX4_add_40 : decode cX4_add 40 = .ok (.getfield 21, 3) := by decide +kernel
theorem dX4_add_43 : decode cX4_add 43 = .ok (.aload_n 0, 1) := by decide +kernel
theorem dX4_add_44 : decode cX4_add 44 = .ok (.getfield 36, 3) := by decide +kernel
theorem dX4_add_47 : decode cX4_add 47 = .ok (.iconst 0, 1) := by decide +kernel
theorem dX4_add_48 : decode cX4_add 48 = .ok (.iastore, 1) := by decide +kernel
theorem dX4_add_49 : decode cX4_add 49 = .ok (.aload_n 0, 1) := by decide +kernel
theorem dX4_add_50 : decode cX4_add 50 = .ok (.getfield 24, 3) := by decide +kernel
theorem dX4_add_53 : decode cX4_add 53 = .ok (.aload_n 0, 1) := by decide +kernel
theorem dX4_add_54 : decode cX4_add 54 = .ok (.getfield 36, 3) := by decide +kernel
theorem dX4_add_57 : decode cX4_add 57 = .ok (.iload_n 3, 1) := by decide +kernel
theorem dX4_add_58 : decode cX4_add 58 = .ok (.iastore, 1) := by decide +kernel
theorem dX4_add_59 : decode cX4_add 59 = .ok (.aload_n 0, 1) := by decide +kernel
theorem dX4_add_60 : decode cX4_add 60 = .ok (.getfield 27, 3) := by decide +kernel
theorem dX4_add_63 : decode cX4_add 63 = .ok (.aload_n 0, 1) := by decide +kernel
theorem dX4_add_64 : decode cX4_add 64 = .ok (.getfield 36, 3) := by decide +kernel
theorem dX4_add_67 : decode cX4_add 67 = .ok (.iload_n 2, 1) := by decide +kernel
theorem dX4_add_68 : decode cX4_add 68 = .ok (.iastore, 1) := by decide +kernel
theorem dX4_add_69 : decode cX4_add 69 = .ok (.aload_n 0, 1) := by decide +kernel
theorem dX4_add_70 : decode cX4_add 70 = .ok (.getfield 30, 3) := by decide +kernel
theorem dX4_add_73 : decode cX4_add 73 = .ok (.aload_n 0, 1) := by decide +kernel
theorem dX4_add_74 : decode cX4_add 74 = .ok (.getfield 36, 3) := by decide +kernel
theorem dX4_add_77 : decode cX4_add 77 = .ok (.bipush (-5), 2) := by decide +kernel
theorem dX4_add_79 : decode cX4_add 79 = .ok (.iastore, 1) := by decide +kernel
theorem dX4_add_80 : decode cX4_add 80 = .ok (.aload_n 0, 1) := by decide +kernel
theorem dX4_add_81 : decode cX4_add 81 = .ok (.dup, 1) := by decide +kernel
theorem dX4_add_82 : decode cX4_add 82 = .ok (.getfield 36, 3) := by decide +kernel
theorem dX4_add_85 : decode cX4_add 85 = .ok (.iconst 1, 1) := by decide +kernel
theorem dX4_add_86 : decode cX4_add 86 = .ok (.iadd, 1) := by decide +kernel
theorem dX4_add_87 : decode cX4_add 87 = .ok (.putfield 36, 3) := by decide +kernel
theorem dX4_add_90 : decode cX4_add 90 = .ok (.return_, 1) := by decide +kernel
theorem dX4_has_0 : decode cX4_has 0 = .ok (.iload_n 1, 1) := by decide +kernel
theorem dX4_has_1 : decode cX4_has 1 = .ok (.ifCond .lt 15, 3) := by decide +kernel
theorem dX4_has_4 : decode cX4_has 4 = .ok (.iload_n 1, 1) := by decide +kernel
theorem dX4_has_5 : decode cX4_has 5 = .ok (.aload_n 0, 1) := by decide +kernel
theorem dX4_has_6 : decode cX4_has 6 = .ok (.getfield 36, 3) := by decide +kernel
theorem dX4_has_9 : decode cX4_has 9 = .ok (.if_icmp .ge 7, 3) := by decide +kernel
theorem dX4_has_12 : decode cX4_has 12 = .ok (.iconst 1, 1) := by decide +kernel
theorem dX4_has_13 : decode cX4_has 13 = .ok (.goto 4, 3) := by decide +kernel
theorem dX4_has_16 : decode cX4_has 16 = .ok (.iconst 0, 1) := by decide +kernel
theorem dX4_has_17 : decode cX4_has 17 = .ok (.ireturn, 1) := by decide +kernel
theorem dX4_isEnded_0 : decode cX4_isEnded 0 = .ok (.aload_n 0, 1) := by decide +kernel
theorem dX4_isEnded_1 : decode cX4_isEnded 1 = .ok (.iload_n 1, 1) := by decide +kernel
theorem dX4_isEnded_2 : decode cX4_isEnded 2 = .ok (.invokevirtual 46, 3) := by decide +kernel
theorem dX4_isEnded_5 : decode cX4_isEnded 5 = .ok (.ifCond .eq 17, 3) := by decide +kernel
theorem dX4_isEnded_8 : decode cX4_isEnded 8 = .ok (.aload_n 0, 1) := by decide +kernel
theorem dX4_isEnded_9 : decode cX4_isEnded 9 = .ok (.getfield 21, 3) := by decide +kernel
theorem dX4_isEnded_12 : decode cX4_isEnded 12 = .ok (.iload_n 1, 1) := by decide +kernel
theorem dX4_isEnded_13 : decode cX4_isEnded 13 = .ok (.iaload, 1) := by decide +kernel
theorem dX4_isEnded_14 : decode cX4_isEnded 14 = .ok (.iconst 3, 1) := by decide +kernel
theorem dX4_isEnded_15 : decode cX4_isEnded 15 = .ok (.if_icmp .lt 7, 3) := by decide +kernel
theorem dX4_isEnded_18 : decode cX4_isEnded 18 = .ok (.iconst 1, 1) := by decide +kernel
theorem dX4_isEnded_19 : decode cX4_isEnded 19 = .ok (.goto 4, 3) := by decide +kernel
theorem dX4_isEnded_22 : decode cX4_isEnded 22 = .ok (.iconst 0, 1) := by decide +kernel
theorem dX4_isEnded_23 : decode cX4_isEnded 23 = .ok (.ireturn, 1) := by decide +kernel
theorem dX4_isJoining_0 : decode cX4_isJoining 0 = .ok (.aload_n 0, 1) := by decide +kernel
theorem dX4_isJoining_1 : decode cX4_isJoining 1 = .ok (.iload_n 1, 1) := by decide +kernel
theorem dX4_isJoining_2 : decode cX4_isJoining 2 = .ok (.invokevirtual 46, 3) := by decide +kernel
theorem dX4_isJoining_5 : decode cX4_isJoining 5 = .ok (.ifCond .eq 17, 3) := by decide +kernel
theorem dX4_isJoining_8 : decode cX4_isJoining 8 = .ok (.aload_n 0, 1) := by decide +kernel
theorem dX4_isJoining_9 : decode cX4_isJoining 9 = .ok (.getfield 21, 3) := by decide +kernel
theorem dX4_isJoining_12 : decode cX4_isJoining 12 = .ok (.iload_n 1, 1) := by decide +kernel
theorem dX4_isJoining_13 : decode cX4_isJoining 13 = .ok (.iaload, 1) := by decide +kernel
theorem dX4_isJoining_14 : decode cX4_isJoining 14 = .ok (.iconst 2, 1) := by decide +kernel
theorem dX4_isJoining_15 : decode cX4_isJoining 15 = .ok (.if_icmp .ne 7, 3) := by decide +kernel
theorem dX4_isJoining_18 : decode cX4_isJoining 18 = .ok (.iconst 1, 1) := by decide +kernel
theorem dX4_isJoining_19 : decode cX4_isJoining 19 = .ok (.goto 4, 3) := by decide +kernel
theorem dX4_isJoining_22 : decode cX4_isJoining 22 = .ok (.iconst 0, 1) := by decide +kernel
theorem dX4_isJoining_23 : decode cX4_isJoining 23 = .ok (.ireturn, 1) := by decide +kernel
theorem dX4_lessLeft_0 : decode cX4_lessLeft 0 = .ok (.aload_n 0, 1) := by decide +kernel
theorem dX4_lessLeft_1 : decode cX4_lessLeft 1 = .ok (.getfield 15, 3) := by decide +kernel
theorem dX4_lessLeft_4 : decode cX4_lessLeft 4 = .ok (.iload_n 1, 1) := by decide +kernel
theorem dX4_lessLeft_5 : decode cX4_lessLeft 5 = .ok (.dup2, 1) := by decide +kernel
theorem dX4_lessLeft_6 : decode cX4_lessLeft 6 = .ok (.iaload, 1) := by decide +kernel
theorem dX4_lessLeft_7 : decode cX4_lessLeft 7 = .ok (.iconst 1, 1) := by decide +kernel
theorem dX4_lessLeft_8 : decode cX4_lessLeft 8 = .ok (.isub, 1) := by decide +kernel
theorem dX4_lessLeft_9 : decode cX4_lessLeft 9 = .ok (.iastore, 1) := by decide +kernel
theorem dX4_lessLeft_10 : decode cX4_lessLeft 10 = .ok (.aload_n 0, 1) := by decide +kernel
theorem dX4_lessLeft_11 : decode cX4_lessLeft 11 = .ok (.getfield 15, 3) := by decide +kernel
theorem dX4_lessLeft_14 : decode cX4_lessLeft 14 = .ok (.iload_n 1, 1) := by decide +kernel
theorem dX4_lessLeft_15 : decode cX4_lessLeft 15 = .ok (.iaload, 1) := by decide +kernel
theorem dX4_lessLeft_16 : decode cX4_lessLeft 16 = .ok (.ireturn, 1) := by decide +kernel
theorem dX4_allInAreEnded_0 : decode cX4_allInAreEnded 0 = .ok (.iload_n 1, 1) := by decide +kernel
theorem dX4_allInAreEnded_1 : decode cX4_allInAreEnded 1 = .ok (.iconst 1, 1) := by decide +kernel
theorem dX4_allInAreEnded_2 : decode cX4_allInAreEnded 2 = .ok (.iadd, 1) := by decide +kernel
theorem dX4_allInAreEnded_3 : decode cX4_allInAreEnded 3 = .ok (.istore_n 2, 1) := by decide +kernel
theorem dX4_allInAreEnded_4 : decode cX4_allInAreEnded 4 = .ok (.iload_n 2, 1) := by decide +kernel
theorem dX4_allInAreEnded_5 : decode cX4_allInAreEnded 5 = .ok (.aload_n 0, 1) := by decide +kernel
theorem dX4_allInAreEnded_6 : decode cX4_allInAreEnded 6 = .ok (.getfield 36, 3) := by decide +kernel
theorem dX4_allInAreEnded_9 : decode cX4_allInAreEnded 9 = .ok (.if_icmp .ge 31, 3) := by decide +kernel
theorem dX4_allInAreEnded_12 : decode cX4_allInAreEnded 12 = .ok (.aload_n 0, 1) := by decide +kernel
theorem dX4_allInAreEnded_13 : decode cX4_allInAreEnded 13 = .ok (.getfield 24, 3) := by decide +kernel
theorem dX4_allInAreEnded_16 : decode cX4_allInAreEnded 16 = .ok (.iload_n 2, 1) := by decide +kernel
theorem dX4_allInAreEnded_17 : decode cX4_allInAreEnded 17 = .ok (.iaload, 1) := by decide +kernel
theorem dX4_allInAreEnded_18 : decode cX4_allInAreEnded 18 = .ok (.iload_n 1, 1) := by decide +kernel
theorem dX4_allInAreEnded_19 : decode cX4_allInAreEnded 19 = .ok (.if_icmp .ne 15, 3) := by decide +kernel
theorem dX4_allInAreEnded_22 : decode cX4_allInAreEnded 22 = .ok (.aload_n 0, 1) := by decide +kernel
theorem dX4_allInAreEnded_23 : decode cX4_allInAreEnded 23 = .ok (.getfield 21, 3) := by decide +kernel
theorem dX4_allInAreEnded_26 : decode cX4_allInAreEnded 26 = .ok (.iload_n 2, 1) := by decide +kernel
theorem dX4_allInAreEnded_27 : decode cX4_allInAreEnded 27 = .ok (.iaload, 1) := by decide +kernel
theorem dX4_allInAreEnded_28 : decode cX4_allInAreEnded 28 = .ok (.iconst 3, 1) := by decide +kernel
theorem dX4_allInAreEnded_29 : decode cX4_allInAreEnded 29 = .ok (.if_icmp .ge 5, 3) := by decide +kernel
theorem dX4_allInAreEnded_32 : decode cX4_allInAreEnded 32 = .ok (.iconst 0, 1) := by decide +kernel
theorem dX4_allInAreEnded_33 : decode cX4_allInAreEnded 33 = .ok (.ireturn, 1) := by decide +kernel
theorem dX4_allInAreEnded_34 : decode cX4_allInAreEnded 34 = .ok (.iinc 2 1, 3) := by decide +kernel
theorem dX4_allInAreEnded_37 : decode cX4_allInAreEnded 37 = .ok (.goto (-33), 3) := by decide +kernel
theorem dX4_allInAreEnded_40 : decode cX4_allInAreEnded 40 = .ok (.iconst 1, 1) := by decide +kernel
theorem dX4_allInAreEnded_41 : decode cX4_allInAreEnded 41 = .ok (.ireturn, 1) := by decide +kernel
theorem dX4_finish_0 : decode cX4_finish 0 = .ok (.aload_n 0, 1) := by decide +kernel
theorem dX4_finish_1 : decode cX4_finish 1 = .ok (.getfield 9, 3) := by decide +kernel
theorem dX4_finish_4 : decode cX4_finish 4 = .ok (.iload_n 1, 1) := by decide +kernel
theorem dX4_finish_5 : decode cX4_finish 5 = .ok (.iaload, 1) := by decide +kernel
theorem dX4_finish_6 : decode cX4_finish 6 = .ok (.istore_n 2, 1) := by decide +kernel
theorem dX4_finish_7 : decode cX4_finish 7 = .ok (.iload_n 1, 1) := by decide +kernel
theorem dX4_finish_8 : decode cX4_finish 8 = .ok (.iconst 1, 1) := by decide +kernel
theorem dX4_finish_9 : decode cX4_finish 9 = .ok (.iadd, 1) := by decide +kernel
theorem dX4_finish_10 : decode cX4_finish 10 = .ok (.istore_n 3, 1) := by decide +kernel
theorem dX4_finish_11 : decode cX4_finish 11 = .ok (.iload_n 3, 1) := by decide +kernel
theorem dX4_finish_12 : decode cX4_finish 12 = .ok (.aload_n 0, 1) := by decide +kernel
theorem dX4_finish_13 : decode cX4_finish 13 = .ok (.getfield 36, 3) := by decide +kernel
theorem dX4_finish_16 : decode cX4_finish 16 = .ok (.if_icmp .ge 38, 3) := by decide +kernel
theorem dX4_finish_19 : decode cX4_finish 19 = .ok (.aload_n 0, 1) := by decide +kernel
theorem dX4_finish_20 : decode cX4_finish 20 = .ok (.getfield 24, 3) := by decide +kernel
theorem dX4_finish_23 : decode cX4_finish 23 = .ok (.iload_n 3, 1) := by decide +kernel
theorem dX4_finish_24 : decode cX4_finish 24 = .ok (.iaload, 1) := by decide +kernel
theorem dX4_finish_25 : decode cX4_finish 25 = .ok (.iload_n 1, 1) := by decide +kernel
theorem dX4_finish_26 : decode cX4_finish 26 = .ok (.if_icmp .ne 22, 3) := by decide +kernel
theorem dX4_finish_29 : decode cX4_finish 29 = .ok (.aload_n 0, 1) := by decide +kernel
theorem dX4_finish_30 : decode cX4_finish 30 = .ok (.getfield 21, 3) := by decide +kernel
theorem dX4_finish_33 : decode cX4_finish 33 = .ok (.iload_n 3, 1) := by decide +kernel
theorem dX4_finish_34 : decode cX4_finish 34 = .ok (.iaload, 1) := by decide +kernel
theorem dX4_finish_35 : decode cX4_finish 35 = .ok (.iconst 3, 1) := by decide +kernel
theorem dX4_finish_36 : decode cX4_finish 36 = .ok (.if_icmp .ne 12, 3) := by decide +kernel
theorem dX4_finish_39 : decode cX4_finish 39 = .ok (.iload_n 2, 1) := by decide +kernel
theorem dX4_finish_40 : decode cX4_finish 40 = .ok (.aload_n 0, 1) := by decide +kernel
theorem dX4_finish_41 : decode cX4_finish 41 = .ok (.getfield 18, 3) := by decide +kernel
theorem dX4_finish_44 : decode cX4_finish 44 = .ok (.iload_n 3, 1) := by decide +kernel
theorem dX4_finish_45 : decode cX4_finish 45 = .ok (.iaload, 1) := by decide +kernel
theorem dX4_finish_46 : decode cX4_finish 46 = .ok (.iadd, 1) := by decide +kernel
theorem dX4_finish_47 : decode cX4_finish 47 = .ok (.istore_n 2, 1) := by decide +kernel
theorem dX4_finish_48 : decode cX4_finish 48 = .ok (.iinc 3 1, 3) := by decide +kernel
theorem dX4_finish_51 : decode cX4_finish 51 = .ok (.goto (-40), 3) := by decide +kernel
theorem dX4_finish_54 : decode cX4_finish 54 = .ok (.aload_n 0, 1) := by decide +kernel
theorem dX4_finish_55 : decode cX4_finish 55 = .ok (.getfield 21, 3) := by decide +kernel
theorem dX4_finish_58 : decode cX4_finish 58 = .ok (.iload_n 1, 1) := by decide +kernel
theorem dX4_finish_59 : decode cX4_finish 59 = .ok (.iconst 3, 1) := by decide +kernel
theorem dX4_finish_60 : decode cX4_finish 60 = .ok (.iastore, 1) := by decide +kernel
theorem dX4_finish_61 : decode cX4_finish 61 = .ok (.aload_n 0, 1) := by decide +kernel
theorem dX4_finish_62 : decode cX4_finish 62 = .ok (.getfield 18, 3) := by decide +kernel
theorem dX4_finish_65 : decode cX4_finish 65 = .ok (.iload_n 1, 1) := by decide +kernel
theorem dX4_finish_66 : decode cX4_finish 66 = .ok (.iload_n 2, 1) := by decide +kernel
theorem dX4_finish_67 : decode cX4_finish 67 = .ok (.iastore, 1) := by decide +kernel
theorem dX4_finish_68 : decode cX4_finish 68 = .ok (.return_, 1) := by decide +kernel
theorem dX4_isBelow_0 : decode cX4_isBelow 0 = .ok (.aload_n 0, 1) := by decide +kernel
theorem dX4_isBelow_1 : decode cX4_isBelow 1 = .ok (.getfield 24, 3) := by decide +kernel
theorem dX4_isBelow_4 : decode cX4_isBelow 4 = .ok (.iload_n 1, 1) := by decide +kernel
theorem dX4_isBelow_5 : decode cX4_isBelow 5 = .ok (.iaload, 1) := by decide +kernel
theorem dX4_isBelow_6 : decode cX4_isBelow 6 = .ok (.istore_n 3, 1) := by decide +kernel
theorem dX4_isBelow_7 : decode cX4_isBelow 7 = .ok (.iconst 0, 1) := by decide +kernel
theorem dX4_isBelow_8 : decode cX4_isBelow 8 = .ok (.istore 4, 2) := by decide +kernel
theorem dX4_isBelow_10 : decode cX4_isBelow 10 = .ok (.iload 4, 2) := by decide +kernel
theorem dX4_isBelow_12 : decode cX4_isBelow 12 = .ok (.iconst 4, 1) := by decide +kernel
theorem dX4_isBelow_13 : decode cX4_isBelow 13 = .ok (.if_icmp .ge 21, 3) := by decide +kernel
theorem dX4_isBelow_16 : decode cX4_isBelow 16 = .ok (.iload_n 3, 1) := by decide +kernel
theorem dX4_isBelow_17 : decode cX4_isBelow 17 = .ok (.iload_n 2, 1) := by decide +kernel
theorem dX4_isBelow_18 : decode cX4_isBelow 18 = .ok (.if_icmp .le 16, 3) := by decide +kernel
theorem dX4_isBelow_21 : decode cX4_isBelow 21 = .ok (.aload_n 0, 1) := by decide +kernel
theorem dX4_isBelow_22 : decode cX4_isBelow 22 = .ok (.getfield 24, 3) := by decide +kernel
theorem dX4_isBelow_25 : decode cX4_isBelow 25 = .ok (.iload_n 3, 1) := by decide +kernel
theorem dX4_isBelow_26 : decode cX4_isBelow 26 = .ok (.iaload, 1) := by decide +kernel
theorem dX4_isBelow_27 : decode cX4_isBelow 27 = .ok (.istore_n 3, 1) := by decide +kernel
theorem dX4_isBelow_28 : decode cX4_isBelow 28 = .ok (.iinc 4 1, 3) := by decide +kernel
theorem dX4_isBelow_31 : decode cX4_isBelow 31 = .ok (.goto (-21), 3) := by decide +kernel
theorem dX4_isBelow_34 : decode cX4_isBelow 34 = .ok (.iload_n 3, 1) := by decide +kernel
theorem dX4_isBelow_35 : decode cX4_isBelow 35 = .ok (.iload_n 2, 1) := by decide +kernel
theorem dX4_isBelow_36 : decode cX4_isBelow 36 = .ok (.if_icmp .ne 7, 3) := by decide +kernel
theorem dX4_isBelow_39 : decode cX4_isBelow 39 = .ok (.iconst 1, 1) := by decide +kernel
theorem dX4_isBelow_40 : decode cX4_isBelow 40 = .ok (.goto 4, 3) := by decide +kernel
theorem dX4_isBelow_43 : decode cX4_isBelow 43 = .ok (.iconst 0, 1) := by decide +kernel
theorem dX4_isBelow_44 : decode cX4_isBelow 44 = .ok (.ireturn, 1) := by decide +kernel
theorem dX4_howManyIn_0 : decode cX4_howManyIn 0 = .ok (.iconst 0, 1) := by decide +kernel
theorem dX4_howManyIn_1 : decode cX4_howManyIn 1 = .ok (.istore_n 2, 1) := by decide +kernel
theorem dX4_howManyIn_2 : decode cX4_howManyIn 2 = .ok (.iload_n 1, 1) := by decide +kernel
theorem dX4_howManyIn_3 : decode cX4_howManyIn 3 = .ok (.iconst 1, 1) := by decide +kernel
theorem dX4_howManyIn_4 : decode cX4_howManyIn 4 = .ok (.iadd, 1) := by decide +kernel
theorem dX4_howManyIn_5 : decode cX4_howManyIn 5 = .ok (.istore_n 3, 1) := by decide +kernel
theorem dX4_howManyIn_6 : decode cX4_howManyIn 6 = .ok (.iload_n 3, 1) := by decide +kernel
theorem dX4_howManyIn_7 : decode cX4_howManyIn 7 = .ok (.aload_n 0, 1) := by decide +kernel
theorem dX4_howManyIn_8 : decode cX4_howManyIn 8 = .ok (.getfield 36, 3) := by decide +kernel
theorem dX4_howManyIn_11 : decode cX4_howManyIn 11 = .ok (.if_icmp .ge 22, 3) := by decide +kernel
theorem dX4_howManyIn_14 : decode cX4_howManyIn 14 = .ok (.aload_n 0, 1) := by decide +kernel
theorem dX4_howManyIn_15 : decode cX4_howManyIn 15 = .ok (.getfield 24, 3) := by decide +kernel
theorem dX4_howManyIn_18 : decode cX4_howManyIn 18 = .ok (.iload_n 3, 1) := by decide +kernel
theorem dX4_howManyIn_19 : decode cX4_howManyIn 19 = .ok (.iaload, 1) := by decide +kernel
theorem dX4_howManyIn_20 : decode cX4_howManyIn 20 = .ok (.iload_n 1, 1) := by decide +kernel
theorem dX4_howManyIn_21 : decode cX4_howManyIn 21 = .ok (.if_icmp .ne 6, 3) := by decide +kernel
theorem dX4_howManyIn_24 : decode cX4_howManyIn 24 = .ok (.iinc 2 1, 3) := by decide +kernel
theorem dX4_howManyIn_27 : decode cX4_howManyIn 27 = .ok (.iinc 3 1, 3) := by decide +kernel
theorem dX4_howManyIn_30 : decode cX4_howManyIn 30 = .ok (.goto (-24), 3) := by decide +kernel
theorem dX4_howManyIn_33 : decode cX4_howManyIn 33 = .ok (.iload_n 2, 1) := by decide +kernel
theorem dX4_howManyIn_34 : decode cX4_howManyIn 34 = .ok (.ireturn, 1) := by decide +kernel
theorem dX4_span_0 : decode cX4_span 0 = .ok (.iload_n 1, 1) := by decide +kernel
theorem dX4_span_1 : decode cX4_span 1 = .ok (.istore_n 2, 1) := by decide +kernel
theorem dX4_span_2 : decode cX4_span 2 = .ok (.iload_n 2, 1) := by decide +kernel
theorem dX4_span_3 : decode cX4_span 3 = .ok (.aload_n 0, 1) := by decide +kernel
theorem dX4_span_4 : decode cX4_span 4 = .ok (.getfield 36, 3) := by decide +kernel
theorem dX4_span_7 : decode cX4_span 7 = .ok (.if_icmp .ge 16, 3) := by decide +kernel
theorem dX4_span_10 : decode cX4_span 10 = .ok (.aload_n 0, 1) := by decide +kernel
theorem dX4_span_11 : decode cX4_span 11 = .ok (.getfield 33, 3) := by decide +kernel
theorem dX4_span_14 : decode cX4_span 14 = .ok (.iload_n 2, 1) := by decide +kernel
theorem dX4_span_15 : decode cX4_span 15 = .ok (.iconst 0, 1) := by decide +kernel
theorem dX4_span_16 : decode cX4_span 16 = .ok (.iastore, 1) := by decide +kernel
theorem dX4_span_17 : decode cX4_span 17 = .ok (.iinc 2 1, 3) := by decide +kernel
theorem dX4_span_20 : decode cX4_span 20 = .ok (.goto (-18), 3) := by decide +kernel
theorem dX4_span_23 : decode cX4_span 23 = .ok (.aload_n 0, 1) := by decide +kernel
theorem dX4_span_24 : decode cX4_span 24 = .ok (.getfield 36, 3) := by decide +kernel
theorem dX4_span_27 : decode cX4_span 27 = .ok (.iconst 1, 1) := by decide +kernel
theorem dX4_span_28 : decode cX4_span 28 = .ok (.isub, 1) := by decide +kernel
theorem dX4_span_29 : decode cX4_span 29 = .ok (.istore_n 2, 1) := by decide +kernel
theorem dX4_span_30 : decode cX4_span 30 = .ok (.iload_n 2, 1) := by decide +kernel
theorem dX4_span_31 : decode cX4_span 31 = .ok (.iload_n 1, 1) := by decide +kernel
theorem dX4_span_32 : decode cX4_span 32 = .ok (.if_icmp .le 49, 3) := by decide +kernel
theorem dX4_span_35 : decode cX4_span 35 = .ok (.aload_n 0, 1) := by decide +kernel
theorem dX4_span_36 : decode cX4_span 36 = .ok (.getfield 24, 3) := by decide +kernel
theorem dX4_span_39 : decode cX4_span 39 = .ok (.iload_n 2, 1) := by decide +kernel
theorem dX4_span_40 : decode cX4_span 40 = .ok (.iaload, 1) := by decide +kernel
theorem dX4_span_41 : decode cX4_span 41 = .ok (.istore_n 3, 1) := by decide +kernel
theorem dX4_span_42 : decode cX4_span 42 = .ok (.iload_n 3, 1) := by decide +kernel
theorem dX4_span_43 : decode cX4_span 43 = .ok (.iload_n 1, 1) := by decide +kernel
theorem dX4_span_44 : decode cX4_span 44 = .ok (.if_icmp .lt 31, 3) := by decide +kernel
theorem dX4_span_47 : decode cX4_span 47 = .ok (.aload_n 0, 1) := by decide +kernel
theorem dX4_span_48 : decode cX4_span 48 = .ok (.getfield 33, 3) := by decide +kernel
theorem dX4_span_51 : decode cX4_span 51 = .ok (.iload_n 3, 1) := by decide +kernel
theorem dX4_span_52 : decode cX4_span 52 = .ok (.aload_n 0, 1) := by decide +kernel
theorem dX4_span_53 : decode cX4_span 53 = .ok (.getfield 33, 3) := by decide +kernel
theorem dX4_span_56 : decode cX4_span 56 = .ok (.iload_n 3, 1) := by decide +kernel
theorem dX4_span_57 : decode cX4_span 57 = .ok (.iaload, 1) := by decide +kernel
theorem dX4_span_58 : decode cX4_span 58 = .ok (.aload_n 0, 1) := by decide +kernel
theorem dX4_span_59 : decode cX4_span 59 = .ok (.getfield 9, 3) := by decide +kernel
theorem dX4_span_62 : decode cX4_span 62 = .ok (.iload_n 2, 1) := by decide +kernel
theorem dX4_span_63 : decode cX4_span 63 = .ok (.iaload, 1) := by decide +kernel
theorem dX4_span_64 : decode cX4_span 64 = .ok (.aload_n 0, 1) := by decide +kernel
theorem dX4_span_65 : decode cX4_span 65 = .ok (.getfield 33, 3) := by decide +kernel
theorem dX4_span_68 : decode cX4_span 68 = .ok (.iload_n 2, 1) := by decide +kernel
theorem dX4_span_69 : decode cX4_span 69 = .ok (.iaload, 1) := by decide +kernel
theorem dX4_span_70 : decode cX4_span 70 = .ok (.iadd, 1) := by decide +kernel
theorem dX4_span_71 : decode cX4_span 71 = .ok (.invokestatic 50, 3) := by decide +kernel
theorem dX4_span_74 : decode cX4_span 74 = .ok (.iastore, 1) := by decide +kernel
theorem dX4_span_75 : decode cX4_span 75 = .ok (.iinc 2 (-1), 3) := by decide +kernel
theorem dX4_span_78 : decode cX4_span 78 = .ok (.goto (-48), 3) := by decide +kernel
theorem dX4_span_81 : decode cX4_span 81 = .ok (.aload_n 0, 1) := by decide +kernel
theorem dX4_span_82 : decode cX4_span 82 = .ok (.getfield 9, 3) := by decide +kernel
theorem dX4_span_85 : decode cX4_span 85 = .ok (.iload_n 1, 1) := by decide +kernel
theorem dX4_span_86 : decode cX4_span 86 = .ok (.iaload, 1) := by decide +kernel
theorem dX4_span_87 : decode cX4_span 87 = .ok (.aload_n 0, 1) := by decide +kernel
theorem dX4_span_88 : decode cX4_span 88 = .ok (.getfield 33, 3) := by decide +kernel
theorem dX4_span_91 : decode cX4_span 91 = .ok (.iload_n 1, 1) := by decide +kernel
theorem dX4_span_92 : decode cX4_span 92 = .ok (.iaload, 1) := by decide +kernel
theorem dX4_span_93 : decode cX4_span 93 = .ok (.iadd, 1) := by decide +kernel
theorem dX4_span_94 : decode cX4_span 94 = .ok (.ireturn, 1) := by decide +kernel
theorem dX4_workOfAll_0 : decode cX4_workOfAll 0 = .ok (.aload_n 0, 1) := by decide +kernel
theorem dX4_workOfAll_1 : decode cX4_workOfAll 1 = .ok (.getfield 9, 3) := by decide +kernel
theorem dX4_workOfAll_4 : decode cX4_workOfAll 4 = .ok (.iload_n 1, 1) := by decide +kernel
theorem dX4_workOfAll_5 : decode cX4_workOfAll 5 = .ok (.iaload, 1) := by decide +kernel
theorem dX4_workOfAll_6 : decode cX4_workOfAll 6 = .ok (.istore_n 2, 1) := by decide +kernel
theorem dX4_workOfAll_7 : decode cX4_workOfAll 7 = .ok (.iload_n 1, 1) := by decide +kernel
theorem dX4_workOfAll_8 : decode cX4_workOfAll 8 = .ok (.iconst 1, 1) := by decide +kernel
theorem dX4_workOfAll_9 : decode cX4_workOfAll 9 = .ok (.iadd, 1) := by decide +kernel
theorem dX4_workOfAll_10 : decode cX4_workOfAll 10 = .ok (.istore_n 3, 1) := by decide +kernel
theorem dX4_workOfAll_11 : decode cX4_workOfAll 11 = .ok (.iload_n 3, 1) := by decide +kernel
theorem dX4_workOfAll_12 : decode cX4_workOfAll 12 = .ok (.aload_n 0, 1) := by decide +kernel
theorem dX4_workOfAll_13 : decode cX4_workOfAll 13 = .ok (.getfield 36, 3) := by decide +kernel
theorem dX4_workOfAll_16 : decode cX4_workOfAll 16 = .ok (.if_icmp .ge 27, 3) := by decide +kernel
theorem dX4_workOfAll_19 : decode cX4_workOfAll 19 = .ok (.aload_n 0, 1) := by decide +kernel
theorem dX4_workOfAll_20 : decode cX4_workOfAll 20 = .ok (.iload_n 3, 1) := by decide +kernel
theorem dX4_workOfAll_21 : decode cX4_workOfAll 21 = .ok (.iload_n 1, 1) := by decide +kernel
theorem dX4_workOfAll_22 : decode cX4_workOfAll 22 = .ok (.invokevirtual 56, 3) := by decide +kernel
theorem dX4_workOfAll_25 : decode cX4_workOfAll 25 = .ok (.ifCond .eq 12, 3) := by decide +kernel
theorem dX4_workOfAll_28 : decode cX4_workOfAll 28 = .ok (.iload_n 2, 1) := by decide +kernel
theorem dX4_workOfAll_29 : decode cX4_workOfAll 29 = .ok (.aload_n 0, 1) := by decide +kernel
theorem dX4_workOfAll_30 : decode cX4_workOfAll 30 = .ok (.getfield 9, 3) := by decide +kernel
theorem dX4_workOfAll_33 : decode cX4_workOfAll 33 = .ok (.iload_n 3, 1) := by decide +kernel
theorem dX4_workOfAll_34 : decode cX4_workOfAll 34 = .ok (.iaload, 1) := by decide +kernel
theorem dX4_workOfAll_35 : decode cX4_workOfAll 35 = .ok (.iadd, 1) := by decide +kernel
theorem dX4_workOfAll_36 : decode cX4_workOfAll 36 = .ok (.istore_n 2, 1) := by decide +kernel
theorem dX4_workOfAll_37 : decode cX4_workOfAll 37 = .ok (.iinc 3 1, 3) := by decide +kernel
theorem dX4_workOfAll_40 : decode cX4_workOfAll 40 = .ok (.goto (-29), 3) := by decide +kernel
theorem dX4_workOfAll_43 : decode cX4_workOfAll 43 = .ok (.iload_n 2, 1) := by decide +kernel
theorem dX4_workOfAll_44 : decode cX4_workOfAll 44 = .ok (.ireturn, 1) := by decide +kernel
theorem dX4_depth_0 : decode cX4_depth 0 = .ok (.iconst 0, 1) := by decide +kernel
theorem dX4_depth_1 : decode cX4_depth 1 = .ok (.istore_n 2, 1) := by decide +kernel
theorem dX4_depth_2 : decode cX4_depth 2 = .ok (.aload_n 0, 1) := by decide +kernel
theorem dX4_depth_3 : decode cX4_depth 3 = .ok (.getfield 24, 3) := by decide +kernel
theorem dX4_depth_6 : decode cX4_depth 6 = .ok (.iload_n 1, 1) := by decide +kernel
theorem dX4_depth_7 : decode cX4_depth 7 = .ok (.iaload, 1) := by decide +kernel
theorem dX4_depth_8 : decode cX4_depth 8 = .ok (.istore_n 3, 1) := by decide +kernel
theorem dX4_depth_9 : decode cX4_depth 9 = .ok (.iload_n 2, 1) := by decide +kernel
theorem dX4_depth_10 : decode cX4_depth 10 = .ok (.iconst 4, 1) := by decide +kernel
theorem dX4_depth_11 : decode cX4_depth 11 = .ok (.if_icmp .ge 24, 3) := by decide +kernel
theorem dX4_depth_14 : decode cX4_depth 14 = .ok (.aload_n 0, 1) := by decide +kernel
theorem dX4_depth_15 : decode cX4_depth 15 = .ok (.iload_n 3, 1) := by decide +kernel
theorem dX4_depth_16 : decode cX4_depth 16 = .ok (.invokevirtual 46, 3) := by decide +kernel
theorem dX4_depth_19 : decode cX4_depth 19 = .ok (.ifCond .eq 16, 3) := by decide +kernel
theorem dX4_depth_22 : decode cX4_depth 22 = .ok (.aload_n 0, 1) := by decide +kernel
theorem dX4_depth_23 : decode cX4_depth 23 = .ok (.getfield 24, 3) := by decide +kernel
theorem dX4_depth_26 : decode cX4_depth 26 = .ok (.iload_n 3, 1) := by decide +kernel
theorem dX4_depth_27 : decode cX4_depth 27 = .ok (.iaload, 1) := by decide +kernel
theorem dX4_depth_28 : decode cX4_depth 28 = .ok (.istore_n 3, 1) := by decide +kernel
theorem dX4_depth_29 : decode cX4_depth 29 = .ok (.iinc 2 1, 3) := by decide +kernel
theorem dX4_depth_32 : decode cX4_depth 32 = .ok (.goto (-23), 3) := by decide +kernel
theorem dX4_depth_35 : decode cX4_depth 35 = .ok (.iload_n 2, 1) := by decide +kernel
theorem dX4_depth_36 : decode cX4_depth 36 = .ok (.ireturn, 1) := by decide +kernel
theorem dX4_howManyEnded_0 : decode cX4_howManyEnded 0 = .ok (.iconst 0, 1) := by decide +kernel
theorem dX4_howManyEnded_1 : decode cX4_howManyEnded 1 = .ok (.istore_n 1, 1) := by decide +kernel
theorem dX4_howManyEnded_2 : decode cX4_howManyEnded 2 = .ok (.iconst 0, 1) := by decide +kernel
theorem dX4_howManyEnded_3 : decode cX4_howManyEnded 3 = .ok (.istore_n 2, 1) := by decide +kernel
theorem dX4_howManyEnded_4 : decode cX4_howManyEnded 4 = .ok (.iload_n 2, 1) := by decide +kernel
theorem dX4_howManyEnded_5 : decode cX4_howManyEnded 5 = .ok (.aload_n 0, 1) := by decide +kernel
theorem dX4_howManyEnded_6 : decode cX4_howManyEnded 6 = .ok (.getfield 36, 3) := by decide +kernel
theorem dX4_howManyEnded_9 : decode cX4_howManyEnded 9 = .ok (.if_icmp .ge 22, 3) := by decide +kernel
theorem dX4_howManyEnded_12 : decode cX4_howManyEnded 12 = .ok (.aload_n 0, 1) := by decide +kernel
theorem dX4_howManyEnded_13 : decode cX4_howManyEnded 13 = .ok (.getfield 21, 3) := by decide +kernel
theorem dX4_howManyEnded_16 : decode cX4_howManyEnded 16 = .ok (.iload_n 2, 1) := by decide +kernel
theorem dX4_howManyEnded_17 : decode cX4_howManyEnded 17 = .ok (.iaload, 1) := by decide +kernel
theorem dX4_howManyEnded_18 : decode cX4_howManyEnded 18 = .ok (.iconst 3, 1) := by decide +kernel
theorem dX4_howManyEnded_19 : decode cX4_howManyEnded 19 = .ok (.if_icmp .lt 6, 3) := by decide +kernel
theorem dX4_howManyEnded_22 : decode cX4_howManyEnded 22 = .ok (.iinc 1 1, 3) := by decide +kernel
theorem dX4_howManyEnded_25 : decode cX4_howManyEnded 25 = .ok (.iinc 2 1, 3) := by decide +kernel
theorem dX4_howManyEnded_28 : decode cX4_howManyEnded 28 = .ok (.goto (-24), 3) := by decide +kernel
theorem dX4_howManyEnded_31 : decode cX4_howManyEnded 31 = .ok (.iload_n 1, 1) := by decide +kernel
theorem dX4_howManyEnded_32 : decode cX4_howManyEnded 32 = .ok (.ireturn, 1) := by decide +kernel
theorem dX4_howManyDone_0 : decode cX4_howManyDone 0 = .ok (.iconst 0, 1) := by decide +kernel
theorem dX4_howManyDone_1 : decode cX4_howManyDone 1 = .ok (.istore_n 1, 1) := by decide +kernel
theorem dX4_howManyDone_2 : decode cX4_howManyDone 2 = .ok (.iconst 0, 1) := by decide +kernel
theorem dX4_howManyDone_3 : decode cX4_howManyDone 3 = .ok (.istore_n 2, 1) := by decide +kernel
theorem dX4_howManyDone_4 : decode cX4_howManyDone 4 = .ok (.iload_n 2, 1) := by decide +kernel
theorem dX4_howManyDone_5 : decode cX4_howManyDone 5 = .ok (.aload_n 0, 1) := by decide +kernel
theorem dX4_howManyDone_6 : decode cX4_howManyDone 6 = .ok (.getfield 36, 3) := by decide +kernel
theorem dX4_howManyDone_9 : decode cX4_howManyDone 9 = .ok (.if_icmp .ge 22, 3) := by decide +kernel
theorem dX4_howManyDone_12 : decode cX4_howManyDone 12 = .ok (.aload_n 0, 1) := by decide +kernel
theorem dX4_howManyDone_13 : decode cX4_howManyDone 13 = .ok (.getfield 21, 3) := by decide +kernel
theorem dX4_howManyDone_16 : decode cX4_howManyDone 16 = .ok (.iload_n 2, 1) := by decide +kernel
theorem dX4_howManyDone_17 : decode cX4_howManyDone 17 = .ok (.iaload, 1) := by decide +kernel
theorem dX4_howManyDone_18 : decode cX4_howManyDone 18 = .ok (.iconst 3, 1) := by decide +kernel
theorem dX4_howManyDone_19 : decode cX4_howManyDone 19 = .ok (.if_icmp .ne 6, 3) := by decide +kernel
theorem dX4_howManyDone_22 : decode cX4_howManyDone 22 = .ok (.iinc 1 1, 3) := by decide +kernel
theorem dX4_howManyDone_25 : decode cX4_howManyDone 25 = .ok (.iinc 2 1, 3) := by decide +kernel
theorem dX4_howManyDone_28 : decode cX4_howManyDone 28 = .ok (.goto (-24), 3) := by decide +kernel
theorem dX4_howManyDone_31 : decode cX4_howManyDone 31 = .ok (.iload_n 1, 1) := by decide +kernel
theorem dX4_howManyDone_32 : decode cX4_howManyDone 32 = .ok (.ireturn, 1) := by decide +kernel
theorem dX4_worthOfAllDone_0 : decode cX4_worthOfAllDone 0 = .ok (.iconst 0, 1) := by decide +kernel
theorem dX4_worthOfAllDone_1 : decode cX4_worthOfAllDone 1 = .ok (.istore_n 1, 1) := by decide +kernel
theorem dX4_worthOfAllDone_2 : decode cX4_worthOfAllDone 2 = .ok (.iconst 0, 1) := by decide +kernel
theorem dX4_worthOfAllDone_3 : decode cX4_worthOfAllDone 3 = .ok (.istore_n 2, 1) := by decide +kernel
theorem dX4_worthOfAllDone_4 : decode cX4_worthOfAllDone 4 = .ok (.iload_n 2, 1) := by decide +kernel
theorem dX4_worthOfAllDone_5 : decode cX4_worthOfAllDone 5 = .ok (.aload_n 0, 1) := by decide +kernel
theorem dX4_worthOfAllDone_6 : decode cX4_worthOfAllDone 6 = .ok (.getfield 36, 3) := by decide +kernel
theorem dX4_worthOfAllDone_9 : decode cX4_worthOfAllDone 9 = .ok (.if_icmp .ge 28, 3) := by decide +kernel
theorem dX4_worthOfAllDone_12 : decode cX4_worthOfAllDone 12 = .ok (.aload_n 0, 1) := by decide +kernel
theorem dX4_worthOfAllDone_13 : decode cX4_worthOfAllDone 13 = .ok (.getfield 21, 3) := by decide +kernel
theorem dX4_worthOfAllDone_16 : decode cX4_worthOfAllDone 16 = .ok (.iload_n 2, 1) := by decide +kernel
theorem dX4_worthOfAllDone_17 : decode cX4_worthOfAllDone 17 = .ok (.iaload, 1) := by decide +kernel
theorem dX4_worthOfAllDone_18 : decode cX4_worthOfAllDone 18 = .ok (.iconst 3, 1) := by decide +kernel
theorem dX4_worthOfAllDone_19 : decode cX4_worthOfAllDone 19 = .ok (.if_icmp .ne 12, 3) := by decide +kernel
theorem dX4_worthOfAllDone_22 : decode cX4_worthOfAllDone 22 = .ok (.iload_n 1, 1) := by decide +kernel
theorem dX4_worthOfAllDone_23 : decode cX4_worthOfAllDone 23 = .ok (.aload_n 0, 1) := by decide +kernel
theorem dX4_worthOfAllDone_24 : decode cX4_worthOfAllDone 24 = .ok (.getfield 18, 3) := by decide +kernel
theorem dX4_worthOfAllDone_27 : decode cX4_worthOfAllDone 27 = .ok (.iload_n 2, 1) := by decide +kernel
theorem dX4_worthOfAllDone_28 : decode cX4_worthOfAllDone 28 = .ok (.iaload, 1) := by decide +kernel
theorem dX4_worthOfAllDone_29 : decode cX4_worthOfAllDone 29 = .ok (.iadd, 1) := by decide +kernel
theorem dX4_worthOfAllDone_30 : decode cX4_worthOfAllDone 30 = .ok (.istore_n 1, 1) := by decide +kernel
theorem dX4_worthOfAllDone_31 : decode cX4_worthOfAllDone 31 = .ok (.iinc 2 1, 3) := by decide +kernel
theorem dX4_worthOfAllDone_34 : decode cX4_worthOfAllDone 34 = .ok (.goto (-30), 3) := by decide +kernel
theorem dX4_worthOfAllDone_37 : decode cX4_worthOfAllDone 37 = .ok (.iload_n 1, 1) := by decide +kernel
theorem dX4_worthOfAllDone_38 : decode cX4_worthOfAllDone 38 = .ok (.ireturn, 1) := by decide +kernel
theorem dX5_init_0 : decode cX5_init 0 = .ok (.aload_n 0, 1) := by decide +kernel
theorem dX5_init_1 : decode cX5_init 1 = .ok (.invokespecial 3, 3) := by decide +kernel
theorem dX5_init_4 : decode cX5_init 4 = .ok (.aload_n 0, 1) := by decide +kernel
theorem dX5_init_5 : decode cX5_init 5 = .ok (.bipush 100, 2) := by decide +kernel
theorem dX5_init_7 : decode cX5_init 7 = .ok (.newarray .int, 2) := by decide +kernel
theorem dX5_init_9 : decode cX5_init 9 = .ok (.putfield 9, 3) := by decide +kernel
theorem dX5_init_12 : decode cX5_init 12 = .ok (.aload_n 0, 1) := by decide +kernel
theorem dX5_init_13 : decode cX5_init 13 = .ok (.iconst 0, 1) := by decide +kernel
theorem dX5_init_14 : decode cX5_init 14 = .ok (.putfield 15, 3) := by decide +kernel
theorem dX5_init_17 : decode cX5_init 17 = .ok (.aload_n 0, 1) := by decide +kernel
theorem dX5_init_18 : decode cX5_init 18 = .ok (.bipush 100, 2) := by decide +kernel
theorem dX5_init_20 : decode cX5_init 20 = .ok (.newarray .int, 2) := by decide +kernel
theorem dX5_init_22 : decode cX5_init 22 = .ok (.putfield 19, 3) := by decide +kernel
theorem dX5_init_25 : decode cX5_init 25 = .ok (.aload_n 0, 1) := by decide +kernel
theorem dX5_init_26 : decode cX5_init 26 = .ok (.bipush 100, 2) := by decide +kernel
theorem dX5_init_28 : decode cX5_init 28 = .ok (.newarray .int, 2) := by decide +kernel
theorem dX5_init_30 : decode cX5_init 30 = .ok (.putfield 22, 3) := by decide +kernel
theorem dX5_init_33 : decode cX5_init 33 = .ok (.aload_n 0, 1) := by decide +kernel
theorem dX5_init_34 : decode cX5_init 34 = .ok (.bipush 100, 2) := by decide +kernel
theorem dX5_init_36 : decode cX5_init 36 = .ok (.newarray .int, 2) := by decide +kernel
theorem dX5_init_38 : decode cX5_init 38 = .ok (.putfield 25, 3) := by decide +kernel
theorem dX5_init_41 : decode cX5_init 41 = .ok (.aload_n 0, 1) := by decide +kernel
theorem dX5_init_42 : decode cX5_init 42 = .ok (.iconst 0, 1) := by decide +kernel
theorem dX5_init_43 : decode cX5_init 43 = .ok (.putfield 28, 3) := by decide +kernel
theorem dX5_init_46 : decode cX5_init 46 = .ok (.aload_n 0, 1) := by decide +kernel
theorem dX5_init_47 : decode cX5_init 47 = .ok (.iconst 4, 1) := by decide +kernel
theorem dX5_init_48 : decode cX5_init 48 = .ok (.newarray .int, 2) := by decide +kernel
theorem dX5_init_50 : decode cX5_init 50 = .ok (.putfield 31, 3) := by decide +kernel
theorem dX5_init_53 : decode cX5_init 53 = .ok (.aload_n 0, 1) := by decide +kernel
theorem dX5_init_54 : decode cX5_init 54 = .ok (.iconst 4, 1) := by decide +kernel
theorem dX5_init_55 : decode cX5_init 55 = .ok (.newarray .int, 2) := by decide +kernel
theorem dX5_init_57 : decode cX5_init 57 = .ok (.putfield 34, 3) := by decide +kernel
theorem dX5_init_60 : decode cX5_init 60 = .ok (.aload_n 0, 1) := by decide +kernel
theorem dX5_init_61 : decode cX5_init 61 = .ok (.iconst 0, 1) := by decide +kernel
theorem dX5_init_62 : decode cX5_init 62 = .ok (.putfield 37, 3) := by decide +kernel
theorem dX5_init_65 : decode cX5_init 65 = .ok (.aload_n 0, 1) := by decide +kernel
theorem dX5_init_66 : decode cX5_init 66 = .ok (.iconst 0, 1) := by decide +kernel
theorem dX5_init_67 : decode cX5_init 67 = .ok (.putfield 40, 3) := by decide +kernel
theorem dX5_init_70 : decode cX5_init 70 = .ok (.return_, 1) := by decide +kernel
theorem dX5_append_0 : decode cX5_append 0 = .ok (.aload_n 0, 1) := by decide +kernel
theorem dX5_append_1 : decode cX5_append 1 = .ok (.getfield 15, 3) := by decide +kernel
theorem dX5_append_4 : decode cX5_append 4 = .ok (.aload_n 0, 1) := by decide +kernel
theorem dX5_append_5 : decode cX5_append 5 = .ok (.getfield 9, 3) := by decide +kernel
theorem dX5_append_8 : decode cX5_append 8 = .ok (.arraylength, 1) := by decide +kernel
theorem dX5_append_9 : decode cX5_append 9 = .ok (.if_icmp .lt 5, 3) := by decide +kernel
theorem dX5_append_12 : decode cX5_append 12 = .ok (.iconst 0, 1) := by decide +kernel
theorem dX5_append_13 : decode cX5_append 13 = .ok (.ireturn, 1) := by decide +kernel
theorem dX5_append_14 : decode cX5_append 14 = .ok (.aload_n 0, 1) := by decide +kernel
theorem dX5_append_15 : decode cX5_append 15 = .ok (.getfield 9, 3) := by decide +kernel
theorem dX5_append_18 : decode cX5_append 18 = .ok (.aload_n 0, 1) := by decide +kernel
theorem dX5_append_19 : decode cX5_append 19 = .ok (.getfield 15, 3) := by decide +kernel
theorem dX5_append_22 : decode cX5_append 22 = .ok (.iload_n 1, 1) := by decide +kernel
theorem dX5_append_23 : decode cX5_append 23 = .ok (.iastore, 1) := by decide +kernel
theorem dX5_append_24 : decode cX5_append 24 = .ok (.aload_n 0, 1) := by decide +kernel
theorem dX5_append_25 : decode cX5_append 25 = .ok (.dup, 1) := by decide +kernel
theorem dX5_append_26 : decode cX5_append 26 = .ok (.getfield 15, 3) := by decide +kernel
theorem dX5_append_29 : decode cX5_append 29 = .ok (.iconst 1, 1) := by decide +kernel
theorem dX5_append_30 : decode cX5_append 30 = .ok (.iadd, 1) := by decide +kernel
theorem dX5_append_31 : decode cX5_append 31 = .ok (.putfield 15, 3) := by decide +kernel
theorem dX5_append_34 : decode cX5_append 34 = .ok (.iconst 1, 1) := by decide +kernel
theorem dX5_append_35 : decode cX5_append 35 = .ok (.ireturn, 1) := by decide +kernel
theorem dX5_parse_0 : decode cX5_parse 0 = .ok (.aload_n 0, 1) := by decide +kernel
theorem dX5_parse_1 : decode cX5_parse 1 = .ok (.iconst 0, 1) := by decide +kernel
theorem dX5_parse_2 : decode cX5_parse 2 = .ok (.putfield 28, 3) := by decide +kernel
theorem dX5_parse_5 : decode cX5_parse 5 = .ok (.aload_n 0, 1) := by decide +kernel
theorem dX5_parse_6 : decode cX5_parse 6 = .ok (.iconst 0, 1) := by decide +kernel
theorem dX5_parse_7 : decode cX5_parse 7 = .ok (.putfield 37, 3) := by decide +kernel
theorem dX5_parse_10 : decode cX5_parse 10 = .ok (.aload_n 0, 1) := by decide +kernel
theorem dX5_parse_11 : decode cX5_parse 11 = .ok (.iconst 0, 1) := by decide +kernel
theorem dX5_parse_12 : decode cX5_parse 12 = .ok (.putfield 40, 3) := by decide +kernel
theorem dX5_parse_15 : decode cX5_parse 15 = .ok (.iconst 0, 1) := by decide +kernel
theorem dX5_parse_16 : decode cX5_parse 16 = .ok (.istore_n 1, 1) := by decide +kernel
theorem dX5_parse_17 : decode cX5_parse 17 = .ok (.iload_n 1, 1) := by decide +kernel
theorem dX5_parse_18 : decode cX5_parse 18 = .ok (.aload_n 0, 1) := by decide +kernel
theorem dX5_parse_19 : decode cX5_parse 19 = .ok (.getfield 15, 3) := by decide +kernel
theorem dX5_parse_22 : decode cX5_parse 22 = .ok (.if_icmp .ge 24, 3) := by decide +kernel
theorem dX5_parse_25 : decode cX5_parse 25 = .ok (.aload_n 0, 1) := by decide +kernel
theorem dX5_parse_26 : decode cX5_parse 26 = .ok (.aload_n 0, 1) := by decide +kernel
theorem dX5_parse_27 : decode cX5_parse 27 = .ok (.getfield 9, 3) := by decide +kernel
theorem dX5_parse_30 : decode cX5_parse 30 = .ok (.iload_n 1, 1) := by decide +kernel
theorem dX5_parse_31 : decode cX5_parse 31 = .ok (.iaload, 1) := by decide +kernel
theorem dX5_parse_32 : decode cX5_parse 32 = .ok (.invokevirtual 43, 3) := by decide +kernel
theorem dX5_parse_35 : decode cX5_parse 35 = .ok (.ifCond .ne 5, 3) := by decide +kernel
theorem dX5_parse_38 : decode cX5_parse 38 = .ok (.iload_n 1, 1) := by decide +kernel
theorem dX5_parse_39 : decode cX5_parse 39 = .ok (.ireturn, 1) := by decide +kernel
theorem dX5_parse_40 : decode cX5_parse 40 = .ok (.iinc 1 1, 3) := by decide +kernel
theorem dX5_parse_43 : decode cX5_parse 43 = .ok (.goto (-26), 3) := by decide +kernel
theorem dX5_parse_46 : decode cX5_parse 46 = .ok (.aload_n 0, 1) := by decide +kernel
theorem dX5_parse_47 : decode cX5_parse 47 = .ok (.getfield 40, 3) := by decide +kernel
theorem dX5_parse_50 : decode cX5_parse 50 = .ok (.ifCond .eq 10, 3) := by decide +kernel
theorem dX5_parse_53 : decode cX5_parse 53 = .ok (.aload_n 0, 1) := by decide +kernel
theorem dX5_parse_54 : decode cX5_parse 54 = .ok (.getfield 37, 3) := by decide +kernel
theorem dX5_parse_57 : decode cX5_parse 57 = .ok (.ifCond .le 10, 3) := by decide +kernel
theorem dX5_parse_60 : decode cX5_parse 60 = .ok (.aload_n 0, 1) := by decide +kernel
theorem dX5_parse_61 : decode cX5_parse 61 = .ok (.getfield 15, 3) := by decide +kernel
theorem dX5_parse_64 : decode cX5_parse 64 = .ok (.goto 5, 3) := by decide +kernel
theorem dX5_parse_67 : decode cX5_parse 67 = .ok (.bipush (-5), 2) := by decide +kernel
theorem dX5_parse_69 : decode cX5_parse 69 = .ok (.ireturn, 1) := by decide +kernel
theorem dX5_goesOn_0 : decode cX5_goesOn 0 = .ok (.aload_n 0, 1) := by decide +kernel
theorem dX5_goesOn_1 : decode cX5_goesOn 1 = .ok (.getfield 40, 3) := by decide +kernel
theorem dX5_goesOn_4 : decode cX5_goesOn 4 = .ok (.ifCond .ne 32, 3) := by decide +kernel
theorem dX5_goesOn_7 : decode cX5_goesOn 7 = .ok (.iload_n 1, 1) := by decide +kernel
theorem dX5_goesOn_8 : decode cX5_goesOn 8 = .ok (.bipush 49, 2) := by decide +kernel
theorem dX5_goesOn_10 : decode cX5_goesOn 10 = .ok (.if_icmp .lt 24, 3) := by decide +kernel
theorem dX5_goesOn_13 : decode cX5_goesOn 13 = .ok (.iload_n 1, 1) := by decide +kernel
theorem dX5_goesOn_14 : decode cX5_goesOn 14 = .ok (.bipush 57, 2) := by decide +kernel
theorem dX5_goesOn_16 : decode cX5_goesOn 16 = .ok (.if_icmp .gt 18, 3) := by decide +kernel
theorem dX5_goesOn_19 : decode cX5_goesOn 19 = .ok (.aload_n 0, 1) := by decide +kernel
theorem dX5_goesOn_20 : decode cX5_goesOn 20 = .ok (.iload_n 1, 1) := by decide +kernel
theorem dX5_goesOn_21 : decode cX5_goesOn 21 = .ok (.bipush 48, 2) := by decide +kernel
theorem dX5_goesOn_23 : decode cX5_goesOn 23 = .ok (.isub, 1) := by decide +kernel
theorem dX5_goesOn_24 : decode cX5_goesOn 24 = .ok (.invokevirtual 47, 3) := by decide +kernel
theorem dX5_goesOn_27 : decode cX5_goesOn 27 = .ok (.ifCond .eq 7, 3) := by decide +kernel
theorem dX5_goesOn_30 : decode cX5_goesOn 30 = .ok (.iconst 1, 1) := by decide +kernel
theorem dX5_goesOn_31 : decode cX5_goesOn 31 = .ok (.goto 4, 3) := by decide +kernel
theorem dX5_goesOn_34 : decode cX5_goesOn 34 = .ok (.iconst 0, 1) := by decide +kernel
theorem dX5_goesOn_35 : decode cX5_goesOn 35 = .ok (.ireturn, 1) := by decide +kernel
theorem dX5_goesOn_36 : decode cX5_goesOn 36 = .ok (.iload_n 1, 1) := by decide +kernel
theorem dX5_goesOn_37 : decode cX5_goesOn 37 = .ok (.lookupswitch 78 #[(33, 51), (40, 63), (41, 73), (44, 68), (63, 57)], 51) := by decide +kernel
theorem dX5_goesOn_88 : decode cX5_goesOn 88 = .ok (.aload_n 0, 1) := by decide +kernel
theorem dX5_goesOn_89 : decode cX5_goesOn 89 = .ok (.iconst 1, 1) := by decide +kernel
theorem dX5_goesOn_90 : decode cX5_goesOn 90 = .ok (.invokevirtual 50, 3) := by decide +kernel
theorem dX5_goesOn_93 : decode cX5_goesOn 93 = .ok (.ireturn, 1) := by decide +kernel
theorem dX5_goesOn_94 : decode cX5_goesOn 94 = .ok (.aload_n 0, 1) := by decide +kernel
theorem dX5_goesOn_95 : decode cX5_goesOn 95 = .ok (.iconst 2, 1) := by decide +kernel
theorem dX5_goesOn_96 : decode cX5_goesOn 96 = .ok (.invokevirtual 50, 3) := by decide +kernel
theorem dX5_goesOn_99 : decode cX5_goesOn 99 = .ok (.ireturn, 1) := by decide +kernel
theorem dX5_goesOn_100 : decode cX5_goesOn 100 = .ok (.aload_n 0, 1) := by decide +kernel
theorem dX5_goesOn_101 : decode cX5_goesOn 101 = .ok (.invokevirtual 53, 3) := by decide +kernel
theorem dX5_goesOn_104 : decode cX5_goesOn 104 = .ok (.ireturn, 1) := by decide +kernel
theorem dX5_goesOn_105 : decode cX5_goesOn 105 = .ok (.aload_n 0, 1) := by decide +kernel
theorem dX5_goesOn_106 : decode cX5_goesOn 106 = .ok (.invokevirtual 57, 3) := by decide +kernel
theorem dX5_goesOn_109 : decode cX5_goesOn 109 = .ok (.ireturn, 1) := by decide +kernel
theorem dX5_goesOn_110 : decode cX5_goesOn 110 = .ok (.aload_n 0, 1) := by decide +kernel
theorem dX5_goesOn_111 : decode cX5_goesOn 111 = .ok (.invokevirtual 60, 3) := by decide +kernel
theorem dX5_goesOn_114 : decode cX5_goesOn 114 = .ok (.ireturn, 1) := by decide +kernel
theorem dX5_goesOn_115 : decode cX5_goesOn 115 = .ok (.iconst 0, 1) := by decide +kernel
theorem dX5_goesOn_116 : decode cX5_goesOn 116 = .ok (.ireturn, 1) := by decide +kernel
theorem dX5_begin_0 : decode cX5_begin 0 = .ok (.aload_n 0, 1) := by decide +kernel
theorem dX5_begin_1 : decode cX5_begin 1 = .ok (.getfield 28, 3) := by decide +kernel
theorem dX5_begin_4 : decode cX5_begin 4 = .ok (.aload_n 0, 1) := by decide +kernel
theorem dX5_begin_5 : decode cX5_begin 5 = .ok (.getfield 19, 3) := by decide +kernel
theorem dX5_begin_8 : decode cX5_begin 8 = .ok (.arraylength, 1) := by decide +kernel
theorem dX5_begin_9 : decode cX5_begin 9 = .ok (.if_icmp .lt 5, 3) := by decide +kernel
theorem dX5_begin_12 : decode cX5_begin 12 = .ok (.iconst 0, 1) := by decide +kernel
theorem dX5_begin_13 : decode cX5_begin 13 = .ok (.ireturn, 1) := by decide +kernel
theorem dX5_begin_14 : decode cX5_begin 14 = .ok (.aload_n 0, 1) := by decide +kernel
theorem dX5_begin_15 : decode cX5_begin 15 = .ok (.getfield 19, 3) := by decide +kernel
theorem dX5_begin_18 : decode cX5_begin 18 = .ok (.aload_n 0, 1) := by decide +kernel
theorem dX5_begin_19 : decode cX5_begin 19 = .ok (.getfield 28, 3) := by decide +kernel
theorem dX5_begin_22 : decode cX5_begin 22 = .ok (.iload_n 1, 1) := by decide +kernel
theorem dX5_begin_23 : decode cX5_begin 23 = .ok (.iastore, 1) := by decide +kernel
theorem dX5_begin_24 : decode cX5_begin 24 = .ok (.aload_n 0, 1) := by decide +kernel
theorem dX5_begin_25 : decode cX5_begin 25 = .ok (.getfield 22, 3) := by decide +kernel
theorem dX5_begin_28 : decode cX5_begin 28 = .ok (.aload_n 0, 1) := by decide +kernel
theorem dX5_begin_29 : decode cX5_begin 29 = .ok (.getfield 28, 3) := by decide +kernel
theorem dX5_begin_32 : decode cX5_begin 32 = .ok (.iconst 0, 1) := by decide +kernel
theorem dX5_begin_33 : decode cX5_begin 33 = .ok (.iastore, 1) := by decide +kernel
theorem dX5_begin_34 : decode cX5_begin 34 = .ok (.aload_n 0, 1) := by decide +kernel
theorem dX5_begin_35 : decode cX5_begin 35 = .ok (.getfield 25, 3) := by decide +kernel
theorem dX5_begin_38 : decode cX5_begin 38 = .ok (.aload_n 0, 1) := by decide +kernel
theorem dX5_begin_39 : decode cX5_begin 39 = .ok (.getfield 28, 3) := by decide +kernel
theorem dX5_begin_42 : decode cX5_begin 42 = .ok (.bipush (-5), 2) := by decide +kernel
theorem dX5_begin_44 : decode cX5_begin 44 = .ok (.iastore, 1) := by decide +kernel
theorem dX5_begin_45 : decode cX5_begin 45 = .ok (.aload_n 0, 1) := by decide +kernel
theorem dX5_begin_46 : decode cX5_begin 46 = .ok (.getfield 37, 3) := by decide +kernel
theorem dX5_begin_49 : decode cX5_begin 49 = .ok (.ifCond .le 38, 3) := by decide +kernel
theorem dX5_begin_52 : decode cX5_begin 52 = .ok (.aload_n 0, 1) := by decide +kernel
theorem dX5_begin_53 : decode cX5_begin 53 = .ok (.getfield 25, 3) := by decide +kernel
theorem dX5_begin_56 : decode cX5_begin 56 = .ok (.aload_n 0, 1) := by decide +kernel
theorem dX5_begin_57 : decode cX5_begin 57 = .ok (.getfield 28, 3) := by decide +kernel
theorem dX5_begin_60 : decode cX5_begin 60 = .ok (.aload_n 0, 1) := by decide +kernel
theorem dX5_begin_61 : decode cX5_begin 61 = .ok (.getfield 31, 3) := by decide +kernel
theorem dX5_begin_64 : decode cX5_begin 64 = .ok (.aload_n 0, 1) := by decide +kernel
theorem dX5_begin_65 : decode cX5_begin 65 = .ok (.getfield 37, 3) := by decide +kernel
theorem dX5_begin_68 : decode cX5_begin 68 = .ok (.iconst 1, 1) := by decide +kernel
theorem dX5_begin_69 : decode cX5_begin 69 = .ok (.isub, 1) := by decide +kernel
theorem dX5_begin_70 : decode cX5_begin 70 = .ok (.iaload, 1) := by decide +kernel
theorem dX5_begin_71 : decode cX5_begin 71 = .ok (.iastore, 1) := by decide +kernel
theorem dX5_begin_72 : decode cX5_begin 72 = .ok (.aload_n 0, 1) := by decide +kernel
theorem dX5_begin_73 : decode cX5_begin 73 = .ok (.getfield 34, 3) := by decide +kernel
theorem dX5_begin_76 : decode cX5_begin 76 = .ok (.aload_n 0, 1) := by decide +kernel
theorem dX5_begin_77 : decode cX5_begin 77 = .ok (.getfield 37, 3) := by decide +kernel
theorem dX5_begin_80 : decode cX5_begin 80 = .ok (.iconst 1, 1) := by decide +kernel
theorem dX5_begin_81 : decode cX5_begin 81 = .ok (.isub, 1) := by decide +kernel
theorem dX5_begin_82 : decode cX5_begin 82 = .ok (.dup2, 1) := by decide +kernel
theorem dX5_begin_83 : decode cX5_begin 83 = .ok (.iaload, 1) := by decide +kernel
theorem dX5_begin_84 : decode cX5_begin 84 = .ok (.iconst 1, 1) := by decide +kernel
theorem dX5_begin_85 : decode cX5_begin 85 = .ok (.iadd, 1) := by decide +kernel
theorem dX5_begin_86 : decode cX5_begin 86 = .ok (.iastore, 1) := by decide +kernel
theorem dX5_begin_87 : decode cX5_begin 87 = .ok (.aload_n 0, 1) := by decide +kernel
theorem dX5_begin_88 : decode cX5_begin 88 = .ok (.dup, 1) := by decide +kernel
theorem dX5_begin_89 : decode cX5_begin 89 = .ok (.getfield 28, 3) := by decide +kernel
theorem dX5_begin_92 : decode cX5_begin 92 = .ok (.iconst 1, 1) := by decide +kernel
theorem dX5_begin_93 : decode cX5_begin 93 = .ok (.iadd, 1) := by decide +kernel
theorem dX5_begin_94 : decode cX5_begin 94 = .ok (.putfield 28, 3) := by decide +kernel
theorem dX5_begin_97 : decode cX5_begin 97 = .ok (.aload_n 0, 1) := by decide +kernel
theorem dX5_begin_98 : decode cX5_begin 98 = .ok (.iconst 1, 1) := by decide +kernel
theorem dX5_begin_99 : decode cX5_begin 99 = .ok (.putfield 40, 3) := by decide +kernel
theorem dX5_begin_102 : decode cX5_begin 102 = .ok (.iconst 1, 1) := by decide +kernel
theorem dX5_begin_103 : decode cX5_begin 103 = .ok (.ireturn, 1) := by decide +kernel
theorem dX5_marks_0 : decode cX5_marks 0 = .ok (.aload_n 0, 1) := by decide +kernel
theorem dX5_marks_1 : decode cX5_marks 1 = .ok (.getfield 40, 3) := by decide +kernel
theorem dX5_marks_4 : decode cX5_marks 4 = .ok (.iconst 1, 1) := by decide +kernel
theorem dX5_marks_5 : decode cX5_marks 5 = .ok (.if_icmp .ne 10, 3) := by decide +kernel
theorem dX5_marks_8 : decode cX5_marks 8 = .ok (.aload_n 0, 1) := by decide +kernel
theorem dX5_marks_9 : decode cX5_marks 9 = .ok (.getfield 28, 3) := by decide +kernel
theorem dX5_marks_12 : decode cX5_marks 12 = .ok (.ifCond .ne 5, 3) := by decide +kernel
theorem dX5_marks_15 : decode cX5_marks 15 = .ok (.iconst 0, 1) := by decide +kernel
theorem dX5_marks_16 : decode cX5_marks 16 = .ok (.ireturn, 1) := by decide +kernel
theorem dX5_marks_17 : decode cX5_marks 17 = .ok (.aload_n 0, 1) := by decide +kernel
theorem dX5_marks_18 : decode cX5_marks 18 = .ok (.getfield 22, 3) := by decide +kernel
theorem dX5_marks_21 : decode cX5_marks 21 = .ok (.aload_n 0, 1) := by decide +kernel
theorem dX5_marks_22 : decode cX5_marks 22 = .ok (.getfield 28, 3) := by decide +kernel
theorem dX5_marks_25 : decode cX5_marks 25 = .ok (.iconst 1, 1) := by decide +kernel
theorem dX5_marks_26 : decode cX5_marks 26 = .ok (.isub, 1) := by decide +kernel
theorem dX5_marks_27 : decode cX5_marks 27 = .ok (.iload_n 1, 1) := by decide +kernel
theorem dX5_marks_28 : decode cX5_marks 28 = .ok (.iastore, 1) := by decide +kernel
theorem dX5_marks_29 : decode cX5_marks 29 = .ok (.aload_n 0, 1) := by decide +kernel
theorem dX5_marks_30 : decode cX5_marks 30 = .ok (.iconst 2, 1) := by decide +kernel
theorem dX5_marks_31 : decode cX5_marks 31 = .ok (.putfield 40, 3) := by decide +kernel
theorem dX5_marks_34 : decode cX5_marks 34 = .ok (.iconst 1, 1) := by decide +kernel
theorem dX5_marks_35 : decode cX5_marks 35 = .ok (.ireturn, 1) := by decide +kernel
theorem dX5_opens_0 : decode cX5_opens 0 = .ok (.aload_n 0, 1) := by decide +kernel
theorem dX5_opens_1 : decode cX5_opens 1 = .ok (.getfield 40, 3) := by decide +kernel
theorem dX5_opens_4 : decode cX5_opens 4 = .ok (.iconst 3, 1) := by decide +kernel
theorem dX5_opens_5 : decode cX5_opens 5 = .ok (.if_icmp .eq 11, 3) := by decide +kernel
theorem dX5_opens_8 : decode cX5_opens 8 = .ok (.aload_n 0, 1) := by decide +kernel
theorem dX5_opens_9 : decode cX5_opens 9 = .ok (.getfield 37, 3) := by decide +kernel
theorem dX5_opens_12 : decode cX5_opens 12 = .ok (.iconst 4, 1) := by decide +kernel
theorem dX5_opens_13 : decode cX5_opens 13 = .ok (.if_icmp .lt 5, 3) := by decide +kernel
theorem dX5_opens_16 : decode cX5_opens 16 = .ok (.iconst 0, 1) := by decide +kernel
theorem dX5_opens_17 : decode cX5_opens 17 = .ok (.ireturn, 1) := by decide +kernel
theorem dX5_opens_18 : decode cX5_opens 18 = .ok (.aload_n 0, 1) := by decide +kernel
theorem dX5_opens_19 : decode cX5_opens 19 = .ok (.getfield 31, 3) := by decide +kernel
theorem dX5_opens_22 : decode cX5_opens 22 = .ok (.aload_n 0, 1) := by decide +kernel
theorem dX5_opens_23 : decode cX5_opens 23 = .ok (.getfield 37, 3) := by decide +kernel
theorem dX5_opens_26 : decode cX5_opens 26 = .ok (.aload_n 0, 1) := by decide +kernel
theorem dX5_opens_27 : decode cX5_opens 27 = .ok (.getfield 28, 3) := by decide +kernel
theorem dX5_opens_30 : decode cX5_opens 30 = .ok (.iconst 1, 1) := by decide +kernel
theorem dX5_opens_31 : decode cX5_opens 31 = .ok (.isub, 1) := by decide +kernel
theorem dX5_opens_32 : decode cX5_opens 32 = .ok (.iastore, 1) := by decide +kernel
theorem dX5_opens_33 : decode cX5_opens 33 = .ok (.aload_n 0, 1) := by decide +kernel
theorem dX5_opens_34 : decode cX5_opens 34 = .ok (.getfield 34, 3) := by decide +kernel
theorem dX5_opens_37 : decode cX5_opens 37 = .ok (.aload_n 0, 1) := by decide +kernel
theorem dX5_opens_38 : decode cX5_opens 38 = .ok (.getfield 37, 3) := by decide +kernel
theorem dX5_opens_41 : decode cX5_opens 41 = .ok (.iconst 0, 1) := by decide +kernel
theorem dX5_opens_42 : decode cX5_opens 42 = .ok (.iastore, 1) := by decide +kernel
theorem dX5_opens_43 : decode cX5_opens 43 = .ok (.aload_n 0, 1) := by decide +kernel
theorem dX5_opens_44 : decode cX5_opens 44 = .ok (.dup, 1) := by decide +kernel
theorem dX5_opens_45 : decode cX5_opens 45 = .ok (.getfield 37, 3) := by decide +kernel
theorem dX5_opens_48 : decode cX5_opens 48 = .ok (.iconst 1, 1) := by decide +kernel
theorem dX5_opens_49 : decode cX5_opens 49 = .ok (.iadd, 1) := by decide +kernel
theorem dX5_opens_50 : decode cX5_opens 50 = .ok (.putfield 37, 3) := by decide +kernel
theorem dX5_opens_53 : decode cX5_opens 53 = .ok (.aload_n 0, 1) := by decide +kernel
theorem dX5_opens_54 : decode cX5_opens 54 = .ok (.iconst 0, 1) := by decide +kernel
theorem dX5_opens_55 : decode cX5_opens 55 = .ok (.putfield 40, 3) := by decide +kernel
theorem dX5_opens_58 : decode cX5_opens 58 = .ok (.iconst 1, 1) := by decide +kernel
theorem dX5_opens_59 : decode cX5_opens 59 = .ok (.ireturn, 1) := by decide +kernel
theorem dX5_separates_0 : decode cX5_separates 0 = .ok (.aload_n 0, 1) := by decide +kernel
theorem dX5_separates_1 : decode cX5_separates 1 = .ok (.getfield 37, 3) := by decide +kernel
theorem dX5_separates_4 : decode cX5_separates 4 = .ok (.ifCond .eq 19, 3) := by decide +kernel
theorem dX5_separates_7 : decode cX5_separates 7 = .ok (.aload_n 0, 1) := by decide +kernel
theorem dX5_separates_8 : decode cX5_separates 8 = .ok (.getfield 34, 3) := by decide +kernel
theorem dX5_separates_11 : decode cX5_separates 11 = .ok (.aload_n 0, 1) := by decide +kernel
theorem dX5_separates_12 : decode cX5_separates 12 = .ok (.getfield 37, 3) := by decide +kernel
theorem dX5_separates_15 : decode cX5_separates 15 = .ok (.iconst 1, 1) := by decide +kernel
theorem dX5_separates_16 : decode cX5_separates 16 = .ok (.isub, 1) := by decide +kernel
theorem dX5_separates_17 : decode cX5_separates 17 = .ok (.iaload, 1) := by decide +kernel
theorem dX5_separates_18 : decode cX5_separates 18 = .ok (.bipush 6, 2) := by decide +kernel
theorem dX5_separates_20 : decode cX5_separates 20 = .ok (.if_icmp .lt 5, 3) := by decide +kernel
theorem dX5_separates_23 : decode cX5_separates 23 = .ok (.iconst 0, 1) := by decide +kernel
theorem dX5_separates_24 : decode cX5_separates 24 = .ok (.ireturn, 1) := by decide +kernel
theorem dX5_separates_25 : decode cX5_separates 25 = .ok (.aload_n 0, 1) := by decide +kernel
theorem dX5_separates_26 : decode cX5_separates 26 = .ok (.iconst 0, 1) := by decide +kernel
theorem dX5_separates_27 : decode cX5_separates 27 = .ok (.putfield 40, 3) := by decide +kernel
theorem dX5_separates_30 : decode cX5_separates 30 = .ok (.iconst 1, 1) := by decide +kernel
theorem dX5_separates_31 : decode cX5_separates 31 = .ok (.ireturn, 1) := by decide +kernel
theorem dX5_closes_0 : decode cX5_closes 0 = .ok (.aload_n 0, 1) := by decide +kernel
theorem dX5_closes_1 : decode cX5_closes 1 = .ok (.getfield 37, 3) := by decide +kernel
theorem dX5_closes_4 : decode cX5_closes 4 = .ok (.ifCond .ne 5, 3) := by decide +kernel
theorem dX5_closes_7 : decode cX5_closes 7 = .ok (.iconst 0, 1) := by decide +kernel
theorem dX5_closes_8 : decode cX5_closes 8 = .ok (.ireturn, 1) := by decide +kernel
theorem dX5_closes_9 : decode cX5_closes 9 = .ok (.aload_n 0, 1) := by decide +kernel
theorem dX5_closes_10 : decode cX5_closes 10 = .ok (.dup, 1) := by decide +kernel
theorem dX5_closes_11 : decode cX5_closes 11 = .ok (.getfield 37, 3) := by decide +kernel
theorem dX5_closes_14 : decode cX5_closes 14 = .ok (.iconst 1, 1) := by decide +kernel
theorem dX5_closes_15 : decode cX5_closes 15 = .ok (.isub, 1) := by decide +kernel
theorem dX5_closes_16 : decode cX5_closes 16 = .ok (.putfield 37, 3) := by decide +kernel
theorem dX5_closes_19 : decode cX5_closes 19 = .ok (.aload_n 0, 1) := by decide +kernel
theorem dX5_closes_20 : decode cX5_closes 20 = .ok (.iconst 3, 1) := by decide +kernel
theorem dX5_closes_21 : decode cX5_closes 21 = .ok (.putfield 40, 3) := by decide +kernel
theorem dX5_closes_24 : decode cX5_closes 24 = .ok (.iconst 1, 1) := by decide +kernel
theorem dX5_closes_25 : decode cX5_closes 25 = .ok (.ireturn, 1) := by decide +kernel
theorem dX6_init_0 : decode cX6_init 0 = .ok (.aload_n 0, 1) := by decide +kernel
theorem dX6_init_1 : decode cX6_init 1 = .ok (.invokespecial 3, 3) := by decide +kernel
theorem dX6_init_4 : decode cX6_init 4 = .ok (.aload_n 0, 1) := by decide +kernel
theorem dX6_init_5 : decode cX6_init 5 = .ok (.iconst 4, 1) := by decide +kernel
theorem dX6_init_6 : decode cX6_init 6 = .ok (.anewarray 9, 3) := by decide +kernel
theorem dX6_init_9 : decode cX6_init 9 = .ok (.putfield 11, 3) := by decide +kernel
theorem dX6_init_12 : decode cX6_init 12 = .ok (.iconst 0, 1) := by decide +kernel
theorem dX6_init_13 : decode cX6_init 13 = .ok (.istore_n 1, 1) := by decide +kernel
theorem dX6_init_14 : decode cX6_init 14 = .ok (.iload_n 1, 1) := by decide +kernel
theorem dX6_init_15 : decode cX6_init 15 = .ok (.aload_n 0, 1) := by decide +kernel
theorem dX6_init_16 : decode cX6_init 16 = .ok (.getfield 11, 3) := by decide +kernel
theorem dX6_init_19 : decode cX6_init 19 = .ok (.arraylength, 1) := by decide +kernel
theorem dX6_init_20 : decode cX6_init 20 = .ok (.if_icmp .ge 22, 3) := by decide +kernel
theorem dX6_init_23 : decode cX6_init 23 = .ok (.aload_n 0, 1) := by decide +kernel
theorem dX6_init_24 : decode cX6_init 24 = .ok (.getfield 11, 3) := by decide +kernel
theorem dX6_init_27 : decode cX6_init 27 = .ok (.iload_n 1, 1) := by decide +kernel
theorem dX6_init_28 : decode cX6_init 28 = .ok (.new 9, 3) := by decide +kernel
theorem dX6_init_31 : decode cX6_init 31 = .ok (.dup, 1) := by decide +kernel
theorem dX6_init_32 : decode cX6_init 32 = .ok (.invokespecial 17, 3) := by decide +kernel
theorem dX6_init_35 : decode cX6_init 35 = .ok (.aastore, 1) := by decide +kernel
theorem dX6_init_36 : decode cX6_init 36 = .ok (.iinc 1 1, 3) := by decide +kernel
theorem dX6_init_39 : decode cX6_init 39 = .ok (.goto (-25), 3) := by decide +kernel
theorem dX6_init_42 : decode cX6_init 42 = .ok (.aload_n 0, 1) := by decide +kernel
theorem dX6_init_43 : decode cX6_init 43 = .ok (.new 18, 3) := by decide +kernel
theorem dX6_init_46 : decode cX6_init 46 = .ok (.dup, 1) := by decide +kernel
theorem dX6_init_47 : decode cX6_init 47 = .ok (.invokespecial 20, 3) := by decide +kernel
theorem dX6_init_50 : decode cX6_init 50 = .ok (.putfield 21, 3) := by decide +kernel
theorem dX6_init_53 : decode cX6_init 53 = .ok (.aload_n 0, 1) := by decide +kernel
theorem dX6_init_54 : decode cX6_init 54 = .ok (.new 25, 3) := by decide +kernel
theorem dX6_init_57 : decode cX6_init 57 = .ok (.dup, 1) := by decide +kernel
theorem dX6_init_58 : decode cX6_init 58 = .ok (.invokespecial 27, 3) := by decide +kernel
theorem dX6_init_61 : decode cX6_init 61 = .ok (.putfield 28, 3) := by decide +kernel
theorem dX6_init_64 : decode cX6_init 64 = .ok (.aload_n 0, 1) := by decide +kernel
theorem dX6_init_65 : decode cX6_init 65 = .ok (.new 32, 3) := by decide +kernel
theorem dX6_init_68 : decode cX6_init 68 = .ok (.dup, 1) := by decide +kernel
theorem dX6_init_69 : decode cX6_init 69 = .ok (.iconst 5, 1) := by decide +kernel
theorem dX6_init_70 : decode cX6_init 70 = .ok (.invokespecial 34, 3) := by decide +kernel
theorem dX6_init_73 : decode cX6_init 73 = .ok (.putfield 37, 3) := by decide +kernel
theorem dX6_init_76 : decode cX6_init 76 = .ok (.aload_n 0, 1) := by decide +kernel
theorem dX6_init_77 : decode cX6_init 77 = .ok (.new 32, 3) := by decide +kernel
theorem dX6_init_80 : decode cX6_init 80 = .ok (.dup, 1) := by decide +kernel
theorem dX6_init_81 : decode cX6_init 81 = .ok (.bipush 10, 2) := by decide +kernel
theorem dX6_init_83 : decode cX6_init 83 = .ok (.invokespecial 34, 3) := by decide +kernel
theorem dX6_init_86 : decode cX6_init 86 = .ok (.putfield 41, 3) := by decide +kernel
theorem dX6_init_89 : decode cX6_init 89 = .ok (.aload_n 0, 1) := by decide +kernel
theorem dX6_init_90 : decode cX6_init 90 = .ok (.new 32, 3) := by decide +kernel
theorem dX6_init_93 : decode cX6_init 93 = .ok (.dup, 1) := by decide +kernel
theorem dX6_init_94 : decode cX6_init 94 = .ok (.bipush 8, 2) := by decide +kernel
theorem dX6_init_96 : decode cX6_init 96 = .ok (.invokespecial 34, 3) := by decide +kernel
theorem dX6_init_99 : decode cX6_init 99 = .ok (.putfield 44, 3) := by decide +kernel
theorem dX6_init_102 : decode cX6_init 102 = .ok (.aload_n 0, 1) := by decide +kernel
theorem dX6_init_103 : decode cX6_init 103 = .ok (.iconst 2, 1) := by decide +kernel
theorem dX6_init_104 : decode cX6_init 104 = .ok (.putfield 47, 3) := by decide +kernel
theorem dX6_init_107 : decode cX6_init 107 = .ok (.aload_n 0, 1) := by decide +kernel
theorem dX6_init_108 : decode cX6_init 108 = .ok (.iconst 1, 1) := by decide +kernel
theorem dX6_init_109 : decode cX6_init 109 = .ok (.putfield 51, 3) := by decide +kernel
theorem dX6_init_112 : decode cX6_init 112 = .ok (.aload_n 0, 1) := by decide +kernel
theorem dX6_init_113 : decode cX6_init 113 = .ok (.iconst 0, 1) := by decide +kernel
theorem dX6_init_114 : decode cX6_init 114 = .ok (.putfield 54, 3) := by decide +kernel
theorem dX6_init_117 : decode cX6_init 117 = .ok (.return_, 1) := by decide +kernel
theorem dX6_become_0 : decode cX6_become 0 = .ok (.iconst 0, 1) := by decide +kernel
theorem dX6_become_1 : decode cX6_become 1 = .ok (.istore_n 2, 1) := by decide +kernel
theorem dX6_become_2 : decode cX6_become 2 = .ok (.iload_n 2, 1) := by decide +kernel
theorem dX6_become_3 : decode cX6_become 3 = .ok (.aload_n 0, 1) := by decide +kernel
theorem dX6_become_4 : decode cX6_become 4 = .ok (.getfield 11, 3) := by decide +kernel
theorem dX6_become_7 : decode cX6_become 7 = .ok (.arraylength, 1) := by decide +kernel
theorem dX6_become_8 : decode cX6_become 8 = .ok (.if_icmp .ge 24, 3) := by decide +kernel
theorem dX6_become_11 : decode cX6_become 11 = .ok (.aload_n 0, 1) := by decide +kernel
theorem dX6_become_12 : decode cX6_become 12 = .ok (.getfield 11, 3) := by decide +kernel
theorem dX6_become_15 : decode cX6_become 15 = .ok (.iload_n 2, 1) := by decide +kernel
theorem dX6_become_16 : decode cX6_become 16 = .ok (.aaload, 1) := by decide +kernel
theorem dX6_become_17 : decode cX6_become 17 = .ok (.aload_n 1, 1) := by decide +kernel
theorem dX6_become_18 : decode cX6_become 18 = .ok (.getfield 11, 3) := by decide +kernel
theorem dX6_become_21 : decode cX6_become 21 = .ok (.iload_n 2, 1) := by decide +kernel
theorem dX6_become_22 : decode cX6_become 22 = .ok (.aaload, 1) := by decide +kernel
theorem dX6_become_23 : decode cX6_become 23 = .ok (.invokevirtual 57, 3) := by decide +kernel
theorem dX6_become_26 : decode cX6_become 26 = .ok (.iinc 2 1, 3) := by decide +kernel
theorem dX6_become_29 : decode cX6_become 29 = .ok (.goto (-27), 3) := by decide +kernel
theorem dX6_become_32 : decode cX6_become 32 = .ok (.aload_n 0, 1) := by decide +kernel
theorem dX6_become_33 : decode cX6_become 33 = .ok (.getfield 21, 3) := by decide +kernel
theorem dX6_become_36 : decode cX6_become 36 = .ok (.aload_n 1, 1) := by decide +kernel
theorem dX6_become_37 : decode cX6_become 37 = .ok (.getfield 21, 3) := by decide +kernel
theorem dX6_become_40 : decode cX6_become 40 = .ok (.invokevirtual 61, 3) := by decide +kernel
theorem dX6_become_43 : decode cX6_become 43 = .ok (.aload_n 0, 1) := by decide +kernel
theorem dX6_become_44 : decode cX6_become 44 = .ok (.getfield 28, 3) := by decide +kernel
theorem dX6_become_47 : decode cX6_become 47 = .ok (.aload_n 1, 1) := by decide +kernel
theorem dX6_become_48 : decode cX6_become 48 = .ok (.getfield 28, 3) := by decide +kernel
theorem dX6_become_51 : decode cX6_become 51 = .ok (.invokevirtual 64, 3) := by decide +kernel
theorem dX6_become_54 : decode cX6_become 54 = .ok (.aload_n 0, 1) := by decide +kernel
theorem dX6_become_55 : decode cX6_become 55 = .ok (.getfield 37, 3) := by decide +kernel
theorem dX6_become_58 : decode cX6_become 58 = .ok (.aload_n 1, 1) := by decide +kernel
theorem dX6_become_59 : decode cX6_become 59 = .ok (.getfield 37, 3) := by decide +kernel
theorem dX6_become_62 : decode cX6_become 62 = .ok (.invokevirtual 67, 3) := by decide +kernel
theorem dX6_become_65 : decode cX6_become 65 = .ok (.aload_n 0, 1) := by decide +kernel
theorem dX6_become_66 : decode cX6_become 66 = .ok (.getfield 41, 3) := by decide +kernel
theorem dX6_become_69 : decode cX6_become 69 = .ok (.aload_n 1, 1) := by decide +kernel
theorem dX6_become_70 : decode cX6_become 70 = .ok (.getfield 41, 3) := by decide +kernel
theorem dX6_become_73 : decode cX6_become 73 = .ok (.invokevirtual 67, 3) := by decide +kernel
theorem dX6_become_76 : decode cX6_become 76 = .ok (.aload_n 0, 1) := by decide +kernel
theorem dX6_become_77 : decode cX6_become 77 = .ok (.getfield 44, 3) := by decide +kernel
theorem dX6_become_80 : decode cX6_become 80 = .ok (.aload_n 1, 1) := by decide +kernel
theorem dX6_become_81 : decode cX6_become 81 = .ok (.getfield 44, 3) := by decide +kernel
theorem dX6_become_84 : decode cX6_become 84 = .ok (.invokevirtual 67, 3) := by decide +kernel
theorem dX6_become_87 : decode cX6_become 87 = .ok (.aload_n 0, 1) := by decide +kernel
theorem dX6_become_88 : decode cX6_become 88 = .ok (.aload_n 1, 1) := by decide +kernel
theorem dX6_become_89 : decode cX6_become 89 = .ok (.getfield 47, 3) := by decide +kernel
theorem dX6_become_92 : decode cX6_become 92 = .ok (.putfield 47, 3) := by decide +kernel
theorem dX6_become_95 : decode cX6_become 95 = .ok (.aload_n 0, 1) := by decide +kernel
theorem dX6_become_96 : decode cX6_become 96 = .ok (.aload_n 1, 1) := by decide +kernel
theorem dX6_become_97 : decode cX6_become 97 = .ok (.getfield 51, 3) := by decide +kernel
theorem dX6_become_100 : decode cX6_become 100 = .ok (.putfield 51, 3) := by decide +kernel
theorem dX6_become_103 : decode cX6_become 103 = .ok (.aload_n 0, 1) := by decide +kernel
theorem dX6_become_104 : decode cX6_become 104 = .ok (.aload_n 1, 1) := by decide +kernel
theorem dX6_become_105 : decode cX6_become 105 = .ok (.getfield 54, 3) := by decide +kernel
theorem dX6_become_108 : decode cX6_become 108 = .ok (.putfield 54, 3) := by decide +kernel
theorem dX6_become_111 : decode cX6_become 111 = .ok (.return_, 1) := by decide +kernel
theorem dX6_changeArms_0 : decode cX6_changeArms 0 = .ok (.iload_n 1, 1) := by decide +kernel
theorem dX6_changeArms_1 : decode cX6_changeArms 1 = .ok (.istore_n 2, 1) := by decide +kernel
theorem dX6_changeArms_2 : decode cX6_changeArms 2 = .ok (.iload_n 2, 1) := by decide +kernel
theorem dX6_changeArms_3 : decode cX6_changeArms 3 = .ok (.aload_n 0, 1) := by decide +kernel
theorem dX6_changeArms_4 : decode cX6_changeArms 4 = .ok (.getfield 47, 3) := by decide +kernel
theorem dX6_changeArms_7 : decode cX6_changeArms 7 = .ok (.if_icmp .ge 94, 3) := by decide +kernel
theorem dX6_changeArms_10 : decode cX6_changeArms 10 = .ok (.aload_n 0, 1) := by decide +kernel
theorem dX6_changeArms_11 : decode cX6_changeArms 11 = .ok (.getfield 11, 3) := by decide +kernel
theorem dX6_changeArms_14 : decode cX6_changeArms 14 = .ok (.iload_n 2, 1) := by decide +kernel
theorem dX6_changeArms_15 : decode cX6_changeArms 15 = .ok (.aaload, 1) := by decide +kernel
theorem dX6_changeArms_16 : decode cX6_changeArms 16 = .ok (.astore_n 3, 1) := by decide +kernel
theorem dX6_changeArms_17 : decode cX6_changeArms 17 = .ok (.aload_n 0, 1) := by decide +kernel
theorem dX6_changeArms_18 : decode cX6_changeArms 18 = .ok (.getfield 21, 3) := by decide +kernel
theorem dX6_changeArms_21 : decode cX6_changeArms 21 = .ok (.aload_n 3, 1) := by decide +kernel
theorem dX6_changeArms_22 : decode cX6_changeArms 22 = .ok (.getfield 70, 3) := by decide +kernel
theorem dX6_changeArms_25 : decode cX6_changeArms 25 = .ok (.invokevirtual 73, 3) := by decide +kernel
theorem dX6_changeArms_28 : decode cX6_changeArms 28 = .ok (.ifCond .eq 29, 3) := by decide +kernel
theorem dX6_changeArms_31 : decode cX6_changeArms 31 = .ok (.aload_n 0, 1) := by decide +kernel
theorem dX6_changeArms_32 : decode cX6_changeArms 32 = .ok (.getfield 21, 3) := by decide +kernel
theorem dX6_changeArms_35 : decode cX6_changeArms 35 = .ok (.getfield 77, 3) := by decide +kernel
theorem dX6_changeArms_38 : decode cX6_changeArms 38 = .ok (.aload_n 3, 1) := by decide +kernel
theorem dX6_changeArms_39 : decode cX6_changeArms 39 = .ok (.getfield 70, 3) := by decide +kernel
theorem dX6_changeArms_42 : decode cX6_changeArms 42 = .ok (.iconst 0, 1) := by decide +kernel
theorem dX6_changeArms_43 : decode cX6_changeArms 43 = .ok (.iastore, 1) := by decide +kernel
theorem dX6_changeArms_44 : decode cX6_changeArms 44 = .ok (.aload_n 0, 1) := by decide +kernel
theorem dX6_changeArms_45 : decode cX6_changeArms 45 = .ok (.getfield 11, 3) := by decide +kernel
theorem dX6_changeArms_48 : decode cX6_changeArms 48 = .ok (.iconst 0, 1) := by decide +kernel
theorem dX6_changeArms_49 : decode cX6_changeArms 49 = .ok (.aaload, 1) := by decide +kernel
theorem dX6_changeArms_50 : decode cX6_changeArms 50 = .ok (.aload_n 3, 1) := by decide +kernel
theorem dX6_changeArms_51 : decode cX6_changeArms 51 = .ok (.getfield 70, 3) := by decide +kernel
theorem dX6_changeArms_54 : decode cX6_changeArms 54 = .ok (.invokevirtual 81, 3) := by decide +kernel
theorem dX6_changeArms_57 : decode cX6_changeArms 57 = .ok (.iconst 0, 1) := by decide +kernel
theorem dX6_changeArms_58 : decode cX6_changeArms 58 = .ok (.istore 4, 2) := by decide +kernel
theorem dX6_changeArms_60 : decode cX6_changeArms 60 = .ok (.iload 4, 2) := by decide +kernel
theorem dX6_changeArms_62 : decode cX6_changeArms 62 = .ok (.aload_n 3, 1) := by decide +kernel
theorem dX6_changeArms_63 : decode cX6_changeArms 63 = .ok (.getfield 84, 3) := by decide +kernel
theorem dX6_changeArms_66 : decode cX6_changeArms 66 = .ok (.if_icmp .ge 25, 3) := by decide +kernel
theorem dX6_changeArms_69 : decode cX6_changeArms 69 = .ok (.aload_n 0, 1) := by decide +kernel
theorem dX6_changeArms_70 : decode cX6_changeArms 70 = .ok (.getfield 11, 3) := by decide +kernel
theorem dX6_changeArms_73 : decode cX6_changeArms 73 = .ok (.iconst 0, 1) := by decide +kernel
theorem dX6_changeArms_74 : decode cX6_changeArms 74 = .ok (.aaload, 1) := by decide +kernel
theorem dX6_changeArms_75 : decode cX6_changeArms 75 = .ok (.aload_n 3, 1) := by decide +kernel
theorem dX6_changeArms_76 : decode cX6_changeArms 76 = .ok (.getfield 87, 3) := by decide +kernel
theorem dX6_changeArms_79 : decode cX6_changeArms 79 = .ok (.iload 4, 2) := by decide +kernel
theorem dX6_changeArms_81 : decode cX6_changeArms 81 = .ok (.iaload, 1) := by decide +kernel
theorem dX6_changeArms_82 : decode cX6_changeArms 82 = .ok (.invokevirtual 81, 3) := by decide +kernel
theorem dX6_changeArms_85 : decode cX6_changeArms 85 = .ok (.iinc 4 1, 3) := by decide +kernel
theorem dX6_changeArms_88 : decode cX6_changeArms 88 = .ok (.goto (-28), 3) := by decide +kernel
theorem dX6_changeArms_91 : decode cX6_changeArms 91 = .ok (.aload_n 3, 1) := by decide +kernel
theorem dX6_changeArms_92 : decode cX6_changeArms 92 = .ok (.invokevirtual 90, 3) := by decide +kernel
theorem dX6_changeArms_95 : decode cX6_changeArms 95 = .ok (.iinc 2 1, 3) := by decide +kernel
theorem dX6_changeArms_98 : decode cX6_changeArms 98 = .ok (.goto (-96), 3) := by decide +kernel
theorem dX6_changeArms_101 : decode cX6_changeArms 101 = .ok (.aload_n 0, 1) := by decide +kernel
theorem dX6_changeArms_102 : decode cX6_changeArms 102 = .ok (.iload_n 1, 1) := by decide +kernel
theorem dX6_changeArms_103 : decode cX6_changeArms 103 = .ok (.putfield 47, 3) := by decide +kernel
theorem dX6_changeArms_106 : decode cX6_changeArms 106 = .ok (.return_, 1) := by decide +kernel
theorem dX6_isOver_0 : decode cX6_isOver 0 = .ok (.iconst 0, 1) := by decide +kernel
theorem dX6_isOver_1 : decode cX6_isOver 1 = .ok (.istore_n 1, 1) := by decide +kernel
theorem dX6_isOver_2 : decode cX6_isOver 2 = .ok (.iload_n 1, 1) := by decide +kernel
theorem dX6_isOver_3 : decode cX6_isOver 3 = .ok (.aload_n 0, 1) := by decide +kernel
theorem dX6_isOver_4 : decode cX6_isOver 4 = .ok (.getfield 47, 3) := by decide +kernel
theorem dX6_isOver_7 : decode cX6_isOver 7 = .ok (.if_icmp .ge 37, 3) := by decide +kernel
theorem dX6_isOver_10 : decode cX6_isOver 10 = .ok (.aload_n 0, 1) := by decide +kernel
theorem dX6_isOver_11 : decode cX6_isOver 11 = .ok (.getfield 11, 3) := by decide +kernel
theorem dX6_isOver_14 : decode cX6_isOver 14 = .ok (.iload_n 1, 1) := by decide +kernel
theorem dX6_isOver_15 : decode cX6_isOver 15 = .ok (.aaload, 1) := by decide +kernel
theorem dX6_isOver_16 : decode cX6_isOver 16 = .ok (.getfield 84, 3) := by decide +kernel
theorem dX6_isOver_19 : decode cX6_isOver 19 = .ok (.ifCond .gt 17, 3) := by decide +kernel
theorem dX6_isOver_22 : decode cX6_isOver 22 = .ok (.aload_n 0, 1) := by decide +kernel
theorem dX6_isOver_23 : decode cX6_isOver 23 = .ok (.getfield 11, 3) := by decide +kernel
theorem dX6_isOver_26 : decode cX6_isOver 26 = .ok (.iload_n 1, 1) := by decide +kernel
theorem dX6_isOver_27 : decode cX6_isOver 27 = .ok (.aaload, 1) := by decide +kernel
theorem dX6_isOver_28 : decode cX6_isOver 28 = .ok (.getfield 70, 3) := by decide +kernel
theorem dX6_isOver_31 : decode cX6_isOver 31 = .ok (.bipush (-5), 2) := by decide +kernel
theorem dX6_isOver_33 : decode cX6_isOver 33 = .ok (.if_icmp .eq 5, 3) := by decide +kernel
theorem dX6_isOver_36 : decode cX6_isOver 36 = .ok (.iconst 0, 1) := by decide +kernel
theorem dX6_isOver_37 : decode cX6_isOver 37 = .ok (.ireturn, 1) := by decide +kernel
theorem dX6_isOver_38 : decode cX6_isOver 38 = .ok (.iinc 1 1, 3) := by decide +kernel
theorem dX6_isOver_41 : decode cX6_isOver 41 = .ok (.goto (-39), 3) := by decide +kernel
theorem dX6_isOver_44 : decode cX6_isOver 44 = .ok (.iconst 0, 1) := by decide +kernel
theorem dX6_isOver_45 : decode cX6_isOver 45 = .ok (.istore_n 1, 1) := by decide +kernel
theorem dX6_isOver_46 : decode cX6_isOver 46 = .ok (.iload_n 1, 1) := by decide +kernel
theorem dX6_isOver_47 : decode cX6_isOver 47 = .ok (.aload_n 0, 1) := by decide +kernel
theorem dX6_isOver_48 : decode cX6_isOver 48 = .ok (.getfield 21, 3) := by decide +kernel
theorem dX6_isOver_51 : decode cX6_isOver 51 = .ok (.getfield 93, 3) := by decide +kernel
theorem dX6_isOver_54 : decode cX6_isOver 54 = .ok (.if_icmp .ge 24, 3) := by decide +kernel
theorem dX6_isOver_57 : decode cX6_isOver 57 = .ok (.aload_n 0, 1) := by decide +kernel
theorem dX6_isOver_58 : decode cX6_isOver 58 = .ok (.getfield 21, 3) := by decide +kernel
theorem dX6_isOver_61 : decode cX6_isOver 61 = .ok (.getfield 77, 3) := by decide +kernel
theorem dX6_isOver_64 : decode cX6_isOver 64 = .ok (.iload_n 1, 1) := by decide +kernel
theorem dX6_isOver_65 : decode cX6_isOver 65 = .ok (.iaload, 1) := by decide +kernel
theorem dX6_isOver_66 : decode cX6_isOver 66 = .ok (.iconst 2, 1) := by decide +kernel
theorem dX6_isOver_67 : decode cX6_isOver 67 = .ok (.if_icmp .ne 5, 3) := by decide +kernel
theorem dX6_isOver_70 : decode cX6_isOver 70 = .ok (.iconst 0, 1) := by decide +kernel
theorem dX6_isOver_71 : decode cX6_isOver 71 = .ok (.ireturn, 1) := by decide +kernel
theorem dX6_isOver_72 : decode cX6_isOver 72 = .ok (.iinc 1 1, 3) := by decide +kernel
theorem dX6_isOver_75 : decode cX6_isOver 75 = .ok (.goto (-29), 3) := by decide +kernel
theorem dX6_isOver_78 : decode cX6_isOver 78 = .ok (.iconst 1, 1) := by decide +kernel
theorem dX6_isOver_79 : decode cX6_isOver 79 = .ok (.ireturn, 1) := by decide +kernel
theorem dX6_goRounds_0 : decode cX6_goRounds 0 = .ok (.iconst 0, 1) := by decide +kernel
theorem dX6_goRounds_1 : decode cX6_goRounds 1 = .ok (.istore_n 2, 1) := by decide +kernel
theorem dX6_goRounds_2 : decode cX6_goRounds 2 = .ok (.iload_n 2, 1) := by decide +kernel
theorem dX6_goRounds_3 : decode cX6_goRounds 3 = .ok (.iload_n 1, 1) := by decide +kernel
theorem dX6_goRounds_4 : decode cX6_goRounds 4 = .ok (.if_icmp .ge 13, 3) := by decide +kernel
theorem dX6_goRounds_7 : decode cX6_goRounds 7 = .ok (.aload_n 0, 1) := by decide +kernel
theorem dX6_goRounds_8 : decode cX6_goRounds 8 = .ok (.invokevirtual 96, 3) := by decide +kernel
theorem dX6_goRounds_11 : decode cX6_goRounds 11 = .ok (.iinc 2 1, 3) := by decide +kernel
theorem dX6_goRounds_14 : decode cX6_goRounds 14 = .ok (.goto (-12), 3) := by decide +kernel
theorem dX6_goRounds_17 : decode cX6_goRounds 17 = .ok (.return_, 1) := by decide +kernel
theorem dX6_goRoundsTillOver_0 : decode cX6_goRoundsTillOver 0 = .ok (.iconst 0, 1) := by decide +kernel
theorem dX6_goRoundsTillOver_1 : decode cX6_goRoundsTillOver 1 = .ok (.istore_n 2, 1) := by decide +kernel
theorem dX6_goRoundsTillOver_2 : decode cX6_goRoundsTillOver 2 = .ok (.iload_n 2, 1) := by decide +kernel
theorem dX6_goRoundsTillOver_3 : decode cX6_goRoundsTillOver 3 = .ok (.iload_n 1, 1) := by decide +kernel
theorem dX6_goRoundsTillOver_4 : decode cX6_goRoundsTillOver 4 = .ok (.if_icmp .ge 20, 3) := by decide +kernel
theorem dX6_goRoundsTillOver_7 : decode cX6_goRoundsTillOver 7 = .ok (.aload_n 0, 1) := by decide +kernel
theorem dX6_goRoundsTillOver_8 : decode cX6_goRoundsTillOver 8 = .ok (.invokevirtual 99, 3) := by decide +kernel
theorem dX6_goRoundsTillOver_11 : decode cX6_goRoundsTillOver 11 = .ok (.ifCond .ne 13, 3) := by decide +kernel
theorem dX6_goRoundsTillOver_14 : decode cX6_goRoundsTillOver 14 = .ok (.aload_n 0, 1) := by decide +kernel
theorem dX6_goRoundsTillOver_15 : decode cX6_goRoundsTillOver 15 = .ok (.invokevirtual 96, 3) := by decide +kernel
theorem dX6_goRoundsTillOver_18 : decode cX6_goRoundsTillOver 18 = .ok (.iinc 2 1, 3) := by decide +kernel
theorem dX6_goRoundsTillOver_21 : decode cX6_goRoundsTillOver 21 = .ok (.goto (-19), 3) := by decide +kernel
theorem dX6_goRoundsTillOver_24 : decode cX6_goRoundsTillOver 24 = .ok (.return_, 1) := by decide +kernel
theorem dX6_goAsPlanned_0 : decode cX6_goAsPlanned 0 = .ok (.iload_n 1, 1) := by decide +kernel
theorem dX6_goAsPlanned_1 : decode cX6_goAsPlanned 1 = .ok (.ifCond .ne 10, 3) := by decide +kernel
theorem dX6_goAsPlanned_4 : decode cX6_goAsPlanned 4 = .ok (.aload_n 0, 1) := by decide +kernel
theorem dX6_goAsPlanned_5 : decode cX6_goAsPlanned 5 = .ok (.invokevirtual 96, 3) := by decide +kernel
theorem dX6_goAsPlanned_8 : decode cX6_goAsPlanned 8 = .ok (.goto 44, 3) := by decide +kernel
theorem dX6_goAsPlanned_11 : decode cX6_goAsPlanned 11 = .ok (.iload_n 1, 1) := by decide +kernel
theorem dX6_goAsPlanned_12 : decode cX6_goAsPlanned 12 = .ok (.iconst 2, 1) := by decide +kernel
theorem dX6_goAsPlanned_13 : decode cX6_goAsPlanned 13 = .ok (.if_icmp .ne 11, 3) := by decide +kernel
theorem dX6_goAsPlanned_16 : decode cX6_goAsPlanned 16 = .ok (.aload_n 0, 1) := by decide +kernel
theorem dX6_goAsPlanned_17 : decode cX6_goAsPlanned 17 = .ok (.iload_n 2, 1) := by decide +kernel
theorem dX6_goAsPlanned_18 : decode cX6_goAsPlanned 18 = .ok (.putfield 51, 3) := by decide +kernel
theorem dX6_goAsPlanned_21 : decode cX6_goAsPlanned 21 = .ok (.goto 31, 3) := by decide +kernel
theorem dX6_goAsPlanned_24 : decode cX6_goAsPlanned 24 = .ok (.aload_n 0, 1) := by decide +kernel
theorem dX6_goAsPlanned_25 : decode cX6_goAsPlanned 25 = .ok (.getfield 21, 3) := by decide +kernel
theorem dX6_goAsPlanned_28 : decode cX6_goAsPlanned 28 = .ok (.iload_n 2, 1) := by decide +kernel
theorem dX6_goAsPlanned_29 : decode cX6_goAsPlanned 29 = .ok (.invokevirtual 73, 3) := by decide +kernel
theorem dX6_goAsPlanned_32 : decode cX6_goAsPlanned 32 = .ok (.ifCond .eq 20, 3) := by decide +kernel
theorem dX6_goAsPlanned_35 : decode cX6_goAsPlanned 35 = .ok (.aload_n 0, 1) := by decide +kernel
theorem dX6_goAsPlanned_36 : decode cX6_goAsPlanned 36 = .ok (.getfield 21, 3) := by decide +kernel
theorem dX6_goAsPlanned_39 : decode cX6_goAsPlanned 39 = .ok (.iload_n 2, 1) := by decide +kernel
theorem dX6_goAsPlanned_40 : decode cX6_goAsPlanned 40 = .ok (.invokevirtual 103, 3) := by decide +kernel
theorem dX6_goAsPlanned_43 : decode cX6_goAsPlanned 43 = .ok (.ifCond .ne 9, 3) := by decide +kernel
theorem dX6_goAsPlanned_46 : decode cX6_goAsPlanned 46 = .ok (.aload_n 0, 1) := by decide +kernel
theorem dX6_goAsPlanned_47 : decode cX6_goAsPlanned 47 = .ok (.iload_n 2, 1) := by decide +kernel
theorem dX6_goAsPlanned_48 : decode cX6_goAsPlanned 48 = .ok (.invokevirtual 106, 3) := by decide +kernel
theorem dX6_goAsPlanned_51 : decode cX6_goAsPlanned 51 = .ok (.pop, 1) := by decide +kernel
theorem dX6_goAsPlanned_52 : decode cX6_goAsPlanned 52 = .ok (.return_, 1) := by decide +kernel
theorem dX6_goRound_0 : decode cX6_goRound 0 = .ok (.iconst 0, 1) := by decide +kernel
theorem dX6_goRound_1 : decode cX6_goRound 1 = .ok (.istore_n 1, 1) := by decide +kernel
theorem dX6_goRound_2 : decode cX6_goRound 2 = .ok (.iload_n 1, 1) := by decide +kernel
theorem dX6_goRound_3 : decode cX6_goRound 3 = .ok (.aload_n 0, 1) := by decide +kernel
theorem dX6_goRound_4 : decode cX6_goRound 4 = .ok (.getfield 47, 3) := by decide +kernel
theorem dX6_goRound_7 : decode cX6_goRound 7 = .ok (.if_icmp .ge 74, 3) := by decide +kernel
theorem dX6_goRound_10 : decode cX6_goRound 10 = .ok (.aload_n 0, 1) := by decide +kernel
theorem dX6_goRound_11 : decode cX6_goRound 11 = .ok (.getfield 11, 3) := by decide +kernel
theorem dX6_goRound_14 : decode cX6_goRound 14 = .ok (.iload_n 1, 1) := by decide +kernel
theorem dX6_goRound_15 : decode cX6_goRound 15 = .ok (.aaload, 1) := by decide +kernel
theorem dX6_goRound_16 : decode cX6_goRound 16 = .ok (.getfield 70, 3) := by decide +kernel
theorem dX6_goRound_19 : decode cX6_goRound 19 = .ok (.istore_n 2, 1) := by decide +kernel
theorem dX6_goRound_20 : decode cX6_goRound 20 = .ok (.aload_n 0, 1) := by decide +kernel
theorem dX6_goRound_21 : decode cX6_goRound 21 = .ok (.getfield 21, 3) := by decide +kernel
theorem dX6_goRound_24 : decode cX6_goRound 24 = .ok (.iload_n 2, 1) := by decide +kernel
theorem dX6_goRound_25 : decode cX6_goRound 25 = .ok (.invokevirtual 73, 3) := by decide +kernel
theorem dX6_goRound_28 : decode cX6_goRound 28 = .ok (.ifCond .ne 11, 3) := by decide +kernel
theorem dX6_goRound_31 : decode cX6_goRound 31 = .ok (.aload_n 0, 1) := by decide +kernel
theorem dX6_goRound_32 : decode cX6_goRound 32 = .ok (.iload_n 1, 1) := by decide +kernel
theorem dX6_goRound_33 : decode cX6_goRound 33 = .ok (.invokevirtual 110, 3) := by decide +kernel
theorem dX6_goRound_36 : decode cX6_goRound 36 = .ok (.goto 39, 3) := by decide +kernel
theorem dX6_goRound_39 : decode cX6_goRound 39 = .ok (.aload_n 0, 1) := by decide +kernel
theorem dX6_goRound_40 : decode cX6_goRound 40 = .ok (.getfield 21, 3) := by decide +kernel
theorem dX6_goRound_43 : decode cX6_goRound 43 = .ok (.iload_n 2, 1) := by decide +kernel
theorem dX6_goRound_44 : decode cX6_goRound 44 = .ok (.invokevirtual 113, 3) := by decide +kernel
theorem dX6_goRound_47 : decode cX6_goRound 47 = .ok (.ifCond .ne 28, 3) := by decide +kernel
theorem dX6_goRound_50 : decode cX6_goRound 50 = .ok (.aload_n 0, 1) := by decide +kernel
theorem dX6_goRound_51 : decode cX6_goRound 51 = .ok (.getfield 11, 3) := by decide +kernel
theorem dX6_goRound_54 : decode cX6_goRound 54 = .ok (.iload_n 1, 1) := by decide +kernel
theorem dX6_goRound_55 : decode cX6_goRound 55 = .ok (.aaload, 1) := by decide +kernel
theorem dX6_goRound_56 : decode cX6_goRound 56 = .ok (.bipush (-5), 2) := by decide +kernel
theorem dX6_goRound_58 : decode cX6_goRound 58 = .ok (.putfield 70, 3) := by decide +kernel
theorem dX6_goRound_61 : decode cX6_goRound 61 = .ok (.aload_n 0, 1) := by decide +kernel
theorem dX6_goRound_62 : decode cX6_goRound 62 = .ok (.iload_n 2, 1) := by decide +kernel
theorem dX6_goRound_63 : decode cX6_goRound 63 = .ok (.iload_n 1, 1) := by decide +kernel
theorem dX6_goRound_64 : decode cX6_goRound 64 = .ok (.invokevirtual 116, 3) := by decide +kernel
theorem dX6_goRound_67 : decode cX6_goRound 67 = .ok (.ifCond .eq 8, 3) := by decide +kernel
theorem dX6_goRound_70 : decode cX6_goRound 70 = .ok (.aload_n 0, 1) := by decide +kernel
theorem dX6_goRound_71 : decode cX6_goRound 71 = .ok (.iload_n 2, 1) := by decide +kernel
theorem dX6_goRound_72 : decode cX6_goRound 72 = .ok (.invokevirtual 120, 3) := by decide +kernel
theorem dX6_goRound_75 : decode cX6_goRound 75 = .ok (.iinc 1 1, 3) := by decide +kernel
theorem dX6_goRound_78 : decode cX6_goRound 78 = .ok (.goto (-76), 3) := by decide +kernel
theorem dX6_goRound_81 : decode cX6_goRound 81 = .ok (.aload_n 0, 1) := by decide +kernel
theorem dX6_goRound_82 : decode cX6_goRound 82 = .ok (.dup, 1) := by decide +kernel
theorem dX6_goRound_83 : decode cX6_goRound 83 = .ok (.getfield 54, 3) := by decide +kernel
theorem dX6_goRound_86 : decode cX6_goRound 86 = .ok (.iconst 1, 1) := by decide +kernel
theorem dX6_goRound_87 : decode cX6_goRound 87 = .ok (.iadd, 1) := by decide +kernel
theorem dX6_goRound_88 : decode cX6_goRound 88 = .ok (.putfield 54, 3) := by decide +kernel
theorem dX6_goRound_91 : decode cX6_goRound 91 = .ok (.return_, 1) := by decide +kernel
theorem dX6_takeOne_0 : decode cX6_takeOne 0 = .ok (.aload_n 0, 1) := by decide +kernel
theorem dX6_takeOne_1 : decode cX6_takeOne 1 = .ok (.getfield 11, 3) := by decide +kernel
theorem dX6_takeOne_4 : decode cX6_takeOne 4 = .ok (.iload_n 1, 1) := by decide +kernel
theorem dX6_takeOne_5 : decode cX6_takeOne 5 = .ok (.aaload, 1) := by decide +kernel
theorem dX6_takeOne_6 : decode cX6_takeOne 6 = .ok (.astore_n 2, 1) := by decide +kernel
theorem dX6_takeOne_7 : decode cX6_takeOne 7 = .ok (.aload_n 2, 1) := by decide +kernel
theorem dX6_takeOne_8 : decode cX6_takeOne 8 = .ok (.invokevirtual 123, 3) := by decide +kernel
theorem dX6_takeOne_11 : decode cX6_takeOne 11 = .ok (.istore_n 3, 1) := by decide +kernel
theorem dX6_takeOne_12 : decode cX6_takeOne 12 = .ok (.iconst 0, 1) := by decide +kernel
theorem dX6_takeOne_13 : decode cX6_takeOne 13 = .ok (.istore 4, 2) := by decide +kernel
theorem dX6_takeOne_15 : decode cX6_takeOne 15 = .ok (.iload_n 3, 1) := by decide +kernel
theorem dX6_takeOne_16 : decode cX6_takeOne 16 = .ok (.bipush (-5), 2) := by decide +kernel
theorem dX6_takeOne_18 : decode cX6_takeOne 18 = .ok (.if_icmp .ne 52, 3) := by decide +kernel
theorem dX6_takeOne_21 : decode cX6_takeOne 21 = .ok (.aload_n 0, 1) := by decide +kernel
theorem dX6_takeOne_22 : decode cX6_takeOne 22 = .ok (.iload_n 1, 1) := by decide +kernel
theorem dX6_takeOne_23 : decode cX6_takeOne 23 = .ok (.invokevirtual 127, 3) := by decide +kernel
theorem dX6_takeOne_26 : decode cX6_takeOne 26 = .ok (.istore 5, 2) := by decide +kernel
theorem dX6_takeOne_28 : decode cX6_takeOne 28 = .ok (.iload 5, 2) := by decide +kernel
theorem dX6_takeOne_30 : decode cX6_takeOne 30 = .ok (.bipush (-5), 2) := by decide +kernel
theorem dX6_takeOne_32 : decode cX6_takeOne 32 = .ok (.if_icmp .ne 14, 3) := by decide +kernel
theorem dX6_takeOne_35 : decode cX6_takeOne 35 = .ok (.aload_n 2, 1) := by decide +kernel
theorem dX6_takeOne_36 : decode cX6_takeOne 36 = .ok (.dup, 1) := by decide +kernel
theorem dX6_takeOne_37 : decode cX6_takeOne 37 = .ok (.getfield 130, 3) := by decide +kernel
theorem dX6_takeOne_40 : decode cX6_takeOne 40 = .ok (.iconst 1, 1) := by decide +kernel
theorem dX6_takeOne_41 : decode cX6_takeOne 41 = .ok (.iadd, 1) := by decide +kernel
theorem dX6_takeOne_42 : decode cX6_takeOne 42 = .ok (.putfield 130, 3) := by decide +kernel
theorem dX6_takeOne_45 : decode cX6_takeOne 45 = .ok (.return_, 1) := by decide +kernel
theorem dX6_takeOne_46 : decode cX6_takeOne 46 = .ok (.aload_n 0, 1) := by decide +kernel
theorem dX6_takeOne_47 : decode cX6_takeOne 47 = .ok (.getfield 11, 3) := by decide +kernel
theorem dX6_takeOne_50 : decode cX6_takeOne 50 = .ok (.iload 5, 2) := by decide +kernel
theorem dX6_takeOne_52 : decode cX6_takeOne 52 = .ok (.aaload, 1) := by decide +kernel
theorem dX6_takeOne_53 : decode cX6_takeOne 53 = .ok (.invokevirtual 133, 3) := by decide +kernel
theorem dX6_takeOne_56 : decode cX6_takeOne 56 = .ok (.istore_n 3, 1) := by decide +kernel
theorem dX6_takeOne_57 : decode cX6_takeOne 57 = .ok (.aload_n 2, 1) := by decide +kernel
theorem dX6_takeOne_58 : decode cX6_takeOne 58 = .ok (.dup, 1) := by decide +kernel
theorem dX6_takeOne_59 : decode cX6_takeOne 59 = .ok (.getfield 136, 3) := by decide +kernel
theorem dX6_takeOne_62 : decode cX6_takeOne 62 = .ok (.iconst 1, 1) := by decide +kernel
theorem dX6_takeOne_63 : decode cX6_takeOne 63 = .ok (.iadd, 1) := by decide +kernel
theorem dX6_takeOne_64 : decode cX6_takeOne 64 = .ok (.putfield 136, 3) := by decide +kernel
theorem dX6_takeOne_67 : decode cX6_takeOne 67 = .ok (.iconst 1, 1) := by decide +kernel
theorem dX6_takeOne_68 : decode cX6_takeOne 68 = .ok (.istore 4, 2) := by decide +kernel
theorem dX6_takeOne_70 : decode cX6_takeOne 70 = .ok (.aload_n 0, 1) := by decide +kernel
theorem dX6_takeOne_71 : decode cX6_takeOne 71 = .ok (.getfield 21, 3) := by decide +kernel
theorem dX6_takeOne_74 : decode cX6_takeOne 74 = .ok (.iload_n 3, 1) := by decide +kernel
theorem dX6_takeOne_75 : decode cX6_takeOne 75 = .ok (.invokevirtual 73, 3) := by decide +kernel
theorem dX6_takeOne_78 : decode cX6_takeOne 78 = .ok (.ifCond .eq 33, 3) := by decide +kernel
theorem dX6_takeOne_81 : decode cX6_takeOne 81 = .ok (.aload_n 2, 1) := by decide +kernel
theorem dX6_takeOne_82 : decode cX6_takeOne 82 = .ok (.iload_n 3, 1) := by decide +kernel
theorem dX6_takeOne_83 : decode cX6_takeOne 83 = .ok (.putfield 70, 3) := by decide +kernel
theorem dX6_takeOne_86 : decode cX6_takeOne 86 = .ok (.aload_n 0, 1) := by decide +kernel
theorem dX6_takeOne_87 : decode cX6_takeOne 87 = .ok (.getfield 21, 3) := by decide +kernel
theorem dX6_takeOne_90 : decode cX6_takeOne 90 = .ok (.getfield 77, 3) := by decide +kernel
theorem dX6_takeOne_93 : decode cX6_takeOne 93 = .ok (.iload_n 3, 1) := by decide +kernel
theorem dX6_takeOne_94 : decode cX6_takeOne 94 = .ok (.iconst 1, 1) := by decide +kernel
theorem dX6_takeOne_95 : decode cX6_takeOne 95 = .ok (.iastore, 1) := by decide +kernel
theorem dX6_takeOne_96 : decode cX6_takeOne 96 = .ok (.aload_n 0, 1) := by decide +kernel
theorem dX6_takeOne_97 : decode cX6_takeOne 97 = .ok (.getfield 28, 3) := by decide +kernel
theorem dX6_takeOne_100 : decode cX6_takeOne 100 = .ok (.aload_n 0, 1) := by decide +kernel
theorem dX6_takeOne_101 : decode cX6_takeOne 101 = .ok (.getfield 54, 3) := by decide +kernel
theorem dX6_takeOne_104 : decode cX6_takeOne 104 = .ok (.iload_n 1, 1) := by decide +kernel
theorem dX6_takeOne_105 : decode cX6_takeOne 105 = .ok (.iload 4, 2) := by decide +kernel
theorem dX6_takeOne_107 : decode cX6_takeOne 107 = .ok (.iload_n 3, 1) := by decide +kernel
theorem dX6_takeOne_108 : decode cX6_takeOne 108 = .ok (.invokevirtual 139, 3) := by decide +kernel
theorem dX6_takeOne_111 : decode cX6_takeOne 111 = .ok (.return_, 1) := by decide +kernel
theorem dX6_drawnArm_0 : decode cX6_drawnArm 0 = .ok (.iconst 0, 1) := by decide +kernel
theorem dX6_drawnArm_1 : decode cX6_drawnArm 1 = .ok (.istore_n 2, 1) := by decide +kernel
theorem dX6_drawnArm_2 : decode cX6_drawnArm 2 = .ok (.iconst 0, 1) := by decide +kernel
theorem dX6_drawnArm_3 : decode cX6_drawnArm 3 = .ok (.istore_n 3, 1) := by decide +kernel
theorem dX6_drawnArm_4 : decode cX6_drawnArm 4 = .ok (.iload_n 3, 1) := by decide +kernel
theorem dX6_drawnArm_5 : decode cX6_drawnArm 5 = .ok (.aload_n 0, 1) := by decide +kernel
theorem dX6_drawnArm_6 : decode cX6_drawnArm 6 = .ok (.getfield 47, 3) := by decide +kernel
theorem dX6_drawnArm_9 : decode cX6_drawnArm 9 = .ok (.if_icmp .ge 29, 3) := by decide +kernel
theorem dX6_drawnArm_12 : decode cX6_drawnArm 12 = .ok (.iload_n 3, 1) := by decide +kernel
theorem dX6_drawnArm_13 : decode cX6_drawnArm 13 = .ok (.iload_n 1, 1) := by decide +kernel
theorem dX6_drawnArm_14 : decode cX6_drawnArm 14 = .ok (.if_icmp .eq 18, 3) := by decide +kernel
theorem dX6_drawnArm_17 : decode cX6_drawnArm 17 = .ok (.aload_n 0, 1) := by decide +kernel
theorem dX6_drawnArm_18 : decode cX6_drawnArm 18 = .ok (.getfield 11, 3) := by decide +kernel
theorem dX6_drawnArm_21 : decode cX6_drawnArm 21 = .ok (.iload_n 3, 1) := by decide +kernel
theorem dX6_drawnArm_22 : decode cX6_drawnArm 22 = .ok (.aaload, 1) := by decide +kernel
theorem dX6_drawnArm_23 : decode cX6_drawnArm 23 = .ok (.getfield 84, 3) := by decide +kernel
theorem dX6_drawnArm_26 : decode cX6_drawnArm 26 = .ok (.ifCond .le 6, 3) := by decide +kernel
theorem dX6_drawnArm_29 : decode cX6_drawnArm 29 = .ok (.iinc 2 1, 3) := by decide +kernel
theorem dX6_drawnArm_32 : decode cX6_drawnArm 32 = .ok (.iinc 3 1, 3) := by decide +kernel
theorem dX6_drawnArm_35 : decode cX6_drawnArm 35 = .ok (.goto (-31), 3) := by decide +kernel
theorem dX6_drawnArm_38 : decode cX6_drawnArm 38 = .ok (.iload_n 2, 1) := by decide +kernel
theorem dX6_drawnArm_39 : decode cX6_drawnArm 39 = .ok (.ifCond .ne 6, 3) := by decide +kernel
theorem dX6_drawnArm_42 : decode cX6_drawnArm 42 = .ok (.bipush (-5), 2) := by decide +kernel
theorem dX6_drawnArm_44 : decode cX6_drawnArm 44 = .ok (.ireturn, 1) := by decide +kernel
theorem dX6_drawnArm_45 : decode cX6_drawnArm 45 = .ok (.aload_n 0, 1) := by decide +kernel
theorem dX6_drawnArm_46 : decode cX6_drawnArm 46 = .ok (.aload_n 0, 1) := by decide +kernel
theorem dX6_drawnArm_47 : decode cX6_drawnArm 47 = .ok (.getfield 51, 3) := by decide +kernel
theorem dX6_drawnArm_50 : decode cX6_drawnArm 50 = .ok (.ldc 143, 2) := by decide +kernel
theorem dX6_drawnArm_52 : decode cX6_drawnArm 52 = .ok (.imul, 1) := by decide +kernel
theorem dX6_drawnArm_53 : decode cX6_drawnArm 53 = .ok (.sipush 12345, 3) := by decide +kernel
theorem dX6_drawnArm_56 : decode cX6_drawnArm 56 = .ok (.iadd, 1) := by decide +kernel
theorem dX6_drawnArm_57 : decode cX6_drawnArm 57 = .ok (.putfield 51, 3) := by decide +kernel
theorem dX6_drawnArm_60 : decode cX6_drawnArm 60 = .ok (.aload_n 0, 1) := by decide +kernel
theorem dX6_drawnArm_61 : decode cX6_drawnArm 61 = .ok (.getfield 51, 3) := by decide +kernel
theorem dX6_drawnArm_64 : decode cX6_drawnArm 64 = .ok (.bipush 16, 2) := by decide +kernel
theorem dX6_drawnArm_66 : decode cX6_drawnArm 66 = .ok (.iushr, 1) := by decide +kernel
theorem dX6_drawnArm_67 : decode cX6_drawnArm 67 = .ok (.iload_n 2, 1) := by decide +kernel
theorem dX6_drawnArm_68 : decode cX6_drawnArm 68 = .ok (.irem, 1) := by decide +kernel
theorem dX6_drawnArm_69 : decode cX6_drawnArm 69 = .ok (.istore_n 3, 1) := by decide +kernel
theorem dX6_drawnArm_70 : decode cX6_drawnArm 70 = .ok (.iconst 0, 1) := by decide +kernel
theorem dX6_drawnArm_71 : decode cX6_drawnArm 71 = .ok (.istore 4, 2) := by decide +kernel
theorem dX6_drawnArm_73 : decode cX6_drawnArm 73 = .ok (.iload 4, 2) := by decide +kernel
theorem dX6_drawnArm_75 : decode cX6_drawnArm 75 = .ok (.aload_n 0, 1) := by decide +kernel
theorem dX6_drawnArm_76 : decode cX6_drawnArm 76 = .ok (.getfield 47, 3) := by decide +kernel
theorem dX6_drawnArm_79 : decode cX6_drawnArm 79 = .ok (.if_icmp .ge 38, 3) := by decide +kernel
theorem dX6_drawnArm_82 : decode cX6_drawnArm 82 = .ok (.iload 4, 2) := by decide +kernel
theorem dX6_drawnArm_84 : decode cX6_drawnArm 84 = .ok (.iload_n 1, 1) := by decide +kernel
theorem dX6_drawnArm_85 : decode cX6_drawnArm 85 = .ok (.if_icmp .eq 26, 3) := by decide +kernel
theorem dX6_drawnArm_88 : decode cX6_drawnArm 88 = .ok (.aload_n 0, 1) := by decide +kernel
theorem dX6_drawnArm_89 : decode cX6_drawnArm 89 = .ok (.getfield 11, 3) := by decide +kernel
theorem dX6_drawnArm_92 : decode cX6_drawnArm 92 = .ok (.iload 4, 2) := by decide +kernel
theorem dX6_drawnArm_94 : decode cX6_drawnArm 94 = .ok (.aaload, 1) := by decide +kernel
theorem dX6_drawnArm_95 : decode cX6_drawnArm 95 = .ok (.getfield 84, 3) := by decide +kernel
theorem dX6_drawnArm_98 : decode cX6_drawnArm 98 = .ok (.ifCond .le 13, 3) := by decide +kernel
theorem dX6_drawnArm_101 : decode cX6_drawnArm 101 = .ok (.iload_n 3, 1) := by decide +kernel
theorem dX6_drawnArm_102 : decode cX6_drawnArm 102 = .ok (.ifCond .ne 6, 3) := by decide +kernel
theorem dX6_drawnArm_105 : decode cX6_drawnArm 105 = .ok (.iload 4, 2) := by decide +kernel
theorem dX6_drawnArm_107 : decode cX6_drawnArm 107 = .ok (.ireturn, 1) := by decide +kernel
theorem dX6_drawnArm_108 : decode cX6_drawnArm 108 = .ok (.iinc 3 (-1), 3) := by decide +kernel
theorem dX6_drawnArm_111 : decode cX6_drawnArm 111 = .ok (.iinc 4 1, 3) := by decide +kernel
theorem dX6_drawnArm_114 : decode cX6_drawnArm 114 = .ok (.goto (-41), 3) := by decide +kernel
theorem dX6_drawnArm_117 : decode cX6_drawnArm 117 = .ok (.bipush (-5), 2) := by decide +kernel
theorem dX6_drawnArm_119 : decode cX6_drawnArm 119 = .ok (.ireturn, 1) := by decide +kernel
theorem dX6_endsByItself_0 : decode cX6_endsByItself 0 = .ok (.aload_n 0, 1) := by decide +kernel
theorem dX6_endsByItself_1 : decode cX6_endsByItself 1 = .ok (.getfield 21, 3) := by decide +kernel
theorem dX6_endsByItself_4 : decode cX6_endsByItself 4 = .ok (.getfield 144, 3) := by decide +kernel
theorem dX6_endsByItself_7 : decode cX6_endsByItself 7 = .ok (.iload_n 1, 1) := by decide +kernel
theorem dX6_endsByItself_8 : decode cX6_endsByItself 8 = .ok (.iaload, 1) := by decide +kernel
theorem dX6_endsByItself_9 : decode cX6_endsByItself 9 = .ok (.iconst 1, 1) := by decide +kernel
theorem dX6_endsByItself_10 : decode cX6_endsByItself 10 = .ok (.if_icmp .ne 29, 3) := by decide +kernel
theorem dX6_endsByItself_13 : decode cX6_endsByItself 13 = .ok (.aload_n 0, 1) := by decide +kernel
theorem dX6_endsByItself_14 : decode cX6_endsByItself 14 = .ok (.getfield 21, 3) := by decide +kernel
theorem dX6_endsByItself_17 : decode cX6_endsByItself 17 = .ok (.getfield 77, 3) := by decide +kernel
theorem dX6_endsByItself_20 : decode cX6_endsByItself 20 = .ok (.iload_n 1, 1) := by decide +kernel
theorem dX6_endsByItself_21 : decode cX6_endsByItself 21 = .ok (.iconst 4, 1) := by decide +kernel
theorem dX6_endsByItself_22 : decode cX6_endsByItself 22 = .ok (.iastore, 1) := by decide +kernel
theorem dX6_endsByItself_23 : decode cX6_endsByItself 23 = .ok (.aload_n 0, 1) := by decide +kernel
theorem dX6_endsByItself_24 : decode cX6_endsByItself 24 = .ok (.getfield 28, 3) := by decide +kernel
theorem dX6_endsByItself_27 : decode cX6_endsByItself 27 = .ok (.aload_n 0, 1) := by decide +kernel
theorem dX6_endsByItself_28 : decode cX6_endsByItself 28 = .ok (.getfield 54, 3) := by decide +kernel
theorem dX6_endsByItself_31 : decode cX6_endsByItself 31 = .ok (.iload_n 2, 1) := by decide +kernel
theorem dX6_endsByItself_32 : decode cX6_endsByItself 32 = .ok (.iconst 4, 1) := by decide +kernel
theorem dX6_endsByItself_33 : decode cX6_endsByItself 33 = .ok (.iload_n 1, 1) := by decide +kernel
theorem dX6_endsByItself_34 : decode cX6_endsByItself 34 = .ok (.invokevirtual 139, 3) := by decide +kernel
theorem dX6_endsByItself_37 : decode cX6_endsByItself 37 = .ok (.iconst 1, 1) := by decide +kernel
theorem dX6_endsByItself_38 : decode cX6_endsByItself 38 = .ok (.ireturn, 1) := by decide +kernel
theorem dX6_endsByItself_39 : decode cX6_endsByItself 39 = .ok (.aload_n 0, 1) := by decide +kernel
theorem dX6_endsByItself_40 : decode cX6_endsByItself 40 = .ok (.getfield 21, 3) := by decide +kernel
theorem dX6_endsByItself_43 : decode cX6_endsByItself 43 = .ok (.iload_n 1, 1) := by decide +kernel
theorem dX6_endsByItself_44 : decode cX6_endsByItself 44 = .ok (.invokevirtual 147, 3) := by decide +kernel
theorem dX6_endsByItself_47 : decode cX6_endsByItself 47 = .ok (.ifCond .eq 27, 3) := by decide +kernel
theorem dX6_endsByItself_50 : decode cX6_endsByItself 50 = .ok (.aload_n 0, 1) := by decide +kernel
theorem dX6_endsByItself_51 : decode cX6_endsByItself 51 = .ok (.getfield 21, 3) := by decide +kernel
theorem dX6_endsByItself_54 : decode cX6_endsByItself 54 = .ok (.iload_n 1, 1) := by decide +kernel
theorem dX6_endsByItself_55 : decode cX6_endsByItself 55 = .ok (.invokevirtual 150, 3) := by decide +kernel
theorem dX6_endsByItself_58 : decode cX6_endsByItself 58 = .ok (.aload_n 0, 1) := by decide +kernel
theorem dX6_endsByItself_59 : decode cX6_endsByItself 59 = .ok (.getfield 28, 3) := by decide +kernel
theorem dX6_endsByItself_62 : decode cX6_endsByItself 62 = .ok (.aload_n 0, 1) := by decide +kernel
theorem dX6_endsByItself_63 : decode cX6_endsByItself 63 = .ok (.getfield 54, 3) := by decide +kernel
theorem dX6_endsByItself_66 : decode cX6_endsByItself 66 = .ok (.iload_n 2, 1) := by decide +kernel
theorem dX6_endsByItself_67 : decode cX6_endsByItself 67 = .ok (.iconst 3, 1) := by decide +kernel
theorem dX6_endsByItself_68 : decode cX6_endsByItself 68 = .ok (.iload_n 1, 1) := by decide +kernel
theorem dX6_endsByItself_69 : decode cX6_endsByItself 69 = .ok (.invokevirtual 139, 3) := by decide +kernel
theorem dX6_endsByItself_72 : decode cX6_endsByItself 72 = .ok (.iconst 1, 1) := by decide +kernel
theorem dX6_endsByItself_73 : decode cX6_endsByItself 73 = .ok (.ireturn, 1) := by decide +kernel
theorem dX6_endsByItself_74 : decode cX6_endsByItself 74 = .ok (.aload_n 0, 1) := by decide +kernel
theorem dX6_endsByItself_75 : decode cX6_endsByItself 75 = .ok (.getfield 21, 3) := by decide +kernel
theorem dX6_endsByItself_78 : decode cX6_endsByItself 78 = .ok (.getfield 77, 3) := by decide +kernel
theorem dX6_endsByItself_81 : decode cX6_endsByItself 81 = .ok (.iload_n 1, 1) := by decide +kernel
theorem dX6_endsByItself_82 : decode cX6_endsByItself 82 = .ok (.iconst 2, 1) := by decide +kernel
theorem dX6_endsByItself_83 : decode cX6_endsByItself 83 = .ok (.iastore, 1) := by decide +kernel
theorem dX6_endsByItself_84 : decode cX6_endsByItself 84 = .ok (.iload_n 1, 1) := by decide +kernel
theorem dX6_endsByItself_85 : decode cX6_endsByItself 85 = .ok (.iconst 1, 1) := by decide +kernel
theorem dX6_endsByItself_86 : decode cX6_endsByItself 86 = .ok (.iadd, 1) := by decide +kernel
theorem dX6_endsByItself_87 : decode cX6_endsByItself 87 = .ok (.istore_n 3, 1) := by decide +kernel
theorem dX6_endsByItself_88 : decode cX6_endsByItself 88 = .ok (.iload_n 3, 1) := by decide +kernel
theorem dX6_endsByItself_89 : decode cX6_endsByItself 89 = .ok (.aload_n 0, 1) := by decide +kernel
theorem dX6_endsByItself_90 : decode cX6_endsByItself 90 = .ok (.getfield 21, 3) := by decide +kernel
theorem dX6_endsByItself_93 : decode cX6_endsByItself 93 = .ok (.getfield 93, 3) := by decide +kernel
theorem dX6_endsByItself_96 : decode cX6_endsByItself 96 = .ok (.if_icmp .ge 43, 3) := by decide +kernel
theorem dX6_endsByItself_99 : decode cX6_endsByItself 99 = .ok (.aload_n 0, 1) := by decide +kernel
theorem dX6_endsByItself_100 : decode cX6_endsByItself 100 = .ok (.getfield 21, 3) := by decide +kernel
theorem dX6_endsByItself_103 : decode cX6_endsByItself 103 = .ok (.getfield 153, 3) := by decide +kernel
theorem dX6_endsByItself_106 : decode cX6_endsByItself 106 = .ok (.iload_n 3, 1) := by decide +kernel
theorem dX6_endsByItself_107 : decode cX6_endsByItself 107 = .ok (.iaload, 1) := by decide +kernel
theorem dX6_endsByItself_108 : decode cX6_endsByItself 108 = .ok (.iload_n 1, 1) := by decide +kernel
theorem dX6_endsByItself_109 : decode cX6_endsByItself 109 = .ok (.if_icmp .ne 24, 3) := by decide +kernel
theorem dX6_endsByItself_112 : decode cX6_endsByItself 112 = .ok (.aload_n 0, 1) := by decide +kernel
theorem dX6_endsByItself_113 : decode cX6_endsByItself 113 = .ok (.getfield 21, 3) := by decide +kernel
theorem dX6_endsByItself_116 : decode cX6_endsByItself 116 = .ok (.iload_n 3, 1) := by decide +kernel
theorem dX6_endsByItself_117 : decode cX6_endsByItself 117 = .ok (.invokevirtual 103, 3) := by decide +kernel
theorem dX6_endsByItself_120 : decode cX6_endsByItself 120 = .ok (.ifCond .ne 13, 3) := by decide +kernel
theorem dX6_endsByItself_123 : decode cX6_endsByItself 123 = .ok (.aload_n 0, 1) := by decide +kernel
theorem dX6_endsByItself_124 : decode cX6_endsByItself 124 = .ok (.getfield 11, 3) := by decide +kernel
theorem dX6_endsByItself_127 : decode cX6_endsByItself 127 = .ok (.iload_n 2, 1) := by decide +kernel
theorem dX6_endsByItself_128 : decode cX6_endsByItself 128 = .ok (.aaload, 1) := by decide +kernel
theorem dX6_endsByItself_129 : decode cX6_endsByItself 129 = .ok (.iload_n 3, 1) := by decide +kernel
theorem dX6_endsByItself_130 : decode cX6_endsByItself 130 = .ok (.invokevirtual 81, 3) := by decide +kernel
theorem dX6_endsByItself_133 : decode cX6_endsByItself 133 = .ok (.iinc 3 1, 3) := by decide +kernel
theorem dX6_endsByItself_136 : decode cX6_endsByItself 136 = .ok (.goto (-48), 3) := by decide +kernel
theorem dX6_endsByItself_139 : decode cX6_endsByItself 139 = .ok (.iconst 0, 1) := by decide +kernel
theorem dX6_endsByItself_140 : decode cX6_endsByItself 140 = .ok (.ireturn, 1) := by decide +kernel
theorem dX6_tellUpward_0 : decode cX6_tellUpward 0 = .ok (.iload_n 1, 1) := by decide +kernel
theorem dX6_tellUpward_1 : decode cX6_tellUpward 1 = .ok (.istore_n 2, 1) := by decide +kernel
theorem dX6_tellUpward_2 : decode cX6_tellUpward 2 = .ok (.aload_n 0, 1) := by decide +kernel
theorem dX6_tellUpward_3 : decode cX6_tellUpward 3 = .ok (.getfield 21, 3) := by decide +kernel
theorem dX6_tellUpward_6 : decode cX6_tellUpward 6 = .ok (.getfield 153, 3) := by decide +kernel
theorem dX6_tellUpward_9 : decode cX6_tellUpward 9 = .ok (.iload_n 1, 1) := by decide +kernel
theorem dX6_tellUpward_10 : decode cX6_tellUpward 10 = .ok (.iaload, 1) := by decide +kernel
theorem dX6_tellUpward_11 : decode cX6_tellUpward 11 = .ok (.istore_n 3, 1) := by decide +kernel
theorem dX6_tellUpward_12 : decode cX6_tellUpward 12 = .ok (.iconst 0, 1) := by decide +kernel
theorem dX6_tellUpward_13 : decode cX6_tellUpward 13 = .ok (.istore 4, 2) := by decide +kernel
theorem dX6_tellUpward_15 : decode cX6_tellUpward 15 = .ok (.iload 4, 2) := by decide +kernel
theorem dX6_tellUpward_17 : decode cX6_tellUpward 17 = .ok (.iconst 4, 1) := by decide +kernel
theorem dX6_tellUpward_18 : decode cX6_tellUpward 18 = .ok (.if_icmp .ge 136, 3) := by decide +kernel
theorem dX6_tellUpward_21 : decode cX6_tellUpward 21 = .ok (.aload_n 0, 1) := by decide +kernel
theorem dX6_tellUpward_22 : decode cX6_tellUpward 22 = .ok (.getfield 21, 3) := by decide +kernel
theorem dX6_tellUpward_25 : decode cX6_tellUpward 25 = .ok (.iload_n 3, 1) := by decide +kernel
theorem dX6_tellUpward_26 : decode cX6_tellUpward 26 = .ok (.invokevirtual 156, 3) := by decide +kernel
theorem dX6_tellUpward_29 : decode cX6_tellUpward 29 = .ok (.ifCond .eq 125, 3) := by decide +kernel
theorem dX6_tellUpward_32 : decode cX6_tellUpward 32 = .ok (.aload_n 0, 1) := by decide +kernel
theorem dX6_tellUpward_33 : decode cX6_tellUpward 33 = .ok (.getfield 21, 3) := by decide +kernel
theorem dX6_tellUpward_36 : decode cX6_tellUpward 36 = .ok (.getfield 77, 3) := by decide +kernel
theorem dX6_tellUpward_39 : decode cX6_tellUpward 39 = .ok (.iload_n 2, 1) := by decide +kernel
theorem dX6_tellUpward_40 : decode cX6_tellUpward 40 = .ok (.iaload, 1) := by decide +kernel
theorem dX6_tellUpward_41 : decode cX6_tellUpward 41 = .ok (.iconst 4, 1) := by decide +kernel
theorem dX6_tellUpward_42 : decode cX6_tellUpward 42 = .ok (.if_icmp .ne 48, 3) := by decide +kernel
theorem dX6_tellUpward_45 : decode cX6_tellUpward 45 = .ok (.aload_n 0, 1) := by decide +kernel
theorem dX6_tellUpward_46 : decode cX6_tellUpward 46 = .ok (.getfield 21, 3) := by decide +kernel
theorem dX6_tellUpward_49 : decode cX6_tellUpward 49 = .ok (.getfield 144, 3) := by decide +kernel
theorem dX6_tellUpward_52 : decode cX6_tellUpward 52 = .ok (.iload_n 3, 1) := by decide +kernel
theorem dX6_tellUpward_53 : decode cX6_tellUpward 53 = .ok (.iaload, 1) := by decide +kernel
theorem dX6_tellUpward_54 : decode cX6_tellUpward 54 = .ok (.iconst 2, 1) := by decide +kernel
theorem dX6_tellUpward_55 : decode cX6_tellUpward 55 = .ok (.if_icmp .eq 35, 3) := by decide +kernel
theorem dX6_tellUpward_58 : decode cX6_tellUpward 58 = .ok (.aload_n 0, 1) := by decide +kernel
theorem dX6_tellUpward_59 : decode cX6_tellUpward 59 = .ok (.iload_n 3, 1) := by decide +kernel
theorem dX6_tellUpward_60 : decode cX6_tellUpward 60 = .ok (.iconst 1, 1) := by decide +kernel
theorem dX6_tellUpward_61 : decode cX6_tellUpward 61 = .ok (.iadd, 1) := by decide +kernel
theorem dX6_tellUpward_62 : decode cX6_tellUpward 62 = .ok (.iload_n 3, 1) := by decide +kernel
theorem dX6_tellUpward_63 : decode cX6_tellUpward 63 = .ok (.invokevirtual 159, 3) := by decide +kernel
theorem dX6_tellUpward_66 : decode cX6_tellUpward 66 = .ok (.pop, 1) := by decide +kernel
theorem dX6_tellUpward_67 : decode cX6_tellUpward 67 = .ok (.aload_n 0, 1) := by decide +kernel
theorem dX6_tellUpward_68 : decode cX6_tellUpward 68 = .ok (.getfield 21, 3) := by decide +kernel
theorem dX6_tellUpward_71 : decode cX6_tellUpward 71 = .ok (.getfield 77, 3) := by decide +kernel
theorem dX6_tellUpward_74 : decode cX6_tellUpward 74 = .ok (.iload_n 3, 1) := by decide +kernel
theorem dX6_tellUpward_75 : decode cX6_tellUpward 75 = .ok (.iconst 4, 1) := by decide +kernel
theorem dX6_tellUpward_76 : decode cX6_tellUpward 76 = .ok (.iastore, 1) := by decide +kernel
theorem dX6_tellUpward_77 : decode cX6_tellUpward 77 = .ok (.aload_n 0, 1) := by decide +kernel
theorem dX6_tellUpward_78 : decode cX6_tellUpward 78 = .ok (.getfield 21, 3) := by decide +kernel
theorem dX6_tellUpward_81 : decode cX6_tellUpward 81 = .ok (.getfield 163, 3) := by decide +kernel
theorem dX6_tellUpward_84 : decode cX6_tellUpward 84 = .ok (.iload_n 3, 1) := by decide +kernel
theorem dX6_tellUpward_85 : decode cX6_tellUpward 85 = .ok (.iload_n 2, 1) := by decide +kernel
theorem dX6_tellUpward_86 : decode cX6_tellUpward 86 = .ok (.iastore, 1) := by decide +kernel
theorem dX6_tellUpward_87 : decode cX6_tellUpward 87 = .ok (.goto 26, 3) := by decide +kernel
theorem dX6_tellUpward_90 : decode cX6_tellUpward 90 = .ok (.aload_n 0, 1) := by decide +kernel
theorem dX6_tellUpward_91 : decode cX6_tellUpward 91 = .ok (.getfield 21, 3) := by decide +kernel
theorem dX6_tellUpward_94 : decode cX6_tellUpward 94 = .ok (.iload_n 3, 1) := by decide +kernel
theorem dX6_tellUpward_95 : decode cX6_tellUpward 95 = .ok (.invokevirtual 147, 3) := by decide +kernel
theorem dX6_tellUpward_98 : decode cX6_tellUpward 98 = .ok (.ifCond .eq 14, 3) := by decide +kernel
theorem dX6_tellUpward_101 : decode cX6_tellUpward 101 = .ok (.aload_n 0, 1) := by decide +kernel
theorem dX6_tellUpward_102 : decode cX6_tellUpward 102 = .ok (.getfield 21, 3) := by decide +kernel
theorem dX6_tellUpward_105 : decode cX6_tellUpward 105 = .ok (.iload_n 3, 1) := by decide +kernel
theorem dX6_tellUpward_106 : decode cX6_tellUpward 106 = .ok (.invokevirtual 150, 3) := by decide +kernel
theorem dX6_tellUpward_109 : decode cX6_tellUpward 109 = .ok (.goto 4, 3) := by decide +kernel
theorem dX6_tellUpward_112 : decode cX6_tellUpward 112 = .ok (.return_, 1) := by decide +kernel
theorem dX6_tellUpward_113 : decode cX6_tellUpward 113 = .ok (.aload_n 0, 1) := by decide +kernel
theorem dX6_tellUpward_114 : decode cX6_tellUpward 114 = .ok (.getfield 28, 3) := by decide +kernel
theorem dX6_tellUpward_117 : decode cX6_tellUpward 117 = .ok (.aload_n 0, 1) := by decide +kernel
theorem dX6_tellUpward_118 : decode cX6_tellUpward 118 = .ok (.getfield 54, 3) := by decide +kernel
theorem dX6_tellUpward_121 : decode cX6_tellUpward 121 = .ok (.bipush (-5), 2) := by decide +kernel
theorem dX6_tellUpward_123 : decode cX6_tellUpward 123 = .ok (.aload_n 0, 1) := by decide +kernel
theorem dX6_tellUpward_124 : decode cX6_tellUpward 124 = .ok (.getfield 21, 3) := by decide +kernel
theorem dX6_tellUpward_127 : decode cX6_tellUpward 127 = .ok (.getfield 77, 3) := by decide +kernel
theorem dX6_tellUpward_130 : decode cX6_tellUpward 130 = .ok (.iload_n 3, 1) := by decide +kernel
theorem dX6_tellUpward_131 : decode cX6_tellUpward 131 = .ok (.iaload, 1) := by decide +kernel
theorem dX6_tellUpward_132 : decode cX6_tellUpward 132 = .ok (.iload_n 3, 1) := by decide +kernel
theorem dX6_tellUpward_133 : decode cX6_tellUpward 133 = .ok (.invokevirtual 139, 3) := by decide +kernel
theorem dX6_tellUpward_136 : decode cX6_tellUpward 136 = .ok (.iload_n 3, 1) := by decide +kernel
theorem dX6_tellUpward_137 : decode cX6_tellUpward 137 = .ok (.istore_n 2, 1) := by decide +kernel
theorem dX6_tellUpward_138 : decode cX6_tellUpward 138 = .ok (.aload_n 0, 1) := by decide +kernel
theorem dX6_tellUpward_139 : decode cX6_tellUpward 139 = .ok (.getfield 21, 3) := by decide +kernel
theorem dX6_tellUpward_142 : decode cX6_tellUpward 142 = .ok (.getfield 153, 3) := by decide +kernel
theorem dX6_tellUpward_145 : decode cX6_tellUpward 145 = .ok (.iload_n 3, 1) := by decide +kernel
theorem dX6_tellUpward_146 : decode cX6_tellUpward 146 = .ok (.iaload, 1) := by decide +kernel
theorem dX6_tellUpward_147 : decode cX6_tellUpward 147 = .ok (.istore_n 3, 1) := by decide +kernel
theorem dX6_tellUpward_148 : decode cX6_tellUpward 148 = .ok (.iinc 4 1, 3) := by decide +kernel
theorem dX6_tellUpward_151 : decode cX6_tellUpward 151 = .ok (.goto (-136), 3) := by decide +kernel
theorem dX6_tellUpward_154 : decode cX6_tellUpward 154 = .ok (.return_, 1) := by decide +kernel
theorem dX6_cancelByHand_0 : decode cX6_cancelByHand 0 = .ok (.aload_n 0, 1) := by decide +kernel
theorem dX6_cancelByHand_1 : decode cX6_cancelByHand 1 = .ok (.iload_n 1, 1) := by decide +kernel
theorem dX6_cancelByHand_2 : decode cX6_cancelByHand 2 = .ok (.iload_n 1, 1) := by decide +kernel
theorem dX6_cancelByHand_3 : decode cX6_cancelByHand 3 = .ok (.invokevirtual 159, 3) := by decide +kernel
theorem dX6_cancelByHand_6 : decode cX6_cancelByHand 6 = .ok (.istore_n 2, 1) := by decide +kernel
theorem dX6_cancelByHand_7 : decode cX6_cancelByHand 7 = .ok (.aload_n 0, 1) := by decide +kernel
theorem dX6_cancelByHand_8 : decode cX6_cancelByHand 8 = .ok (.iload_n 1, 1) := by decide +kernel
theorem dX6_cancelByHand_9 : decode cX6_cancelByHand 9 = .ok (.invokevirtual 120, 3) := by decide +kernel
theorem dX6_cancelByHand_12 : decode cX6_cancelByHand 12 = .ok (.iload_n 2, 1) := by decide +kernel
theorem dX6_cancelByHand_13 : decode cX6_cancelByHand 13 = .ok (.ireturn, 1) := by decide +kernel
theorem dX6_cancelFrom_0 : decode cX6_cancelFrom 0 = .ok (.iconst 0, 1) := by decide +kernel
theorem dX6_cancelFrom_1 : decode cX6_cancelFrom 1 = .ok (.istore_n 3, 1) := by decide +kernel
theorem dX6_cancelFrom_2 : decode cX6_cancelFrom 2 = .ok (.iload_n 1, 1) := by decide +kernel
theorem dX6_cancelFrom_3 : decode cX6_cancelFrom 3 = .ok (.istore 4, 2) := by decide +kernel
theorem dX6_cancelFrom_5 : decode cX6_cancelFrom 5 = .ok (.iload 4, 2) := by decide +kernel
theorem dX6_cancelFrom_7 : decode cX6_cancelFrom 7 = .ok (.aload_n 0, 1) := by decide +kernel
theorem dX6_cancelFrom_8 : decode cX6_cancelFrom 8 = .ok (.getfield 21, 3) := by decide +kernel
theorem dX6_cancelFrom_11 : decode cX6_cancelFrom 11 = .ok (.getfield 93, 3) := by decide +kernel
theorem dX6_cancelFrom_14 : decode cX6_cancelFrom 14 = .ok (.if_icmp .ge 102, 3) := by decide +kernel
theorem dX6_cancelFrom_17 : decode cX6_cancelFrom 17 = .ok (.aload_n 0, 1) := by decide +kernel
theorem dX6_cancelFrom_18 : decode cX6_cancelFrom 18 = .ok (.getfield 21, 3) := by decide +kernel
theorem dX6_cancelFrom_21 : decode cX6_cancelFrom 21 = .ok (.getfield 77, 3) := by decide +kernel
theorem dX6_cancelFrom_24 : decode cX6_cancelFrom 24 = .ok (.iload 4, 2) := by decide +kernel
theorem dX6_cancelFrom_26 : decode cX6_cancelFrom 26 = .ok (.iaload, 1) := by decide +kernel
theorem dX6_cancelFrom_27 : decode cX6_cancelFrom 27 = .ok (.iconst 3, 1) := by decide +kernel
theorem dX6_cancelFrom_28 : decode cX6_cancelFrom 28 = .ok (.if_icmp .ge 82, 3) := by decide +kernel
theorem dX6_cancelFrom_31 : decode cX6_cancelFrom 31 = .ok (.iload 4, 2) := by decide +kernel
theorem dX6_cancelFrom_33 : decode cX6_cancelFrom 33 = .ok (.iload_n 2, 1) := by decide +kernel
theorem dX6_cancelFrom_34 : decode cX6_cancelFrom 34 = .ok (.if_icmp .eq 16, 3) := by decide +kernel
theorem dX6_cancelFrom_37 : decode cX6_cancelFrom 37 = .ok (.aload_n 0, 1) := by decide +kernel
theorem dX6_cancelFrom_38 : decode cX6_cancelFrom 38 = .ok (.getfield 21, 3) := by decide +kernel
theorem dX6_cancelFrom_41 : decode cX6_cancelFrom 41 = .ok (.iload 4, 2) := by decide +kernel
theorem dX6_cancelFrom_43 : decode cX6_cancelFrom 43 = .ok (.iload_n 2, 1) := by decide +kernel
theorem dX6_cancelFrom_44 : decode cX6_cancelFrom 44 = .ok (.invokevirtual 166, 3) := by decide +kernel
theorem dX6_cancelFrom_47 : decode cX6_cancelFrom 47 = .ok (.ifCond .eq 63, 3) := by decide +kernel
theorem dX6_cancelFrom_50 : decode cX6_cancelFrom 50 = .ok (.iconst 0, 1) := by decide +kernel
theorem dX6_cancelFrom_51 : decode cX6_cancelFrom 51 = .ok (.istore 5, 2) := by decide +kernel
theorem dX6_cancelFrom_53 : decode cX6_cancelFrom 53 = .ok (.iload 5, 2) := by decide +kernel
theorem dX6_cancelFrom_55 : decode cX6_cancelFrom 55 = .ok (.aload_n 0, 1) := by decide +kernel
theorem dX6_cancelFrom_56 : decode cX6_cancelFrom 56 = .ok (.getfield 47, 3) := by decide +kernel
theorem dX6_cancelFrom_59 : decode cX6_cancelFrom 59 = .ok (.if_icmp .ge 21, 3) := by decide +kernel
theorem dX6_cancelFrom_62 : decode cX6_cancelFrom 62 = .ok (.aload_n 0, 1) := by decide +kernel
theorem dX6_cancelFrom_63 : decode cX6_cancelFrom 63 = .ok (.getfield 11, 3) := by decide +kernel
theorem dX6_cancelFrom_66 : decode cX6_cancelFrom 66 = .ok (.iload 5, 2) := by decide +kernel
theorem dX6_cancelFrom_68 : decode cX6_cancelFrom 68 = .ok (.aaload, 1) := by decide +kernel
theorem dX6_cancelFrom_69 : decode cX6_cancelFrom 69 = .ok (.iload 4, 2) := by decide +kernel
theorem dX6_cancelFrom_71 : decode cX6_cancelFrom 71 = .ok (.invokevirtual 169, 3) := by decide +kernel
theorem dX6_cancelFrom_74 : decode cX6_cancelFrom 74 = .ok (.iinc 5 1, 3) := by decide +kernel
theorem dX6_cancelFrom_77 : decode cX6_cancelFrom 77 = .ok (.goto (-24), 3) := by decide +kernel
theorem dX6_cancelFrom_80 : decode cX6_cancelFrom 80 = .ok (.aload_n 0, 1) := by decide +kernel
theorem dX6_cancelFrom_81 : decode cX6_cancelFrom 81 = .ok (.getfield 21, 3) := by decide +kernel
theorem dX6_cancelFrom_84 : decode cX6_cancelFrom 84 = .ok (.getfield 77, 3) := by decide +kernel
theorem dX6_cancelFrom_87 : decode cX6_cancelFrom 87 = .ok (.iload 4, 2) := by decide +kernel
theorem dX6_cancelFrom_89 : decode cX6_cancelFrom 89 = .ok (.iconst 5, 1) := by decide +kernel
theorem dX6_cancelFrom_90 : decode cX6_cancelFrom 90 = .ok (.iastore, 1) := by decide +kernel
theorem dX6_cancelFrom_91 : decode cX6_cancelFrom 91 = .ok (.aload_n 0, 1) := by decide +kernel
theorem dX6_cancelFrom_92 : decode cX6_cancelFrom 92 = .ok (.getfield 28, 3) := by decide +kernel
theorem dX6_cancelFrom_95 : decode cX6_cancelFrom 95 = .ok (.aload_n 0, 1) := by decide +kernel
theorem dX6_cancelFrom_96 : decode cX6_cancelFrom 96 = .ok (.getfield 54, 3) := by decide +kernel
theorem dX6_cancelFrom_99 : decode cX6_cancelFrom 99 = .ok (.bipush (-5), 2) := by decide +kernel
theorem dX6_cancelFrom_101 : decode cX6_cancelFrom 101 = .ok (.iconst 5, 1) := by decide +kernel
theorem dX6_cancelFrom_102 : decode cX6_cancelFrom 102 = .ok (.iload 4, 2) := by decide +kernel
theorem dX6_cancelFrom_104 : decode cX6_cancelFrom 104 = .ok (.invokevirtual 139, 3) := by decide +kernel
theorem dX6_cancelFrom_107 : decode cX6_cancelFrom 107 = .ok (.iinc 3 1, 3) := by decide +kernel
theorem dX6_cancelFrom_110 : decode cX6_cancelFrom 110 = .ok (.iinc 4 1, 3) := by decide +kernel
theorem dX6_cancelFrom_113 : decode cX6_cancelFrom 113 = .ok (.goto (-108), 3) := by decide +kernel
theorem dX6_cancelFrom_116 : decode cX6_cancelFrom 116 = .ok (.iload_n 3, 1) := by decide +kernel
theorem dX6_cancelFrom_117 : decode cX6_cancelFrom 117 = .ok (.ireturn, 1) := by decide +kernel
theorem dX6_armAtWorkOn_0 : decode cX6_armAtWorkOn 0 = .ok (.iconst 0, 1) := by decide +kernel
theorem dX6_armAtWorkOn_1 : decode cX6_armAtWorkOn 1 = .ok (.istore_n 2, 1) := by decide +kernel
theorem dX6_armAtWorkOn_2 : decode cX6_armAtWorkOn 2 = .ok (.iload_n 2, 1) := by decide +kernel
theorem dX6_armAtWorkOn_3 : decode cX6_armAtWorkOn 3 = .ok (.aload_n 0, 1) := by decide +kernel
theorem dX6_armAtWorkOn_4 : decode cX6_armAtWorkOn 4 = .ok (.getfield 47, 3) := by decide +kernel
theorem dX6_armAtWorkOn_7 : decode cX6_armAtWorkOn 7 = .ok (.if_icmp .ge 24, 3) := by decide +kernel
theorem dX6_armAtWorkOn_10 : decode cX6_armAtWorkOn 10 = .ok (.aload_n 0, 1) := by decide +kernel
theorem dX6_armAtWorkOn_11 : decode cX6_armAtWorkOn 11 = .ok (.getfield 11, 3) := by decide +kernel
theorem dX6_armAtWorkOn_14 : decode cX6_armAtWorkOn 14 = .ok (.iload_n 2, 1) := by decide +kernel
theorem dX6_armAtWorkOn_15 : decode cX6_armAtWorkOn 15 = .ok (.aaload, 1) := by decide +kernel
theorem dX6_armAtWorkOn_16 : decode cX6_armAtWorkOn 16 = .ok (.getfield 70, 3) := by decide +kernel
theorem dX6_armAtWorkOn_19 : decode cX6_armAtWorkOn 19 = .ok (.iload_n 1, 1) := by decide +kernel
theorem dX6_armAtWorkOn_20 : decode cX6_armAtWorkOn 20 = .ok (.if_icmp .ne 5, 3) := by decide +kernel
theorem dX6_armAtWorkOn_23 : decode cX6_armAtWorkOn 23 = .ok (.iload_n 2, 1) := by decide +kernel
theorem dX6_armAtWorkOn_24 : decode cX6_armAtWorkOn 24 = .ok (.ireturn, 1) := by decide +kernel
theorem dX6_armAtWorkOn_25 : decode cX6_armAtWorkOn 25 = .ok (.iinc 2 1, 3) := by decide +kernel
theorem dX6_armAtWorkOn_28 : decode cX6_armAtWorkOn 28 = .ok (.goto (-26), 3) := by decide +kernel
theorem dX6_armAtWorkOn_31 : decode cX6_armAtWorkOn 31 = .ok (.bipush (-5), 2) := by decide +kernel
theorem dX6_armAtWorkOn_33 : decode cX6_armAtWorkOn 33 = .ok (.ireturn, 1) := by decide +kernel
theorem dX6_armWithRowOf_0 : decode cX6_armWithRowOf 0 = .ok (.iconst 0, 1) := by decide +kernel
theorem dX6_armWithRowOf_1 : decode cX6_armWithRowOf 1 = .ok (.istore_n 2, 1) := by decide +kernel
theorem dX6_armWithRowOf_2 : decode cX6_armWithRowOf 2 = .ok (.iload_n 2, 1) := by decide +kernel
theorem dX6_armWithRowOf_3 : decode cX6_armWithRowOf 3 = .ok (.aload_n 0, 1) := by decide +kernel
theorem dX6_armWithRowOf_4 : decode cX6_armWithRowOf 4 = .ok (.getfield 47, 3) := by decide +kernel
theorem dX6_armWithRowOf_7 : decode cX6_armWithRowOf 7 = .ok (.if_icmp .ge 24, 3) := by decide +kernel
theorem dX6_armWithRowOf_10 : decode cX6_armWithRowOf 10 = .ok (.aload_n 0, 1) := by decide +kernel
theorem dX6_armWithRowOf_11 : decode cX6_armWithRowOf 11 = .ok (.getfield 11, 3) := by decide +kernel
theorem dX6_armWithRowOf_14 : decode cX6_armWithRowOf 14 = .ok (.iload_n 2, 1) := by decide +kernel
theorem dX6_armWithRowOf_15 : decode cX6_armWithRowOf 15 = .ok (.aaload, 1) := by decide +kernel
theorem dX6_armWithRowOf_16 : decode cX6_armWithRowOf 16 = .ok (.iload_n 1, 1) := by decide +kernel
theorem dX6_armWithRowOf_17 : decode cX6_armWithRowOf 17 = .ok (.invokevirtual 172, 3) := by decide +kernel
theorem dX6_armWithRowOf_20 : decode cX6_armWithRowOf 20 = .ok (.ifCond .eq 5, 3) := by decide +kernel
theorem dX6_armWithRowOf_23 : decode cX6_armWithRowOf 23 = .ok (.iload_n 2, 1) := by decide +kernel
theorem dX6_armWithRowOf_24 : decode cX6_armWithRowOf 24 = .ok (.ireturn, 1) := by decide +kernel
theorem dX6_armWithRowOf_25 : decode cX6_armWithRowOf 25 = .ok (.iinc 2 1, 3) := by decide +kernel
theorem dX6_armWithRowOf_28 : decode cX6_armWithRowOf 28 = .ok (.goto (-26), 3) := by decide +kernel
theorem dX6_armWithRowOf_31 : decode cX6_armWithRowOf 31 = .ok (.bipush (-5), 2) := by decide +kernel
theorem dX6_armWithRowOf_33 : decode cX6_armWithRowOf 33 = .ok (.ireturn, 1) := by decide +kernel
theorem dX6_idleOfAll_0 : decode cX6_idleOfAll 0 = .ok (.iconst 0, 1) := by decide +kernel
theorem dX6_idleOfAll_1 : decode cX6_idleOfAll 1 = .ok (.istore_n 1, 1) := by decide +kernel
theorem dX6_idleOfAll_2 : decode cX6_idleOfAll 2 = .ok (.iconst 0, 1) := by decide +kernel
theorem dX6_idleOfAll_3 : decode cX6_idleOfAll 3 = .ok (.istore_n 2, 1) := by decide +kernel
theorem dX6_idleOfAll_4 : decode cX6_idleOfAll 4 = .ok (.iload_n 2, 1) := by decide +kernel
theorem dX6_idleOfAll_5 : decode cX6_idleOfAll 5 = .ok (.aload_n 0, 1) := by decide +kernel
theorem dX6_idleOfAll_6 : decode cX6_idleOfAll 6 = .ok (.getfield 47, 3) := by decide +kernel
theorem dX6_idleOfAll_9 : decode cX6_idleOfAll 9 = .ok (.if_icmp .ge 21, 3) := by decide +kernel
theorem dX6_idleOfAll_12 : decode cX6_idleOfAll 12 = .ok (.iload_n 1, 1) := by decide +kernel
theorem dX6_idleOfAll_13 : decode cX6_idleOfAll 13 = .ok (.aload_n 0, 1) := by decide +kernel
theorem dX6_idleOfAll_14 : decode cX6_idleOfAll 14 = .ok (.getfield 11, 3) := by decide +kernel
theorem dX6_idleOfAll_17 : decode cX6_idleOfAll 17 = .ok (.iload_n 2, 1) := by decide +kernel
theorem dX6_idleOfAll_18 : decode cX6_idleOfAll 18 = .ok (.aaload, 1) := by decide +kernel
theorem dX6_idleOfAll_19 : decode cX6_idleOfAll 19 = .ok (.getfield 130, 3) := by decide +kernel
theorem dX6_idleOfAll_22 : decode cX6_idleOfAll 22 = .ok (.iadd, 1) := by decide +kernel
theorem dX6_idleOfAll_23 : decode cX6_idleOfAll 23 = .ok (.istore_n 1, 1) := by decide +kernel
theorem dX6_idleOfAll_24 : decode cX6_idleOfAll 24 = .ok (.iinc 2 1, 3) := by decide +kernel
theorem dX6_idleOfAll_27 : decode cX6_idleOfAll 27 = .ok (.goto (-23), 3) := by decide +kernel
theorem dX6_idleOfAll_30 : decode cX6_idleOfAll 30 = .ok (.iload_n 1, 1) := by decide +kernel
theorem dX6_idleOfAll_31 : decode cX6_idleOfAll 31 = .ok (.ireturn, 1) := by decide +kernel
theorem dX6_stoleOfAll_0 : decode cX6_stoleOfAll 0 = .ok (.iconst 0, 1) := by decide +kernel
theorem dX6_stoleOfAll_1 : decode cX6_stoleOfAll 1 = .ok (.istore_n 1, 1) := by decide +kernel
theorem dX6_stoleOfAll_2 : decode cX6_stoleOfAll 2 = .ok (.iconst 0, 1) := by decide +kernel
theorem dX6_stoleOfAll_3 : decode cX6_stoleOfAll 3 = .ok (.istore_n 2, 1) := by decide +kernel
theorem dX6_stoleOfAll_4 : decode cX6_stoleOfAll 4 = .ok (.iload_n 2, 1) := by decide +kernel
theorem dX6_stoleOfAll_5 : decode cX6_stoleOfAll 5 = .ok (.aload_n 0, 1) := by decide +kernel
theorem dX6_stoleOfAll_6 : decode cX6_stoleOfAll 6 = .ok (.getfield 47, 3) := by decide +kernel
theorem dX6_stoleOfAll_9 : decode cX6_stoleOfAll 9 = .ok (.if_icmp .ge 21, 3) := by decide +kernel
theorem dX6_stoleOfAll_12 : decode cX6_stoleOfAll 12 = .ok (.iload_n 1, 1) := by decide +kernel
theorem dX6_stoleOfAll_13 : decode cX6_stoleOfAll 13 = .ok (.aload_n 0, 1) := by decide +kernel
theorem dX6_stoleOfAll_14 : decode cX6_stoleOfAll 14 = .ok (.getfield 11, 3) := by decide +kernel
theorem dX6_stoleOfAll_17 : decode cX6_stoleOfAll 17 = .ok (.iload_n 2, 1) := by decide +kernel
theorem dX6_stoleOfAll_18 : decode cX6_stoleOfAll 18 = .ok (.aaload, 1) := by decide +kernel
theorem dX6_stoleOfAll_19 : decode cX6_stoleOfAll 19 = .ok (.getfield 136, 3) := by decide +kernel
theorem dX6_stoleOfAll_22 : decode cX6_stoleOfAll 22 = .ok (.iadd, 1) := by decide +kernel
theorem dX6_stoleOfAll_23 : decode cX6_stoleOfAll 23 = .ok (.istore_n 1, 1) := by decide +kernel
theorem dX6_stoleOfAll_24 : decode cX6_stoleOfAll 24 = .ok (.iinc 2 1, 3) := by decide +kernel
theorem dX6_stoleOfAll_27 : decode cX6_stoleOfAll 27 = .ok (.goto (-23), 3) := by decide +kernel
theorem dX6_stoleOfAll_30 : decode cX6_stoleOfAll 30 = .ok (.iload_n 1, 1) := by decide +kernel
theorem dX6_stoleOfAll_31 : decode cX6_stoleOfAll 31 = .ok (.ireturn, 1) := by decide +kernel
