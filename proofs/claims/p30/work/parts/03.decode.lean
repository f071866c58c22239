theorem dX0_init_0 : decode cX0_init 0 = .ok (.aload_n 0, 1) := by decide +kernel
theorem dX0_init_1 : decode cX0_init 1 = .ok (.invokespecial 3, 3) := by decide +kernel
theorem dX0_init_4 : decode cX0_init 4 = .ok (.aload_n 0, 1) := by decide +kernel
theorem dX0_init_5 : decode cX0_init 5 = .ok (.bipush 10, 2) := by decide +kernel
theorem dX0_init_7 : decode cX0_init 7 = .ok (.newarray .int, 2) := by decide +kernel
theorem dX0_init_9 : decode cX0_init 9 = .ok (.putfield 9, 3) := by decide +kernel
theorem dX0_init_12 : decode cX0_init 12 = .ok (.aload_n 0, 1) := by decide +kernel
theorem dX0_init_13 : decode cX0_init 13 = .ok (.bipush 10, 2) := by decide +kernel
theorem dX0_init_15 : decode cX0_init 15 = .ok (.newarray .int, 2) := by decide +kernel
theorem dX0_init_17 : decode cX0_init 17 = .ok (.putfield 15, 3) := by decide +kernel
theorem dX0_init_20 : decode cX0_init 20 = .ok (.aload_n 0, 1) := by decide +kernel
theorem dX0_init_21 : decode cX0_init 21 = .ok (.iconst 0, 1) := by decide +kernel
theorem dX0_init_22 : decode cX0_init 22 = .ok (.putfield 18, 3) := by decide +kernel
theorem dX0_init_25 : decode cX0_init 25 = .ok (.aload_n 0, 1) := by decide +kernel
theorem dX0_init_26 : decode cX0_init 26 = .ok (.iconst 0, 1) := by decide +kernel
theorem dX0_init_27 : decode cX0_init 27 = .ok (.putfield 22, 3) := by decide +kernel
theorem dX0_init_30 : decode cX0_init 30 = .ok (.aload_n 0, 1) := by decide +kernel
theorem dX0_init_31 : decode cX0_init 31 = .ok (.iconst 0, 1) := by decide +kernel
theorem dX0_init_32 : decode cX0_init 32 = .ok (.putfield 25, 3) := by decide +kernel
theorem dX0_init_35 : decode cX0_init 35 = .ok (.aload_n 0, 1) := by decide +kernel
theorem dX0_init_36 : decode cX0_init 36 = .ok (.iconst 0, 1) := by decide +kernel
theorem dX0_init_37 : decode cX0_init 37 = .ok (.putfield 28, 3) := by decide +kernel
theorem dX0_init_40 : decode cX0_init 40 = .ok (.aload_n 0, 1) := by decide +kernel
theorem dX0_init_41 : decode cX0_init 41 = .ok (.iconst 0, 1) := by decide +kernel
theorem dX0_init_42 : decode cX0_init 42 = .ok (.putfield 31, 3) := by decide +kernel
theorem dX0_init_45 : decode cX0_init 45 = .ok (.return_, 1) := by decide +kernel
theorem dX0_copy_0 : decode cX0_copy 0 = .ok (.aload_n 1, 1) := by decide +kernel
theorem dX0_copy_1 : decode cX0_copy 1 = .ok (.getfield 9, 3) := by decide +kernel
theorem dX0_copy_4 : decode cX0_copy 4 = .ok (.iconst 0, 1) := by decide +kernel
theorem dX0_copy_5 : decode cX0_copy 5 = .ok (.aload_n 0, 1) := by decide +kernel
theorem dX0_copy_6 : decode cX0_copy 6 = .ok (.getfield 9, 3) := by decide +kernel
theorem dX0_copy_9 : decode cX0_copy 9 = .ok (.iconst 0, 1) := by decide +kernel
theorem dX0_copy_10 : decode cX0_copy 10 = .ok (.bipush 10, 2) := by decide +kernel
theorem dX0_copy_12 : decode cX0_copy 12 = .ok (.invokestatic 34, 3) := by decide +kernel
theorem dX0_copy_15 : decode cX0_copy 15 = .ok (.aload_n 1, 1) := by decide +kernel
theorem dX0_copy_16 : decode cX0_copy 16 = .ok (.getfield 15, 3) := by decide +kernel
theorem dX0_copy_19 : decode cX0_copy 19 = .ok (.iconst 0, 1) := by decide +kernel
theorem dX0_copy_20 : decode cX0_copy 20 = .ok (.aload_n 0, 1) := by decide +kernel
theorem dX0_copy_21 : decode cX0_copy 21 = .ok (.getfield 15, 3) := by decide +kernel
theorem dX0_copy_24 : decode cX0_copy 24 = .ok (.iconst 0, 1) := by decide +kernel
theorem dX0_copy_25 : decode cX0_copy 25 = .ok (.bipush 10, 2) := by decide +kernel
theorem dX0_copy_27 : decode cX0_copy 27 = .ok (.invokestatic 34, 3) := by decide +kernel
theorem dX0_copy_30 : decode cX0_copy 30 = .ok (.aload_n 0, 1) := by decide +kernel
theorem dX0_copy_31 : decode cX0_copy 31 = .ok (.aload_n 1, 1) := by decide +kernel
theorem dX0_copy_32 : decode cX0_copy 32 = .ok (.getfield 18, 3) := by decide +kernel
theorem dX0_copy_35 : decode cX0_copy 35 = .ok (.putfield 18, 3) := by decide +kernel
theorem dX0_copy_38 : decode cX0_copy 38 = .ok (.aload_n 0, 1) := by decide +kernel
theorem dX0_copy_39 : decode cX0_copy 39 = .ok (.aload_n 1, 1) := by decide +kernel
theorem dX0_copy_40 : decode cX0_copy 40 = .ok (.getfield 22, 3) := by decide +kernel
theorem dX0_copy_43 : decode cX0_copy 43 = .ok (.putfield 22, 3) := by decide +kernel
theorem dX0_copy_46 : decode cX0_copy 46 = .ok (.aload_n 0, 1) := by decide +kernel
theorem dX0_copy_47 : decode cX0_copy 47 = .ok (.aload_n 1, 1) := by decide +kernel
theorem dX0_copy_48 : decode cX0_copy 48 = .ok (.getfield 25, 3) := by decide +kernel
theorem dX0_copy_51 : decode cX0_copy 51 = .ok (.putfield 25, 3) := by decide +kernel
theorem dX0_copy_54 : decode cX0_copy 54 = .ok (.aload_n 0, 1) := by decide +kernel
theorem dX0_copy_55 : decode cX0_copy 55 = .ok (.aload_n 1, 1) := by decide +kernel
theorem dX0_copy_56 : decode cX0_copy 56 = .ok (.getfield 28, 3) := by decide +kernel
theorem dX0_copy_59 : decode cX0_copy 59 = .ok (.putfield 28, 3) := by decide +kernel
theorem dX0_copy_62 : decode cX0_copy 62 = .ok (.aload_n 0, 1) := by decide +kernel
theorem dX0_copy_63 : decode cX0_copy 63 = .ok (.aload_n 1, 1) := by decide +kernel
theorem dX0_copy_64 : decode cX0_copy 64 = .ok (.getfield 31, 3) := by decide +kernel
theorem dX0_copy_67 : decode cX0_copy 67 = .ok (.putfield 31, 3) := by decide +kernel
theorem dX0_copy_70 : decode cX0_copy 70 = .ok (.return_, 1) := by decide +kernel
theorem dX0_noteOpened_0 : decode cX0_noteOpened 0 = .ok (.aload_n 0, 1) := by decide +kernel
theorem dX0_noteOpened_1 : decode cX0_noteOpened 1 = .ok (.getfield 9, 3) := by decide +kernel
theorem dX0_noteOpened_4 : decode cX0_noteOpened 4 = .ok (.iload_n 1, 1) := by decide +kernel
theorem dX0_noteOpened_5 : decode cX0_noteOpened 5 = .ok (.dup2, 1) := by decide +kernel
theorem dX0_noteOpened_6 : decode cX0_noteOpened 6 = .ok (.iaload, 1) := by decide +kernel
theorem dX0_noteOpened_7 : decode cX0_noteOpened 7 = .ok (.iconst 1, 1) := by decide +kernel
theorem dX0_noteOpened_8 : decode cX0_noteOpened 8 = .ok (.iadd, 1) := by decide +kernel
theorem dX0_noteOpened_9 : decode cX0_noteOpened 9 = .ok (.iastore, 1) := by decide +kernel
theorem dX0_noteOpened_10 : decode cX0_noteOpened 10 = .ok (.aload_n 0, 1) := by decide +kernel
theorem dX0_noteOpened_11 : decode cX0_noteOpened 11 = .ok (.dup, 1) := by decide +kernel
theorem dX0_noteOpened_12 : decode cX0_noteOpened 12 = .ok (.getfield 18, 3) := by decide +kernel
theorem dX0_noteOpened_15 : decode cX0_noteOpened 15 = .ok (.iconst 1, 1) := by decide +kernel
theorem dX0_noteOpened_16 : decode cX0_noteOpened 16 = .ok (.iadd, 1) := by decide +kernel
theorem dX0_noteOpened_17 : decode cX0_noteOpened 17 = .ok (.putfield 18, 3) := by decide +kernel
theorem dX0_noteOpened_20 : decode cX0_noteOpened 20 = .ok (.return_, 1) := by decide +kernel
theorem dX0_noteShutByHand_0 : decode cX0_noteShutByHand 0 = .ok (.aload_n 0, 1) := by decide +kernel
theorem dX0_noteShutByHand_1 : decode cX0_noteShutByHand 1 = .ok (.getfield 15, 3) := by decide +kernel
theorem dX0_noteShutByHand_4 : decode cX0_noteShutByHand 4 = .ok (.iload_n 1, 1) := by decide +kernel
theorem dX0_noteShutByHand_5 : decode cX0_noteShutByHand 5 = .ok (.dup2, 1) := by decide +kernel
theorem dX0_noteShutByHand_6 : decode cX0_noteShutByHand 6 = .ok (.iaload, 1) := by decide +kernel
theorem dX0_noteShutByHand_7 : decode cX0_noteShutByHand 7 = .ok (.iconst 1, 1) := by decide +kernel
theorem dX0_noteShutByHand_8 : decode cX0_noteShutByHand 8 = .ok (.iadd, 1) := by decide +kernel
theorem dX0_noteShutByHand_9 : decode cX0_noteShutByHand 9 = .ok (.iastore, 1) := by decide +kernel
theorem dX0_noteShutByHand_10 : decode cX0_noteShutByHand 10 = .ok (.aload_n 0, 1) := by decide +kernel
theorem dX0_noteShutByHand_11 : decode cX0_noteShutByHand 11 = .ok (.dup, 1) := by decide +kernel
theorem dX0_noteShutByHand_12 : decode cX0_noteShutByHand 12 = .ok (.getfield 22, 3) := by decide +kernel
theorem dX0_noteShutByHand_15 : decode cX0_noteShutByHand 15 = .ok (.iconst 1, 1) := by decide +kernel
theorem dX0_noteShutByHand_16 : decode cX0_noteShutByHand 16 = .ok (.iadd, 1) := by decide +kernel
theorem dX0_noteShutByHand_17 : decode cX0_noteShutByHand 17 = .ok (.putfield 22, 3) := by decide +kernel
theorem dX0_noteShutByHand_20 : decode cX0_noteShutByHand 20 = .ok (.return_, 1) := by decide +kernel
theorem dX0_noteShutByOpening_0 : decode cX0_noteShutByOpening 0 = .ok (.aload_n 0, 1) := by decide +kernel
theorem dX0_noteShutByOpening_1 : decode cX0_noteShutByOpening 1 = .ok (.dup, 1) := by decide +kernel
theorem dX0_noteShutByOpening_2 : decode cX0_noteShutByOpening 2 = .ok (.getfield 25, 3) := by decide +kernel
theorem dX0_noteShutByOpening_5 : decode cX0_noteShutByOpening 5 = .ok (.iload_n 1, 1) := by decide +kernel
theorem dX0_noteShutByOpening_6 : decode cX0_noteShutByOpening 6 = .ok (.invokestatic 40, 3) := by decide +kernel
theorem dX0_noteShutByOpening_9 : decode cX0_noteShutByOpening 9 = .ok (.iadd, 1) := by decide +kernel
theorem dX0_noteShutByOpening_10 : decode cX0_noteShutByOpening 10 = .ok (.putfield 25, 3) := by decide +kernel
theorem dX0_noteShutByOpening_13 : decode cX0_noteShutByOpening 13 = .ok (.aload_n 0, 1) := by decide +kernel
theorem dX0_noteShutByOpening_14 : decode cX0_noteShutByOpening 14 = .ok (.dup, 1) := by decide +kernel
theorem dX0_noteShutByOpening_15 : decode cX0_noteShutByOpening 15 = .ok (.getfield 28, 3) := by decide +kernel
theorem dX0_noteShutByOpening_18 : decode cX0_noteShutByOpening 18 = .ok (.iload_n 2, 1) := by decide +kernel
theorem dX0_noteShutByOpening_19 : decode cX0_noteShutByOpening 19 = .ok (.invokestatic 40, 3) := by decide +kernel
theorem dX0_noteShutByOpening_22 : decode cX0_noteShutByOpening 22 = .ok (.iadd, 1) := by decide +kernel
theorem dX0_noteShutByOpening_23 : decode cX0_noteShutByOpening 23 = .ok (.putfield 28, 3) := by decide +kernel
theorem dX0_noteShutByOpening_26 : decode cX0_noteShutByOpening 26 = .ok (.iconst 0, 1) := by decide +kernel
theorem dX0_noteShutByOpening_27 : decode cX0_noteShutByOpening 27 = .ok (.istore_n 3, 1) := by decide +kernel
theorem dX0_noteShutByOpening_28 : decode cX0_noteShutByOpening 28 = .ok (.iload_n 3, 1) := by decide +kernel
theorem dX0_noteShutByOpening_29 : decode cX0_noteShutByOpening 29 = .ok (.bipush 10, 2) := by decide +kernel
theorem dX0_noteShutByOpening_31 : decode cX0_noteShutByOpening 31 = .ok (.if_icmp .ge 29, 3) := by decide +kernel
theorem dX0_noteShutByOpening_34 : decode cX0_noteShutByOpening 34 = .ok (.iload_n 1, 1) := by decide +kernel
theorem dX0_noteShutByOpening_35 : decode cX0_noteShutByOpening 35 = .ok (.iload_n 2, 1) := by decide +kernel
theorem dX0_noteShutByOpening_36 : decode cX0_noteShutByOpening 36 = .ok (.ior, 1) := by decide +kernel
theorem dX0_noteShutByOpening_37 : decode cX0_noteShutByOpening 37 = .ok (.iload_n 3, 1) := by decide +kernel
theorem dX0_noteShutByOpening_38 : decode cX0_noteShutByOpening 38 = .ok (.invokestatic 46, 3) := by decide +kernel
theorem dX0_noteShutByOpening_41 : decode cX0_noteShutByOpening 41 = .ok (.ifCond .eq 13, 3) := by decide +kernel
theorem dX0_noteShutByOpening_44 : decode cX0_noteShutByOpening 44 = .ok (.aload_n 0, 1) := by decide +kernel
theorem dX0_noteShutByOpening_45 : decode cX0_noteShutByOpening 45 = .ok (.getfield 15, 3) := by decide +kernel
theorem dX0_noteShutByOpening_48 : decode cX0_noteShutByOpening 48 = .ok (.iload_n 3, 1) := by decide +kernel
theorem dX0_noteShutByOpening_49 : decode cX0_noteShutByOpening 49 = .ok (.dup2, 1) := by decide +kernel
theorem dX0_noteShutByOpening_50 : decode cX0_noteShutByOpening 50 = .ok (.iaload, 1) := by decide +kernel
theorem dX0_noteShutByOpening_51 : decode cX0_noteShutByOpening 51 = .ok (.iconst 1, 1) := by decide +kernel
theorem dX0_noteShutByOpening_52 : decode cX0_noteShutByOpening 52 = .ok (.iadd, 1) := by decide +kernel
theorem dX0_noteShutByOpening_53 : decode cX0_noteShutByOpening 53 = .ok (.iastore, 1) := by decide +kernel
theorem dX0_noteShutByOpening_54 : decode cX0_noteShutByOpening 54 = .ok (.iinc 3 1, 3) := by decide +kernel
theorem dX0_noteShutByOpening_57 : decode cX0_noteShutByOpening 57 = .ok (.goto (-29), 3) := by decide +kernel
theorem dX0_noteShutByOpening_60 : decode cX0_noteShutByOpening 60 = .ok (.return_, 1) := by decide +kernel
theorem dX0_noteRefused_0 : decode cX0_noteRefused 0 = .ok (.aload_n 0, 1) := by decide +kernel
theorem dX0_noteRefused_1 : decode cX0_noteRefused 1 = .ok (.dup, 1) := by decide +kernel
theorem dX0_noteRefused_2 : decode cX0_noteRefused 2 = .ok (.getfield 31, 3) := by decide +kernel
theorem dX0_noteRefused_5 : decode cX0_noteRefused 5 = .ok (.iconst 1, 1) := by decide +kernel
theorem dX0_noteRefused_6 : decode cX0_noteRefused 6 = .ok (.iadd, 1) := by decide +kernel
theorem dX0_noteRefused_7 : decode cX0_noteRefused 7 = .ok (.putfield 31, 3) := by decide +kernel
theorem dX0_noteRefused_10 : decode cX0_noteRefused 10 = .ok (.iload_n 1, 1) := by decide +kernel
theorem dX0_noteRefused_11 : decode cX0_noteRefused 11 = .ok (.ireturn, 1) := by decide +kernel
theorem dX1_init_0 : decode cX1_init 0 = .ok (.aload_n 0, 1) := by decide +kernel
theorem dX1_init_1 : decode cX1_init 1 = .ok (.invokespecial 3, 3) := by decide +kernel
theorem dX1_init_4 : decode cX1_init 4 = .ok (.aload_n 0, 1) := by decide +kernel
theorem dX1_init_5 : decode cX1_init 5 = .ok (.iconst 3, 1) := by decide +kernel
theorem dX1_init_6 : decode cX1_init 6 = .ok (.newarray .int, 2) := by decide +kernel
theorem dX1_init_8 : decode cX1_init 8 = .ok (.putfield 9, 3) := by decide +kernel
theorem dX1_init_11 : decode cX1_init 11 = .ok (.aload_n 0, 1) := by decide +kernel
theorem dX1_init_12 : decode cX1_init 12 = .ok (.iconst 3, 1) := by decide +kernel
theorem dX1_init_13 : decode cX1_init 13 = .ok (.newarray .int, 2) := by decide +kernel
theorem dX1_init_15 : decode cX1_init 15 = .ok (.putfield 15, 3) := by decide +kernel
theorem dX1_init_18 : decode cX1_init 18 = .ok (.aload_n 0, 1) := by decide +kernel
theorem dX1_init_19 : decode cX1_init 19 = .ok (.iconst 3, 1) := by decide +kernel
theorem dX1_init_20 : decode cX1_init 20 = .ok (.newarray .int, 2) := by decide +kernel
theorem dX1_init_22 : decode cX1_init 22 = .ok (.putfield 18, 3) := by decide +kernel
theorem dX1_init_25 : decode cX1_init 25 = .ok (.return_, 1) := by decide +kernel
theorem dX1_copy_0 : decode cX1_copy 0 = .ok (.aload_n 1, 1) := by decide +kernel
theorem dX1_copy_1 : decode cX1_copy 1 = .ok (.getfield 9, 3) := by decide +kernel
theorem dX1_copy_4 : decode cX1_copy 4 = .ok (.iconst 0, 1) := by decide +kernel
theorem dX1_copy_5 : decode cX1_copy 5 = .ok (.aload_n 0, 1) := by decide +kernel
theorem dX1_copy_6 : decode cX1_copy 6 = .ok (.getfield 9, 3) := by decide +kernel
theorem dX1_copy_9 : decode cX1_copy 9 = .ok (.iconst 0, 1) := by decide +kernel
theorem dX1_copy_10 : decode cX1_copy 10 = .ok (.iconst 3, 1) := by decide +kernel
theorem dX1_copy_11 : decode cX1_copy 11 = .ok (.invokestatic 21, 3) := by decide +kernel
theorem dX1_copy_14 : decode cX1_copy 14 = .ok (.aload_n 1, 1) := by decide +kernel
theorem dX1_copy_15 : decode cX1_copy 15 = .ok (.getfield 15, 3) := by decide +kernel
theorem dX1_copy_18 : decode cX1_copy 18 = .ok (.iconst 0, 1) := by decide +kernel
theorem dX1_copy_19 : decode cX1_copy 19 = .ok (.aload_n 0, 1) := by decide +kernel
theorem dX1_copy_20 : decode cX1_copy 20 = .ok (.getfield 15, 3) := by decide +kernel
theorem dX1_copy_23 : decode cX1_copy 23 = .ok (.iconst 0, 1) := by decide +kernel
theorem dX1_copy_24 : decode cX1_copy 24 = .ok (.iconst 3, 1) := by decide +kernel
theorem dX1_copy_25 : decode cX1_copy 25 = .ok (.invokestatic 21, 3) := by decide +kernel
theorem dX1_copy_28 : decode cX1_copy 28 = .ok (.aload_n 1, 1) := by decide +kernel
theorem dX1_copy_29 : decode cX1_copy 29 = .ok (.getfield 18, 3) := by decide +kernel
theorem dX1_copy_32 : decode cX1_copy 32 = .ok (.iconst 0, 1) := by decide +kernel
theorem dX1_copy_33 : decode cX1_copy 33 = .ok (.aload_n 0, 1) := by decide +kernel
theorem dX1_copy_34 : decode cX1_copy 34 = .ok (.getfield 18, 3) := by decide +kernel
theorem dX1_copy_37 : decode cX1_copy 37 = .ok (.iconst 0, 1) := by decide +kernel
theorem dX1_copy_38 : decode cX1_copy 38 = .ok (.iconst 3, 1) := by decide +kernel
theorem dX1_copy_39 : decode cX1_copy 39 = .ok (.invokestatic 21, 3) := by decide +kernel
theorem dX1_copy_42 : decode cX1_copy 42 = .ok (.return_, 1) := by decide +kernel
theorem dX1_howManyIn_0 : decode cX1_howManyIn 0 = .ok (.iconst 0, 1) := by decide +kernel
theorem dX1_howManyIn_1 : decode cX1_howManyIn 1 = .ok (.istore_n 2, 1) := by decide +kernel
theorem dX1_howManyIn_2 : decode cX1_howManyIn 2 = .ok (.iconst 0, 1) := by decide +kernel
theorem dX1_howManyIn_3 : decode cX1_howManyIn 3 = .ok (.istore_n 3, 1) := by decide +kernel
theorem dX1_howManyIn_4 : decode cX1_howManyIn 4 = .ok (.iload_n 3, 1) := by decide +kernel
theorem dX1_howManyIn_5 : decode cX1_howManyIn 5 = .ok (.iconst 3, 1) := by decide +kernel
theorem dX1_howManyIn_6 : decode cX1_howManyIn 6 = .ok (.if_icmp .ge 22, 3) := by decide +kernel
theorem dX1_howManyIn_9 : decode cX1_howManyIn 9 = .ok (.aload_n 0, 1) := by decide +kernel
theorem dX1_howManyIn_10 : decode cX1_howManyIn 10 = .ok (.getfield 9, 3) := by decide +kernel
theorem dX1_howManyIn_13 : decode cX1_howManyIn 13 = .ok (.iload_n 3, 1) := by decide +kernel
theorem dX1_howManyIn_14 : decode cX1_howManyIn 14 = .ok (.iaload, 1) := by decide +kernel
theorem dX1_howManyIn_15 : decode cX1_howManyIn 15 = .ok (.iload_n 1, 1) := by decide +kernel
theorem dX1_howManyIn_16 : decode cX1_howManyIn 16 = .ok (.if_icmp .ne 6, 3) := by decide +kernel
theorem dX1_howManyIn_19 : decode cX1_howManyIn 19 = .ok (.iinc 2 1, 3) := by decide +kernel
theorem dX1_howManyIn_22 : decode cX1_howManyIn 22 = .ok (.iinc 3 1, 3) := by decide +kernel
theorem dX1_howManyIn_25 : decode cX1_howManyIn 25 = .ok (.goto (-21), 3) := by decide +kernel
theorem dX1_howManyIn_28 : decode cX1_howManyIn 28 = .ok (.iload_n 2, 1) := by decide +kernel
theorem dX1_howManyIn_29 : decode cX1_howManyIn 29 = .ok (.ireturn, 1) := by decide +kernel
theorem dX2_init_0 : decode cX2_init 0 = .ok (.aload_n 0, 1) := by decide +kernel
theorem dX2_init_1 : decode cX2_init 1 = .ok (.invokespecial 3, 3) := by decide +kernel
theorem dX2_init_4 : decode cX2_init 4 = .ok (.aload_n 0, 1) := by decide +kernel
theorem dX2_init_5 : decode cX2_init 5 = .ok (.iconst 4, 1) := by decide +kernel
theorem dX2_init_6 : decode cX2_init 6 = .ok (.anewarray 9, 3) := by decide +kernel
theorem dX2_init_9 : decode cX2_init 9 = .ok (.putfield 11, 3) := by decide +kernel
theorem dX2_init_12 : decode cX2_init 12 = .ok (.aload_n 0, 1) := by decide +kernel
theorem dX2_init_13 : decode cX2_init 13 = .ok (.iconst 0, 1) := by decide +kernel
theorem dX2_init_14 : decode cX2_init 14 = .ok (.putfield 17, 3) := by decide +kernel
theorem dX2_init_17 : decode cX2_init 17 = .ok (.aload_n 0, 1) := by decide +kernel
theorem dX2_init_18 : decode cX2_init 18 = .ok (.iconst 0, 1) := by decide +kernel
theorem dX2_init_19 : decode cX2_init 19 = .ok (.putfield 21, 3) := by decide +kernel
theorem dX2_init_22 : decode cX2_init 22 = .ok (.iconst 0, 1) := by decide +kernel
theorem dX2_init_23 : decode cX2_init 23 = .ok (.istore_n 1, 1) := by decide +kernel
theorem dX2_init_24 : decode cX2_init 24 = .ok (.iload_n 1, 1) := by decide +kernel
theorem dX2_init_25 : decode cX2_init 25 = .ok (.iconst 4, 1) := by decide +kernel
theorem dX2_init_26 : decode cX2_init 26 = .ok (.if_icmp .ge 22, 3) := by decide +kernel
theorem dX2_init_29 : decode cX2_init 29 = .ok (.aload_n 0, 1) := by decide +kernel
theorem dX2_init_30 : decode cX2_init 30 = .ok (.getfield 11, 3) := by decide +kernel
theorem dX2_init_33 : decode cX2_init 33 = .ok (.iload_n 1, 1) := by decide +kernel
theorem dX2_init_34 : decode cX2_init 34 = .ok (.new 9, 3) := by decide +kernel
theorem dX2_init_37 : decode cX2_init 37 = .ok (.dup, 1) := by decide +kernel
theorem dX2_init_38 : decode cX2_init 38 = .ok (.invokespecial 24, 3) := by decide +kernel
theorem dX2_init_41 : decode cX2_init 41 = .ok (.aastore, 1) := by decide +kernel
theorem dX2_init_42 : decode cX2_init 42 = .ok (.iinc 1 1, 3) := by decide +kernel
theorem dX2_init_45 : decode cX2_init 45 = .ok (.goto (-21), 3) := by decide +kernel
theorem dX2_init_48 : decode cX2_init 48 = .ok (.return_, 1) := by decide +kernel
theorem dX2_record_0 : decode cX2_record 0 = .ok (.aload_n 0, 1) := by decide +kernel
theorem dX2_record_1 : decode cX2_record 1 = .ok (.aload_n 0, 1) := by decide +kernel
theorem dX2_record_2 : decode cX2_record 2 = .ok (.getfield 21, 3) := by decide +kernel
theorem dX2_record_5 : decode cX2_record 5 = .ok (.invokevirtual 25, 3) := by decide +kernel
theorem dX2_record_8 : decode cX2_record 8 = .ok (.aload_n 1, 1) := by decide +kernel
theorem dX2_record_9 : decode cX2_record 9 = .ok (.invokevirtual 29, 3) := by decide +kernel
theorem dX2_record_12 : decode cX2_record 12 = .ok (.aload_n 0, 1) := by decide +kernel
theorem dX2_record_13 : decode cX2_record 13 = .ok (.getfield 21, 3) := by decide +kernel
theorem dX2_record_16 : decode cX2_record 16 = .ok (.iconst 4, 1) := by decide +kernel
theorem dX2_record_17 : decode cX2_record 17 = .ok (.if_icmp .ge 16, 3) := by decide +kernel
theorem dX2_record_20 : decode cX2_record 20 = .ok (.aload_n 0, 1) := by decide +kernel
theorem dX2_record_21 : decode cX2_record 21 = .ok (.dup, 1) := by decide +kernel
theorem dX2_record_22 : decode cX2_record 22 = .ok (.getfield 21, 3) := by decide +kernel
theorem dX2_record_25 : decode cX2_record 25 = .ok (.iconst 1, 1) := by decide +kernel
theorem dX2_record_26 : decode cX2_record 26 = .ok (.iadd, 1) := by decide +kernel
theorem dX2_record_27 : decode cX2_record 27 = .ok (.putfield 21, 3) := by decide +kernel
theorem dX2_record_30 : decode cX2_record 30 = .ok (.goto 15, 3) := by decide +kernel
theorem dX2_record_33 : decode cX2_record 33 = .ok (.aload_n 0, 1) := by decide +kernel
theorem dX2_record_34 : decode cX2_record 34 = .ok (.aload_n 0, 1) := by decide +kernel
theorem dX2_record_35 : decode cX2_record 35 = .ok (.getfield 17, 3) := by decide +kernel
theorem dX2_record_38 : decode cX2_record 38 = .ok (.iconst 1, 1) := by decide +kernel
theorem dX2_record_39 : decode cX2_record 39 = .ok (.iadd, 1) := by decide +kernel
theorem dX2_record_40 : decode cX2_record 40 = .ok (.iconst 4, 1) := by decide +kernel
theorem dX2_record_41 : decode cX2_record 41 = .ok (.irem, 1) := by decide +kernel
theorem dX2_record_42 : decode cX2_record 42 = .ok (.putfield 17, 3) := by decide +kernel
theorem dX2_record_45 : decode cX2_record 45 = .ok (.return_, 1) := by decide +kernel
theorem dX2_takeBack_0 : decode cX2_takeBack 0 = .ok (.aload_n 0, 1) := by decide +kernel
theorem dX2_takeBack_1 : decode cX2_takeBack 1 = .ok (.getfield 21, 3) := by decide +kernel
theorem dX2_takeBack_4 : decode cX2_takeBack 4 = .ok (.ifCond .le 25, 3) := by decide +kernel
theorem dX2_takeBack_7 : decode cX2_takeBack 7 = .ok (.aload_n 0, 1) := by decide +kernel
theorem dX2_takeBack_8 : decode cX2_takeBack 8 = .ok (.dup, 1) := by decide +kernel
theorem dX2_takeBack_9 : decode cX2_takeBack 9 = .ok (.getfield 21, 3) := by decide +kernel
theorem dX2_takeBack_12 : decode cX2_takeBack 12 = .ok (.iconst 1, 1) := by decide +kernel
theorem dX2_takeBack_13 : decode cX2_takeBack 13 = .ok (.isub, 1) := by decide +kernel
theorem dX2_takeBack_14 : decode cX2_takeBack 14 = .ok (.putfield 21, 3) := by decide +kernel
theorem dX2_takeBack_17 : decode cX2_takeBack 17 = .ok (.aload_n 1, 1) := by decide +kernel
theorem dX2_takeBack_18 : decode cX2_takeBack 18 = .ok (.aload_n 0, 1) := by decide +kernel
theorem dX2_takeBack_19 : decode cX2_takeBack 19 = .ok (.aload_n 0, 1) := by decide +kernel
theorem dX2_takeBack_20 : decode cX2_takeBack 20 = .ok (.getfield 21, 3) := by decide +kernel
theorem dX2_takeBack_23 : decode cX2_takeBack 23 = .ok (.invokevirtual 25, 3) := by decide +kernel
theorem dX2_takeBack_26 : decode cX2_takeBack 26 = .ok (.invokevirtual 29, 3) := by decide +kernel
theorem dX2_takeBack_29 : decode cX2_takeBack 29 = .ok (.return_, 1) := by decide +kernel
theorem dX2_slotBehind_0 : decode cX2_slotBehind 0 = .ok (.aload_n 0, 1) := by decide +kernel
theorem dX2_slotBehind_1 : decode cX2_slotBehind 1 = .ok (.getfield 11, 3) := by decide +kernel
theorem dX2_slotBehind_4 : decode cX2_slotBehind 4 = .ok (.aload_n 0, 1) := by decide +kernel
theorem dX2_slotBehind_5 : decode cX2_slotBehind 5 = .ok (.getfield 17, 3) := by decide +kernel
theorem dX2_slotBehind_8 : decode cX2_slotBehind 8 = .ok (.iload_n 1, 1) := by decide +kernel
theorem dX2_slotBehind_9 : decode cX2_slotBehind 9 = .ok (.iadd, 1) := by decide +kernel
theorem dX2_slotBehind_10 : decode cX2_slotBehind 10 = .ok (.iconst 4, 1) := by decide +kernel
theorem dX2_slotBehind_11 : decode cX2_slotBehind 11 = .ok (.invokestatic 33, 3) := by decide +kernel
theorem dX2_slotBehind_14 : decode cX2_slotBehind 14 = .ok (.aaload, 1) := by decide +kernel
theorem dX2_slotBehind_15 : decode cX2_slotBehind 15 = .ok (.areturn, 1) := by decide +kernel
theorem dX3_init_0 : decode cX3_init 0 = .ok (.aload_n 0, 1) := by decide +kernel
theorem dX3_init_1 : decode cX3_init 1 = .ok (.invokespecial 3, 3) := by decide +kernel
theorem dX3_init_4 : decode cX3_init 4 = .ok (.aload_n 0, 1) := by decide +kernel
theorem dX3_init_5 : decode cX3_init 5 = .ok (.bipush 10, 2) := by decide +kernel
theorem dX3_init_7 : decode cX3_init 7 = .ok (.newarray .int, 2) := by decide +kernel
theorem dX3_init_9 : decode cX3_init 9 = .ok (.putfield 9, 3) := by decide +kernel
theorem dX3_init_12 : decode cX3_init 12 = .ok (.aload_n 0, 1) := by decide +kernel
theorem dX3_init_13 : decode cX3_init 13 = .ok (.bipush 10, 2) := by decide +kernel
theorem dX3_init_15 : decode cX3_init 15 = .ok (.newarray .int, 2) := by decide +kernel
theorem dX3_init_17 : decode cX3_init 17 = .ok (.putfield 15, 3) := by decide +kernel
theorem dX3_init_20 : decode cX3_init 20 = .ok (.aload_n 0, 1) := by decide +kernel
theorem dX3_init_21 : decode cX3_init 21 = .ok (.bipush 10, 2) := by decide +kernel
theorem dX3_init_23 : decode cX3_init 23 = .ok (.newarray .int, 2) := by decide +kernel
theorem dX3_init_25 : decode cX3_init 25 = .ok (.putfield 18, 3) := by decide +kernel
theorem dX3_init_28 : decode cX3_init 28 = .ok (.aload_n 0, 1) := by decide +kernel
theorem dX3_init_29 : decode cX3_init 29 = .ok (.bipush 10, 2) := by decide +kernel
theorem dX3_init_31 : decode cX3_init 31 = .ok (.newarray .int, 2) := by decide +kernel
theorem dX3_init_33 : decode cX3_init 33 = .ok (.putfield 21, 3) := by decide +kernel
theorem dX3_init_36 : decode cX3_init 36 = .ok (.aload_n 0, 1) := by decide +kernel
theorem dX3_init_37 : decode cX3_init 37 = .ok (.bipush 6, 2) := by decide +kernel
theorem dX3_init_39 : decode cX3_init 39 = .ok (.newarray .int, 2) := by decide +kernel
theorem dX3_init_41 : decode cX3_init 41 = .ok (.putfield 24, 3) := by decide +kernel
theorem dX3_init_44 : decode cX3_init 44 = .ok (.aload_n 0, 1) := by decide +kernel
theorem dX3_init_45 : decode cX3_init 45 = .ok (.iconst 3, 1) := by decide +kernel
theorem dX3_init_46 : decode cX3_init 46 = .ok (.putfield 27, 3) := by decide +kernel
theorem dX3_init_49 : decode cX3_init 49 = .ok (.iconst 0, 1) := by decide +kernel
theorem dX3_init_50 : decode cX3_init 50 = .ok (.istore_n 1, 1) := by decide +kernel
theorem dX3_init_51 : decode cX3_init 51 = .ok (.iload_n 1, 1) := by decide +kernel
theorem dX3_init_52 : decode cX3_init 52 = .ok (.bipush 10, 2) := by decide +kernel
theorem dX3_init_54 : decode cX3_init 54 = .ok (.if_icmp .ge 48, 3) := by decide +kernel
theorem dX3_init_57 : decode cX3_init 57 = .ok (.aload_n 0, 1) := by decide +kernel
theorem dX3_init_58 : decode cX3_init 58 = .ok (.getfield 9, 3) := by decide +kernel
theorem dX3_init_61 : decode cX3_init 61 = .ok (.iload_n 1, 1) := by decide +kernel
theorem dX3_init_62 : decode cX3_init 62 = .ok (.iload_n 1, 1) := by decide +kernel
theorem dX3_init_63 : decode cX3_init 63 = .ok (.iconst 1, 1) := by decide +kernel
theorem dX3_init_64 : decode cX3_init 64 = .ok (.iadd, 1) := by decide +kernel
theorem dX3_init_65 : decode cX3_init 65 = .ok (.bipush 10, 2) := by decide +kernel
theorem dX3_init_67 : decode cX3_init 67 = .ok (.irem, 1) := by decide +kernel
theorem dX3_init_68 : decode cX3_init 68 = .ok (.iastore, 1) := by decide +kernel
theorem dX3_init_69 : decode cX3_init 69 = .ok (.aload_n 0, 1) := by decide +kernel
theorem dX3_init_70 : decode cX3_init 70 = .ok (.getfield 15, 3) := by decide +kernel
theorem dX3_init_73 : decode cX3_init 73 = .ok (.iload_n 1, 1) := by decide +kernel
theorem dX3_init_74 : decode cX3_init 74 = .ok (.iload_n 1, 1) := by decide +kernel
theorem dX3_init_75 : decode cX3_init 75 = .ok (.iconst 3, 1) := by decide +kernel
theorem dX3_init_76 : decode cX3_init 76 = .ok (.iadd, 1) := by decide +kernel
theorem dX3_init_77 : decode cX3_init 77 = .ok (.bipush 10, 2) := by decide +kernel
theorem dX3_init_79 : decode cX3_init 79 = .ok (.irem, 1) := by decide +kernel
theorem dX3_init_80 : decode cX3_init 80 = .ok (.iastore, 1) := by decide +kernel
theorem dX3_init_81 : decode cX3_init 81 = .ok (.aload_n 0, 1) := by decide +kernel
theorem dX3_init_82 : decode cX3_init 82 = .ok (.iload_n 1, 1) := by decide +kernel
theorem dX3_init_83 : decode cX3_init 83 = .ok (.iload_n 1, 1) := by decide +kernel
theorem dX3_init_84 : decode cX3_init 84 = .ok (.bipush 6, 2) := by decide +kernel
theorem dX3_init_86 : decode cX3_init 86 = .ok (.irem, 1) := by decide +kernel
theorem dX3_init_87 : decode cX3_init 87 = .ok (.iload_n 1, 1) := by decide +kernel
theorem dX3_init_88 : decode cX3_init 88 = .ok (.iconst 1, 1) := by decide +kernel
theorem dX3_init_89 : decode cX3_init 89 = .ok (.iadd, 1) := by decide +kernel
theorem dX3_init_90 : decode cX3_init 90 = .ok (.bipush 6, 2) := by decide +kernel
theorem dX3_init_92 : decode cX3_init 92 = .ok (.irem, 1) := by decide +kernel
theorem dX3_init_93 : decode cX3_init 93 = .ok (.invokevirtual 31, 3) := by decide +kernel
theorem dX3_init_96 : decode cX3_init 96 = .ok (.iinc 1 1, 3) := by decide +kernel
theorem dX3_init_99 : decode cX3_init 99 = .ok (.goto (-48), 3) := by decide +kernel
theorem dX3_init_102 : decode cX3_init 102 = .ok (.return_, 1) := by decide +kernel
theorem dX3_copy_0 : decode cX3_copy 0 = .ok (.aload_n 1, 1) := by decide +kernel
theorem dX3_copy_1 : decode cX3_copy 1 = .ok (.getfield 9, 3) := by decide +kernel
theorem dX3_copy_4 : decode cX3_copy 4 = .ok (.iconst 0, 1) := by decide +kernel
theorem dX3_copy_5 : decode cX3_copy 5 = .ok (.aload_n 0, 1) := by decide +kernel
theorem dX3_copy_6 : decode cX3_copy 6 = .ok (.getfield 9, 3) := by decide +kernel
theorem dX3_copy_9 : decode cX3_copy 9 = .ok (.iconst 0, 1) := by decide +kernel
theorem dX3_copy_10 : decode cX3_copy 10 = .ok (.bipush 10, 2) := by decide +kernel
theorem dX3_copy_12 : decode cX3_copy 12 = .ok (.invokestatic 35, 3) := by decide +kernel
theorem dX3_copy_15 : decode cX3_copy 15 = .ok (.aload_n 1, 1) := by decide +kernel
theorem dX3_copy_16 : decode cX3_copy 16 = .ok (.getfield 15, 3) := by decide +kernel
theorem dX3_copy_19 : decode cX3_copy 19 = .ok (.iconst 0, 1) := by decide +kernel
theorem dX3_copy_20 : decode cX3_copy 20 = .ok (.aload_n 0, 1) := by decide +kernel
theorem dX3_copy_21 : decode cX3_copy 21 = .ok (.getfield 15, 3) := by decide +kernel
theorem dX3_copy_24 : decode cX3_copy 24 = .ok (.iconst 0, 1) := by decide +kernel
theorem dX3_copy_25 : decode cX3_copy 25 = .ok (.bipush 10, 2) := by decide +kernel
theorem dX3_copy_27 : decode cX3_copy 27 = .ok (.invokestatic 35, 3) := by decide +kernel
theorem dX3_copy_30 : decode cX3_copy 30 = .ok (.aload_n 1, 1) := by decide +kernel
theorem dX3_copy_31 : decode cX3_copy 31 = .ok (.getfield 18, 3) := by decide +kernel
theorem dX3_copy_34 : decode cX3_copy 34 = .ok (.iconst 0, 1) := by decide +kernel
theorem dX3_copy_35 : decode cX3_copy 35 = .ok (.aload_n 0, 1) := by decide +kernel
theorem dX3_copy_36 : decode cX3_copy 36 = .ok (.getfield 18, 3) := by decide +kernel
theorem dX3_copy_39 : decode cX3_copy 39 = .ok (.iconst 0, 1) := by decide +kernel
theorem dX3_copy_40 : decode cX3_copy 40 = .ok (.bipush 10, 2) := by decide +kernel
theorem dX3_copy_42 : decode cX3_copy 42 = .ok (.invokestatic 35, 3) := by decide +kernel
theorem dX3_copy_45 : decode cX3_copy 45 = .ok (.aload_n 1, 1) := by decide +kernel
theorem dX3_copy_46 : decode cX3_copy 46 = .ok (.getfield 21, 3) := by decide +kernel
theorem dX3_copy_49 : decode cX3_copy 49 = .ok (.iconst 0, 1) := by decide +kernel
theorem dX3_copy_50 : decode cX3_copy 50 = .ok (.aload_n 0, 1) := by decide +kernel
theorem dX3_copy_51 : decode cX3_copy 51 = .ok (.getfield 21, 3) := by decide +kernel
theorem dX3_copy_54 : decode cX3_copy 54 = .ok (.iconst 0, 1) := by decide +kernel
theorem dX3_copy_55 : decode cX3_copy 55 = .ok (.bipush 10, 2) := by decide +kernel
theorem dX3_copy_57 : decode cX3_copy 57 = .ok (.invokestatic 35, 3) := by decide +kernel
theorem dX3_copy_60 : decode cX3_copy 60 = .ok (.aload_n 1, 1) := by decide +kernel
theorem dX3_copy_61 : decode cX3_copy 61 = .ok (.getfield 24, 3) := by decide +kernel
theorem dX3_copy_64 : decode cX3_copy 64 = .ok (.iconst 0, 1) := by decide +kernel
theorem dX3_copy_65 : decode cX3_copy 65 = .ok (.aload_n 0, 1) := by decide +kernel
theorem dX3_copy_66 : decode cX3_copy 66 = .ok (.getfield 24, 3) := by decide +kernel
theorem dX3_copy_69 : decode cX3_copy 69 = .ok (.iconst 0, 1) := by decide +kernel
theorem dX3_copy_70 : decode cX3_copy 70 = .ok (.bipush 6, 2) := by decide +kernel
theorem dX3_copy_72 : decode cX3_copy 72 = .ok (.invokestatic 35, 3) := by decide +kernel
theorem dX3_copy_75 : decode cX3_copy 75 = .ok (.aload_n 0, 1) := by decide +kernel
theorem dX3_copy_76 : decode cX3_copy 76 = .ok (.aload_n 1, 1) := by decide +kernel
theorem dX3_copy_77 : decode cX3_copy 77 = .ok (.getfield 27, 3) := by decide +kernel
theorem dX3_copy_80 : decode cX3_copy 80 = .ok (.putfield 27, 3) := by decide +kernel
theorem dX3_copy_83 : decode cX3_copy 83 = .ok (.return_, 1) := by decide +kernel
theorem dX3_hang_0 : decode cX3_hang 0 = .ok (.iconst 0, 1) := by decide +kernel
theorem dX3_hang_1 : decode cX3_hang 1 = .ok (.istore 4, 2) := by decide +kernel
theorem dX3_hang_3 : decode cX3_hang 3 = .ok (.iload 4, 2) := by decide +kernel
theorem dX3_hang_5 : decode cX3_hang 5 = .ok (.bipush 6, 2) := by decide +kernel
theorem dX3_hang_7 : decode cX3_hang 7 = .ok (.if_icmp .ge 27, 3) := by decide +kernel
theorem dX3_hang_10 : decode cX3_hang 10 = .ok (.aload_n 0, 1) := by decide +kernel
theorem dX3_hang_11 : decode cX3_hang 11 = .ok (.getfield 24, 3) := by decide +kernel
theorem dX3_hang_14 : decode cX3_hang 14 = .ok (.iload 4, 2) := by decide +kernel
theorem dX3_hang_16 : decode cX3_hang 16 = .ok (.aload_n 0, 1) := by decide +kernel
theorem dX3_hang_17 : decode cX3_hang 17 = .ok (.getfield 24, 3) := by decide +kernel
theorem dX3_hang_20 : decode cX3_hang 20 = .ok (.iload 4, 2) := by decide +kernel
theorem dX3_hang_22 : decode cX3_hang 22 = .ok (.iaload, 1) := by decide +kernel
theorem dX3_hang_23 : decode cX3_hang 23 = .ok (.iload_n 1, 1) := by decide +kernel
theorem dX3_hang_24 : decode cX3_hang 24 = .ok (.invokestatic 41, 3) := by decide +kernel
theorem dX3_hang_27 : decode cX3_hang 27 = .ok (.iastore, 1) := by decide +kernel
theorem dX3_hang_28 : decode cX3_hang 28 = .ok (.iinc 4 1, 3) := by decide +kernel
theorem dX3_hang_31 : decode cX3_hang 31 = .ok (.goto (-28), 3) := by decide +kernel
theorem dX3_hang_34 : decode cX3_hang 34 = .ok (.aload_n 0, 1) := by decide +kernel
theorem dX3_hang_35 : decode cX3_hang 35 = .ok (.getfield 18, 3) := by decide +kernel
theorem dX3_hang_38 : decode cX3_hang 38 = .ok (.iload_n 1, 1) := by decide +kernel
theorem dX3_hang_39 : decode cX3_hang 39 = .ok (.iload_n 2, 1) := by decide +kernel
theorem dX3_hang_40 : decode cX3_hang 40 = .ok (.iload_n 3, 1) := by decide +kernel
theorem dX3_hang_41 : decode cX3_hang 41 = .ok (.invokestatic 45, 3) := by decide +kernel
theorem dX3_hang_44 : decode cX3_hang 44 = .ok (.iastore, 1) := by decide +kernel
theorem dX3_hang_45 : decode cX3_hang 45 = .ok (.aload_n 0, 1) := by decide +kernel
theorem dX3_hang_46 : decode cX3_hang 46 = .ok (.getfield 21, 3) := by decide +kernel
theorem dX3_hang_49 : decode cX3_hang 49 = .ok (.iload_n 1, 1) := by decide +kernel
theorem dX3_hang_50 : decode cX3_hang 50 = .ok (.iload_n 2, 1) := by decide +kernel
theorem dX3_hang_51 : decode cX3_hang 51 = .ok (.iload_n 3, 1) := by decide +kernel
theorem dX3_hang_52 : decode cX3_hang 52 = .ok (.invokestatic 50, 3) := by decide +kernel
theorem dX3_hang_55 : decode cX3_hang 55 = .ok (.iastore, 1) := by decide +kernel
theorem dX3_hang_56 : decode cX3_hang 56 = .ok (.aload_n 0, 1) := by decide +kernel
theorem dX3_hang_57 : decode cX3_hang 57 = .ok (.getfield 24, 3) := by decide +kernel
theorem dX3_hang_60 : decode cX3_hang 60 = .ok (.iload_n 2, 1) := by decide +kernel
theorem dX3_hang_61 : decode cX3_hang 61 = .ok (.dup2, 1) := by decide +kernel
theorem dX3_hang_62 : decode cX3_hang 62 = .ok (.iaload, 1) := by decide +kernel
theorem dX3_hang_63 : decode cX3_hang 63 = .ok (.iconst 1, 1) := by decide +kernel
theorem dX3_hang_64 : decode cX3_hang 64 = .ok (.iload_n 1, 1) := by decide +kernel
theorem dX3_hang_65 : decode cX3_hang 65 = .ok (.ishl, 1) := by decide +kernel
theorem dX3_hang_66 : decode cX3_hang 66 = .ok (.ior, 1) := by decide +kernel
theorem dX3_hang_67 : decode cX3_hang 67 = .ok (.iastore, 1) := by decide +kernel
theorem dX3_hang_68 : decode cX3_hang 68 = .ok (.aload_n 0, 1) := by decide +kernel
theorem dX3_hang_69 : decode cX3_hang 69 = .ok (.getfield 24, 3) := by decide +kernel
theorem dX3_hang_72 : decode cX3_hang 72 = .ok (.iload_n 3, 1) := by decide +kernel
theorem dX3_hang_73 : decode cX3_hang 73 = .ok (.dup2, 1) := by decide +kernel
theorem dX3_hang_74 : decode cX3_hang 74 = .ok (.iaload, 1) := by decide +kernel
theorem dX3_hang_75 : decode cX3_hang 75 = .ok (.iconst 1, 1) := by decide +kernel
theorem dX3_hang_76 : decode cX3_hang 76 = .ok (.iload_n 1, 1) := by decide +kernel
theorem dX3_hang_77 : decode cX3_hang 77 = .ok (.ishl, 1) := by decide +kernel
theorem dX3_hang_78 : decode cX3_hang 78 = .ok (.ior, 1) := by decide +kernel
theorem dX3_hang_79 : decode cX3_hang 79 = .ok (.iastore, 1) := by decide +kernel
theorem dX3_hang_80 : decode cX3_hang 80 = .ok (.return_, 1) := by decide +kernel
theorem dX3_lesserHall_0 : decode cX3_lesserHall 0 = .ok (.aload_n 0, 1) := by decide +kernel
theorem dX3_lesserHall_1 : decode cX3_lesserHall 1 = .ok (.getfield 18, 3) := by decide +kernel
theorem dX3_lesserHall_4 : decode cX3_lesserHall 4 = .ok (.iload_n 1, 1) := by decide +kernel
theorem dX3_lesserHall_5 : decode cX3_lesserHall 5 = .ok (.iaload, 1) := by decide +kernel
theorem dX3_lesserHall_6 : decode cX3_lesserHall 6 = .ok (.ireturn, 1) := by decide +kernel
theorem dX3_greaterHall_0 : decode cX3_greaterHall 0 = .ok (.aload_n 0, 1) := by decide +kernel
theorem dX3_greaterHall_1 : decode cX3_greaterHall 1 = .ok (.getfield 21, 3) := by decide +kernel
theorem dX3_greaterHall_4 : decode cX3_greaterHall 4 = .ok (.iload_n 1, 1) := by decide +kernel
theorem dX3_greaterHall_5 : decode cX3_greaterHall 5 = .ok (.iaload, 1) := by decide +kernel
theorem dX3_greaterHall_6 : decode cX3_greaterHall 6 = .ok (.ireturn, 1) := by decide +kernel
theorem dX3_joins_0 : decode cX3_joins 0 = .ok (.aload_n 0, 1) := by decide +kernel
theorem dX3_joins_1 : decode cX3_joins 1 = .ok (.getfield 18, 3) := by decide +kernel
theorem dX3_joins_4 : decode cX3_joins 4 = .ok (.iload_n 1, 1) := by decide +kernel
theorem dX3_joins_5 : decode cX3_joins 5 = .ok (.iaload, 1) := by decide +kernel
theorem dX3_joins_6 : decode cX3_joins 6 = .ok (.iload_n 2, 1) := by decide +kernel
theorem dX3_joins_7 : decode cX3_joins 7 = .ok (.if_icmp .eq 13, 3) := by decide +kernel
theorem dX3_joins_10 : decode cX3_joins 10 = .ok (.aload_n 0, 1) := by decide +kernel
theorem dX3_joins_11 : decode cX3_joins 11 = .ok (.getfield 21, 3) := by decide +kernel
theorem dX3_joins_14 : decode cX3_joins 14 = .ok (.iload_n 1, 1) := by decide +kernel
theorem dX3_joins_15 : decode cX3_joins 15 = .ok (.iaload, 1) := by decide +kernel
theorem dX3_joins_16 : decode cX3_joins 16 = .ok (.iload_n 2, 1) := by decide +kernel
theorem dX3_joins_17 : decode cX3_joins 17 = .ok (.if_icmp .ne 7, 3) := by decide +kernel
theorem dX3_joins_20 : decode cX3_joins 20 = .ok (.iconst 1, 1) := by decide +kernel
theorem dX3_joins_21 : decode cX3_joins 21 = .ok (.goto 4, 3) := by decide +kernel
theorem dX3_joins_24 : decode cX3_joins 24 = .ok (.iconst 0, 1) := by decide +kernel
theorem dX3_joins_25 : decode cX3_joins 25 = .ok (.ireturn, 1) := by decide +kernel
theorem dX3_otherHall_0 : decode cX3_otherHall 0 = .ok (.aload_n 0, 1) := by decide +kernel
theorem dX3_otherHall_1 : decode cX3_otherHall 1 = .ok (.getfield 18, 3) := by decide +kernel
theorem dX3_otherHall_4 : decode cX3_otherHall 4 = .ok (.iload_n 1, 1) := by decide +kernel
theorem dX3_otherHall_5 : decode cX3_otherHall 5 = .ok (.iaload, 1) := by decide +kernel
theorem dX3_otherHall_6 : decode cX3_otherHall 6 = .ok (.iload_n 2, 1) := by decide +kernel
theorem dX3_otherHall_7 : decode cX3_otherHall 7 = .ok (.if_icmp .ne 12, 3) := by decide +kernel
theorem dX3_otherHall_10 : decode cX3_otherHall 10 = .ok (.aload_n 0, 1) := by decide +kernel
theorem dX3_otherHall_11 : decode cX3_otherHall 11 = .ok (.getfield 21, 3) := by decide +kernel
theorem dX3_otherHall_14 : decode cX3_otherHall 14 = .ok (.iload_n 1, 1) := by decide +kernel
theorem dX3_otherHall_15 : decode cX3_otherHall 15 = .ok (.iaload, 1) := by decide +kernel
theorem dX3_otherHall_16 : decode cX3_otherHall 16 = .ok (.goto 9, 3) := by decide +kernel
theorem dX3_otherHall_19 : decode cX3_otherHall 19 = .ok (.aload_n 0, 1) := by decide +kernel
theorem dX3_otherHall_20 : decode cX3_otherHall 20 = .ok (.getfield 18, 3) := by decide +kernel
theorem dX3_otherHall_23 : decode cX3_otherHall 23 = .ok (.iload_n 1, 1) := by decide +kernel
theorem dX3_otherHall_24 : decode cX3_otherHall 24 = .ok (.iaload, 1) := by decide +kernel
theorem dX3_otherHall_25 : decode cX3_otherHall 25 = .ok (.ireturn, 1) := by decide +kernel
theorem dX3_doorsOf_0 : decode cX3_doorsOf 0 = .ok (.aload_n 0, 1) := by decide +kernel
theorem dX3_doorsOf_1 : decode cX3_doorsOf 1 = .ok (.getfield 24, 3) := by decide +kernel
theorem dX3_doorsOf_4 : decode cX3_doorsOf 4 = .ok (.iload_n 1, 1) := by decide +kernel
theorem dX3_doorsOf_5 : decode cX3_doorsOf 5 = .ok (.iaload, 1) := by decide +kernel
theorem dX3_doorsOf_6 : decode cX3_doorsOf 6 = .ok (.ireturn, 1) := by decide +kernel
theorem dX3_cordOf_0 : decode cX3_cordOf 0 = .ok (.iload_n 2, 1) := by decide +kernel
theorem dX3_cordOf_1 : decode cX3_cordOf 1 = .ok (.ifCond .eq 12, 3) := by decide +kernel
theorem dX3_cordOf_4 : decode cX3_cordOf 4 = .ok (.aload_n 0, 1) := by decide +kernel
theorem dX3_cordOf_5 : decode cX3_cordOf 5 = .ok (.getfield 15, 3) := by decide +kernel
theorem dX3_cordOf_8 : decode cX3_cordOf 8 = .ok (.iload_n 1, 1) := by decide +kernel
theorem dX3_cordOf_9 : decode cX3_cordOf 9 = .ok (.iaload, 1) := by decide +kernel
theorem dX3_cordOf_10 : decode cX3_cordOf 10 = .ok (.goto 9, 3) := by decide +kernel
theorem dX3_cordOf_13 : decode cX3_cordOf 13 = .ok (.aload_n 0, 1) := by decide +kernel
theorem dX3_cordOf_14 : decode cX3_cordOf 14 = .ok (.getfield 9, 3) := by decide +kernel
theorem dX3_cordOf_17 : decode cX3_cordOf 17 = .ok (.iload_n 1, 1) := by decide +kernel
theorem dX3_cordOf_18 : decode cX3_cordOf 18 = .ok (.iaload, 1) := by decide +kernel
theorem dX3_cordOf_19 : decode cX3_cordOf 19 = .ok (.ireturn, 1) := by decide +kernel
theorem dX3_layCord_0 : decode cX3_layCord 0 = .ok (.iload_n 2, 1) := by decide +kernel
theorem dX3_layCord_1 : decode cX3_layCord 1 = .ok (.ifCond .eq 13, 3) := by decide +kernel
theorem dX3_layCord_4 : decode cX3_layCord 4 = .ok (.aload_n 0, 1) := by decide +kernel
theorem dX3_layCord_5 : decode cX3_layCord 5 = .ok (.getfield 15, 3) := by decide +kernel
theorem dX3_layCord_8 : decode cX3_layCord 8 = .ok (.iload_n 1, 1) := by decide +kernel
theorem dX3_layCord_9 : decode cX3_layCord 9 = .ok (.iload_n 3, 1) := by decide +kernel
theorem dX3_layCord_10 : decode cX3_layCord 10 = .ok (.iastore, 1) := by decide +kernel
theorem dX3_layCord_11 : decode cX3_layCord 11 = .ok (.goto 10, 3) := by decide +kernel
theorem dX3_layCord_14 : decode cX3_layCord 14 = .ok (.aload_n 0, 1) := by decide +kernel
theorem dX3_layCord_15 : decode cX3_layCord 15 = .ok (.getfield 9, 3) := by decide +kernel
theorem dX3_layCord_18 : decode cX3_layCord 18 = .ok (.iload_n 1, 1) := by decide +kernel
theorem dX3_layCord_19 : decode cX3_layCord 19 = .ok (.iload_n 3, 1) := by decide +kernel
theorem dX3_layCord_20 : decode cX3_layCord 20 = .ok (.iastore, 1) := by decide +kernel
theorem dX3_layCord_21 : decode cX3_layCord 21 = .ok (.return_, 1) := by decide +kernel
theorem dX3_targetsOf_0 : decode cX3_targetsOf 0 = .ok (.iconst 1, 1) := by decide +kernel
theorem dX3_targetsOf_1 : decode cX3_targetsOf 1 = .ok (.aload_n 0, 1) := by decide +kernel
theorem dX3_targetsOf_2 : decode cX3_targetsOf 2 = .ok (.getfield 9, 3) := by decide +kernel
theorem dX3_targetsOf_5 : decode cX3_targetsOf 5 = .ok (.iload_n 1, 1) := by decide +kernel
theorem dX3_targetsOf_6 : decode cX3_targetsOf 6 = .ok (.iaload, 1) := by decide +kernel
theorem dX3_targetsOf_7 : decode cX3_targetsOf 7 = .ok (.ishl, 1) := by decide +kernel
theorem dX3_targetsOf_8 : decode cX3_targetsOf 8 = .ok (.iconst 1, 1) := by decide +kernel
theorem dX3_targetsOf_9 : decode cX3_targetsOf 9 = .ok (.aload_n 0, 1) := by decide +kernel
theorem dX3_targetsOf_10 : decode cX3_targetsOf 10 = .ok (.getfield 15, 3) := by decide +kernel
theorem dX3_targetsOf_13 : decode cX3_targetsOf 13 = .ok (.iload_n 1, 1) := by decide +kernel
theorem dX3_targetsOf_14 : decode cX3_targetsOf 14 = .ok (.iaload, 1) := by decide +kernel
theorem dX3_targetsOf_15 : decode cX3_targetsOf 15 = .ok (.ishl, 1) := by decide +kernel
theorem dX3_targetsOf_16 : decode cX3_targetsOf 16 = .ok (.ior, 1) := by decide +kernel
theorem dX3_targetsOf_17 : decode cX3_targetsOf 17 = .ok (.sipush 1023, 3) := by decide +kernel
theorem dX3_targetsOf_20 : decode cX3_targetsOf 20 = .ok (.iand, 1) := by decide +kernel
theorem dX3_targetsOf_21 : decode cX3_targetsOf 21 = .ok (.ireturn, 1) := by decide +kernel
theorem dX3_heldBy_0 : decode cX3_heldBy 0 = .ok (.iconst 0, 1) := by decide +kernel
theorem dX3_heldBy_1 : decode cX3_heldBy 1 = .ok (.istore_n 2, 1) := by decide +kernel
theorem dX3_heldBy_2 : decode cX3_heldBy 2 = .ok (.iconst 0, 1) := by decide +kernel
theorem dX3_heldBy_3 : decode cX3_heldBy 3 = .ok (.istore_n 3, 1) := by decide +kernel
theorem dX3_heldBy_4 : decode cX3_heldBy 4 = .ok (.iload_n 3, 1) := by decide +kernel
theorem dX3_heldBy_5 : decode cX3_heldBy 5 = .ok (.bipush 10, 2) := by decide +kernel
theorem dX3_heldBy_7 : decode cX3_heldBy 7 = .ok (.if_icmp .ge 25, 3) := by decide +kernel
theorem dX3_heldBy_10 : decode cX3_heldBy 10 = .ok (.iload_n 1, 1) := by decide +kernel
theorem dX3_heldBy_11 : decode cX3_heldBy 11 = .ok (.iload_n 3, 1) := by decide +kernel
theorem dX3_heldBy_12 : decode cX3_heldBy 12 = .ok (.invokestatic 53, 3) := by decide +kernel
theorem dX3_heldBy_15 : decode cX3_heldBy 15 = .ok (.ifCond .eq 11, 3) := by decide +kernel
theorem dX3_heldBy_18 : decode cX3_heldBy 18 = .ok (.iload_n 2, 1) := by decide +kernel
theorem dX3_heldBy_19 : decode cX3_heldBy 19 = .ok (.aload_n 0, 1) := by decide +kernel
theorem dX3_heldBy_20 : decode cX3_heldBy 20 = .ok (.iload_n 3, 1) := by decide +kernel
theorem dX3_heldBy_21 : decode cX3_heldBy 21 = .ok (.invokevirtual 57, 3) := by decide +kernel
theorem dX3_heldBy_24 : decode cX3_heldBy 24 = .ok (.ior, 1) := by decide +kernel
theorem dX3_heldBy_25 : decode cX3_heldBy 25 = .ok (.istore_n 2, 1) := by decide +kernel
theorem dX3_heldBy_26 : decode cX3_heldBy 26 = .ok (.iinc 3 1, 3) := by decide +kernel
theorem dX3_heldBy_29 : decode cX3_heldBy 29 = .ok (.goto (-25), 3) := by decide +kernel
theorem dX3_heldBy_32 : decode cX3_heldBy 32 = .ok (.iload_n 2, 1) := by decide +kernel
theorem dX3_heldBy_33 : decode cX3_heldBy 33 = .ok (.ireturn, 1) := by decide +kernel
theorem dX3_cordsOf_0 : decode cX3_cordsOf 0 = .ok (.iconst 0, 1) := by decide +kernel
theorem dX3_cordsOf_1 : decode cX3_cordsOf 1 = .ok (.istore_n 2, 1) := by decide +kernel
theorem dX3_cordsOf_2 : decode cX3_cordsOf 2 = .ok (.iconst 0, 1) := by decide +kernel
theorem dX3_cordsOf_3 : decode cX3_cordsOf 3 = .ok (.istore_n 3, 1) := by decide +kernel
theorem dX3_cordsOf_4 : decode cX3_cordsOf 4 = .ok (.iload_n 3, 1) := by decide +kernel
theorem dX3_cordsOf_5 : decode cX3_cordsOf 5 = .ok (.bipush 10, 2) := by decide +kernel
theorem dX3_cordsOf_7 : decode cX3_cordsOf 7 = .ok (.if_icmp .ge 28, 3) := by decide +kernel
theorem dX3_cordsOf_10 : decode cX3_cordsOf 10 = .ok (.iload_n 1, 1) := by decide +kernel
theorem dX3_cordsOf_11 : decode cX3_cordsOf 11 = .ok (.iload_n 3, 1) := by decide +kernel
theorem dX3_cordsOf_12 : decode cX3_cordsOf 12 = .ok (.invokestatic 53, 3) := by decide +kernel
theorem dX3_cordsOf_15 : decode cX3_cordsOf 15 = .ok (.ifCond .eq 14, 3) := by decide +kernel
theorem dX3_cordsOf_18 : decode cX3_cordsOf 18 = .ok (.iload_n 2, 1) := by decide +kernel
theorem dX3_cordsOf_19 : decode cX3_cordsOf 19 = .ok (.aload_n 0, 1) := by decide +kernel
theorem dX3_cordsOf_20 : decode cX3_cordsOf 20 = .ok (.iload_n 3, 1) := by decide +kernel
theorem dX3_cordsOf_21 : decode cX3_cordsOf 21 = .ok (.invokevirtual 57, 3) := by decide +kernel
theorem dX3_cordsOf_24 : decode cX3_cordsOf 24 = .ok (.invokestatic 61, 3) := by decide +kernel
theorem dX3_cordsOf_27 : decode cX3_cordsOf 27 = .ok (.iadd, 1) := by decide +kernel
theorem dX3_cordsOf_28 : decode cX3_cordsOf 28 = .ok (.istore_n 2, 1) := by decide +kernel
theorem dX3_cordsOf_29 : decode cX3_cordsOf 29 = .ok (.iinc 3 1, 3) := by decide +kernel
theorem dX3_cordsOf_32 : decode cX3_cordsOf 32 = .ok (.goto (-28), 3) := by decide +kernel
theorem dX3_cordsOf_35 : decode cX3_cordsOf 35 = .ok (.iload_n 2, 1) := by decide +kernel
theorem dX3_cordsOf_36 : decode cX3_cordsOf 36 = .ok (.ireturn, 1) := by decide +kernel
theorem dX3_cordsTo_0 : decode cX3_cordsTo 0 = .ok (.iconst 0, 1) := by decide +kernel
theorem dX3_cordsTo_1 : decode cX3_cordsTo 1 = .ok (.istore_n 3, 1) := by decide +kernel
theorem dX3_cordsTo_2 : decode cX3_cordsTo 2 = .ok (.iconst 0, 1) := by decide +kernel
theorem dX3_cordsTo_3 : decode cX3_cordsTo 3 = .ok (.istore 4, 2) := by decide +kernel
theorem dX3_cordsTo_5 : decode cX3_cordsTo 5 = .ok (.iload 4, 2) := by decide +kernel
theorem dX3_cordsTo_7 : decode cX3_cordsTo 7 = .ok (.bipush 10, 2) := by decide +kernel
theorem dX3_cordsTo_9 : decode cX3_cordsTo 9 = .ok (.if_icmp .ge 34, 3) := by decide +kernel
theorem dX3_cordsTo_12 : decode cX3_cordsTo 12 = .ok (.iload_n 2, 1) := by decide +kernel
theorem dX3_cordsTo_13 : decode cX3_cordsTo 13 = .ok (.iload 4, 2) := by decide +kernel
theorem dX3_cordsTo_15 : decode cX3_cordsTo 15 = .ok (.invokestatic 53, 3) := by decide +kernel
theorem dX3_cordsTo_18 : decode cX3_cordsTo 18 = .ok (.ifCond .eq 19, 3) := by decide +kernel
theorem dX3_cordsTo_21 : decode cX3_cordsTo 21 = .ok (.aload_n 0, 1) := by decide +kernel
theorem dX3_cordsTo_22 : decode cX3_cordsTo 22 = .ok (.iload 4, 2) := by decide +kernel
theorem dX3_cordsTo_24 : decode cX3_cordsTo 24 = .ok (.invokevirtual 57, 3) := by decide +kernel
theorem dX3_cordsTo_27 : decode cX3_cordsTo 27 = .ok (.iload_n 1, 1) := by decide +kernel
theorem dX3_cordsTo_28 : decode cX3_cordsTo 28 = .ok (.invokestatic 53, 3) := by decide +kernel
theorem dX3_cordsTo_31 : decode cX3_cordsTo 31 = .ok (.ifCond .eq 6, 3) := by decide +kernel
theorem dX3_cordsTo_34 : decode cX3_cordsTo 34 = .ok (.iinc 3 1, 3) := by decide +kernel
theorem dX3_cordsTo_37 : decode cX3_cordsTo 37 = .ok (.iinc 4 1, 3) := by decide +kernel
theorem dX3_cordsTo_40 : decode cX3_cordsTo 40 = .ok (.goto (-35), 3) := by decide +kernel
theorem dX3_cordsTo_43 : decode cX3_cordsTo 43 = .ok (.iload_n 3, 1) := by decide +kernel
theorem dX3_cordsTo_44 : decode cX3_cordsTo 44 = .ok (.ireturn, 1) := by decide +kernel
theorem dX3_pairsOfDoors_0 : decode cX3_pairsOfDoors 0 = .ok (.iconst 0, 1) := by decide +kernel
theorem dX3_pairsOfDoors_1 : decode cX3_pairsOfDoors 1 = .ok (.istore_n 1, 1) := by decide +kernel
theorem dX3_pairsOfDoors_2 : decode cX3_pairsOfDoors 2 = .ok (.iconst 0, 1) := by decide +kernel
theorem dX3_pairsOfDoors_3 : decode cX3_pairsOfDoors 3 = .ok (.istore_n 2, 1) := by decide +kernel
theorem dX3_pairsOfDoors_4 : decode cX3_pairsOfDoors 4 = .ok (.iload_n 2, 1) := by decide +kernel
theorem dX3_pairsOfDoors_5 : decode cX3_pairsOfDoors 5 = .ok (.bipush 10, 2) := by decide +kernel
theorem dX3_pairsOfDoors_7 : decode cX3_pairsOfDoors 7 = .ok (.if_icmp .ge 52, 3) := by decide +kernel
theorem dX3_pairsOfDoors_10 : decode cX3_pairsOfDoors 10 = .ok (.iload_n 2, 1) := by decide +kernel
theorem dX3_pairsOfDoors_11 : decode cX3_pairsOfDoors 11 = .ok (.iconst 1, 1) := by decide +kernel
theorem dX3_pairsOfDoors_12 : decode cX3_pairsOfDoors 12 = .ok (.iadd, 1) := by decide +kernel
theorem dX3_pairsOfDoors_13 : decode cX3_pairsOfDoors 13 = .ok (.istore_n 3, 1) := by decide +kernel
theorem dX3_pairsOfDoors_14 : decode cX3_pairsOfDoors 14 = .ok (.iload_n 3, 1) := by decide +kernel
theorem dX3_pairsOfDoors_15 : decode cX3_pairsOfDoors 15 = .ok (.bipush 10, 2) := by decide +kernel
theorem dX3_pairsOfDoors_17 : decode cX3_pairsOfDoors 17 = .ok (.if_icmp .ge 36, 3) := by decide +kernel
theorem dX3_pairsOfDoors_20 : decode cX3_pairsOfDoors 20 = .ok (.aload_n 0, 1) := by decide +kernel
theorem dX3_pairsOfDoors_21 : decode cX3_pairsOfDoors 21 = .ok (.iload_n 2, 1) := by decide +kernel
theorem dX3_pairsOfDoors_22 : decode cX3_pairsOfDoors 22 = .ok (.invokevirtual 57, 3) := by decide +kernel
theorem dX3_pairsOfDoors_25 : decode cX3_pairsOfDoors 25 = .ok (.iload_n 3, 1) := by decide +kernel
theorem dX3_pairsOfDoors_26 : decode cX3_pairsOfDoors 26 = .ok (.invokestatic 53, 3) := by decide +kernel
theorem dX3_pairsOfDoors_29 : decode cX3_pairsOfDoors 29 = .ok (.ifCond .eq 18, 3) := by decide +kernel
theorem dX3_pairsOfDoors_32 : decode cX3_pairsOfDoors 32 = .ok (.aload_n 0, 1) := by decide +kernel
theorem dX3_pairsOfDoors_33 : decode cX3_pairsOfDoors 33 = .ok (.iload_n 3, 1) := by decide +kernel
theorem dX3_pairsOfDoors_34 : decode cX3_pairsOfDoors 34 = .ok (.invokevirtual 57, 3) := by decide +kernel
theorem dX3_pairsOfDoors_37 : decode cX3_pairsOfDoors 37 = .ok (.iload_n 2, 1) := by decide +kernel
theorem dX3_pairsOfDoors_38 : decode cX3_pairsOfDoors 38 = .ok (.invokestatic 53, 3) := by decide +kernel
theorem dX3_pairsOfDoors_41 : decode cX3_pairsOfDoors 41 = .ok (.ifCond .eq 6, 3) := by decide +kernel
theorem dX3_pairsOfDoors_44 : decode cX3_pairsOfDoors 44 = .ok (.iinc 1 1, 3) := by decide +kernel
theorem dX3_pairsOfDoors_47 : decode cX3_pairsOfDoors 47 = .ok (.iinc 3 1, 3) := by decide +kernel
theorem dX3_pairsOfDoors_50 : decode cX3_pairsOfDoors 50 = .ok (.goto (-36), 3) := by decide +kernel
theorem dX3_pairsOfDoors_53 : decode cX3_pairsOfDoors 53 = .ok (.iinc 2 1, 3) := by decide +kernel
theorem dX3_pairsOfDoors_56 : decode cX3_pairsOfDoors 56 = .ok (.goto (-52), 3) := by decide +kernel
theorem dX3_pairsOfDoors_59 : decode cX3_pairsOfDoors 59 = .ok (.iload_n 1, 1) := by decide +kernel
theorem dX3_pairsOfDoors_60 : decode cX3_pairsOfDoors 60 = .ok (.ireturn, 1) := by decide +kernel
theorem dX3_canBeOpen_0 : decode cX3_canBeOpen 0 = .ok (.aload_n 0, 1) := by decide +kernel
theorem dX3_canBeOpen_1 : decode cX3_canBeOpen 1 = .ok (.iload_n 1, 1) := by decide +kernel
theorem dX3_canBeOpen_2 : decode cX3_canBeOpen 2 = .ok (.invokevirtual 66, 3) := by decide +kernel
theorem dX3_canBeOpen_5 : decode cX3_canBeOpen 5 = .ok (.iload_n 1, 1) := by decide +kernel
theorem dX3_canBeOpen_6 : decode cX3_canBeOpen 6 = .ok (.iand, 1) := by decide +kernel
theorem dX3_canBeOpen_7 : decode cX3_canBeOpen 7 = .ok (.ifCond .eq 5, 3) := by decide +kernel
theorem dX3_canBeOpen_10 : decode cX3_canBeOpen 10 = .ok (.iconst 0, 1) := by decide +kernel
theorem dX3_canBeOpen_11 : decode cX3_canBeOpen 11 = .ok (.ireturn, 1) := by decide +kernel
theorem dX3_canBeOpen_12 : decode cX3_canBeOpen 12 = .ok (.iconst 0, 1) := by decide +kernel
theorem dX3_canBeOpen_13 : decode cX3_canBeOpen 13 = .ok (.istore_n 2, 1) := by decide +kernel
theorem dX3_canBeOpen_14 : decode cX3_canBeOpen 14 = .ok (.iload_n 2, 1) := by decide +kernel
theorem dX3_canBeOpen_15 : decode cX3_canBeOpen 15 = .ok (.bipush 6, 2) := by decide +kernel
theorem dX3_canBeOpen_17 : decode cX3_canBeOpen 17 = .ok (.if_icmp .ge 20, 3) := by decide +kernel
theorem dX3_canBeOpen_20 : decode cX3_canBeOpen 20 = .ok (.aload_n 0, 1) := by decide +kernel
theorem dX3_canBeOpen_21 : decode cX3_canBeOpen 21 = .ok (.iload_n 2, 1) := by decide +kernel
theorem dX3_canBeOpen_22 : decode cX3_canBeOpen 22 = .ok (.iload_n 1, 1) := by decide +kernel
theorem dX3_canBeOpen_23 : decode cX3_canBeOpen 23 = .ok (.invokevirtual 69, 3) := by decide +kernel
theorem dX3_canBeOpen_26 : decode cX3_canBeOpen 26 = .ok (.ifCond .eq 5, 3) := by decide +kernel
theorem dX3_canBeOpen_29 : decode cX3_canBeOpen 29 = .ok (.iconst 0, 1) := by decide +kernel
theorem dX3_canBeOpen_30 : decode cX3_canBeOpen 30 = .ok (.ireturn, 1) := by decide +kernel
theorem dX3_canBeOpen_31 : decode cX3_canBeOpen 31 = .ok (.iinc 2 1, 3) := by decide +kernel
theorem dX3_canBeOpen_34 : decode cX3_canBeOpen 34 = .ok (.goto (-20), 3) := by decide +kernel
theorem dX3_canBeOpen_37 : decode cX3_canBeOpen 37 = .ok (.iconst 1, 1) := by decide +kernel
theorem dX3_canBeOpen_38 : decode cX3_canBeOpen 38 = .ok (.ireturn, 1) := by decide +kernel
theorem dX3_hasTooMany_0 : decode cX3_hasTooMany 0 = .ok (.aload_n 0, 1) := by decide +kernel
theorem dX3_hasTooMany_1 : decode cX3_hasTooMany 1 = .ok (.getfield 24, 3) := by decide +kernel
theorem dX3_hasTooMany_4 : decode cX3_hasTooMany 4 = .ok (.iload_n 1, 1) := by decide +kernel
theorem dX3_hasTooMany_5 : decode cX3_hasTooMany 5 = .ok (.iaload, 1) := by decide +kernel
theorem dX3_hasTooMany_6 : decode cX3_hasTooMany 6 = .ok (.iload_n 2, 1) := by decide +kernel
theorem dX3_hasTooMany_7 : decode cX3_hasTooMany 7 = .ok (.iand, 1) := by decide +kernel
theorem dX3_hasTooMany_8 : decode cX3_hasTooMany 8 = .ok (.invokestatic 61, 3) := by decide +kernel
theorem dX3_hasTooMany_11 : decode cX3_hasTooMany 11 = .ok (.aload_n 0, 1) := by decide +kernel
theorem dX3_hasTooMany_12 : decode cX3_hasTooMany 12 = .ok (.getfield 27, 3) := by decide +kernel
theorem dX3_hasTooMany_15 : decode cX3_hasTooMany 15 = .ok (.if_icmp .le 7, 3) := by decide +kernel
theorem dX3_hasTooMany_18 : decode cX3_hasTooMany 18 = .ok (.iconst 1, 1) := by decide +kernel
theorem dX3_hasTooMany_19 : decode cX3_hasTooMany 19 = .ok (.goto 4, 3) := by decide +kernel
theorem dX3_hasTooMany_22 : decode cX3_hasTooMany 22 = .ok (.iconst 0, 1) := by decide +kernel
theorem dX3_hasTooMany_23 : decode cX3_hasTooMany 23 = .ok (.ireturn, 1) := by decide +kernel
theorem dX3_afterOpening_0 : decode cX3_afterOpening 0 = .ok (.aload_n 0, 1) := by decide +kernel
theorem dX3_afterOpening_1 : decode cX3_afterOpening 1 = .ok (.aload_n 0, 1) := by decide +kernel
theorem dX3_afterOpening_2 : decode cX3_afterOpening 2 = .ok (.iload_n 1, 1) := by decide +kernel
theorem dX3_afterOpening_3 : decode cX3_afterOpening 3 = .ok (.iload_n 2, 1) := by decide +kernel
theorem dX3_afterOpening_4 : decode cX3_afterOpening 4 = .ok (.invokevirtual 72, 3) := by decide +kernel
theorem dX3_afterOpening_7 : decode cX3_afterOpening 7 = .ok (.iload_n 2, 1) := by decide +kernel
theorem dX3_afterOpening_8 : decode cX3_afterOpening 8 = .ok (.invokevirtual 75, 3) := by decide +kernel
theorem dX3_afterOpening_11 : decode cX3_afterOpening 11 = .ok (.ireturn, 1) := by decide +kernel
theorem dX3_afterCords_0 : decode cX3_afterCords 0 = .ok (.iload_n 1, 1) := by decide +kernel
theorem dX3_afterCords_1 : decode cX3_afterCords 1 = .ok (.iconst 1, 1) := by decide +kernel
theorem dX3_afterCords_2 : decode cX3_afterCords 2 = .ok (.iload_n 2, 1) := by decide +kernel
theorem dX3_afterCords_3 : decode cX3_afterCords 3 = .ok (.ishl, 1) := by decide +kernel
theorem dX3_afterCords_4 : decode cX3_afterCords 4 = .ok (.ior, 1) := by decide +kernel
theorem dX3_afterCords_5 : decode cX3_afterCords 5 = .ok (.aload_n 0, 1) := by decide +kernel
theorem dX3_afterCords_6 : decode cX3_afterCords 6 = .ok (.iload_n 2, 1) := by decide +kernel
theorem dX3_afterCords_7 : decode cX3_afterCords 7 = .ok (.invokevirtual 57, 3) := by decide +kernel
theorem dX3_afterCords_10 : decode cX3_afterCords 10 = .ok (.iconst (-1), 1) := by decide +kernel
theorem dX3_afterCords_11 : decode cX3_afterCords 11 = .ok (.ixor, 1) := by decide +kernel
theorem dX3_afterCords_12 : decode cX3_afterCords 12 = .ok (.iand, 1) := by decide +kernel
theorem dX3_afterCords_13 : decode cX3_afterCords 13 = .ok (.ireturn, 1) := by decide +kernel
theorem dX3_afterDrafts_0 : decode cX3_afterDrafts 0 = .ok (.iload_n 1, 1) := by decide +kernel
theorem dX3_afterDrafts_1 : decode cX3_afterDrafts 1 = .ok (.istore_n 3, 1) := by decide +kernel
theorem dX3_afterDrafts_2 : decode cX3_afterDrafts 2 = .ok (.iconst 0, 1) := by decide +kernel
theorem dX3_afterDrafts_3 : decode cX3_afterDrafts 3 = .ok (.istore 4, 2) := by decide +kernel
theorem dX3_afterDrafts_5 : decode cX3_afterDrafts 5 = .ok (.iload 4, 2) := by decide +kernel
theorem dX3_afterDrafts_7 : decode cX3_afterDrafts 7 = .ok (.bipush 6, 2) := by decide +kernel
theorem dX3_afterDrafts_9 : decode cX3_afterDrafts 9 = .ok (.if_icmp .ge 65, 3) := by decide +kernel
theorem dX3_afterDrafts_12 : decode cX3_afterDrafts 12 = .ok (.iconst 0, 1) := by decide +kernel
theorem dX3_afterDrafts_13 : decode cX3_afterDrafts 13 = .ok (.istore 5, 2) := by decide +kernel
theorem dX3_afterDrafts_15 : decode cX3_afterDrafts 15 = .ok (.iload 5, 2) := by decide +kernel
theorem dX3_afterDrafts_17 : decode cX3_afterDrafts 17 = .ok (.bipush 10, 2) := by decide +kernel
theorem dX3_afterDrafts_19 : decode cX3_afterDrafts 19 = .ok (.if_icmp .ge 49, 3) := by decide +kernel
theorem dX3_afterDrafts_22 : decode cX3_afterDrafts 22 = .ok (.aload_n 0, 1) := by decide +kernel
theorem dX3_afterDrafts_23 : decode cX3_afterDrafts 23 = .ok (.iload 4, 2) := by decide +kernel
theorem dX3_afterDrafts_25 : decode cX3_afterDrafts 25 = .ok (.iload_n 3, 1) := by decide +kernel
theorem dX3_afterDrafts_26 : decode cX3_afterDrafts 26 = .ok (.invokevirtual 69, 3) := by decide +kernel
theorem dX3_afterDrafts_29 : decode cX3_afterDrafts 29 = .ok (.ifCond .eq 39, 3) := by decide +kernel
theorem dX3_afterDrafts_32 : decode cX3_afterDrafts 32 = .ok (.iload_n 3, 1) := by decide +kernel
theorem dX3_afterDrafts_33 : decode cX3_afterDrafts 33 = .ok (.aload_n 0, 1) := by decide +kernel
theorem dX3_afterDrafts_34 : decode cX3_afterDrafts 34 = .ok (.getfield 24, 3) := by decide +kernel
theorem dX3_afterDrafts_37 : decode cX3_afterDrafts 37 = .ok (.iload 4, 2) := by decide +kernel
theorem dX3_afterDrafts_39 : decode cX3_afterDrafts 39 = .ok (.iaload, 1) := by decide +kernel
theorem dX3_afterDrafts_40 : decode cX3_afterDrafts 40 = .ok (.iand, 1) := by decide +kernel
theorem dX3_afterDrafts_41 : decode cX3_afterDrafts 41 = .ok (.iload_n 2, 1) := by decide +kernel
theorem dX3_afterDrafts_42 : decode cX3_afterDrafts 42 = .ok (.invokestatic 41, 3) := by decide +kernel
theorem dX3_afterDrafts_45 : decode cX3_afterDrafts 45 = .ok (.istore 6, 2) := by decide +kernel
theorem dX3_afterDrafts_47 : decode cX3_afterDrafts 47 = .ok (.iload 6, 2) := by decide +kernel
theorem dX3_afterDrafts_49 : decode cX3_afterDrafts 49 = .ok (.iload 6, 2) := by decide +kernel
theorem dX3_afterDrafts_51 : decode cX3_afterDrafts 51 = .ok (.ineg, 1) := by decide +kernel
theorem dX3_afterDrafts_52 : decode cX3_afterDrafts 52 = .ok (.iand, 1) := by decide +kernel
theorem dX3_afterDrafts_53 : decode cX3_afterDrafts 53 = .ok (.istore 7, 2) := by decide +kernel
theorem dX3_afterDrafts_55 : decode cX3_afterDrafts 55 = .ok (.iload_n 3, 1) := by decide +kernel
theorem dX3_afterDrafts_56 : decode cX3_afterDrafts 56 = .ok (.iload 7, 2) := by decide +kernel
theorem dX3_afterDrafts_58 : decode cX3_afterDrafts 58 = .ok (.iconst (-1), 1) := by decide +kernel
theorem dX3_afterDrafts_59 : decode cX3_afterDrafts 59 = .ok (.ixor, 1) := by decide +kernel
theorem dX3_afterDrafts_60 : decode cX3_afterDrafts 60 = .ok (.iand, 1) := by decide +kernel
theorem dX3_afterDrafts_61 : decode cX3_afterDrafts 61 = .ok (.istore_n 3, 1) := by decide +kernel
theorem dX3_afterDrafts_62 : decode cX3_afterDrafts 62 = .ok (.iinc 5 1, 3) := by decide +kernel
theorem dX3_afterDrafts_65 : decode cX3_afterDrafts 65 = .ok (.goto (-50), 3) := by decide +kernel
theorem dX3_afterDrafts_68 : decode cX3_afterDrafts 68 = .ok (.iinc 4 1, 3) := by decide +kernel
theorem dX3_afterDrafts_71 : decode cX3_afterDrafts 71 = .ok (.goto (-66), 3) := by decide +kernel
theorem dX3_afterDrafts_74 : decode cX3_afterDrafts 74 = .ok (.iload_n 3, 1) := by decide +kernel
theorem dX3_afterDrafts_75 : decode cX3_afterDrafts 75 = .ok (.ireturn, 1) := by decide +kernel
theorem dX3_hallsFrom_0 : decode cX3_hallsFrom 0 = .ok (.iconst 1, 1) := by decide +kernel
theorem dX3_hallsFrom_1 : decode cX3_hallsFrom 1 = .ok (.iload_n 1, 1) := by decide +kernel
theorem dX3_hallsFrom_2 : decode cX3_hallsFrom 2 = .ok (.ishl, 1) := by decide +kernel
theorem dX3_hallsFrom_3 : decode cX3_hallsFrom 3 = .ok (.istore_n 3, 1) := by decide +kernel
theorem dX3_hallsFrom_4 : decode cX3_hallsFrom 4 = .ok (.iconst 0, 1) := by decide +kernel
theorem dX3_hallsFrom_5 : decode cX3_hallsFrom 5 = .ok (.istore 4, 2) := by decide +kernel
theorem dX3_hallsFrom_7 : decode cX3_hallsFrom 7 = .ok (.iload 4, 2) := by decide +kernel
theorem dX3_hallsFrom_9 : decode cX3_hallsFrom 9 = .ok (.bipush 6, 2) := by decide +kernel
theorem dX3_hallsFrom_11 : decode cX3_hallsFrom 11 = .ok (.if_icmp .ge 67, 3) := by decide +kernel
theorem dX3_hallsFrom_14 : decode cX3_hallsFrom 14 = .ok (.iconst 0, 1) := by decide +kernel
theorem dX3_hallsFrom_15 : decode cX3_hallsFrom 15 = .ok (.istore 5, 2) := by decide +kernel
theorem dX3_hallsFrom_17 : decode cX3_hallsFrom 17 = .ok (.iload 5, 2) := by decide +kernel
theorem dX3_hallsFrom_19 : decode cX3_hallsFrom 19 = .ok (.bipush 10, 2) := by decide +kernel
theorem dX3_hallsFrom_21 : decode cX3_hallsFrom 21 = .ok (.if_icmp .ge 51, 3) := by decide +kernel
theorem dX3_hallsFrom_24 : decode cX3_hallsFrom 24 = .ok (.iconst 1, 1) := by decide +kernel
theorem dX3_hallsFrom_25 : decode cX3_hallsFrom 25 = .ok (.aload_n 0, 1) := by decide +kernel
theorem dX3_hallsFrom_26 : decode cX3_hallsFrom 26 = .ok (.getfield 18, 3) := by decide +kernel
theorem dX3_hallsFrom_29 : decode cX3_hallsFrom 29 = .ok (.iload 5, 2) := by decide +kernel
theorem dX3_hallsFrom_31 : decode cX3_hallsFrom 31 = .ok (.iaload, 1) := by decide +kernel
theorem dX3_hallsFrom_32 : decode cX3_hallsFrom 32 = .ok (.ishl, 1) := by decide +kernel
theorem dX3_hallsFrom_33 : decode cX3_hallsFrom 33 = .ok (.iconst 1, 1) := by decide +kernel
theorem dX3_hallsFrom_34 : decode cX3_hallsFrom 34 = .ok (.aload_n 0, 1) := by decide +kernel
theorem dX3_hallsFrom_35 : decode cX3_hallsFrom 35 = .ok (.getfield 21, 3) := by decide +kernel
theorem dX3_hallsFrom_38 : decode cX3_hallsFrom 38 = .ok (.iload 5, 2) := by decide +kernel
theorem dX3_hallsFrom_40 : decode cX3_hallsFrom 40 = .ok (.iaload, 1) := by decide +kernel
theorem dX3_hallsFrom_41 : decode cX3_hallsFrom 41 = .ok (.ishl, 1) := by decide +kernel
theorem dX3_hallsFrom_42 : decode cX3_hallsFrom 42 = .ok (.ior, 1) := by decide +kernel
theorem dX3_hallsFrom_43 : decode cX3_hallsFrom 43 = .ok (.istore 6, 2) := by decide +kernel
theorem dX3_hallsFrom_45 : decode cX3_hallsFrom 45 = .ok (.iload_n 2, 1) := by decide +kernel
theorem dX3_hallsFrom_46 : decode cX3_hallsFrom 46 = .ok (.iload 5, 2) := by decide +kernel
theorem dX3_hallsFrom_48 : decode cX3_hallsFrom 48 = .ok (.invokestatic 53, 3) := by decide +kernel
theorem dX3_hallsFrom_51 : decode cX3_hallsFrom 51 = .ok (.ifCond .eq 15, 3) := by decide +kernel
theorem dX3_hallsFrom_54 : decode cX3_hallsFrom 54 = .ok (.iload_n 3, 1) := by decide +kernel
theorem dX3_hallsFrom_55 : decode cX3_hallsFrom 55 = .ok (.iload 6, 2) := by decide +kernel
theorem dX3_hallsFrom_57 : decode cX3_hallsFrom 57 = .ok (.iand, 1) := by decide +kernel
theorem dX3_hallsFrom_58 : decode cX3_hallsFrom 58 = .ok (.ifCond .eq 8, 3) := by decide +kernel
theorem dX3_hallsFrom_61 : decode cX3_hallsFrom 61 = .ok (.iload_n 3, 1) := by decide +kernel
theorem dX3_hallsFrom_62 : decode cX3_hallsFrom 62 = .ok (.iload 6, 2) := by decide +kernel
theorem dX3_hallsFrom_64 : decode cX3_hallsFrom 64 = .ok (.ior, 1) := by decide +kernel
theorem dX3_hallsFrom_65 : decode cX3_hallsFrom 65 = .ok (.istore_n 3, 1) := by decide +kernel
theorem dX3_hallsFrom_66 : decode cX3_hallsFrom 66 = .ok (.iinc 5 1, 3) := by decide +kernel
theorem dX3_hallsFrom_69 : decode cX3_hallsFrom 69 = .ok (.goto (-52), 3) := by decide +kernel
theorem dX3_hallsFrom_72 : decode cX3_hallsFrom 72 = .ok (.iinc 4 1, 3) := by decide +kernel
theorem dX3_hallsFrom_75 : decode cX3_hallsFrom 75 = .ok (.goto (-68), 3) := by decide +kernel
theorem dX3_hallsFrom_78 : decode cX3_hallsFrom 78 = .ok (.iload_n 3, 1) := by decide +kernel
theorem dX3_hallsFrom_79 : decode cX3_hallsFrom 79 = .ok (.ireturn, 1) := by decide +kernel
theorem dX3_pairsOfHalls_0 : decode cX3_pairsOfHalls 0 = .ok (.iconst 0, 1) := by decide +kernel
theorem dX3_pairsOfHalls_1 : decode cX3_pairsOfHalls 1 = .ok (.istore_n 2, 1) := by decide +kernel
theorem dX3_pairsOfHalls_2 : decode cX3_pairsOfHalls 2 = .ok (.iconst 0, 1) := by decide +kernel
theorem dX3_pairsOfHalls_3 : decode cX3_pairsOfHalls 3 = .ok (.istore_n 3, 1) := by decide +kernel
theorem dX3_pairsOfHalls_4 : decode cX3_pairsOfHalls 4 = .ok (.iload_n 3, 1) := by decide +kernel
theorem dX3_pairsOfHalls_5 : decode cX3_pairsOfHalls 5 = .ok (.bipush 6, 2) := by decide +kernel
theorem dX3_pairsOfHalls_7 : decode cX3_pairsOfHalls 7 = .ok (.if_icmp .ge 23, 3) := by decide +kernel
theorem dX3_pairsOfHalls_10 : decode cX3_pairsOfHalls 10 = .ok (.iload_n 2, 1) := by decide +kernel
theorem dX3_pairsOfHalls_11 : decode cX3_pairsOfHalls 11 = .ok (.aload_n 0, 1) := by decide +kernel
theorem dX3_pairsOfHalls_12 : decode cX3_pairsOfHalls 12 = .ok (.iload_n 3, 1) := by decide +kernel
theorem dX3_pairsOfHalls_13 : decode cX3_pairsOfHalls 13 = .ok (.iload_n 1, 1) := by decide +kernel
theorem dX3_pairsOfHalls_14 : decode cX3_pairsOfHalls 14 = .ok (.invokevirtual 78, 3) := by decide +kernel
theorem dX3_pairsOfHalls_17 : decode cX3_pairsOfHalls 17 = .ok (.invokestatic 61, 3) := by decide +kernel
theorem dX3_pairsOfHalls_20 : decode cX3_pairsOfHalls 20 = .ok (.iconst 1, 1) := by decide +kernel
theorem dX3_pairsOfHalls_21 : decode cX3_pairsOfHalls 21 = .ok (.isub, 1) := by decide +kernel
theorem dX3_pairsOfHalls_22 : decode cX3_pairsOfHalls 22 = .ok (.iadd, 1) := by decide +kernel
theorem dX3_pairsOfHalls_23 : decode cX3_pairsOfHalls 23 = .ok (.istore_n 2, 1) := by decide +kernel
theorem dX3_pairsOfHalls_24 : decode cX3_pairsOfHalls 24 = .ok (.iinc 3 1, 3) := by decide +kernel
theorem dX3_pairsOfHalls_27 : decode cX3_pairsOfHalls 27 = .ok (.goto (-23), 3) := by decide +kernel
theorem dX3_pairsOfHalls_30 : decode cX3_pairsOfHalls 30 = .ok (.iload_n 2, 1) := by decide +kernel
theorem dX3_pairsOfHalls_31 : decode cX3_pairsOfHalls 31 = .ok (.iconst 2, 1) := by decide +kernel
theorem dX3_pairsOfHalls_32 : decode cX3_pairsOfHalls 32 = .ok (.idiv, 1) := by decide +kernel
theorem dX3_pairsOfHalls_33 : decode cX3_pairsOfHalls 33 = .ok (.ireturn, 1) := by decide +kernel
theorem dX4_init_0 : decode cX4_init 0 = .ok (.aload_n 0, 1) := by decide +kernel
theorem dX4_init_1 : decode cX4_init 1 = .ok (.invokespecial 3, 3) := by decide +kernel
theorem dX4_init_4 : decode cX4_init 4 = .ok (.aload_n 0, 1) := by decide +kernel
theorem dX4_init_5 : decode cX4_init 5 = .ok (.bipush 60, 2) := by decide +kernel
theorem dX4_init_7 : decode cX4_init 7 = .ok (.newarray .int, 2) := by decide +kernel
theorem dX4_init_9 : decode cX4_init 9 = .ok (.putfield 9, 3) := by decide +kernel
theorem dX4_init_12 : decode cX4_init 12 = .ok (.aload_n 0, 1) := by decide +kernel
theorem dX4_init_13 : decode cX4_init 13 = .ok (.iconst 0, 1) := by decide +kernel
theorem dX4_init_14 : decode cX4_init 14 = .ok (.putfield 15, 3) := by decide +kernel
theorem dX4_init_17 : decode cX4_init 17 = .ok (.return_, 1) := by decide +kernel
theorem dX4_add_0 : decode cX4_add 0 = .ok (.aload_n 0, 1) := by decide +kernel
theorem dX4_add_1 : decode cX4_add 1 = .ok (.getfield 15, 3) := by decide +kernel
theorem dX4_add_4 : decode cX4_add 4 = .ok (.bipush 60, 2) := by decide +kernel
theorem dX4_add_6 : decode cX4_add 6 = .ok (.if_icmp .ge 23, 3) := by decide +kernel
theorem dX4_add_9 : decode cX4_add 9 = .ok (.aload_n 0, 1) := by decide +kernel
theorem dX4_add_10 : decode cX4_add 10 = .ok (.getfield 9, 3) := by decide +kernel
theorem dX4_add_13 : decode cX4_add 13 = .ok (.aload_n 0, 1) := by decide +kernel
theorem dX4_add_14 : decode cX4_add 14 = .ok (.getfield 15, 3) := by decide +kernel
theorem dX4_add_17 : decode cX4_add 17 = .ok (.iload_n 1, 1) := by decide +kernel
theorem dX4_add_18 : decode cX4_add 18 = .ok (.iastore, 1) := by decide +kernel
theorem dX4_add_19 : decode cX4_add 19 = .ok (.aload_n 0, 1) := by decide +kernel
theorem dX4_add_20 : decode cX4_add 20 = .ok (.dup, 1) := by decide +kernel
theorem dX4_add_21 : decode cX4_add 21 = .ok (.getfield 15, 3) := by decide +kernel
theorem dX4_add_24 : decode cX4_add 24 = .ok (.iconst 1, 1) := by decide +kernel
theorem dX4_add_25 : decode cX4_add 25 = .ok (.iadd, 1) := by decide +kernel
theorem dX4_add_26 : decode cX4_add 26 = .ok (.putfield 15, 3) := by decide +kernel
theorem dX4_add_29 : decode cX4_add 29 = .ok (.aload_n 0, 1) := by decide +kernel
theorem dX4_add_30 : decode cX4_add 30 = .ok (.getfield 15, 3) := by decide +kernel
theorem dX4_add_33 : decode cX4_add 33 = .ok (.ireturn, 1) := by decide +kernel
theorem dX4_empty_0 : decode cX4_empty 0 = .ok (.aload_n 0, 1) := by decide +kernel
theorem dX4_empty_1 : decode cX4_empty 1 = .ok (.getfield 15, 3) := by decide +kernel
theorem dX4_empty_4 : decode cX4_empty 4 = .ok (.istore_n 1, 1) := by decide +kernel
theorem dX4_empty_5 : decode cX4_empty 5 = .ok (.aload_n 0, 1) := by decide +kernel
theorem dX4_empty_6 : decode cX4_empty 6 = .ok (.iconst 0, 1) := by decide +kernel
theorem dX4_empty_7 : decode cX4_empty 7 = .ok (.putfield 15, 3) := by decide +kernel
theorem dX4_empty_10 : decode cX4_empty 10 = .ok (.iload_n 1, 1) := by decide +kernel
theorem dX4_empty_11 : decode cX4_empty 11 = .ok (.ireturn, 1) := by decide +kernel
theorem dX4_faultPlace_0 : decode cX4_faultPlace 0 = .ok (.iconst 0, 1) := by decide +kernel
theorem dX4_faultPlace_1 : decode cX4_faultPlace 1 = .ok (.istore_n 1, 1) := by decide +kernel
theorem dX4_faultPlace_2 : decode cX4_faultPlace 2 = .ok (.iconst 0, 1) := by decide +kernel
theorem dX4_faultPlace_3 : decode cX4_faultPlace 3 = .ok (.istore_n 2, 1) := by decide +kernel
theorem dX4_faultPlace_4 : decode cX4_faultPlace 4 = .ok (.iload_n 2, 1) := by decide +kernel
theorem dX4_faultPlace_5 : decode cX4_faultPlace 5 = .ok (.aload_n 0, 1) := by decide +kernel
theorem dX4_faultPlace_6 : decode cX4_faultPlace 6 = .ok (.getfield 15, 3) := by decide +kernel
theorem dX4_faultPlace_9 : decode cX4_faultPlace 9 = .ok (.if_icmp .ge 26, 3) := by decide +kernel
theorem dX4_faultPlace_12 : decode cX4_faultPlace 12 = .ok (.iload_n 1, 1) := by decide +kernel
theorem dX4_faultPlace_13 : decode cX4_faultPlace 13 = .ok (.aload_n 0, 1) := by decide +kernel
theorem dX4_faultPlace_14 : decode cX4_faultPlace 14 = .ok (.iload_n 2, 1) := by decide +kernel
theorem dX4_faultPlace_15 : decode cX4_faultPlace 15 = .ok (.invokevirtual 19, 3) := by decide +kernel
theorem dX4_faultPlace_18 : decode cX4_faultPlace 18 = .ok (.invokestatic 23, 3) := by decide +kernel
theorem dX4_faultPlace_21 : decode cX4_faultPlace 21 = .ok (.istore_n 1, 1) := by decide +kernel
theorem dX4_faultPlace_22 : decode cX4_faultPlace 22 = .ok (.iload_n 1, 1) := by decide +kernel
theorem dX4_faultPlace_23 : decode cX4_faultPlace 23 = .ok (.iconst 5, 1) := by decide +kernel
theorem dX4_faultPlace_24 : decode cX4_faultPlace 24 = .ok (.if_icmp .ne 5, 3) := by decide +kernel
theorem dX4_faultPlace_27 : decode cX4_faultPlace 27 = .ok (.iload_n 2, 1) := by decide +kernel
theorem dX4_faultPlace_28 : decode cX4_faultPlace 28 = .ok (.ireturn, 1) := by decide +kernel
theorem dX4_faultPlace_29 : decode cX4_faultPlace 29 = .ok (.iinc 2 1, 3) := by decide +kernel
theorem dX4_faultPlace_32 : decode cX4_faultPlace 32 = .ok (.goto (-28), 3) := by decide +kernel
theorem dX4_faultPlace_35 : decode cX4_faultPlace 35 = .ok (.iload_n 1, 1) := by decide +kernel
theorem dX4_faultPlace_36 : decode cX4_faultPlace 36 = .ok (.iconst 4, 1) := by decide +kernel
theorem dX4_faultPlace_37 : decode cX4_faultPlace 37 = .ok (.if_icmp .ne 8, 3) := by decide +kernel
theorem dX4_faultPlace_40 : decode cX4_faultPlace 40 = .ok (.bipush (-4), 2) := by decide +kernel
theorem dX4_faultPlace_42 : decode cX4_faultPlace 42 = .ok (.goto 7, 3) := by decide +kernel
theorem dX4_faultPlace_45 : decode cX4_faultPlace 45 = .ok (.aload_n 0, 1) := by decide +kernel
theorem dX4_faultPlace_46 : decode cX4_faultPlace 46 = .ok (.getfield 15, 3) := by decide +kernel
theorem dX4_faultPlace_49 : decode cX4_faultPlace 49 = .ok (.ireturn, 1) := by decide +kernel
theorem dX4_expectedAfter_0 : decode cX4_expectedAfter 0 = .ok (.iload_n 0, 1) := by decide +kernel
theorem dX4_expectedAfter_1 : decode cX4_expectedAfter 1 = .ok (.tableswitch 129 0 4 #[35, 61, 77, 101, 117], 35) := by decide +kernel
theorem dX4_expectedAfter_36 : decode cX4_expectedAfter 36 = .ok (.iload_n 1, 1) := by decide +kernel
theorem dX4_expectedAfter_37 : decode cX4_expectedAfter 37 = .ok (.bipush 103, 2) := by decide +kernel
theorem dX4_expectedAfter_39 : decode cX4_expectedAfter 39 = .ok (.if_icmp .ne 5, 3) := by decide +kernel
theorem dX4_expectedAfter_42 : decode cX4_expectedAfter 42 = .ok (.iconst 1, 1) := by decide +kernel
theorem dX4_expectedAfter_43 : decode cX4_expectedAfter 43 = .ok (.ireturn, 1) := by decide +kernel
theorem dX4_expectedAfter_44 : decode cX4_expectedAfter 44 = .ok (.iload_n 1, 1) := by decide +kernel
theorem dX4_expectedAfter_45 : decode cX4_expectedAfter 45 = .ok (.bipush 111, 2) := by decide +kernel
theorem dX4_expectedAfter_47 : decode cX4_expectedAfter 47 = .ok (.if_icmp .eq 9, 3) := by decide +kernel
theorem dX4_expectedAfter_50 : decode cX4_expectedAfter 50 = .ok (.iload_n 1, 1) := by decide +kernel
theorem dX4_expectedAfter_51 : decode cX4_expectedAfter 51 = .ok (.bipush 99, 2) := by decide +kernel
theorem dX4_expectedAfter_53 : decode cX4_expectedAfter 53 = .ok (.if_icmp .ne 7, 3) := by decide +kernel
theorem dX4_expectedAfter_56 : decode cX4_expectedAfter 56 = .ok (.iconst 3, 1) := by decide +kernel
theorem dX4_expectedAfter_57 : decode cX4_expectedAfter 57 = .ok (.goto 4, 3) := by decide +kernel
theorem dX4_expectedAfter_60 : decode cX4_expectedAfter 60 = .ok (.iconst 5, 1) := by decide +kernel
theorem dX4_expectedAfter_61 : decode cX4_expectedAfter 61 = .ok (.ireturn, 1) := by decide +kernel
theorem dX4_expectedAfter_62 : decode cX4_expectedAfter 62 = .ok (.iload_n 1, 1) := by decide +kernel
theorem dX4_expectedAfter_63 : decode cX4_expectedAfter 63 = .ok (.bipush 48, 2) := by decide +kernel
theorem dX4_expectedAfter_65 : decode cX4_expectedAfter 65 = .ok (.isub, 1) := by decide +kernel
theorem dX4_expectedAfter_66 : decode cX4_expectedAfter 66 = .ok (.invokestatic 27, 3) := by decide +kernel
theorem dX4_expectedAfter_69 : decode cX4_expectedAfter 69 = .ok (.ifCond .eq 7, 3) := by decide +kernel
theorem dX4_expectedAfter_72 : decode cX4_expectedAfter 72 = .ok (.iconst 2, 1) := by decide +kernel
theorem dX4_expectedAfter_73 : decode cX4_expectedAfter 73 = .ok (.goto 4, 3) := by decide +kernel
theorem dX4_expectedAfter_76 : decode cX4_expectedAfter 76 = .ok (.iconst 5, 1) := by decide +kernel
theorem dX4_expectedAfter_77 : decode cX4_expectedAfter 77 = .ok (.ireturn, 1) := by decide +kernel
theorem dX4_expectedAfter_78 : decode cX4_expectedAfter 78 = .ok (.iload_n 1, 1) := by decide +kernel
theorem dX4_expectedAfter_79 : decode cX4_expectedAfter 79 = .ok (.bipush 111, 2) := by decide +kernel
theorem dX4_expectedAfter_81 : decode cX4_expectedAfter 81 = .ok (.if_icmp .eq 15, 3) := by decide +kernel
theorem dX4_expectedAfter_84 : decode cX4_expectedAfter 84 = .ok (.iload_n 1, 1) := by decide +kernel
theorem dX4_expectedAfter_85 : decode cX4_expectedAfter 85 = .ok (.bipush 99, 2) := by decide +kernel
theorem dX4_expectedAfter_87 : decode cX4_expectedAfter 87 = .ok (.if_icmp .eq 9, 3) := by decide +kernel
theorem dX4_expectedAfter_90 : decode cX4_expectedAfter 90 = .ok (.iload_n 1, 1) := by decide +kernel
theorem dX4_expectedAfter_91 : decode cX4_expectedAfter 91 = .ok (.bipush 119, 2) := by decide +kernel
theorem dX4_expectedAfter_93 : decode cX4_expectedAfter 93 = .ok (.if_icmp .ne 7, 3) := by decide +kernel
theorem dX4_expectedAfter_96 : decode cX4_expectedAfter 96 = .ok (.iconst 3, 1) := by decide +kernel
theorem dX4_expectedAfter_97 : decode cX4_expectedAfter 97 = .ok (.goto 4, 3) := by decide +kernel
theorem dX4_expectedAfter_100 : decode cX4_expectedAfter 100 = .ok (.iconst 5, 1) := by decide +kernel
theorem dX4_expectedAfter_101 : decode cX4_expectedAfter 101 = .ok (.ireturn, 1) := by decide +kernel
theorem dX4_expectedAfter_102 : decode cX4_expectedAfter 102 = .ok (.iload_n 1, 1) := by decide +kernel
theorem dX4_expectedAfter_103 : decode cX4_expectedAfter 103 = .ok (.bipush 48, 2) := by decide +kernel
theorem dX4_expectedAfter_105 : decode cX4_expectedAfter 105 = .ok (.isub, 1) := by decide +kernel
theorem dX4_expectedAfter_106 : decode cX4_expectedAfter 106 = .ok (.invokestatic 31, 3) := by decide +kernel
theorem dX4_expectedAfter_109 : decode cX4_expectedAfter 109 = .ok (.ifCond .eq 7, 3) := by decide +kernel
theorem dX4_expectedAfter_112 : decode cX4_expectedAfter 112 = .ok (.iconst 4, 1) := by decide +kernel
theorem dX4_expectedAfter_113 : decode cX4_expectedAfter 113 = .ok (.goto 4, 3) := by decide +kernel
theorem dX4_expectedAfter_116 : decode cX4_expectedAfter 116 = .ok (.iconst 5, 1) := by decide +kernel
theorem dX4_expectedAfter_117 : decode cX4_expectedAfter 117 = .ok (.ireturn, 1) := by decide +kernel
theorem dX4_expectedAfter_118 : decode cX4_expectedAfter 118 = .ok (.iload_n 1, 1) := by decide +kernel
theorem dX4_expectedAfter_119 : decode cX4_expectedAfter 119 = .ok (.bipush 59, 2) := by decide +kernel
theorem dX4_expectedAfter_121 : decode cX4_expectedAfter 121 = .ok (.if_icmp .ne 7, 3) := by decide +kernel
theorem dX4_expectedAfter_124 : decode cX4_expectedAfter 124 = .ok (.iconst 0, 1) := by decide +kernel
theorem dX4_expectedAfter_125 : decode cX4_expectedAfter 125 = .ok (.goto 4, 3) := by decide +kernel
theorem dX4_expectedAfter_128 : decode cX4_expectedAfter 128 = .ok (.iconst 5, 1) := by decide +kernel
theorem dX4_expectedAfter_129 : decode cX4_expectedAfter 129 = .ok (.ireturn, 1) := by decide +kernel
theorem dX4_expectedAfter_130 : decode cX4_expectedAfter 130 = .ok (.iconst 5, 1) := by decide +kernel
theorem dX4_expectedAfter_131 : decode cX4_expectedAfter 131 = .ok (.ireturn, 1) := by decide +kernel
theorem dX4_codeAt_0 : decode cX4_codeAt 0 = .ok (.iload_n 1, 1) := by decide +kernel
theorem dX4_codeAt_1 : decode cX4_codeAt 1 = .ok (.ifCond .lt 20, 3) := by decide +kernel
theorem dX4_codeAt_4 : decode cX4_codeAt 4 = .ok (.iload_n 1, 1) := by decide +kernel
theorem dX4_codeAt_5 : decode cX4_codeAt 5 = .ok (.aload_n 0, 1) := by decide +kernel
theorem dX4_codeAt_6 : decode cX4_codeAt 6 = .ok (.getfield 15, 3) := by decide +kernel
theorem dX4_codeAt_9 : decode cX4_codeAt 9 = .ok (.if_icmp .ge 12, 3) := by decide +kernel
theorem dX4_codeAt_12 : decode cX4_codeAt 12 = .ok (.aload_n 0, 1) := by decide +kernel
theorem dX4_codeAt_13 : decode cX4_codeAt 13 = .ok (.getfield 9, 3) := by decide +kernel
theorem dX4_codeAt_16 : decode cX4_codeAt 16 = .ok (.iload_n 1, 1) := by decide +kernel
theorem dX4_codeAt_17 : decode cX4_codeAt 17 = .ok (.iaload, 1) := by decide +kernel
theorem dX4_codeAt_18 : decode cX4_codeAt 18 = .ok (.goto 4, 3) := by decide +kernel
theorem dX4_codeAt_21 : decode cX4_codeAt 21 = .ok (.iconst 0, 1) := by decide +kernel
theorem dX4_codeAt_22 : decode cX4_codeAt 22 = .ok (.ireturn, 1) := by decide +kernel
theorem dX4_isGuestsDeed_0 : decode cX4_isGuestsDeed 0 = .ok (.aload_n 0, 1) := by decide +kernel
theorem dX4_isGuestsDeed_1 : decode cX4_isGuestsDeed 1 = .ok (.iload_n 1, 1) := by decide +kernel
theorem dX4_isGuestsDeed_2 : decode cX4_isGuestsDeed 2 = .ok (.invokevirtual 19, 3) := by decide +kernel
theorem dX4_isGuestsDeed_5 : decode cX4_isGuestsDeed 5 = .ok (.bipush 103, 2) := by decide +kernel
theorem dX4_isGuestsDeed_7 : decode cX4_isGuestsDeed 7 = .ok (.if_icmp .ne 7, 3) := by decide +kernel
theorem dX4_isGuestsDeed_10 : decode cX4_isGuestsDeed 10 = .ok (.iconst 1, 1) := by decide +kernel
theorem dX4_isGuestsDeed_11 : decode cX4_isGuestsDeed 11 = .ok (.goto 4, 3) := by decide +kernel
theorem dX4_isGuestsDeed_14 : decode cX4_isGuestsDeed 14 = .ok (.iconst 0, 1) := by decide +kernel
theorem dX4_isGuestsDeed_15 : decode cX4_isGuestsDeed 15 = .ok (.ireturn, 1) := by decide +kernel
theorem dX4_guestOfDeed_0 : decode cX4_guestOfDeed 0 = .ok (.aload_n 0, 1) := by decide +kernel
theorem dX4_guestOfDeed_1 : decode cX4_guestOfDeed 1 = .ok (.iload_n 1, 1) := by decide +kernel
theorem dX4_guestOfDeed_2 : decode cX4_guestOfDeed 2 = .ok (.iconst 1, 1) := by decide +kernel
theorem dX4_guestOfDeed_3 : decode cX4_guestOfDeed 3 = .ok (.iadd, 1) := by decide +kernel
theorem dX4_guestOfDeed_4 : decode cX4_guestOfDeed 4 = .ok (.invokevirtual 19, 3) := by decide +kernel
theorem dX4_guestOfDeed_7 : decode cX4_guestOfDeed 7 = .ok (.bipush 48, 2) := by decide +kernel
theorem dX4_guestOfDeed_9 : decode cX4_guestOfDeed 9 = .ok (.isub, 1) := by decide +kernel
theorem dX4_guestOfDeed_10 : decode cX4_guestOfDeed 10 = .ok (.ireturn, 1) := by decide +kernel
theorem dX4_letterOfDeed_0 : decode cX4_letterOfDeed 0 = .ok (.aload_n 0, 1) := by decide +kernel
theorem dX4_letterOfDeed_1 : decode cX4_letterOfDeed 1 = .ok (.aload_n 0, 1) := by decide +kernel
theorem dX4_letterOfDeed_2 : decode cX4_letterOfDeed 2 = .ok (.iload_n 1, 1) := by decide +kernel
theorem dX4_letterOfDeed_3 : decode cX4_letterOfDeed 3 = .ok (.invokevirtual 34, 3) := by decide +kernel
theorem dX4_letterOfDeed_6 : decode cX4_letterOfDeed 6 = .ok (.invokevirtual 19, 3) := by decide +kernel
theorem dX4_letterOfDeed_9 : decode cX4_letterOfDeed 9 = .ok (.ireturn, 1) := by decide +kernel
theorem dX4_doorOfDeed_0 : decode cX4_doorOfDeed 0 = .ok (.aload_n 0, 1) := by decide +kernel
theorem dX4_doorOfDeed_1 : decode cX4_doorOfDeed 1 = .ok (.aload_n 0, 1) := by decide +kernel
theorem dX4_doorOfDeed_2 : decode cX4_doorOfDeed 2 = .ok (.iload_n 1, 1) := by decide +kernel
theorem dX4_doorOfDeed_3 : decode cX4_doorOfDeed 3 = .ok (.invokevirtual 34, 3) := by decide +kernel
theorem dX4_doorOfDeed_6 : decode cX4_doorOfDeed 6 = .ok (.iconst 1, 1) := by decide +kernel
theorem dX4_doorOfDeed_7 : decode cX4_doorOfDeed 7 = .ok (.iadd, 1) := by decide +kernel
theorem dX4_doorOfDeed_8 : decode cX4_doorOfDeed 8 = .ok (.invokevirtual 19, 3) := by decide +kernel
theorem dX4_doorOfDeed_11 : decode cX4_doorOfDeed 11 = .ok (.bipush 48, 2) := by decide +kernel
theorem dX4_doorOfDeed_13 : decode cX4_doorOfDeed 13 = .ok (.isub, 1) := by decide +kernel
theorem dX4_doorOfDeed_14 : decode cX4_doorOfDeed 14 = .ok (.ireturn, 1) := by decide +kernel
theorem dX4_placeOfNextDeed_0 : decode cX4_placeOfNextDeed 0 = .ok (.aload_n 0, 1) := by decide +kernel
theorem dX4_placeOfNextDeed_1 : decode cX4_placeOfNextDeed 1 = .ok (.iload_n 1, 1) := by decide +kernel
theorem dX4_placeOfNextDeed_2 : decode cX4_placeOfNextDeed 2 = .ok (.invokevirtual 34, 3) := by decide +kernel
theorem dX4_placeOfNextDeed_5 : decode cX4_placeOfNextDeed 5 = .ok (.iconst 3, 1) := by decide +kernel
theorem dX4_placeOfNextDeed_6 : decode cX4_placeOfNextDeed 6 = .ok (.iadd, 1) := by decide +kernel
theorem dX4_placeOfNextDeed_7 : decode cX4_placeOfNextDeed 7 = .ok (.ireturn, 1) := by decide +kernel
theorem dX4_placeOfLetter_0 : decode cX4_placeOfLetter 0 = .ok (.aload_n 0, 1) := by decide +kernel
theorem dX4_placeOfLetter_1 : decode cX4_placeOfLetter 1 = .ok (.iload_n 1, 1) := by decide +kernel
theorem dX4_placeOfLetter_2 : decode cX4_placeOfLetter 2 = .ok (.invokevirtual 37, 3) := by decide +kernel
theorem dX4_placeOfLetter_5 : decode cX4_placeOfLetter 5 = .ok (.ifCond .eq 9, 3) := by decide +kernel
theorem dX4_placeOfLetter_8 : decode cX4_placeOfLetter 8 = .ok (.iload_n 1, 1) := by decide +kernel
theorem dX4_placeOfLetter_9 : decode cX4_placeOfLetter 9 = .ok (.iconst 2, 1) := by decide +kernel
theorem dX4_placeOfLetter_10 : decode cX4_placeOfLetter 10 = .ok (.iadd, 1) := by decide +kernel
theorem dX4_placeOfLetter_11 : decode cX4_placeOfLetter 11 = .ok (.goto 4, 3) := by decide +kernel
theorem dX4_placeOfLetter_14 : decode cX4_placeOfLetter 14 = .ok (.iload_n 1, 1) := by decide +kernel
theorem dX4_placeOfLetter_15 : decode cX4_placeOfLetter 15 = .ok (.ireturn, 1) := by decide +kernel
theorem dX5_init_0 : decode cX5_init 0 = .ok (.aload_n 0, 1) := by decide +kernel
theorem dX5_init_1 : decode cX5_init 1 = .ok (.invokespecial 3, 3) := by decide +kernel
theorem dX5_init_4 : decode cX5_init 4 = .ok (.aload_n 0, 1) := by decide +kernel
theorem dX5_init_5 : decode cX5_init 5 = .ok (.new 9, 3) := by decide +kernel
theorem dX5_init_8 : decode cX5_init 8 = .ok (.dup, 1) := by decide +kernel
theorem dX5_init_9 : decode cX5_init 9 = .ok (.invokespecial 11, 3) := by decide +kernel
theorem dX5_init_12 : decode cX5_init 12 = .ok (.putfield 12, 3) := by decide +kernel
theorem dX5_init_15 : decode cX5_init 15 = .ok (.aload_n 0, 1) := by decide +kernel
theorem dX5_init_16 : decode cX5_init 16 = .ok (.new 18, 3) := by decide +kernel
theorem dX5_init_19 : decode cX5_init 19 = .ok (.dup, 1) := by decide +kernel
theorem dX5_init_20 : decode cX5_init 20 = .ok (.invokespecial 20, 3) := by decide +kernel
theorem dX5_init_23 : decode cX5_init 23 = .ok (.putfield 21, 3) := by decide +kernel
theorem dX5_init_26 : decode cX5_init 26 = .ok (.aload_n 0, 1) := by decide +kernel
theorem dX5_init_27 : decode cX5_init 27 = .ok (.new 25, 3) := by decide +kernel
theorem dX5_init_30 : decode cX5_init 30 = .ok (.dup, 1) := by decide +kernel
theorem dX5_init_31 : decode cX5_init 31 = .ok (.invokespecial 27, 3) := by decide +kernel
theorem dX5_init_34 : decode cX5_init 34 = .ok (.putfield 28, 3) := by decide +kernel
theorem dX5_init_37 : decode cX5_init 37 = .ok (.aload_n 0, 1) := by decide +kernel
theorem dX5_init_38 : decode cX5_init 38 = .ok (.iconst 0, 1) := by decide +kernel
theorem dX5_init_39 : decode cX5_init 39 = .ok (.putfield 32, 3) := by decide +kernel
theorem dX5_init_42 : decode cX5_init 42 = .ok (.return_, 1) := by decide +kernel
theorem dX5_copy_0 : decode cX5_copy 0 = .ok (.aload_n 0, 1) := by decide +kernel
theorem dX5_copy_1 : decode cX5_copy 1 = .ok (.getfield 12, 3) := by decide +kernel
theorem dX5_copy_4 : decode cX5_copy 4 = .ok (.aload_n 1, 1) := by decide +kernel
theorem dX5_copy_5 : decode cX5_copy 5 = .ok (.getfield 12, 3) := by decide +kernel
theorem dX5_copy_8 : decode cX5_copy 8 = .ok (.invokevirtual 36, 3) := by decide +kernel
theorem dX5_copy_11 : decode cX5_copy 11 = .ok (.aload_n 0, 1) := by decide +kernel
theorem dX5_copy_12 : decode cX5_copy 12 = .ok (.getfield 21, 3) := by decide +kernel
theorem dX5_copy_15 : decode cX5_copy 15 = .ok (.aload_n 1, 1) := by decide +kernel
theorem dX5_copy_16 : decode cX5_copy 16 = .ok (.getfield 21, 3) := by decide +kernel
theorem dX5_copy_19 : decode cX5_copy 19 = .ok (.invokevirtual 40, 3) := by decide +kernel
theorem dX5_copy_22 : decode cX5_copy 22 = .ok (.aload_n 0, 1) := by decide +kernel
theorem dX5_copy_23 : decode cX5_copy 23 = .ok (.getfield 28, 3) := by decide +kernel
theorem dX5_copy_26 : decode cX5_copy 26 = .ok (.aload_n 1, 1) := by decide +kernel
theorem dX5_copy_27 : decode cX5_copy 27 = .ok (.getfield 28, 3) := by decide +kernel
theorem dX5_copy_30 : decode cX5_copy 30 = .ok (.invokevirtual 43, 3) := by decide +kernel
theorem dX5_copy_33 : decode cX5_copy 33 = .ok (.aload_n 0, 1) := by decide +kernel
theorem dX5_copy_34 : decode cX5_copy 34 = .ok (.aload_n 1, 1) := by decide +kernel
theorem dX5_copy_35 : decode cX5_copy 35 = .ok (.getfield 32, 3) := by decide +kernel
theorem dX5_copy_38 : decode cX5_copy 38 = .ok (.putfield 32, 3) := by decide +kernel
theorem dX5_copy_41 : decode cX5_copy 41 = .ok (.return_, 1) := by decide +kernel
theorem dX5_isOpen_0 : decode cX5_isOpen 0 = .ok (.aload_n 0, 1) := by decide +kernel
theorem dX5_isOpen_1 : decode cX5_isOpen 1 = .ok (.getfield 32, 3) := by decide +kernel
theorem dX5_isOpen_4 : decode cX5_isOpen 4 = .ok (.iload_n 1, 1) := by decide +kernel
theorem dX5_isOpen_5 : decode cX5_isOpen 5 = .ok (.invokestatic 46, 3) := by decide +kernel
theorem dX5_isOpen_8 : decode cX5_isOpen 8 = .ok (.ireturn, 1) := by decide +kernel
theorem dX5_shutDoors_0 : decode cX5_shutDoors 0 = .ok (.sipush 1023, 3) := by decide +kernel
theorem dX5_shutDoors_3 : decode cX5_shutDoors 3 = .ok (.aload_n 0, 1) := by decide +kernel
theorem dX5_shutDoors_4 : decode cX5_shutDoors 4 = .ok (.getfield 32, 3) := by decide +kernel
theorem dX5_shutDoors_7 : decode cX5_shutDoors 7 = .ok (.iconst (-1), 1) := by decide +kernel
theorem dX5_shutDoors_8 : decode cX5_shutDoors 8 = .ok (.ixor, 1) := by decide +kernel
theorem dX5_shutDoors_9 : decode cX5_shutDoors 9 = .ok (.iand, 1) := by decide +kernel
theorem dX5_shutDoors_10 : decode cX5_shutDoors 10 = .ok (.ireturn, 1) := by decide +kernel
theorem dX5_reasonNotToOpen_0 : decode cX5_reasonNotToOpen 0 = .ok (.aload_n 0, 1) := by decide +kernel
theorem dX5_reasonNotToOpen_1 : decode cX5_reasonNotToOpen 1 = .ok (.iload_n 1, 1) := by decide +kernel
theorem dX5_reasonNotToOpen_2 : decode cX5_reasonNotToOpen 2 = .ok (.invokevirtual 50, 3) := by decide +kernel
theorem dX5_reasonNotToOpen_5 : decode cX5_reasonNotToOpen 5 = .ok (.ifCond .eq 5, 3) := by decide +kernel
theorem dX5_reasonNotToOpen_8 : decode cX5_reasonNotToOpen 8 = .ok (.iconst 1, 1) := by decide +kernel
theorem dX5_reasonNotToOpen_9 : decode cX5_reasonNotToOpen 9 = .ok (.ireturn, 1) := by decide +kernel
theorem dX5_reasonNotToOpen_10 : decode cX5_reasonNotToOpen 10 = .ok (.aload_n 0, 1) := by decide +kernel
theorem dX5_reasonNotToOpen_11 : decode cX5_reasonNotToOpen 11 = .ok (.getfield 12, 3) := by decide +kernel
theorem dX5_reasonNotToOpen_14 : decode cX5_reasonNotToOpen 14 = .ok (.aload_n 0, 1) := by decide +kernel
theorem dX5_reasonNotToOpen_15 : decode cX5_reasonNotToOpen 15 = .ok (.getfield 32, 3) := by decide +kernel
theorem dX5_reasonNotToOpen_18 : decode cX5_reasonNotToOpen 18 = .ok (.invokevirtual 54, 3) := by decide +kernel
theorem dX5_reasonNotToOpen_21 : decode cX5_reasonNotToOpen 21 = .ok (.iload_n 1, 1) := by decide +kernel
theorem dX5_reasonNotToOpen_22 : decode cX5_reasonNotToOpen 22 = .ok (.invokestatic 46, 3) := by decide +kernel
theorem dX5_reasonNotToOpen_25 : decode cX5_reasonNotToOpen 25 = .ok (.ifCond .eq 7, 3) := by decide +kernel
theorem dX5_reasonNotToOpen_28 : decode cX5_reasonNotToOpen 28 = .ok (.iconst 2, 1) := by decide +kernel
theorem dX5_reasonNotToOpen_29 : decode cX5_reasonNotToOpen 29 = .ok (.goto 4, 3) := by decide +kernel
theorem dX5_reasonNotToOpen_32 : decode cX5_reasonNotToOpen 32 = .ok (.iconst 0, 1) := by decide +kernel
theorem dX5_reasonNotToOpen_33 : decode cX5_reasonNotToOpen 33 = .ok (.ireturn, 1) := by decide +kernel
theorem dX5_reasonNotToShut_0 : decode cX5_reasonNotToShut 0 = .ok (.aload_n 0, 1) := by decide +kernel
theorem dX5_reasonNotToShut_1 : decode cX5_reasonNotToShut 1 = .ok (.iload_n 1, 1) := by decide +kernel
theorem dX5_reasonNotToShut_2 : decode cX5_reasonNotToShut 2 = .ok (.invokevirtual 50, 3) := by decide +kernel
theorem dX5_reasonNotToShut_5 : decode cX5_reasonNotToShut 5 = .ok (.ifCond .eq 7, 3) := by decide +kernel
theorem dX5_reasonNotToShut_8 : decode cX5_reasonNotToShut 8 = .ok (.iconst 0, 1) := by decide +kernel
theorem dX5_reasonNotToShut_9 : decode cX5_reasonNotToShut 9 = .ok (.goto 4, 3) := by decide +kernel
theorem dX5_reasonNotToShut_12 : decode cX5_reasonNotToShut 12 = .ok (.iconst 3, 1) := by decide +kernel
theorem dX5_reasonNotToShut_13 : decode cX5_reasonNotToShut 13 = .ok (.ireturn, 1) := by decide +kernel
theorem dX5_isAtDoor_0 : decode cX5_isAtDoor 0 = .ok (.aload_n 0, 1) := by decide +kernel
theorem dX5_isAtDoor_1 : decode cX5_isAtDoor 1 = .ok (.getfield 12, 3) := by decide +kernel
theorem dX5_isAtDoor_4 : decode cX5_isAtDoor 4 = .ok (.iload_n 2, 1) := by decide +kernel
theorem dX5_isAtDoor_5 : decode cX5_isAtDoor 5 = .ok (.aload_n 0, 1) := by decide +kernel
theorem dX5_isAtDoor_6 : decode cX5_isAtDoor 6 = .ok (.getfield 21, 3) := by decide +kernel
theorem dX5_isAtDoor_9 : decode cX5_isAtDoor 9 = .ok (.getfield 58, 3) := by decide +kernel
theorem dX5_isAtDoor_12 : decode cX5_isAtDoor 12 = .ok (.iload_n 1, 1) := by decide +kernel
theorem dX5_isAtDoor_13 : decode cX5_isAtDoor 13 = .ok (.iaload, 1) := by decide +kernel
theorem dX5_isAtDoor_14 : decode cX5_isAtDoor 14 = .ok (.invokevirtual 62, 3) := by decide +kernel
theorem dX5_isAtDoor_17 : decode cX5_isAtDoor 17 = .ok (.ireturn, 1) := by decide +kernel
theorem dX5_reasonNotToOpenAsGuest_0 : decode cX5_reasonNotToOpenAsGuest 0 = .ok (.aload_n 0, 1) := by decide +kernel
theorem dX5_reasonNotToOpenAsGuest_1 : decode cX5_reasonNotToOpenAsGuest 1 = .ok (.iload_n 1, 1) := by decide +kernel
theorem dX5_reasonNotToOpenAsGuest_2 : decode cX5_reasonNotToOpenAsGuest 2 = .ok (.iload_n 2, 1) := by decide +kernel
theorem dX5_reasonNotToOpenAsGuest_3 : decode cX5_reasonNotToOpenAsGuest 3 = .ok (.invokevirtual 65, 3) := by decide +kernel
theorem dX5_reasonNotToOpenAsGuest_6 : decode cX5_reasonNotToOpenAsGuest 6 = .ok (.ifCond .ne 5, 3) := by decide +kernel
theorem dX5_reasonNotToOpenAsGuest_9 : decode cX5_reasonNotToOpenAsGuest 9 = .ok (.iconst 5, 1) := by decide +kernel
theorem dX5_reasonNotToOpenAsGuest_10 : decode cX5_reasonNotToOpenAsGuest 10 = .ok (.ireturn, 1) := by decide +kernel
theorem dX5_reasonNotToOpenAsGuest_11 : decode cX5_reasonNotToOpenAsGuest 11 = .ok (.aload_n 0, 1) := by decide +kernel
theorem dX5_reasonNotToOpenAsGuest_12 : decode cX5_reasonNotToOpenAsGuest 12 = .ok (.getfield 21, 3) := by decide +kernel
theorem dX5_reasonNotToOpenAsGuest_15 : decode cX5_reasonNotToOpenAsGuest 15 = .ok (.getfield 68, 3) := by decide +kernel
theorem dX5_reasonNotToOpenAsGuest_18 : decode cX5_reasonNotToOpenAsGuest 18 = .ok (.iload_n 1, 1) := by decide +kernel
theorem dX5_reasonNotToOpenAsGuest_19 : decode cX5_reasonNotToOpenAsGuest 19 = .ok (.iaload, 1) := by decide +kernel
theorem dX5_reasonNotToOpenAsGuest_20 : decode cX5_reasonNotToOpenAsGuest 20 = .ok (.iload_n 2, 1) := by decide +kernel
theorem dX5_reasonNotToOpenAsGuest_21 : decode cX5_reasonNotToOpenAsGuest 21 = .ok (.invokestatic 46, 3) := by decide +kernel
theorem dX5_reasonNotToOpenAsGuest_24 : decode cX5_reasonNotToOpenAsGuest 24 = .ok (.ifCond .eq 11, 3) := by decide +kernel
theorem dX5_reasonNotToOpenAsGuest_27 : decode cX5_reasonNotToOpenAsGuest 27 = .ok (.aload_n 0, 1) := by decide +kernel
theorem dX5_reasonNotToOpenAsGuest_28 : decode cX5_reasonNotToOpenAsGuest 28 = .ok (.iload_n 2, 1) := by decide +kernel
theorem dX5_reasonNotToOpenAsGuest_29 : decode cX5_reasonNotToOpenAsGuest 29 = .ok (.invokevirtual 71, 3) := by decide +kernel
theorem dX5_reasonNotToOpenAsGuest_32 : decode cX5_reasonNotToOpenAsGuest 32 = .ok (.goto 5, 3) := by decide +kernel
theorem dX5_reasonNotToOpenAsGuest_35 : decode cX5_reasonNotToOpenAsGuest 35 = .ok (.bipush 6, 2) := by decide +kernel
theorem dX5_reasonNotToOpenAsGuest_37 : decode cX5_reasonNotToOpenAsGuest 37 = .ok (.ireturn, 1) := by decide +kernel
theorem dX5_reasonNotToUse_0 : decode cX5_reasonNotToUse 0 = .ok (.aload_n 0, 1) := by decide +kernel
theorem dX5_reasonNotToUse_1 : decode cX5_reasonNotToUse 1 = .ok (.iload_n 1, 1) := by decide +kernel
theorem dX5_reasonNotToUse_2 : decode cX5_reasonNotToUse 2 = .ok (.iload_n 2, 1) := by decide +kernel
theorem dX5_reasonNotToUse_3 : decode cX5_reasonNotToUse 3 = .ok (.invokevirtual 65, 3) := by decide +kernel
theorem dX5_reasonNotToUse_6 : decode cX5_reasonNotToUse 6 = .ok (.ifCond .eq 11, 3) := by decide +kernel
theorem dX5_reasonNotToUse_9 : decode cX5_reasonNotToUse 9 = .ok (.aload_n 0, 1) := by decide +kernel
theorem dX5_reasonNotToUse_10 : decode cX5_reasonNotToUse 10 = .ok (.iload_n 2, 1) := by decide +kernel
theorem dX5_reasonNotToUse_11 : decode cX5_reasonNotToUse 11 = .ok (.invokevirtual 74, 3) := by decide +kernel
theorem dX5_reasonNotToUse_14 : decode cX5_reasonNotToUse 14 = .ok (.goto 4, 3) := by decide +kernel
theorem dX5_reasonNotToUse_17 : decode cX5_reasonNotToUse 17 = .ok (.iconst 5, 1) := by decide +kernel
theorem dX5_reasonNotToUse_18 : decode cX5_reasonNotToUse 18 = .ok (.ireturn, 1) := by decide +kernel
theorem dX5_howManyCouldOpen_0 : decode cX5_howManyCouldOpen 0 = .ok (.iconst 0, 1) := by decide +kernel
theorem dX5_howManyCouldOpen_1 : decode cX5_howManyCouldOpen 1 = .ok (.istore_n 2, 1) := by decide +kernel
theorem dX5_howManyCouldOpen_2 : decode cX5_howManyCouldOpen 2 = .ok (.iconst 0, 1) := by decide +kernel
theorem dX5_howManyCouldOpen_3 : decode cX5_howManyCouldOpen 3 = .ok (.istore_n 3, 1) := by decide +kernel
theorem dX5_howManyCouldOpen_4 : decode cX5_howManyCouldOpen 4 = .ok (.iload_n 3, 1) := by decide +kernel
theorem dX5_howManyCouldOpen_5 : decode cX5_howManyCouldOpen 5 = .ok (.bipush 10, 2) := by decide +kernel
theorem dX5_howManyCouldOpen_7 : decode cX5_howManyCouldOpen 7 = .ok (.if_icmp .ge 21, 3) := by decide +kernel
theorem dX5_howManyCouldOpen_10 : decode cX5_howManyCouldOpen 10 = .ok (.aload_n 0, 1) := by decide +kernel
theorem dX5_howManyCouldOpen_11 : decode cX5_howManyCouldOpen 11 = .ok (.iload_n 1, 1) := by decide +kernel
theorem dX5_howManyCouldOpen_12 : decode cX5_howManyCouldOpen 12 = .ok (.iload_n 3, 1) := by decide +kernel
theorem dX5_howManyCouldOpen_13 : decode cX5_howManyCouldOpen 13 = .ok (.invokevirtual 77, 3) := by decide +kernel
theorem dX5_howManyCouldOpen_16 : decode cX5_howManyCouldOpen 16 = .ok (.ifCond .ne 6, 3) := by decide +kernel
theorem dX5_howManyCouldOpen_19 : decode cX5_howManyCouldOpen 19 = .ok (.iinc 2 1, 3) := by decide +kernel
theorem dX5_howManyCouldOpen_22 : decode cX5_howManyCouldOpen 22 = .ok (.iinc 3 1, 3) := by decide +kernel
theorem dX5_howManyCouldOpen_25 : decode cX5_howManyCouldOpen 25 = .ok (.goto (-21), 3) := by decide +kernel
theorem dX5_howManyCouldOpen_28 : decode cX5_howManyCouldOpen 28 = .ok (.iload_n 2, 1) := by decide +kernel
theorem dX5_howManyCouldOpen_29 : decode cX5_howManyCouldOpen 29 = .ok (.ireturn, 1) := by decide +kernel
theorem dX5_servantOpens_0 : decode cX5_servantOpens 0 = .ok (.aload_n 0, 1) := by decide +kernel
theorem dX5_servantOpens_1 : decode cX5_servantOpens 1 = .ok (.aload_n 0, 1) := by decide +kernel
theorem dX5_servantOpens_2 : decode cX5_servantOpens 2 = .ok (.iload_n 1, 1) := by decide +kernel
theorem dX5_servantOpens_3 : decode cX5_servantOpens 3 = .ok (.invokevirtual 71, 3) := by decide +kernel
theorem dX5_servantOpens_6 : decode cX5_servantOpens 6 = .ok (.iload_n 1, 1) := by decide +kernel
theorem dX5_servantOpens_7 : decode cX5_servantOpens 7 = .ok (.invokevirtual 81, 3) := by decide +kernel
theorem dX5_servantOpens_10 : decode cX5_servantOpens 10 = .ok (.ireturn, 1) := by decide +kernel
theorem dX5_servantShuts_0 : decode cX5_servantShuts 0 = .ok (.aload_n 0, 1) := by decide +kernel
theorem dX5_servantShuts_1 : decode cX5_servantShuts 1 = .ok (.aload_n 0, 1) := by decide +kernel
theorem dX5_servantShuts_2 : decode cX5_servantShuts 2 = .ok (.iload_n 1, 1) := by decide +kernel
theorem dX5_servantShuts_3 : decode cX5_servantShuts 3 = .ok (.invokevirtual 74, 3) := by decide +kernel
theorem dX5_servantShuts_6 : decode cX5_servantShuts 6 = .ok (.iload_n 1, 1) := by decide +kernel
theorem dX5_servantShuts_7 : decode cX5_servantShuts 7 = .ok (.invokevirtual 84, 3) := by decide +kernel
theorem dX5_servantShuts_10 : decode cX5_servantShuts 10 = .ok (.ireturn, 1) := by decide +kernel
theorem dX5_opensAsGuest_0 : decode cX5_opensAsGuest 0 = .ok (.aload_n 0, 1) := by decide +kernel
theorem dX5_opensAsGuest_1 : decode cX5_opensAsGuest 1 = .ok (.aload_n 0, 1) := by decide +kernel
theorem dX5_opensAsGuest_2 : decode cX5_opensAsGuest 2 = .ok (.iload_n 1, 1) := by decide +kernel
theorem dX5_opensAsGuest_3 : decode cX5_opensAsGuest 3 = .ok (.iload_n 2, 1) := by decide +kernel
theorem dX5_opensAsGuest_4 : decode cX5_opensAsGuest 4 = .ok (.invokevirtual 77, 3) := by decide +kernel
theorem dX5_opensAsGuest_7 : decode cX5_opensAsGuest 7 = .ok (.iload_n 2, 1) := by decide +kernel
theorem dX5_opensAsGuest_8 : decode cX5_opensAsGuest 8 = .ok (.invokevirtual 81, 3) := by decide +kernel
theorem dX5_opensAsGuest_11 : decode cX5_opensAsGuest 11 = .ok (.ireturn, 1) := by decide +kernel
theorem dX5_shutsAsGuest_0 : decode cX5_shutsAsGuest 0 = .ok (.aload_n 0, 1) := by decide +kernel
theorem dX5_shutsAsGuest_1 : decode cX5_shutsAsGuest 1 = .ok (.aload_n 0, 1) := by decide +kernel
theorem dX5_shutsAsGuest_2 : decode cX5_shutsAsGuest 2 = .ok (.iload_n 1, 1) := by decide +kernel
theorem dX5_shutsAsGuest_3 : decode cX5_shutsAsGuest 3 = .ok (.iload_n 2, 1) := by decide +kernel
theorem dX5_shutsAsGuest_4 : decode cX5_shutsAsGuest 4 = .ok (.invokevirtual 87, 3) := by decide +kernel
theorem dX5_shutsAsGuest_7 : decode cX5_shutsAsGuest 7 = .ok (.iload_n 2, 1) := by decide +kernel
theorem dX5_shutsAsGuest_8 : decode cX5_shutsAsGuest 8 = .ok (.invokevirtual 84, 3) := by decide +kernel
theorem dX5_shutsAsGuest_11 : decode cX5_shutsAsGuest 11 = .ok (.ireturn, 1) := by decide +kernel
theorem dX5_walksThrough_0 : decode cX5_walksThrough 0 = .ok (.aload_n 0, 1) := by decide +kernel
theorem dX5_walksThrough_1 : decode cX5_walksThrough 1 = .ok (.iload_n 1, 1) := by decide +kernel
theorem dX5_walksThrough_2 : decode cX5_walksThrough 2 = .ok (.iload_n 2, 1) := by decide +kernel
theorem dX5_walksThrough_3 : decode cX5_walksThrough 3 = .ok (.invokevirtual 87, 3) := by decide +kernel
theorem dX5_walksThrough_6 : decode cX5_walksThrough 6 = .ok (.istore_n 3, 1) := by decide +kernel
theorem dX5_walksThrough_7 : decode cX5_walksThrough 7 = .ok (.iload_n 3, 1) := by decide +kernel
theorem dX5_walksThrough_8 : decode cX5_walksThrough 8 = .ok (.ifCond .eq 12, 3) := by decide +kernel
theorem dX5_walksThrough_11 : decode cX5_walksThrough 11 = .ok (.aload_n 0, 1) := by decide +kernel
theorem dX5_walksThrough_12 : decode cX5_walksThrough 12 = .ok (.getfield 28, 3) := by decide +kernel
theorem dX5_walksThrough_15 : decode cX5_walksThrough 15 = .ok (.iload_n 3, 1) := by decide +kernel
theorem dX5_walksThrough_16 : decode cX5_walksThrough 16 = .ok (.invokevirtual 90, 3) := by decide +kernel
theorem dX5_walksThrough_19 : decode cX5_walksThrough 19 = .ok (.ireturn, 1) := by decide +kernel
theorem dX5_walksThrough_20 : decode cX5_walksThrough 20 = .ok (.aload_n 0, 1) := by decide +kernel
theorem dX5_walksThrough_21 : decode cX5_walksThrough 21 = .ok (.getfield 21, 3) := by decide +kernel
theorem dX5_walksThrough_24 : decode cX5_walksThrough 24 = .ok (.getfield 58, 3) := by decide +kernel
theorem dX5_walksThrough_27 : decode cX5_walksThrough 27 = .ok (.iload_n 1, 1) := by decide +kernel
theorem dX5_walksThrough_28 : decode cX5_walksThrough 28 = .ok (.aload_n 0, 1) := by decide +kernel
theorem dX5_walksThrough_29 : decode cX5_walksThrough 29 = .ok (.getfield 12, 3) := by decide +kernel
theorem dX5_walksThrough_32 : decode cX5_walksThrough 32 = .ok (.iload_n 2, 1) := by decide +kernel
theorem dX5_walksThrough_33 : decode cX5_walksThrough 33 = .ok (.aload_n 0, 1) := by decide +kernel
theorem dX5_walksThrough_34 : decode cX5_walksThrough 34 = .ok (.getfield 21, 3) := by decide +kernel
theorem dX5_walksThrough_37 : decode cX5_walksThrough 37 = .ok (.getfield 58, 3) := by decide +kernel
theorem dX5_walksThrough_40 : decode cX5_walksThrough 40 = .ok (.iload_n 1, 1) := by decide +kernel
theorem dX5_walksThrough_41 : decode cX5_walksThrough 41 = .ok (.iaload, 1) := by decide +kernel
theorem dX5_walksThrough_42 : decode cX5_walksThrough 42 = .ok (.invokevirtual 93, 3) := by decide +kernel
theorem dX5_walksThrough_45 : decode cX5_walksThrough 45 = .ok (.iastore, 1) := by decide +kernel
theorem dX5_walksThrough_46 : decode cX5_walksThrough 46 = .ok (.aload_n 0, 1) := by decide +kernel
theorem dX5_walksThrough_47 : decode cX5_walksThrough 47 = .ok (.getfield 21, 3) := by decide +kernel
theorem dX5_walksThrough_50 : decode cX5_walksThrough 50 = .ok (.getfield 96, 3) := by decide +kernel
theorem dX5_walksThrough_53 : decode cX5_walksThrough 53 = .ok (.iload_n 1, 1) := by decide +kernel
theorem dX5_walksThrough_54 : decode cX5_walksThrough 54 = .ok (.dup2, 1) := by decide +kernel
theorem dX5_walksThrough_55 : decode cX5_walksThrough 55 = .ok (.iaload, 1) := by decide +kernel
theorem dX5_walksThrough_56 : decode cX5_walksThrough 56 = .ok (.iconst 1, 1) := by decide +kernel
theorem dX5_walksThrough_57 : decode cX5_walksThrough 57 = .ok (.iadd, 1) := by decide +kernel
theorem dX5_walksThrough_58 : decode cX5_walksThrough 58 = .ok (.iastore, 1) := by decide +kernel
theorem dX5_walksThrough_59 : decode cX5_walksThrough 59 = .ok (.bipush 10, 2) := by decide +kernel
theorem dX5_walksThrough_61 : decode cX5_walksThrough 61 = .ok (.aload_n 0, 1) := by decide +kernel
theorem dX5_walksThrough_62 : decode cX5_walksThrough 62 = .ok (.getfield 21, 3) := by decide +kernel
theorem dX5_walksThrough_65 : decode cX5_walksThrough 65 = .ok (.getfield 58, 3) := by decide +kernel
theorem dX5_walksThrough_68 : decode cX5_walksThrough 68 = .ok (.iload_n 1, 1) := by decide +kernel
theorem dX5_walksThrough_69 : decode cX5_walksThrough 69 = .ok (.iaload, 1) := by decide +kernel
theorem dX5_walksThrough_70 : decode cX5_walksThrough 70 = .ok (.iadd, 1) := by decide +kernel
theorem dX5_walksThrough_71 : decode cX5_walksThrough 71 = .ok (.ireturn, 1) := by decide +kernel
theorem dX5_laysCord_0 : decode cX5_laysCord 0 = .ok (.aload_n 0, 1) := by decide +kernel
theorem dX5_laysCord_1 : decode cX5_laysCord 1 = .ok (.iload_n 1, 1) := by decide +kernel
theorem dX5_laysCord_2 : decode cX5_laysCord 2 = .ok (.invokevirtual 50, 3) := by decide +kernel
theorem dX5_laysCord_5 : decode cX5_laysCord 5 = .ok (.ifCond .eq 26, 3) := by decide +kernel
theorem dX5_laysCord_8 : decode cX5_laysCord 8 = .ok (.iload_n 3, 1) := by decide +kernel
theorem dX5_laysCord_9 : decode cX5_laysCord 9 = .ok (.bipush 10, 2) := by decide +kernel
theorem dX5_laysCord_11 : decode cX5_laysCord 11 = .ok (.if_icmp .eq 20, 3) := by decide +kernel
theorem dX5_laysCord_14 : decode cX5_laysCord 14 = .ok (.aload_n 0, 1) := by decide +kernel
theorem dX5_laysCord_15 : decode cX5_laysCord 15 = .ok (.iload_n 3, 1) := by decide +kernel
theorem dX5_laysCord_16 : decode cX5_laysCord 16 = .ok (.invokevirtual 50, 3) := by decide +kernel
theorem dX5_laysCord_19 : decode cX5_laysCord 19 = .ok (.ifCond .eq 12, 3) := by decide +kernel
theorem dX5_laysCord_22 : decode cX5_laysCord 22 = .ok (.aload_n 0, 1) := by decide +kernel
theorem dX5_laysCord_23 : decode cX5_laysCord 23 = .ok (.getfield 28, 3) := by decide +kernel
theorem dX5_laysCord_26 : decode cX5_laysCord 26 = .ok (.iconst 4, 1) := by decide +kernel
theorem dX5_laysCord_27 : decode cX5_laysCord 27 = .ok (.invokevirtual 90, 3) := by decide +kernel
theorem dX5_laysCord_30 : decode cX5_laysCord 30 = .ok (.ireturn, 1) := by decide +kernel
theorem dX5_laysCord_31 : decode cX5_laysCord 31 = .ok (.aload_n 0, 1) := by decide +kernel
theorem dX5_laysCord_32 : decode cX5_laysCord 32 = .ok (.getfield 12, 3) := by decide +kernel
theorem dX5_laysCord_35 : decode cX5_laysCord 35 = .ok (.iload_n 1, 1) := by decide +kernel
theorem dX5_laysCord_36 : decode cX5_laysCord 36 = .ok (.iload_n 2, 1) := by decide +kernel
theorem dX5_laysCord_37 : decode cX5_laysCord 37 = .ok (.iload_n 3, 1) := by decide +kernel
theorem dX5_laysCord_38 : decode cX5_laysCord 38 = .ok (.invokevirtual 99, 3) := by decide +kernel
theorem dX5_laysCord_41 : decode cX5_laysCord 41 = .ok (.bipush 10, 2) := by decide +kernel
theorem dX5_laysCord_43 : decode cX5_laysCord 43 = .ok (.ireturn, 1) := by decide +kernel
theorem dX5_opensUnless_0 : decode cX5_opensUnless 0 = .ok (.iload_n 1, 1) := by decide +kernel
theorem dX5_opensUnless_1 : decode cX5_opensUnless 1 = .ok (.ifCond .eq 12, 3) := by decide +kernel
theorem dX5_opensUnless_4 : decode cX5_opensUnless 4 = .ok (.aload_n 0, 1) := by decide +kernel
theorem dX5_opensUnless_5 : decode cX5_opensUnless 5 = .ok (.getfield 28, 3) := by decide +kernel
theorem dX5_opensUnless_8 : decode cX5_opensUnless 8 = .ok (.iload_n 1, 1) := by decide +kernel
theorem dX5_opensUnless_9 : decode cX5_opensUnless 9 = .ok (.invokevirtual 90, 3) := by decide +kernel
theorem dX5_opensUnless_12 : decode cX5_opensUnless 12 = .ok (.ireturn, 1) := by decide +kernel
theorem dX5_opensUnless_13 : decode cX5_opensUnless 13 = .ok (.aload_n 0, 1) := by decide +kernel
theorem dX5_opensUnless_14 : decode cX5_opensUnless 14 = .ok (.getfield 12, 3) := by decide +kernel
theorem dX5_opensUnless_17 : decode cX5_opensUnless 17 = .ok (.aload_n 0, 1) := by decide +kernel
theorem dX5_opensUnless_18 : decode cX5_opensUnless 18 = .ok (.getfield 32, 3) := by decide +kernel
theorem dX5_opensUnless_21 : decode cX5_opensUnless 21 = .ok (.iload_n 2, 1) := by decide +kernel
theorem dX5_opensUnless_22 : decode cX5_opensUnless 22 = .ok (.invokevirtual 103, 3) := by decide +kernel
theorem dX5_opensUnless_25 : decode cX5_opensUnless 25 = .ok (.istore_n 3, 1) := by decide +kernel
theorem dX5_opensUnless_26 : decode cX5_opensUnless 26 = .ok (.aload_n 0, 1) := by decide +kernel
theorem dX5_opensUnless_27 : decode cX5_opensUnless 27 = .ok (.getfield 12, 3) := by decide +kernel
theorem dX5_opensUnless_30 : decode cX5_opensUnless 30 = .ok (.iload_n 3, 1) := by decide +kernel
theorem dX5_opensUnless_31 : decode cX5_opensUnless 31 = .ok (.iload_n 2, 1) := by decide +kernel
theorem dX5_opensUnless_32 : decode cX5_opensUnless 32 = .ok (.invokevirtual 106, 3) := by decide +kernel
theorem dX5_opensUnless_35 : decode cX5_opensUnless 35 = .ok (.istore 4, 2) := by decide +kernel
theorem dX5_opensUnless_37 : decode cX5_opensUnless 37 = .ok (.aload_n 0, 1) := by decide +kernel
theorem dX5_opensUnless_38 : decode cX5_opensUnless 38 = .ok (.getfield 32, 3) := by decide +kernel
theorem dX5_opensUnless_41 : decode cX5_opensUnless 41 = .ok (.iload_n 3, 1) := by decide +kernel
theorem dX5_opensUnless_42 : decode cX5_opensUnless 42 = .ok (.iconst (-1), 1) := by decide +kernel
theorem dX5_opensUnless_43 : decode cX5_opensUnless 43 = .ok (.ixor, 1) := by decide +kernel
theorem dX5_opensUnless_44 : decode cX5_opensUnless 44 = .ok (.iand, 1) := by decide +kernel
theorem dX5_opensUnless_45 : decode cX5_opensUnless 45 = .ok (.istore 5, 2) := by decide +kernel
theorem dX5_opensUnless_47 : decode cX5_opensUnless 47 = .ok (.iload_n 3, 1) := by decide +kernel
theorem dX5_opensUnless_48 : decode cX5_opensUnless 48 = .ok (.iload 4, 2) := by decide +kernel
theorem dX5_opensUnless_50 : decode cX5_opensUnless 50 = .ok (.iconst (-1), 1) := by decide +kernel
theorem dX5_opensUnless_51 : decode cX5_opensUnless 51 = .ok (.ixor, 1) := by decide +kernel
theorem dX5_opensUnless_52 : decode cX5_opensUnless 52 = .ok (.iand, 1) := by decide +kernel
theorem dX5_opensUnless_53 : decode cX5_opensUnless 53 = .ok (.istore 6, 2) := by decide +kernel
theorem dX5_opensUnless_55 : decode cX5_opensUnless 55 = .ok (.aload_n 0, 1) := by decide +kernel
theorem dX5_opensUnless_56 : decode cX5_opensUnless 56 = .ok (.getfield 28, 3) := by decide +kernel
theorem dX5_opensUnless_59 : decode cX5_opensUnless 59 = .ok (.iload_n 2, 1) := by decide +kernel
theorem dX5_opensUnless_60 : decode cX5_opensUnless 60 = .ok (.invokevirtual 109, 3) := by decide +kernel
theorem dX5_opensUnless_63 : decode cX5_opensUnless 63 = .ok (.aload_n 0, 1) := by decide +kernel
theorem dX5_opensUnless_64 : decode cX5_opensUnless 64 = .ok (.getfield 28, 3) := by decide +kernel
theorem dX5_opensUnless_67 : decode cX5_opensUnless 67 = .ok (.iload 5, 2) := by decide +kernel
theorem dX5_opensUnless_69 : decode cX5_opensUnless 69 = .ok (.iload 6, 2) := by decide +kernel
theorem dX5_opensUnless_71 : decode cX5_opensUnless 71 = .ok (.invokevirtual 113, 3) := by decide +kernel
theorem dX5_opensUnless_74 : decode cX5_opensUnless 74 = .ok (.aload_n 0, 1) := by decide +kernel
theorem dX5_opensUnless_75 : decode cX5_opensUnless 75 = .ok (.iload 4, 2) := by decide +kernel
theorem dX5_opensUnless_77 : decode cX5_opensUnless 77 = .ok (.putfield 32, 3) := by decide +kernel
theorem dX5_opensUnless_80 : decode cX5_opensUnless 80 = .ok (.bipush 10, 2) := by decide +kernel
theorem dX5_opensUnless_82 : decode cX5_opensUnless 82 = .ok (.iload 5, 2) := by decide +kernel
theorem dX5_opensUnless_84 : decode cX5_opensUnless 84 = .ok (.iload 6, 2) := by decide +kernel
theorem dX5_opensUnless_86 : decode cX5_opensUnless 86 = .ok (.ior, 1) := by decide +kernel
theorem dX5_opensUnless_87 : decode cX5_opensUnless 87 = .ok (.invokestatic 117, 3) := by decide +kernel
theorem dX5_opensUnless_90 : decode cX5_opensUnless 90 = .ok (.iadd, 1) := by decide +kernel
theorem dX5_opensUnless_91 : decode cX5_opensUnless 91 = .ok (.ireturn, 1) := by decide +kernel
theorem dX5_shutsUnless_0 : decode cX5_shutsUnless 0 = .ok (.iload_n 1, 1) := by decide +kernel
theorem dX5_shutsUnless_1 : decode cX5_shutsUnless 1 = .ok (.ifCond .eq 12, 3) := by decide +kernel
theorem dX5_shutsUnless_4 : decode cX5_shutsUnless 4 = .ok (.aload_n 0, 1) := by decide +kernel
theorem dX5_shutsUnless_5 : decode cX5_shutsUnless 5 = .ok (.getfield 28, 3) := by decide +kernel
theorem dX5_shutsUnless_8 : decode cX5_shutsUnless 8 = .ok (.iload_n 1, 1) := by decide +kernel
theorem dX5_shutsUnless_9 : decode cX5_shutsUnless 9 = .ok (.invokevirtual 90, 3) := by decide +kernel
theorem dX5_shutsUnless_12 : decode cX5_shutsUnless 12 = .ok (.ireturn, 1) := by decide +kernel
theorem dX5_shutsUnless_13 : decode cX5_shutsUnless 13 = .ok (.aload_n 0, 1) := by decide +kernel
theorem dX5_shutsUnless_14 : decode cX5_shutsUnless 14 = .ok (.getfield 28, 3) := by decide +kernel
theorem dX5_shutsUnless_17 : decode cX5_shutsUnless 17 = .ok (.iload_n 2, 1) := by decide +kernel
theorem dX5_shutsUnless_18 : decode cX5_shutsUnless 18 = .ok (.invokevirtual 122, 3) := by decide +kernel
theorem dX5_shutsUnless_21 : decode cX5_shutsUnless 21 = .ok (.aload_n 0, 1) := by decide +kernel
theorem dX5_shutsUnless_22 : decode cX5_shutsUnless 22 = .ok (.aload_n 0, 1) := by decide +kernel
theorem dX5_shutsUnless_23 : decode cX5_shutsUnless 23 = .ok (.getfield 32, 3) := by decide +kernel
theorem dX5_shutsUnless_26 : decode cX5_shutsUnless 26 = .ok (.iload_n 2, 1) := by decide +kernel
theorem dX5_shutsUnless_27 : decode cX5_shutsUnless 27 = .ok (.invokestatic 125, 3) := by decide +kernel
theorem dX5_shutsUnless_30 : decode cX5_shutsUnless 30 = .ok (.putfield 32, 3) := by decide +kernel
theorem dX5_shutsUnless_33 : decode cX5_shutsUnless 33 = .ok (.bipush 10, 2) := by decide +kernel
theorem dX5_shutsUnless_35 : decode cX5_shutsUnless 35 = .ok (.ireturn, 1) := by decide +kernel
theorem dX6_init_0 : decode cX6_init 0 = .ok (.aload_n 0, 1) := by decide +kernel
theorem dX6_init_1 : decode cX6_init 1 = .ok (.invokespecial 3, 3) := by decide +kernel
theorem dX6_init_4 : decode cX6_init 4 = .ok (.aload_n 0, 1) := by decide +kernel
theorem dX6_init_5 : decode cX6_init 5 = .ok (.iconst 0, 1) := by decide +kernel
theorem dX6_init_6 : decode cX6_init 6 = .ok (.putfield 9, 3) := by decide +kernel
theorem dX6_init_9 : decode cX6_init 9 = .ok (.aload_n 0, 1) := by decide +kernel
theorem dX6_init_10 : decode cX6_init 10 = .ok (.iconst 0, 1) := by decide +kernel
theorem dX6_init_11 : decode cX6_init 11 = .ok (.putfield 15, 3) := by decide +kernel
theorem dX6_init_14 : decode cX6_init 14 = .ok (.aload_n 0, 1) := by decide +kernel
theorem dX6_init_15 : decode cX6_init 15 = .ok (.iconst 0, 1) := by decide +kernel
theorem dX6_init_16 : decode cX6_init 16 = .ok (.putfield 18, 3) := by decide +kernel
theorem dX6_init_19 : decode cX6_init 19 = .ok (.return_, 1) := by decide +kernel
theorem dX6_forget_0 : decode cX6_forget 0 = .ok (.aload_n 0, 1) := by decide +kernel
theorem dX6_forget_1 : decode cX6_forget 1 = .ok (.iconst 0, 1) := by decide +kernel
theorem dX6_forget_2 : decode cX6_forget 2 = .ok (.putfield 9, 3) := by decide +kernel
theorem dX6_forget_5 : decode cX6_forget 5 = .ok (.return_, 1) := by decide +kernel
theorem dX6_remember_0 : decode cX6_remember 0 = .ok (.aload_n 0, 1) := by decide +kernel
theorem dX6_remember_1 : decode cX6_remember 1 = .ok (.iload_n 1, 1) := by decide +kernel
theorem dX6_remember_2 : decode cX6_remember 2 = .ok (.putfield 9, 3) := by decide +kernel
theorem dX6_remember_5 : decode cX6_remember 5 = .ok (.aload_n 0, 1) := by decide +kernel
theorem dX6_remember_6 : decode cX6_remember 6 = .ok (.iload_n 2, 1) := by decide +kernel
theorem dX6_remember_7 : decode cX6_remember 7 = .ok (.putfield 15, 3) := by decide +kernel
theorem dX6_remember_10 : decode cX6_remember 10 = .ok (.aload_n 0, 1) := by decide +kernel
theorem dX6_remember_11 : decode cX6_remember 11 = .ok (.iload_n 3, 1) := by decide +kernel
theorem dX6_remember_12 : decode cX6_remember 12 = .ok (.putfield 18, 3) := by decide +kernel
theorem dX6_remember_15 : decode cX6_remember 15 = .ok (.return_, 1) := by decide +kernel
theorem dX6_happened_0 : decode cX6_happened 0 = .ok (.aload_n 0, 1) := by decide +kernel
theorem dX6_happened_1 : decode cX6_happened 1 = .ok (.getfield 9, 3) := by decide +kernel
theorem dX6_happened_4 : decode cX6_happened 4 = .ok (.ifCond .eq 7, 3) := by decide +kernel
theorem dX6_happened_7 : decode cX6_happened 7 = .ok (.iconst 1, 1) := by decide +kernel
theorem dX6_happened_8 : decode cX6_happened 8 = .ok (.goto 4, 3) := by decide +kernel
theorem dX6_happened_11 : decode cX6_happened 11 = .ok (.iconst 0, 1) := by decide +kernel
theorem dX6_happened_12 : decode cX6_happened 12 = .ok (.ireturn, 1) := by decide +kernel
theorem dX7_init_0 : decode cX7_init 0 = .ok (.aload_n 0, 1) := by decide +kernel
theorem dX7_init_1 : decode cX7_init 1 = .ok (.invokespecial 3, 3) := by decide +kernel
theorem dX7_init_4 : decode cX7_init 4 = .ok (.aload_n 0, 1) := by decide +kernel
theorem dX7_init_5 : decode cX7_init 5 = .ok (.sipush 6144, 3) := by decide +kernel
theorem dX7_init_8 : decode cX7_init 8 = .ok (.newarray .int, 2) := by decide +kernel
theorem dX7_init_10 : decode cX7_init 10 = .ok (.putfield 9, 3) := by decide +kernel
theorem dX7_init_13 : decode cX7_init 13 = .ok (.aload_n 0, 1) := by decide +kernel
theorem dX7_init_14 : decode cX7_init 14 = .ok (.sipush 6144, 3) := by decide +kernel
theorem dX7_init_17 : decode cX7_init 17 = .ok (.newarray .int, 2) := by decide +kernel
theorem dX7_init_19 : decode cX7_init 19 = .ok (.putfield 15, 3) := by decide +kernel
theorem dX7_init_22 : decode cX7_init 22 = .ok (.aload_n 0, 1) := by decide +kernel
theorem dX7_init_23 : decode cX7_init 23 = .ok (.iconst 0, 1) := by decide +kernel
theorem dX7_init_24 : decode cX7_init 24 = .ok (.putfield 18, 3) := by decide +kernel
theorem dX7_init_27 : decode cX7_init 27 = .ok (.return_, 1) := by decide +kernel
theorem dX7_fromNowOn_0 : decode cX7_fromNowOn 0 = .ok (.aload_n 0, 1) := by decide +kernel
theorem dX7_fromNowOn_1 : decode cX7_fromNowOn 1 = .ok (.getfield 9, 3) := by decide +kernel
theorem dX7_fromNowOn_4 : decode cX7_fromNowOn 4 = .ok (.sipush 6144, 3) := by decide +kernel
theorem dX7_fromNowOn_7 : decode cX7_fromNowOn 7 = .ok (.invokestatic 22, 3) := by decide +kernel
theorem dX7_fromNowOn_10 : decode cX7_fromNowOn 10 = .ok (.aload_n 0, 1) := by decide +kernel
theorem dX7_fromNowOn_11 : decode cX7_fromNowOn 11 = .ok (.iconst 0, 1) := by decide +kernel
theorem dX7_fromNowOn_12 : decode cX7_fromNowOn 12 = .ok (.putfield 18, 3) := by decide +kernel
theorem dX7_fromNowOn_15 : decode cX7_fromNowOn 15 = .ok (.aload_n 0, 1) := by decide +kernel
theorem dX7_fromNowOn_16 : decode cX7_fromNowOn 16 = .ok (.iload_n 2, 1) := by decide +kernel
theorem dX7_fromNowOn_17 : decode cX7_fromNowOn 17 = .ok (.iconst 0, 1) := by decide +kernel
theorem dX7_fromNowOn_18 : decode cX7_fromNowOn 18 = .ok (.invokevirtual 28, 3) := by decide +kernel
theorem dX7_fromNowOn_21 : decode cX7_fromNowOn 21 = .ok (.iconst 0, 1) := by decide +kernel
theorem dX7_fromNowOn_22 : decode cX7_fromNowOn 22 = .ok (.istore 5, 2) := by decide +kernel
theorem dX7_fromNowOn_24 : decode cX7_fromNowOn 24 = .ok (.iload 5, 2) := by decide +kernel
theorem dX7_fromNowOn_26 : decode cX7_fromNowOn 26 = .ok (.aload_n 0, 1) := by decide +kernel
theorem dX7_fromNowOn_27 : decode cX7_fromNowOn 27 = .ok (.getfield 18, 3) := by decide +kernel
theorem dX7_fromNowOn_30 : decode cX7_fromNowOn 30 = .ok (.if_icmp .ge 59, 3) := by decide +kernel
theorem dX7_fromNowOn_33 : decode cX7_fromNowOn 33 = .ok (.iload 5, 2) := by decide +kernel
theorem dX7_fromNowOn_35 : decode cX7_fromNowOn 35 = .ok (.sipush 6144, 3) := by decide +kernel
theorem dX7_fromNowOn_38 : decode cX7_fromNowOn 38 = .ok (.if_icmp .ge 51, 3) := by decide +kernel
theorem dX7_fromNowOn_41 : decode cX7_fromNowOn 41 = .ok (.aload_n 0, 1) := by decide +kernel
theorem dX7_fromNowOn_42 : decode cX7_fromNowOn 42 = .ok (.getfield 15, 3) := by decide +kernel
theorem dX7_fromNowOn_45 : decode cX7_fromNowOn 45 = .ok (.iload 5, 2) := by decide +kernel
theorem dX7_fromNowOn_47 : decode cX7_fromNowOn 47 = .ok (.iaload, 1) := by decide +kernel
theorem dX7_fromNowOn_48 : decode cX7_fromNowOn 48 = .ok (.istore 6, 2) := by decide +kernel
theorem dX7_fromNowOn_50 : decode cX7_fromNowOn 50 = .ok (.aload_n 0, 1) := by decide +kernel
theorem dX7_fromNowOn_51 : decode cX7_fromNowOn 51 = .ok (.iload 6, 2) := by decide +kernel
theorem dX7_fromNowOn_53 : decode cX7_fromNowOn 53 = .ok (.invokevirtual 32, 3) := by decide +kernel
theorem dX7_fromNowOn_56 : decode cX7_fromNowOn 56 = .ok (.istore 7, 2) := by decide +kernel
theorem dX7_fromNowOn_58 : decode cX7_fromNowOn 58 = .ok (.iload 6, 2) := by decide +kernel
theorem dX7_fromNowOn_60 : decode cX7_fromNowOn 60 = .ok (.bipush 6, 2) := by decide +kernel
theorem dX7_fromNowOn_62 : decode cX7_fromNowOn 62 = .ok (.irem, 1) := by decide +kernel
theorem dX7_fromNowOn_63 : decode cX7_fromNowOn 63 = .ok (.iload 4, 2) := by decide +kernel
theorem dX7_fromNowOn_65 : decode cX7_fromNowOn 65 = .ok (.if_icmp .ne 6, 3) := by decide +kernel
theorem dX7_fromNowOn_68 : decode cX7_fromNowOn 68 = .ok (.iload 7, 2) := by decide +kernel
theorem dX7_fromNowOn_70 : decode cX7_fromNowOn 70 = .ok (.ireturn, 1) := by decide +kernel
theorem dX7_fromNowOn_71 : decode cX7_fromNowOn 71 = .ok (.aload_n 0, 1) := by decide +kernel
theorem dX7_fromNowOn_72 : decode cX7_fromNowOn 72 = .ok (.aload_n 1, 1) := by decide +kernel
theorem dX7_fromNowOn_73 : decode cX7_fromNowOn 73 = .ok (.iload 6, 2) := by decide +kernel
theorem dX7_fromNowOn_75 : decode cX7_fromNowOn 75 = .ok (.iload_n 3, 1) := by decide +kernel
theorem dX7_fromNowOn_76 : decode cX7_fromNowOn 76 = .ok (.iload 7, 2) := by decide +kernel
theorem dX7_fromNowOn_78 : decode cX7_fromNowOn 78 = .ok (.iconst 1, 1) := by decide +kernel
theorem dX7_fromNowOn_79 : decode cX7_fromNowOn 79 = .ok (.iadd, 1) := by decide +kernel
theorem dX7_fromNowOn_80 : decode cX7_fromNowOn 80 = .ok (.invokevirtual 36, 3) := by decide +kernel
theorem dX7_fromNowOn_83 : decode cX7_fromNowOn 83 = .ok (.iinc 5 1, 3) := by decide +kernel
theorem dX7_fromNowOn_86 : decode cX7_fromNowOn 86 = .ok (.goto (-62), 3) := by decide +kernel
theorem dX7_fromNowOn_89 : decode cX7_fromNowOn 89 = .ok (.bipush (-4), 2) := by decide +kernel
theorem dX7_fromNowOn_91 : decode cX7_fromNowOn 91 = .ok (.ireturn, 1) := by decide +kernel
theorem dX7_goOnFrom_0 : decode cX7_goOnFrom 0 = .ok (.iload_n 2, 1) := by decide +kernel
theorem dX7_goOnFrom_1 : decode cX7_goOnFrom 1 = .ok (.bipush 6, 2) := by decide +kernel
theorem dX7_goOnFrom_3 : decode cX7_goOnFrom 3 = .ok (.idiv, 1) := by decide +kernel
theorem dX7_goOnFrom_4 : decode cX7_goOnFrom 4 = .ok (.istore 5, 2) := by decide +kernel
theorem dX7_goOnFrom_6 : decode cX7_goOnFrom 6 = .ok (.iload_n 2, 1) := by decide +kernel
theorem dX7_goOnFrom_7 : decode cX7_goOnFrom 7 = .ok (.bipush 6, 2) := by decide +kernel
theorem dX7_goOnFrom_9 : decode cX7_goOnFrom 9 = .ok (.irem, 1) := by decide +kernel
theorem dX7_goOnFrom_10 : decode cX7_goOnFrom 10 = .ok (.istore 6, 2) := by decide +kernel
theorem dX7_goOnFrom_12 : decode cX7_goOnFrom 12 = .ok (.iload_n 3, 1) := by decide +kernel
theorem dX7_goOnFrom_13 : decode cX7_goOnFrom 13 = .ok (.iload 5, 2) := by decide +kernel
theorem dX7_goOnFrom_15 : decode cX7_goOnFrom 15 = .ok (.iconst (-1), 1) := by decide +kernel
theorem dX7_goOnFrom_16 : decode cX7_goOnFrom 16 = .ok (.ixor, 1) := by decide +kernel
theorem dX7_goOnFrom_17 : decode cX7_goOnFrom 17 = .ok (.iand, 1) := by decide +kernel
theorem dX7_goOnFrom_18 : decode cX7_goOnFrom 18 = .ok (.aload_n 1, 1) := by decide +kernel
theorem dX7_goOnFrom_19 : decode cX7_goOnFrom 19 = .ok (.iload 5, 2) := by decide +kernel
theorem dX7_goOnFrom_21 : decode cX7_goOnFrom 21 = .ok (.invokevirtual 40, 3) := by decide +kernel
theorem dX7_goOnFrom_24 : decode cX7_goOnFrom 24 = .ok (.iconst (-1), 1) := by decide +kernel
theorem dX7_goOnFrom_25 : decode cX7_goOnFrom 25 = .ok (.ixor, 1) := by decide +kernel
theorem dX7_goOnFrom_26 : decode cX7_goOnFrom 26 = .ok (.iand, 1) := by decide +kernel
theorem dX7_goOnFrom_27 : decode cX7_goOnFrom 27 = .ok (.istore 7, 2) := by decide +kernel
theorem dX7_goOnFrom_29 : decode cX7_goOnFrom 29 = .ok (.iconst 0, 1) := by decide +kernel
theorem dX7_goOnFrom_30 : decode cX7_goOnFrom 30 = .ok (.istore 8, 2) := by decide +kernel
theorem dX7_goOnFrom_32 : decode cX7_goOnFrom 32 = .ok (.iload 8, 2) := by decide +kernel
theorem dX7_goOnFrom_34 : decode cX7_goOnFrom 34 = .ok (.bipush 10, 2) := by decide +kernel
theorem dX7_goOnFrom_36 : decode cX7_goOnFrom 36 = .ok (.if_icmp .ge 102, 3) := by decide +kernel
theorem dX7_goOnFrom_39 : decode cX7_goOnFrom 39 = .ok (.aload_n 1, 1) := by decide +kernel
theorem dX7_goOnFrom_40 : decode cX7_goOnFrom 40 = .ok (.iload 8, 2) := by decide +kernel
theorem dX7_goOnFrom_42 : decode cX7_goOnFrom 42 = .ok (.iload 6, 2) := by decide +kernel
theorem dX7_goOnFrom_44 : decode cX7_goOnFrom 44 = .ok (.invokevirtual 45, 3) := by decide +kernel
theorem dX7_goOnFrom_47 : decode cX7_goOnFrom 47 = .ok (.ifCond .ne 6, 3) := by decide +kernel
theorem dX7_goOnFrom_50 : decode cX7_goOnFrom 50 = .ok (.goto 82, 3) := by decide +kernel
theorem dX7_goOnFrom_53 : decode cX7_goOnFrom 53 = .ok (.iload 5, 2) := by decide +kernel
theorem dX7_goOnFrom_55 : decode cX7_goOnFrom 55 = .ok (.iload 8, 2) := by decide +kernel
theorem dX7_goOnFrom_57 : decode cX7_goOnFrom 57 = .ok (.invokestatic 49, 3) := by decide +kernel
theorem dX7_goOnFrom_60 : decode cX7_goOnFrom 60 = .ok (.ifCond .eq 43, 3) := by decide +kernel
theorem dX7_goOnFrom_63 : decode cX7_goOnFrom 63 = .ok (.aload_n 0, 1) := by decide +kernel
theorem dX7_goOnFrom_64 : decode cX7_goOnFrom 64 = .ok (.iload 5, 2) := by decide +kernel
theorem dX7_goOnFrom_66 : decode cX7_goOnFrom 66 = .ok (.aload_n 1, 1) := by decide +kernel
theorem dX7_goOnFrom_67 : decode cX7_goOnFrom 67 = .ok (.iload 8, 2) := by decide +kernel
theorem dX7_goOnFrom_69 : decode cX7_goOnFrom 69 = .ok (.iload 6, 2) := by decide +kernel
theorem dX7_goOnFrom_71 : decode cX7_goOnFrom 71 = .ok (.invokevirtual 52, 3) := by decide +kernel
theorem dX7_goOnFrom_74 : decode cX7_goOnFrom 74 = .ok (.invokestatic 56, 3) := by decide +kernel
theorem dX7_goOnFrom_77 : decode cX7_goOnFrom 77 = .ok (.iload 4, 2) := by decide +kernel
theorem dX7_goOnFrom_79 : decode cX7_goOnFrom 79 = .ok (.invokevirtual 28, 3) := by decide +kernel
theorem dX7_goOnFrom_82 : decode cX7_goOnFrom 82 = .ok (.aload_n 0, 1) := by decide +kernel
theorem dX7_goOnFrom_83 : decode cX7_goOnFrom 83 = .ok (.iload 5, 2) := by decide +kernel
theorem dX7_goOnFrom_85 : decode cX7_goOnFrom 85 = .ok (.iload 8, 2) := by decide +kernel
theorem dX7_goOnFrom_87 : decode cX7_goOnFrom 87 = .ok (.invokestatic 59, 3) := by decide +kernel
theorem dX7_goOnFrom_90 : decode cX7_goOnFrom 90 = .ok (.iload 6, 2) := by decide +kernel
theorem dX7_goOnFrom_92 : decode cX7_goOnFrom 92 = .ok (.invokestatic 56, 3) := by decide +kernel
theorem dX7_goOnFrom_95 : decode cX7_goOnFrom 95 = .ok (.iload 4, 2) := by decide +kernel
theorem dX7_goOnFrom_97 : decode cX7_goOnFrom 97 = .ok (.invokevirtual 28, 3) := by decide +kernel
theorem dX7_goOnFrom_100 : decode cX7_goOnFrom 100 = .ok (.goto 32, 3) := by decide +kernel
theorem dX7_goOnFrom_103 : decode cX7_goOnFrom 103 = .ok (.iload 7, 2) := by decide +kernel
theorem dX7_goOnFrom_105 : decode cX7_goOnFrom 105 = .ok (.iload 8, 2) := by decide +kernel
theorem dX7_goOnFrom_107 : decode cX7_goOnFrom 107 = .ok (.invokestatic 49, 3) := by decide +kernel
theorem dX7_goOnFrom_110 : decode cX7_goOnFrom 110 = .ok (.ifCond .eq 22, 3) := by decide +kernel
theorem dX7_goOnFrom_113 : decode cX7_goOnFrom 113 = .ok (.aload_n 0, 1) := by decide +kernel
theorem dX7_goOnFrom_114 : decode cX7_goOnFrom 114 = .ok (.aload_n 1, 1) := by decide +kernel
theorem dX7_goOnFrom_115 : decode cX7_goOnFrom 115 = .ok (.iload 5, 2) := by decide +kernel
theorem dX7_goOnFrom_117 : decode cX7_goOnFrom 117 = .ok (.iload 8, 2) := by decide +kernel
theorem dX7_goOnFrom_119 : decode cX7_goOnFrom 119 = .ok (.invokevirtual 62, 3) := by decide +kernel
theorem dX7_goOnFrom_122 : decode cX7_goOnFrom 122 = .ok (.iload 6, 2) := by decide +kernel
theorem dX7_goOnFrom_124 : decode cX7_goOnFrom 124 = .ok (.invokestatic 56, 3) := by decide +kernel
theorem dX7_goOnFrom_127 : decode cX7_goOnFrom 127 = .ok (.iload 4, 2) := by decide +kernel
theorem dX7_goOnFrom_129 : decode cX7_goOnFrom 129 = .ok (.invokevirtual 28, 3) := by decide +kernel
theorem dX7_goOnFrom_132 : decode cX7_goOnFrom 132 = .ok (.iinc 8 1, 3) := by decide +kernel
theorem dX7_goOnFrom_135 : decode cX7_goOnFrom 135 = .ok (.goto (-103), 3) := by decide +kernel
theorem dX7_goOnFrom_138 : decode cX7_goOnFrom 138 = .ok (.return_, 1) := by decide +kernel
theorem dX7_isSpot_0 : decode cX7_isSpot 0 = .ok (.iload_n 0, 1) := by decide +kernel
theorem dX7_isSpot_1 : decode cX7_isSpot 1 = .ok (.ifCond .lt 14, 3) := by decide +kernel
theorem dX7_isSpot_4 : decode cX7_isSpot 4 = .ok (.iload_n 0, 1) := by decide +kernel
theorem dX7_isSpot_5 : decode cX7_isSpot 5 = .ok (.sipush 6144, 3) := by decide +kernel
theorem dX7_isSpot_8 : decode cX7_isSpot 8 = .ok (.if_icmp .ge 7, 3) := by decide +kernel
theorem dX7_isSpot_11 : decode cX7_isSpot 11 = .ok (.iconst 1, 1) := by decide +kernel
theorem dX7_isSpot_12 : decode cX7_isSpot 12 = .ok (.goto 4, 3) := by decide +kernel
theorem dX7_isSpot_15 : decode cX7_isSpot 15 = .ok (.iconst 0, 1) := by decide +kernel
theorem dX7_isSpot_16 : decode cX7_isSpot 16 = .ok (.ireturn, 1) := by decide +kernel
theorem dX7_fewestOf_0 : decode cX7_fewestOf 0 = .ok (.iload_n 1, 1) := by decide +kernel
theorem dX7_fewestOf_1 : decode cX7_fewestOf 1 = .ok (.invokestatic 65, 3) := by decide +kernel
theorem dX7_fewestOf_4 : decode cX7_fewestOf 4 = .ok (.ifCond .eq 12, 3) := by decide +kernel
theorem dX7_fewestOf_7 : decode cX7_fewestOf 7 = .ok (.aload_n 0, 1) := by decide +kernel
theorem dX7_fewestOf_8 : decode cX7_fewestOf 8 = .ok (.getfield 9, 3) := by decide +kernel
theorem dX7_fewestOf_11 : decode cX7_fewestOf 11 = .ok (.iload_n 1, 1) := by decide +kernel
theorem dX7_fewestOf_12 : decode cX7_fewestOf 12 = .ok (.iaload, 1) := by decide +kernel
theorem dX7_fewestOf_13 : decode cX7_fewestOf 13 = .ok (.goto 6, 3) := by decide +kernel
theorem dX7_fewestOf_16 : decode cX7_fewestOf 16 = .ok (.sipush 6144, 3) := by decide +kernel
theorem dX7_fewestOf_19 : decode cX7_fewestOf 19 = .ok (.ireturn, 1) := by decide +kernel
theorem dX7_reach_0 : decode cX7_reach 0 = .ok (.iload_n 1, 1) := by decide +kernel
theorem dX7_reach_1 : decode cX7_reach 1 = .ok (.invokestatic 65, 3) := by decide +kernel
theorem dX7_reach_4 : decode cX7_reach 4 = .ok (.ifCond .eq 52, 3) := by decide +kernel
theorem dX7_reach_7 : decode cX7_reach 7 = .ok (.aload_n 0, 1) := by decide +kernel
theorem dX7_reach_8 : decode cX7_reach 8 = .ok (.getfield 9, 3) := by decide +kernel
theorem dX7_reach_11 : decode cX7_reach 11 = .ok (.iload_n 1, 1) := by decide +kernel
theorem dX7_reach_12 : decode cX7_reach 12 = .ok (.iaload, 1) := by decide +kernel
theorem dX7_reach_13 : decode cX7_reach 13 = .ok (.sipush 6144, 3) := by decide +kernel
theorem dX7_reach_16 : decode cX7_reach 16 = .ok (.if_icmp .ne 40, 3) := by decide +kernel
theorem dX7_reach_19 : decode cX7_reach 19 = .ok (.aload_n 0, 1) := by decide +kernel
theorem dX7_reach_20 : decode cX7_reach 20 = .ok (.getfield 18, 3) := by decide +kernel
theorem dX7_reach_23 : decode cX7_reach 23 = .ok (.sipush 6144, 3) := by decide +kernel
theorem dX7_reach_26 : decode cX7_reach 26 = .ok (.if_icmp .ge 30, 3) := by decide +kernel
theorem dX7_reach_29 : decode cX7_reach 29 = .ok (.aload_n 0, 1) := by decide +kernel
theorem dX7_reach_30 : decode cX7_reach 30 = .ok (.getfield 9, 3) := by decide +kernel
theorem dX7_reach_33 : decode cX7_reach 33 = .ok (.iload_n 1, 1) := by decide +kernel
theorem dX7_reach_34 : decode cX7_reach 34 = .ok (.iload_n 2, 1) := by decide +kernel
theorem dX7_reach_35 : decode cX7_reach 35 = .ok (.iastore, 1) := by decide +kernel
theorem dX7_reach_36 : decode cX7_reach 36 = .ok (.aload_n 0, 1) := by decide +kernel
theorem dX7_reach_37 : decode cX7_reach 37 = .ok (.getfield 15, 3) := by decide +kernel
theorem dX7_reach_40 : decode cX7_reach 40 = .ok (.aload_n 0, 1) := by decide +kernel
theorem dX7_reach_41 : decode cX7_reach 41 = .ok (.getfield 18, 3) := by decide +kernel
theorem dX7_reach_44 : decode cX7_reach 44 = .ok (.iload_n 1, 1) := by decide +kernel
theorem dX7_reach_45 : decode cX7_reach 45 = .ok (.iastore, 1) := by decide +kernel
theorem dX7_reach_46 : decode cX7_reach 46 = .ok (.aload_n 0, 1) := by decide +kernel
theorem dX7_reach_47 : decode cX7_reach 47 = .ok (.dup, 1) := by decide +kernel
theorem dX7_reach_48 : decode cX7_reach 48 = .ok (.getfield 18, 3) := by decide +kernel
theorem dX7_reach_51 : decode cX7_reach 51 = .ok (.iconst 1, 1) := by decide +kernel
theorem dX7_reach_52 : decode cX7_reach 52 = .ok (.iadd, 1) := by decide +kernel
theorem dX7_reach_53 : decode cX7_reach 53 = .ok (.putfield 18, 3) := by decide +kernel
theorem dX7_reach_56 : decode cX7_reach 56 = .ok (.return_, 1) := by decide +kernel
theorem dX7_fromHallBack_0 : decode cX7_fromHallBack 0 = .ok (.aload_n 0, 1) := by decide +kernel
theorem dX7_fromHallBack_1 : decode cX7_fromHallBack 1 = .ok (.getfield 9, 3) := by decide +kernel
theorem dX7_fromHallBack_4 : decode cX7_fromHallBack 4 = .ok (.sipush 6144, 3) := by decide +kernel
theorem dX7_fromHallBack_7 : decode cX7_fromHallBack 7 = .ok (.invokestatic 22, 3) := by decide +kernel
theorem dX7_fromHallBack_10 : decode cX7_fromHallBack 10 = .ok (.aload_n 0, 1) := by decide +kernel
theorem dX7_fromHallBack_11 : decode cX7_fromHallBack 11 = .ok (.aload_n 1, 1) := by decide +kernel
theorem dX7_fromHallBack_12 : decode cX7_fromHallBack 12 = .ok (.iload_n 2, 1) := by decide +kernel
theorem dX7_fromHallBack_13 : decode cX7_fromHallBack 13 = .ok (.bipush 6, 2) := by decide +kernel
theorem dX7_fromHallBack_15 : decode cX7_fromHallBack 15 = .ok (.idiv, 1) := by decide +kernel
theorem dX7_fromHallBack_16 : decode cX7_fromHallBack 16 = .ok (.iload_n 3, 1) := by decide +kernel
theorem dX7_fromHallBack_17 : decode cX7_fromHallBack 17 = .ok (.ior, 1) := by decide +kernel
theorem dX7_fromHallBack_18 : decode cX7_fromHallBack 18 = .ok (.invokevirtual 69, 3) := by decide +kernel
theorem dX7_fromHallBack_21 : decode cX7_fromHallBack 21 = .ok (.iconst 0, 1) := by decide +kernel
theorem dX7_fromHallBack_22 : decode cX7_fromHallBack 22 = .ok (.istore 5, 2) := by decide +kernel
theorem dX7_fromHallBack_24 : decode cX7_fromHallBack 24 = .ok (.iload 5, 2) := by decide +kernel
theorem dX7_fromHallBack_26 : decode cX7_fromHallBack 26 = .ok (.aload_n 0, 1) := by decide +kernel
theorem dX7_fromHallBack_27 : decode cX7_fromHallBack 27 = .ok (.getfield 18, 3) := by decide +kernel
theorem dX7_fromHallBack_30 : decode cX7_fromHallBack 30 = .ok (.if_icmp .ge 33, 3) := by decide +kernel
theorem dX7_fromHallBack_33 : decode cX7_fromHallBack 33 = .ok (.iload 5, 2) := by decide +kernel
theorem dX7_fromHallBack_35 : decode cX7_fromHallBack 35 = .ok (.sipush 6144, 3) := by decide +kernel
theorem dX7_fromHallBack_38 : decode cX7_fromHallBack 38 = .ok (.if_icmp .ge 25, 3) := by decide +kernel
theorem dX7_fromHallBack_41 : decode cX7_fromHallBack 41 = .ok (.aload_n 0, 1) := by decide +kernel
theorem dX7_fromHallBack_42 : decode cX7_fromHallBack 42 = .ok (.aload_n 0, 1) := by decide +kernel
theorem dX7_fromHallBack_43 : decode cX7_fromHallBack 43 = .ok (.getfield 15, 3) := by decide +kernel
theorem dX7_fromHallBack_46 : decode cX7_fromHallBack 46 = .ok (.iload 5, 2) := by decide +kernel
theorem dX7_fromHallBack_48 : decode cX7_fromHallBack 48 = .ok (.iaload, 1) := by decide +kernel
theorem dX7_fromHallBack_49 : decode cX7_fromHallBack 49 = .ok (.iload 4, 2) := by decide +kernel
theorem dX7_fromHallBack_51 : decode cX7_fromHallBack 51 = .ok (.invokestatic 56, 3) := by decide +kernel
theorem dX7_fromHallBack_54 : decode cX7_fromHallBack 54 = .ok (.invokevirtual 73, 3) := by decide +kernel
theorem dX7_fromHallBack_57 : decode cX7_fromHallBack 57 = .ok (.iinc 5 1, 3) := by decide +kernel
theorem dX7_fromHallBack_60 : decode cX7_fromHallBack 60 = .ok (.goto (-36), 3) := by decide +kernel
theorem dX7_fromHallBack_63 : decode cX7_fromHallBack 63 = .ok (.iconst 1, 1) := by decide +kernel
theorem dX7_fromHallBack_64 : decode cX7_fromHallBack 64 = .ok (.istore 5, 2) := by decide +kernel
theorem dX7_fromHallBack_66 : decode cX7_fromHallBack 66 = .ok (.iconst 0, 1) := by decide +kernel
theorem dX7_fromHallBack_67 : decode cX7_fromHallBack 67 = .ok (.istore 6, 2) := by decide +kernel
theorem dX7_fromHallBack_69 : decode cX7_fromHallBack 69 = .ok (.iload 6, 2) := by decide +kernel
theorem dX7_fromHallBack_71 : decode cX7_fromHallBack 71 = .ok (.sipush 6144, 3) := by decide +kernel
theorem dX7_fromHallBack_74 : decode cX7_fromHallBack 74 = .ok (.if_icmp .ge 61, 3) := by decide +kernel
theorem dX7_fromHallBack_77 : decode cX7_fromHallBack 77 = .ok (.iload 5, 2) := by decide +kernel
theorem dX7_fromHallBack_79 : decode cX7_fromHallBack 79 = .ok (.ifCond .le 56, 3) := by decide +kernel
theorem dX7_fromHallBack_82 : decode cX7_fromHallBack 82 = .ok (.iconst 0, 1) := by decide +kernel
theorem dX7_fromHallBack_83 : decode cX7_fromHallBack 83 = .ok (.istore 5, 2) := by decide +kernel
theorem dX7_fromHallBack_85 : decode cX7_fromHallBack 85 = .ok (.iconst 0, 1) := by decide +kernel
theorem dX7_fromHallBack_86 : decode cX7_fromHallBack 86 = .ok (.istore 7, 2) := by decide +kernel
theorem dX7_fromHallBack_88 : decode cX7_fromHallBack 88 = .ok (.iload 7, 2) := by decide +kernel
theorem dX7_fromHallBack_90 : decode cX7_fromHallBack 90 = .ok (.aload_n 0, 1) := by decide +kernel
theorem dX7_fromHallBack_91 : decode cX7_fromHallBack 91 = .ok (.getfield 18, 3) := by decide +kernel
theorem dX7_fromHallBack_94 : decode cX7_fromHallBack 94 = .ok (.if_icmp .ge 35, 3) := by decide +kernel
theorem dX7_fromHallBack_97 : decode cX7_fromHallBack 97 = .ok (.iload 7, 2) := by decide +kernel
theorem dX7_fromHallBack_99 : decode cX7_fromHallBack 99 = .ok (.sipush 6144, 3) := by decide +kernel
theorem dX7_fromHallBack_102 : decode cX7_fromHallBack 102 = .ok (.if_icmp .ge 27, 3) := by decide +kernel
theorem dX7_fromHallBack_105 : decode cX7_fromHallBack 105 = .ok (.iload 5, 2) := by decide +kernel
theorem dX7_fromHallBack_107 : decode cX7_fromHallBack 107 = .ok (.aload_n 0, 1) := by decide +kernel
theorem dX7_fromHallBack_108 : decode cX7_fromHallBack 108 = .ok (.aload_n 1, 1) := by decide +kernel
theorem dX7_fromHallBack_109 : decode cX7_fromHallBack 109 = .ok (.aload_n 0, 1) := by decide +kernel
theorem dX7_fromHallBack_110 : decode cX7_fromHallBack 110 = .ok (.getfield 15, 3) := by decide +kernel
theorem dX7_fromHallBack_113 : decode cX7_fromHallBack 113 = .ok (.iload 7, 2) := by decide +kernel
theorem dX7_fromHallBack_115 : decode cX7_fromHallBack 115 = .ok (.iaload, 1) := by decide +kernel
theorem dX7_fromHallBack_116 : decode cX7_fromHallBack 116 = .ok (.iload_n 3, 1) := by decide +kernel
theorem dX7_fromHallBack_117 : decode cX7_fromHallBack 117 = .ok (.invokevirtual 77, 3) := by decide +kernel
theorem dX7_fromHallBack_120 : decode cX7_fromHallBack 120 = .ok (.iadd, 1) := by decide +kernel
theorem dX7_fromHallBack_121 : decode cX7_fromHallBack 121 = .ok (.istore 5, 2) := by decide +kernel
theorem dX7_fromHallBack_123 : decode cX7_fromHallBack 123 = .ok (.iinc 7 1, 3) := by decide +kernel
theorem dX7_fromHallBack_126 : decode cX7_fromHallBack 126 = .ok (.goto (-38), 3) := by decide +kernel
theorem dX7_fromHallBack_129 : decode cX7_fromHallBack 129 = .ok (.iinc 6 1, 3) := by decide +kernel
theorem dX7_fromHallBack_132 : decode cX7_fromHallBack 132 = .ok (.goto (-63), 3) := by decide +kernel
theorem dX7_fromHallBack_135 : decode cX7_fromHallBack 135 = .ok (.aload_n 0, 1) := by decide +kernel
theorem dX7_fromHallBack_136 : decode cX7_fromHallBack 136 = .ok (.iload_n 2, 1) := by decide +kernel
theorem dX7_fromHallBack_137 : decode cX7_fromHallBack 137 = .ok (.invokevirtual 32, 3) := by decide +kernel
theorem dX7_fromHallBack_140 : decode cX7_fromHallBack 140 = .ok (.sipush 6144, 3) := by decide +kernel
theorem dX7_fromHallBack_143 : decode cX7_fromHallBack 143 = .ok (.if_icmp .ne 8, 3) := by decide +kernel
theorem dX7_fromHallBack_146 : decode cX7_fromHallBack 146 = .ok (.bipush (-4), 2) := by decide +kernel
theorem dX7_fromHallBack_148 : decode cX7_fromHallBack 148 = .ok (.goto 8, 3) := by decide +kernel
theorem dX7_fromHallBack_151 : decode cX7_fromHallBack 151 = .ok (.aload_n 0, 1) := by decide +kernel
theorem dX7_fromHallBack_152 : decode cX7_fromHallBack 152 = .ok (.iload_n 2, 1) := by decide +kernel
theorem dX7_fromHallBack_153 : decode cX7_fromHallBack 153 = .ok (.invokevirtual 32, 3) := by decide +kernel
theorem dX7_fromHallBack_156 : decode cX7_fromHallBack 156 = .ok (.ireturn, 1) := by decide +kernel
theorem dX7_begin_0 : decode cX7_begin 0 = .ok (.iload_n 1, 1) := by decide +kernel
theorem dX7_begin_1 : decode cX7_begin 1 = .ok (.invokestatic 65, 3) := by decide +kernel
theorem dX7_begin_4 : decode cX7_begin 4 = .ok (.ifCond .eq 10, 3) := by decide +kernel
theorem dX7_begin_7 : decode cX7_begin 7 = .ok (.aload_n 0, 1) := by decide +kernel
theorem dX7_begin_8 : decode cX7_begin 8 = .ok (.getfield 9, 3) := by decide +kernel
theorem dX7_begin_11 : decode cX7_begin 11 = .ok (.iload_n 1, 1) := by decide +kernel
theorem dX7_begin_12 : decode cX7_begin 12 = .ok (.iconst 0, 1) := by decide +kernel
theorem dX7_begin_13 : decode cX7_begin 13 = .ok (.iastore, 1) := by decide +kernel
theorem dX7_begin_14 : decode cX7_begin 14 = .ok (.return_, 1) := by decide +kernel
theorem dX7_lineUpSets_0 : decode cX7_lineUpSets 0 = .ok (.aload_n 0, 1) := by decide +kernel
theorem dX7_lineUpSets_1 : decode cX7_lineUpSets 1 = .ok (.iconst 0, 1) := by decide +kernel
theorem dX7_lineUpSets_2 : decode cX7_lineUpSets 2 = .ok (.putfield 18, 3) := by decide +kernel
theorem dX7_lineUpSets_5 : decode cX7_lineUpSets 5 = .ok (.iconst 0, 1) := by decide +kernel
theorem dX7_lineUpSets_6 : decode cX7_lineUpSets 6 = .ok (.istore_n 3, 1) := by decide +kernel
theorem dX7_lineUpSets_7 : decode cX7_lineUpSets 7 = .ok (.iload_n 3, 1) := by decide +kernel
theorem dX7_lineUpSets_8 : decode cX7_lineUpSets 8 = .ok (.sipush 1023, 3) := by decide +kernel
theorem dX7_lineUpSets_11 : decode cX7_lineUpSets 11 = .ok (.if_icmp .gt 69, 3) := by decide +kernel
theorem dX7_lineUpSets_14 : decode cX7_lineUpSets 14 = .ok (.aload_n 0, 1) := by decide +kernel
theorem dX7_lineUpSets_15 : decode cX7_lineUpSets 15 = .ok (.getfield 18, 3) := by decide +kernel
theorem dX7_lineUpSets_18 : decode cX7_lineUpSets 18 = .ok (.sipush 6144, 3) := by decide +kernel
theorem dX7_lineUpSets_21 : decode cX7_lineUpSets 21 = .ok (.if_icmp .ge 59, 3) := by decide +kernel
theorem dX7_lineUpSets_24 : decode cX7_lineUpSets 24 = .ok (.iload_n 3, 1) := by decide +kernel
theorem dX7_lineUpSets_25 : decode cX7_lineUpSets 25 = .ok (.iload_n 2, 1) := by decide +kernel
theorem dX7_lineUpSets_26 : decode cX7_lineUpSets 26 = .ok (.iconst (-1), 1) := by decide +kernel
theorem dX7_lineUpSets_27 : decode cX7_lineUpSets 27 = .ok (.ixor, 1) := by decide +kernel
theorem dX7_lineUpSets_28 : decode cX7_lineUpSets 28 = .ok (.iand, 1) := by decide +kernel
theorem dX7_lineUpSets_29 : decode cX7_lineUpSets 29 = .ok (.ifCond .ne 7, 3) := by decide +kernel
theorem dX7_lineUpSets_32 : decode cX7_lineUpSets 32 = .ok (.iconst 1, 1) := by decide +kernel
theorem dX7_lineUpSets_33 : decode cX7_lineUpSets 33 = .ok (.goto 4, 3) := by decide +kernel
theorem dX7_lineUpSets_36 : decode cX7_lineUpSets 36 = .ok (.iconst 0, 1) := by decide +kernel
theorem dX7_lineUpSets_37 : decode cX7_lineUpSets 37 = .ok (.istore 4, 2) := by decide +kernel
theorem dX7_lineUpSets_39 : decode cX7_lineUpSets 39 = .ok (.iload 4, 2) := by decide +kernel
theorem dX7_lineUpSets_41 : decode cX7_lineUpSets 41 = .ok (.ifCond .eq 33, 3) := by decide +kernel
theorem dX7_lineUpSets_44 : decode cX7_lineUpSets 44 = .ok (.aload_n 1, 1) := by decide +kernel
theorem dX7_lineUpSets_45 : decode cX7_lineUpSets 45 = .ok (.iload_n 3, 1) := by decide +kernel
theorem dX7_lineUpSets_46 : decode cX7_lineUpSets 46 = .ok (.invokevirtual 40, 3) := by decide +kernel
theorem dX7_lineUpSets_49 : decode cX7_lineUpSets 49 = .ok (.iload_n 3, 1) := by decide +kernel
theorem dX7_lineUpSets_50 : decode cX7_lineUpSets 50 = .ok (.iand, 1) := by decide +kernel
theorem dX7_lineUpSets_51 : decode cX7_lineUpSets 51 = .ok (.ifCond .ne 23, 3) := by decide +kernel
theorem dX7_lineUpSets_54 : decode cX7_lineUpSets 54 = .ok (.aload_n 0, 1) := by decide +kernel
theorem dX7_lineUpSets_55 : decode cX7_lineUpSets 55 = .ok (.getfield 15, 3) := by decide +kernel
theorem dX7_lineUpSets_58 : decode cX7_lineUpSets 58 = .ok (.aload_n 0, 1) := by decide +kernel
theorem dX7_lineUpSets_59 : decode cX7_lineUpSets 59 = .ok (.getfield 18, 3) := by decide +kernel
theorem dX7_lineUpSets_62 : decode cX7_lineUpSets 62 = .ok (.iload_n 3, 1) := by decide +kernel
theorem dX7_lineUpSets_63 : decode cX7_lineUpSets 63 = .ok (.iastore, 1) := by decide +kernel
theorem dX7_lineUpSets_64 : decode cX7_lineUpSets 64 = .ok (.aload_n 0, 1) := by decide +kernel
theorem dX7_lineUpSets_65 : decode cX7_lineUpSets 65 = .ok (.dup, 1) := by decide +kernel
theorem dX7_lineUpSets_66 : decode cX7_lineUpSets 66 = .ok (.getfield 18, 3) := by decide +kernel
theorem dX7_lineUpSets_69 : decode cX7_lineUpSets 69 = .ok (.iconst 1, 1) := by decide +kernel
theorem dX7_lineUpSets_70 : decode cX7_lineUpSets 70 = .ok (.iadd, 1) := by decide +kernel
theorem dX7_lineUpSets_71 : decode cX7_lineUpSets 71 = .ok (.putfield 18, 3) := by decide +kernel
theorem dX7_lineUpSets_74 : decode cX7_lineUpSets 74 = .ok (.iinc 3 1, 3) := by decide +kernel
theorem dX7_lineUpSets_77 : decode cX7_lineUpSets 77 = .ok (.goto (-70), 3) := by decide +kernel
theorem dX7_lineUpSets_80 : decode cX7_lineUpSets 80 = .ok (.return_, 1) := by decide +kernel
theorem dX7_lessenAll_0 : decode cX7_lessenAll 0 = .ok (.iload_n 3, 1) := by decide +kernel
theorem dX7_lessenAll_1 : decode cX7_lessenAll 1 = .ok (.iload_n 2, 1) := by decide +kernel
theorem dX7_lessenAll_2 : decode cX7_lessenAll 2 = .ok (.iconst (-1), 1) := by decide +kernel
theorem dX7_lessenAll_3 : decode cX7_lessenAll 3 = .ok (.ixor, 1) := by decide +kernel
theorem dX7_lessenAll_4 : decode cX7_lessenAll 4 = .ok (.iand, 1) := by decide +kernel
theorem dX7_lessenAll_5 : decode cX7_lessenAll 5 = .ok (.aload_n 1, 1) := by decide +kernel
theorem dX7_lessenAll_6 : decode cX7_lessenAll 6 = .ok (.iload_n 2, 1) := by decide +kernel
theorem dX7_lessenAll_7 : decode cX7_lessenAll 7 = .ok (.invokevirtual 40, 3) := by decide +kernel
theorem dX7_lessenAll_10 : decode cX7_lessenAll 10 = .ok (.iconst (-1), 1) := by decide +kernel
theorem dX7_lessenAll_11 : decode cX7_lessenAll 11 = .ok (.ixor, 1) := by decide +kernel
theorem dX7_lessenAll_12 : decode cX7_lessenAll 12 = .ok (.iand, 1) := by decide +kernel
theorem dX7_lessenAll_13 : decode cX7_lessenAll 13 = .ok (.istore 4, 2) := by decide +kernel
theorem dX7_lessenAll_15 : decode cX7_lessenAll 15 = .ok (.iconst 0, 1) := by decide +kernel
theorem dX7_lessenAll_16 : decode cX7_lessenAll 16 = .ok (.istore 5, 2) := by decide +kernel
theorem dX7_lessenAll_18 : decode cX7_lessenAll 18 = .ok (.iconst 0, 1) := by decide +kernel
theorem dX7_lessenAll_19 : decode cX7_lessenAll 19 = .ok (.istore 6, 2) := by decide +kernel
theorem dX7_lessenAll_21 : decode cX7_lessenAll 21 = .ok (.iload 6, 2) := by decide +kernel
theorem dX7_lessenAll_23 : decode cX7_lessenAll 23 = .ok (.bipush 10, 2) := by decide +kernel
theorem dX7_lessenAll_25 : decode cX7_lessenAll 25 = .ok (.if_icmp .ge 150, 3) := by decide +kernel
theorem dX7_lessenAll_28 : decode cX7_lessenAll 28 = .ok (.aload_n 1, 1) := by decide +kernel
theorem dX7_lessenAll_29 : decode cX7_lessenAll 29 = .ok (.iload 6, 2) := by decide +kernel
theorem dX7_lessenAll_31 : decode cX7_lessenAll 31 = .ok (.invokevirtual 81, 3) := by decide +kernel
theorem dX7_lessenAll_34 : decode cX7_lessenAll 34 = .ok (.istore 7, 2) := by decide +kernel
theorem dX7_lessenAll_36 : decode cX7_lessenAll 36 = .ok (.aload_n 1, 1) := by decide +kernel
theorem dX7_lessenAll_37 : decode cX7_lessenAll 37 = .ok (.iload 6, 2) := by decide +kernel
theorem dX7_lessenAll_39 : decode cX7_lessenAll 39 = .ok (.invokevirtual 84, 3) := by decide +kernel
theorem dX7_lessenAll_42 : decode cX7_lessenAll 42 = .ok (.istore 8, 2) := by decide +kernel
theorem dX7_lessenAll_44 : decode cX7_lessenAll 44 = .ok (.iload_n 2, 1) := by decide +kernel
theorem dX7_lessenAll_45 : decode cX7_lessenAll 45 = .ok (.iload 6, 2) := by decide +kernel
theorem dX7_lessenAll_47 : decode cX7_lessenAll 47 = .ok (.invokestatic 49, 3) := by decide +kernel
theorem dX7_lessenAll_50 : decode cX7_lessenAll 50 = .ok (.ifCond .eq 56, 3) := by decide +kernel
theorem dX7_lessenAll_53 : decode cX7_lessenAll 53 = .ok (.iload 5, 2) := by decide +kernel
theorem dX7_lessenAll_55 : decode cX7_lessenAll 55 = .ok (.aload_n 0, 1) := by decide +kernel
theorem dX7_lessenAll_56 : decode cX7_lessenAll 56 = .ok (.iload_n 2, 1) := by decide +kernel
theorem dX7_lessenAll_57 : decode cX7_lessenAll 57 = .ok (.iload 7, 2) := by decide +kernel
theorem dX7_lessenAll_59 : decode cX7_lessenAll 59 = .ok (.invokestatic 56, 3) := by decide +kernel
theorem dX7_lessenAll_62 : decode cX7_lessenAll 62 = .ok (.iload_n 2, 1) := by decide +kernel
theorem dX7_lessenAll_63 : decode cX7_lessenAll 63 = .ok (.iload 8, 2) := by decide +kernel
theorem dX7_lessenAll_65 : decode cX7_lessenAll 65 = .ok (.invokestatic 56, 3) := by decide +kernel
theorem dX7_lessenAll_68 : decode cX7_lessenAll 68 = .ok (.invokevirtual 87, 3) := by decide +kernel
theorem dX7_lessenAll_71 : decode cX7_lessenAll 71 = .ok (.iadd, 1) := by decide +kernel
theorem dX7_lessenAll_72 : decode cX7_lessenAll 72 = .ok (.istore 5, 2) := by decide +kernel
theorem dX7_lessenAll_74 : decode cX7_lessenAll 74 = .ok (.iload 5, 2) := by decide +kernel
theorem dX7_lessenAll_76 : decode cX7_lessenAll 76 = .ok (.aload_n 0, 1) := by decide +kernel
theorem dX7_lessenAll_77 : decode cX7_lessenAll 77 = .ok (.iload_n 2, 1) := by decide +kernel
theorem dX7_lessenAll_78 : decode cX7_lessenAll 78 = .ok (.iload 8, 2) := by decide +kernel
theorem dX7_lessenAll_80 : decode cX7_lessenAll 80 = .ok (.invokestatic 56, 3) := by decide +kernel
theorem dX7_lessenAll_83 : decode cX7_lessenAll 83 = .ok (.iload_n 2, 1) := by decide +kernel
theorem dX7_lessenAll_84 : decode cX7_lessenAll 84 = .ok (.iload 7, 2) := by decide +kernel
theorem dX7_lessenAll_86 : decode cX7_lessenAll 86 = .ok (.invokestatic 56, 3) := by decide +kernel
theorem dX7_lessenAll_89 : decode cX7_lessenAll 89 = .ok (.invokevirtual 87, 3) := by decide +kernel
theorem dX7_lessenAll_92 : decode cX7_lessenAll 92 = .ok (.iadd, 1) := by decide +kernel
theorem dX7_lessenAll_93 : decode cX7_lessenAll 93 = .ok (.istore 5, 2) := by decide +kernel
theorem dX7_lessenAll_95 : decode cX7_lessenAll 95 = .ok (.iload_n 2, 1) := by decide +kernel
theorem dX7_lessenAll_96 : decode cX7_lessenAll 96 = .ok (.iload 6, 2) := by decide +kernel
theorem dX7_lessenAll_98 : decode cX7_lessenAll 98 = .ok (.invokestatic 59, 3) := by decide +kernel
theorem dX7_lessenAll_101 : decode cX7_lessenAll 101 = .ok (.istore 9, 2) := by decide +kernel
theorem dX7_lessenAll_103 : decode cX7_lessenAll 103 = .ok (.goto 22, 3) := by decide +kernel
theorem dX7_lessenAll_106 : decode cX7_lessenAll 106 = .ok (.iload 4, 2) := by decide +kernel
theorem dX7_lessenAll_108 : decode cX7_lessenAll 108 = .ok (.iload 6, 2) := by decide +kernel
theorem dX7_lessenAll_110 : decode cX7_lessenAll 110 = .ok (.invokestatic 49, 3) := by decide +kernel
theorem dX7_lessenAll_113 : decode cX7_lessenAll 113 = .ok (.ifCond .eq 56, 3) := by decide +kernel
theorem dX7_lessenAll_116 : decode cX7_lessenAll 116 = .ok (.aload_n 1, 1) := by decide +kernel
theorem dX7_lessenAll_117 : decode cX7_lessenAll 117 = .ok (.iload_n 2, 1) := by decide +kernel
theorem dX7_lessenAll_118 : decode cX7_lessenAll 118 = .ok (.iload 6, 2) := by decide +kernel
theorem dX7_lessenAll_120 : decode cX7_lessenAll 120 = .ok (.invokevirtual 62, 3) := by decide +kernel
theorem dX7_lessenAll_123 : decode cX7_lessenAll 123 = .ok (.istore 9, 2) := by decide +kernel
theorem dX7_lessenAll_125 : decode cX7_lessenAll 125 = .ok (.iload 5, 2) := by decide +kernel
theorem dX7_lessenAll_127 : decode cX7_lessenAll 127 = .ok (.aload_n 0, 1) := by decide +kernel
theorem dX7_lessenAll_128 : decode cX7_lessenAll 128 = .ok (.iload_n 2, 1) := by decide +kernel
theorem dX7_lessenAll_129 : decode cX7_lessenAll 129 = .ok (.iload 7, 2) := by decide +kernel
theorem dX7_lessenAll_131 : decode cX7_lessenAll 131 = .ok (.invokestatic 56, 3) := by decide +kernel
theorem dX7_lessenAll_134 : decode cX7_lessenAll 134 = .ok (.iload 9, 2) := by decide +kernel
theorem dX7_lessenAll_136 : decode cX7_lessenAll 136 = .ok (.iload 7, 2) := by decide +kernel
theorem dX7_lessenAll_138 : decode cX7_lessenAll 138 = .ok (.invokestatic 56, 3) := by decide +kernel
theorem dX7_lessenAll_141 : decode cX7_lessenAll 141 = .ok (.invokevirtual 87, 3) := by decide +kernel
theorem dX7_lessenAll_144 : decode cX7_lessenAll 144 = .ok (.iadd, 1) := by decide +kernel
theorem dX7_lessenAll_145 : decode cX7_lessenAll 145 = .ok (.istore 5, 2) := by decide +kernel
theorem dX7_lessenAll_147 : decode cX7_lessenAll 147 = .ok (.iload 5, 2) := by decide +kernel
theorem dX7_lessenAll_149 : decode cX7_lessenAll 149 = .ok (.aload_n 0, 1) := by decide +kernel
theorem dX7_lessenAll_150 : decode cX7_lessenAll 150 = .ok (.iload_n 2, 1) := by decide +kernel
theorem dX7_lessenAll_151 : decode cX7_lessenAll 151 = .ok (.iload 8, 2) := by decide +kernel
theorem dX7_lessenAll_153 : decode cX7_lessenAll 153 = .ok (.invokestatic 56, 3) := by decide +kernel
theorem dX7_lessenAll_156 : decode cX7_lessenAll 156 = .ok (.iload 9, 2) := by decide +kernel
theorem dX7_lessenAll_158 : decode cX7_lessenAll 158 = .ok (.iload 8, 2) := by decide +kernel
theorem dX7_lessenAll_160 : decode cX7_lessenAll 160 = .ok (.invokestatic 56, 3) := by decide +kernel
theorem dX7_lessenAll_163 : decode cX7_lessenAll 163 = .ok (.invokevirtual 87, 3) := by decide +kernel
theorem dX7_lessenAll_166 : decode cX7_lessenAll 166 = .ok (.iadd, 1) := by decide +kernel
theorem dX7_lessenAll_167 : decode cX7_lessenAll 167 = .ok (.istore 5, 2) := by decide +kernel
theorem dX7_lessenAll_169 : decode cX7_lessenAll 169 = .ok (.iinc 6 1, 3) := by decide +kernel
theorem dX7_lessenAll_172 : decode cX7_lessenAll 172 = .ok (.goto (-151), 3) := by decide +kernel
theorem dX7_lessenAll_175 : decode cX7_lessenAll 175 = .ok (.iload 5, 2) := by decide +kernel
theorem dX7_lessenAll_177 : decode cX7_lessenAll 177 = .ok (.ireturn, 1) := by decide +kernel
theorem dX7_lessen_0 : decode cX7_lessen 0 = .ok (.iload_n 1, 1) := by decide +kernel
theorem dX7_lessen_1 : decode cX7_lessen 1 = .ok (.invokestatic 65, 3) := by decide +kernel
theorem dX7_lessen_4 : decode cX7_lessen 4 = .ok (.ifCond .eq 27, 3) := by decide +kernel
theorem dX7_lessen_7 : decode cX7_lessen 7 = .ok (.iload_n 2, 1) := by decide +kernel
theorem dX7_lessen_8 : decode cX7_lessen 8 = .ok (.invokestatic 65, 3) := by decide +kernel
theorem dX7_lessen_11 : decode cX7_lessen 11 = .ok (.ifCond .eq 20, 3) := by decide +kernel
theorem dX7_lessen_14 : decode cX7_lessen 14 = .ok (.aload_n 0, 1) := by decide +kernel
theorem dX7_lessen_15 : decode cX7_lessen 15 = .ok (.getfield 9, 3) := by decide +kernel
theorem dX7_lessen_18 : decode cX7_lessen 18 = .ok (.iload_n 2, 1) := by decide +kernel
theorem dX7_lessen_19 : decode cX7_lessen 19 = .ok (.iaload, 1) := by decide +kernel
theorem dX7_lessen_20 : decode cX7_lessen 20 = .ok (.iconst 1, 1) := by decide +kernel
theorem dX7_lessen_21 : decode cX7_lessen 21 = .ok (.iadd, 1) := by decide +kernel
theorem dX7_lessen_22 : decode cX7_lessen 22 = .ok (.aload_n 0, 1) := by decide +kernel
theorem dX7_lessen_23 : decode cX7_lessen 23 = .ok (.getfield 9, 3) := by decide +kernel
theorem dX7_lessen_26 : decode cX7_lessen 26 = .ok (.iload_n 1, 1) := by decide +kernel
theorem dX7_lessen_27 : decode cX7_lessen 27 = .ok (.iaload, 1) := by decide +kernel
theorem dX7_lessen_28 : decode cX7_lessen 28 = .ok (.if_icmp .lt 5, 3) := by decide +kernel
theorem dX7_lessen_31 : decode cX7_lessen 31 = .ok (.iconst 0, 1) := by decide +kernel
theorem dX7_lessen_32 : decode cX7_lessen 32 = .ok (.ireturn, 1) := by decide +kernel
theorem dX7_lessen_33 : decode cX7_lessen 33 = .ok (.aload_n 0, 1) := by decide +kernel
theorem dX7_lessen_34 : decode cX7_lessen 34 = .ok (.getfield 9, 3) := by decide +kernel
theorem dX7_lessen_37 : decode cX7_lessen 37 = .ok (.iload_n 1, 1) := by decide +kernel
theorem dX7_lessen_38 : decode cX7_lessen 38 = .ok (.aload_n 0, 1) := by decide +kernel
theorem dX7_lessen_39 : decode cX7_lessen 39 = .ok (.getfield 9, 3) := by decide +kernel
theorem dX7_lessen_42 : decode cX7_lessen 42 = .ok (.iload_n 2, 1) := by decide +kernel
theorem dX7_lessen_43 : decode cX7_lessen 43 = .ok (.iaload, 1) := by decide +kernel
theorem dX7_lessen_44 : decode cX7_lessen 44 = .ok (.iconst 1, 1) := by decide +kernel
theorem dX7_lessen_45 : decode cX7_lessen 45 = .ok (.iadd, 1) := by decide +kernel
theorem dX7_lessen_46 : decode cX7_lessen 46 = .ok (.iastore, 1) := by decide +kernel
theorem dX7_lessen_47 : decode cX7_lessen 47 = .ok (.iconst 1, 1) := by decide +kernel
theorem dX7_lessen_48 : decode cX7_lessen 48 = .ok (.ireturn, 1) := by decide +kernel
theorem dX8_init_0 : decode cX8_init 0 = .ok (.aload_n 0, 1) := by decide +kernel
theorem dX8_init_1 : decode cX8_init 1 = .ok (.invokespecial 3, 3) := by decide +kernel
theorem dX8_init_4 : decode cX8_init 4 = .ok (.aload_n 0, 1) := by decide +kernel
theorem dX8_init_5 : decode cX8_init 5 = .ok (.new 9, 3) := by decide +kernel
theorem dX8_init_8 : decode cX8_init 8 = .ok (.dup, 1) := by decide +kernel
theorem dX8_init_9 : decode cX8_init 9 = .ok (.invokespecial 11, 3) := by decide +kernel
theorem dX8_init_12 : decode cX8_init 12 = .ok (.putfield 12, 3) := by decide +kernel
theorem dX8_init_15 : decode cX8_init 15 = .ok (.aload_n 0, 1) := by decide +kernel
theorem dX8_init_16 : decode cX8_init 16 = .ok (.new 16, 3) := by decide +kernel
theorem dX8_init_19 : decode cX8_init 19 = .ok (.dup, 1) := by decide +kernel
theorem dX8_init_20 : decode cX8_init 20 = .ok (.invokespecial 18, 3) := by decide +kernel
theorem dX8_init_23 : decode cX8_init 23 = .ok (.putfield 19, 3) := by decide +kernel
theorem dX8_init_26 : decode cX8_init 26 = .ok (.aload_n 0, 1) := by decide +kernel
theorem dX8_init_27 : decode cX8_init 27 = .ok (.new 9, 3) := by decide +kernel
theorem dX8_init_30 : decode cX8_init 30 = .ok (.dup, 1) := by decide +kernel
theorem dX8_init_31 : decode cX8_init 31 = .ok (.invokespecial 11, 3) := by decide +kernel
theorem dX8_init_34 : decode cX8_init 34 = .ok (.putfield 23, 3) := by decide +kernel
theorem dX8_init_37 : decode cX8_init 37 = .ok (.aload_n 0, 1) := by decide +kernel
theorem dX8_init_38 : decode cX8_init 38 = .ok (.iconst 0, 1) := by decide +kernel
theorem dX8_init_39 : decode cX8_init 39 = .ok (.putfield 26, 3) := by decide +kernel
theorem dX8_init_42 : decode cX8_init 42 = .ok (.aload_n 0, 1) := by decide +kernel
theorem dX8_init_43 : decode cX8_init 43 = .ok (.new 30, 3) := by decide +kernel
theorem dX8_init_46 : decode cX8_init 46 = .ok (.dup, 1) := by decide +kernel
theorem dX8_init_47 : decode cX8_init 47 = .ok (.invokespecial 32, 3) := by decide +kernel
theorem dX8_init_50 : decode cX8_init 50 = .ok (.putfield 33, 3) := by decide +kernel
theorem dX8_init_53 : decode cX8_init 53 = .ok (.aload_n 0, 1) := by decide +kernel
theorem dX8_init_54 : decode cX8_init 54 = .ok (.new 37, 3) := by decide +kernel
theorem dX8_init_57 : decode cX8_init 57 = .ok (.dup, 1) := by decide +kernel
theorem dX8_init_58 : decode cX8_init 58 = .ok (.invokespecial 39, 3) := by decide +kernel
theorem dX8_init_61 : decode cX8_init 61 = .ok (.putfield 40, 3) := by decide +kernel
theorem dX8_init_64 : decode cX8_init 64 = .ok (.aload_n 0, 1) := by decide +kernel
theorem dX8_init_65 : decode cX8_init 65 = .ok (.new 44, 3) := by decide +kernel
theorem dX8_init_68 : decode cX8_init 68 = .ok (.dup, 1) := by decide +kernel
theorem dX8_init_69 : decode cX8_init 69 = .ok (.invokespecial 46, 3) := by decide +kernel
theorem dX8_init_72 : decode cX8_init 72 = .ok (.putfield 47, 3) := by decide +kernel
theorem dX8_init_75 : decode cX8_init 75 = .ok (.return_, 1) := by decide +kernel
theorem dX8_open_0 : decode cX8_open 0 = .ok (.iload_n 1, 1) := by decide +kernel
theorem dX8_open_1 : decode cX8_open 1 = .ok (.invokestatic 51, 3) := by decide +kernel
theorem dX8_open_4 : decode cX8_open 4 = .ok (.ifCond .ne 5, 3) := by decide +kernel
theorem dX8_open_7 : decode cX8_open 7 = .ok (.iconst (-1), 1) := by decide +kernel
theorem dX8_open_8 : decode cX8_open 8 = .ok (.ireturn, 1) := by decide +kernel
theorem dX8_open_9 : decode cX8_open 9 = .ok (.aload_n 0, 1) := by decide +kernel
theorem dX8_open_10 : decode cX8_open 10 = .ok (.getfield 19, 3) := by decide +kernel
theorem dX8_open_13 : decode cX8_open 13 = .ok (.aload_n 0, 1) := by decide +kernel
theorem dX8_open_14 : decode cX8_open 14 = .ok (.getfield 12, 3) := by decide +kernel
theorem dX8_open_17 : decode cX8_open 17 = .ok (.invokevirtual 55, 3) := by decide +kernel
theorem dX8_open_20 : decode cX8_open 20 = .ok (.aload_n 0, 1) := by decide +kernel
theorem dX8_open_21 : decode cX8_open 21 = .ok (.getfield 12, 3) := by decide +kernel
theorem dX8_open_24 : decode cX8_open 24 = .ok (.iload_n 1, 1) := by decide +kernel
theorem dX8_open_25 : decode cX8_open 25 = .ok (.invokevirtual 59, 3) := by decide +kernel
theorem dX8_open_28 : decode cX8_open 28 = .ok (.ireturn, 1) := by decide +kernel
theorem dX8_shut_0 : decode cX8_shut 0 = .ok (.iload_n 1, 1) := by decide +kernel
theorem dX8_shut_1 : decode cX8_shut 1 = .ok (.invokestatic 51, 3) := by decide +kernel
theorem dX8_shut_4 : decode cX8_shut 4 = .ok (.ifCond .ne 5, 3) := by decide +kernel
theorem dX8_shut_7 : decode cX8_shut 7 = .ok (.iconst (-1), 1) := by decide +kernel
theorem dX8_shut_8 : decode cX8_shut 8 = .ok (.ireturn, 1) := by decide +kernel
theorem dX8_shut_9 : decode cX8_shut 9 = .ok (.aload_n 0, 1) := by decide +kernel
theorem dX8_shut_10 : decode cX8_shut 10 = .ok (.getfield 19, 3) := by decide +kernel
theorem dX8_shut_13 : decode cX8_shut 13 = .ok (.aload_n 0, 1) := by decide +kernel
theorem dX8_shut_14 : decode cX8_shut 14 = .ok (.getfield 12, 3) := by decide +kernel
theorem dX8_shut_17 : decode cX8_shut 17 = .ok (.invokevirtual 55, 3) := by decide +kernel
theorem dX8_shut_20 : decode cX8_shut 20 = .ok (.aload_n 0, 1) := by decide +kernel
theorem dX8_shut_21 : decode cX8_shut 21 = .ok (.getfield 12, 3) := by decide +kernel
theorem dX8_shut_24 : decode cX8_shut 24 = .ok (.iload_n 1, 1) := by decide +kernel
theorem dX8_shut_25 : decode cX8_shut 25 = .ok (.invokevirtual 63, 3) := by decide +kernel
theorem dX8_shut_28 : decode cX8_shut 28 = .ok (.ireturn, 1) := by decide +kernel
theorem dX8_cord_0 : decode cX8_cord 0 = .ok (.iload_n 1, 1) := by decide +kernel
theorem dX8_cord_1 : decode cX8_cord 1 = .ok (.invokestatic 51, 3) := by decide +kernel
theorem dX8_cord_4 : decode cX8_cord 4 = .ok (.ifCond .eq 21, 3) := by decide +kernel
theorem dX8_cord_7 : decode cX8_cord 7 = .ok (.iload_n 3, 1) := by decide +kernel
theorem dX8_cord_8 : decode cX8_cord 8 = .ok (.invokestatic 51, 3) := by decide +kernel
theorem dX8_cord_11 : decode cX8_cord 11 = .ok (.ifCond .ne 9, 3) := by decide +kernel
theorem dX8_cord_14 : decode cX8_cord 14 = .ok (.iload_n 3, 1) := by decide +kernel
theorem dX8_cord_15 : decode cX8_cord 15 = .ok (.bipush 10, 2) := by decide +kernel
theorem dX8_cord_17 : decode cX8_cord 17 = .ok (.if_icmp .ne 8, 3) := by decide +kernel
theorem dX8_cord_20 : decode cX8_cord 20 = .ok (.iload_n 3, 1) := by decide +kernel
theorem dX8_cord_21 : decode cX8_cord 21 = .ok (.iload_n 1, 1) := by decide +kernel
theorem dX8_cord_22 : decode cX8_cord 22 = .ok (.if_icmp .ne 5, 3) := by decide +kernel
theorem dX8_cord_25 : decode cX8_cord 25 = .ok (.iconst (-1), 1) := by decide +kernel
theorem dX8_cord_26 : decode cX8_cord 26 = .ok (.ireturn, 1) := by decide +kernel
theorem dX8_cord_27 : decode cX8_cord 27 = .ok (.iload_n 3, 1) := by decide +kernel
theorem dX8_cord_28 : decode cX8_cord 28 = .ok (.bipush 10, 2) := by decide +kernel
theorem dX8_cord_30 : decode cX8_cord 30 = .ok (.if_icmp .eq 29, 3) := by decide +kernel
theorem dX8_cord_33 : decode cX8_cord 33 = .ok (.iload_n 3, 1) := by decide +kernel
theorem dX8_cord_34 : decode cX8_cord 34 = .ok (.aload_n 0, 1) := by decide +kernel
theorem dX8_cord_35 : decode cX8_cord 35 = .ok (.getfield 12, 3) := by decide +kernel
theorem dX8_cord_38 : decode cX8_cord 38 = .ok (.getfield 66, 3) := by decide +kernel
theorem dX8_cord_41 : decode cX8_cord 41 = .ok (.iload_n 1, 1) := by decide +kernel
theorem dX8_cord_42 : decode cX8_cord 42 = .ok (.iload_n 2, 1) := by decide +kernel
theorem dX8_cord_43 : decode cX8_cord 43 = .ok (.ifCond .ne 7, 3) := by decide +kernel
theorem dX8_cord_46 : decode cX8_cord 46 = .ok (.iconst 1, 1) := by decide +kernel
theorem dX8_cord_47 : decode cX8_cord 47 = .ok (.goto 4, 3) := by decide +kernel
theorem dX8_cord_50 : decode cX8_cord 50 = .ok (.iconst 0, 1) := by decide +kernel
theorem dX8_cord_51 : decode cX8_cord 51 = .ok (.invokevirtual 70, 3) := by decide +kernel
theorem dX8_cord_54 : decode cX8_cord 54 = .ok (.if_icmp .ne 5, 3) := by decide +kernel
theorem dX8_cord_57 : decode cX8_cord 57 = .ok (.iconst (-1), 1) := by decide +kernel
theorem dX8_cord_58 : decode cX8_cord 58 = .ok (.ireturn, 1) := by decide +kernel
theorem dX8_cord_59 : decode cX8_cord 59 = .ok (.aload_n 0, 1) := by decide +kernel
theorem dX8_cord_60 : decode cX8_cord 60 = .ok (.getfield 19, 3) := by decide +kernel
theorem dX8_cord_63 : decode cX8_cord 63 = .ok (.aload_n 0, 1) := by decide +kernel
theorem dX8_cord_64 : decode cX8_cord 64 = .ok (.getfield 12, 3) := by decide +kernel
theorem dX8_cord_67 : decode cX8_cord 67 = .ok (.invokevirtual 55, 3) := by decide +kernel
theorem dX8_cord_70 : decode cX8_cord 70 = .ok (.aload_n 0, 1) := by decide +kernel
theorem dX8_cord_71 : decode cX8_cord 71 = .ok (.getfield 12, 3) := by decide +kernel
theorem dX8_cord_74 : decode cX8_cord 74 = .ok (.iload_n 1, 1) := by decide +kernel
theorem dX8_cord_75 : decode cX8_cord 75 = .ok (.iload_n 2, 1) := by decide +kernel
theorem dX8_cord_76 : decode cX8_cord 76 = .ok (.iload_n 3, 1) := by decide +kernel
theorem dX8_cord_77 : decode cX8_cord 77 = .ok (.invokevirtual 76, 3) := by decide +kernel
theorem dX8_cord_80 : decode cX8_cord 80 = .ok (.ireturn, 1) := by decide +kernel
theorem dX8_join_0 : decode cX8_join 0 = .ok (.iload_n 1, 1) := by decide +kernel
theorem dX8_join_1 : decode cX8_join 1 = .ok (.invokestatic 51, 3) := by decide +kernel
theorem dX8_join_4 : decode cX8_join 4 = .ok (.ifCond .eq 22, 3) := by decide +kernel
theorem dX8_join_7 : decode cX8_join 7 = .ok (.iload_n 2, 1) := by decide +kernel
theorem dX8_join_8 : decode cX8_join 8 = .ok (.invokestatic 80, 3) := by decide +kernel
theorem dX8_join_11 : decode cX8_join 11 = .ok (.ifCond .eq 15, 3) := by decide +kernel
theorem dX8_join_14 : decode cX8_join 14 = .ok (.iload_n 3, 1) := by decide +kernel
theorem dX8_join_15 : decode cX8_join 15 = .ok (.invokestatic 80, 3) := by decide +kernel
theorem dX8_join_18 : decode cX8_join 18 = .ok (.ifCond .eq 8, 3) := by decide +kernel
theorem dX8_join_21 : decode cX8_join 21 = .ok (.iload_n 2, 1) := by decide +kernel
theorem dX8_join_22 : decode cX8_join 22 = .ok (.iload_n 3, 1) := by decide +kernel
theorem dX8_join_23 : decode cX8_join 23 = .ok (.if_icmp .ne 5, 3) := by decide +kernel
theorem dX8_join_26 : decode cX8_join 26 = .ok (.iconst (-1), 1) := by decide +kernel
theorem dX8_join_27 : decode cX8_join 27 = .ok (.ireturn, 1) := by decide +kernel
theorem dX8_join_28 : decode cX8_join 28 = .ok (.aload_n 0, 1) := by decide +kernel
theorem dX8_join_29 : decode cX8_join 29 = .ok (.getfield 12, 3) := by decide +kernel
theorem dX8_join_32 : decode cX8_join 32 = .ok (.iload_n 1, 1) := by decide +kernel
theorem dX8_join_33 : decode cX8_join 33 = .ok (.invokevirtual 83, 3) := by decide +kernel
theorem dX8_join_36 : decode cX8_join 36 = .ok (.ifCond .eq 6, 3) := by decide +kernel
theorem dX8_join_39 : decode cX8_join 39 = .ok (.bipush (-2), 2) := by decide +kernel
theorem dX8_join_41 : decode cX8_join 41 = .ok (.ireturn, 1) := by decide +kernel
theorem dX8_join_42 : decode cX8_join 42 = .ok (.aload_n 0, 1) := by decide +kernel
theorem dX8_join_43 : decode cX8_join 43 = .ok (.getfield 19, 3) := by decide +kernel
theorem dX8_join_46 : decode cX8_join 46 = .ok (.aload_n 0, 1) := by decide +kernel
theorem dX8_join_47 : decode cX8_join 47 = .ok (.getfield 12, 3) := by decide +kernel
theorem dX8_join_50 : decode cX8_join 50 = .ok (.invokevirtual 55, 3) := by decide +kernel
theorem dX8_join_53 : decode cX8_join 53 = .ok (.bipush 10, 2) := by decide +kernel
theorem dX8_join_55 : decode cX8_join 55 = .ok (.aload_n 0, 1) := by decide +kernel
theorem dX8_join_56 : decode cX8_join 56 = .ok (.getfield 12, 3) := by decide +kernel
theorem dX8_join_59 : decode cX8_join 59 = .ok (.getfield 66, 3) := by decide +kernel
theorem dX8_join_62 : decode cX8_join 62 = .ok (.iload_n 1, 1) := by decide +kernel
theorem dX8_join_63 : decode cX8_join 63 = .ok (.invokevirtual 86, 3) := by decide +kernel
theorem dX8_join_66 : decode cX8_join 66 = .ok (.imul, 1) := by decide +kernel
theorem dX8_join_67 : decode cX8_join 67 = .ok (.aload_n 0, 1) := by decide +kernel
theorem dX8_join_68 : decode cX8_join 68 = .ok (.getfield 12, 3) := by decide +kernel
theorem dX8_join_71 : decode cX8_join 71 = .ok (.getfield 66, 3) := by decide +kernel
theorem dX8_join_74 : decode cX8_join 74 = .ok (.iload_n 1, 1) := by decide +kernel
theorem dX8_join_75 : decode cX8_join 75 = .ok (.invokevirtual 89, 3) := by decide +kernel
theorem dX8_join_78 : decode cX8_join 78 = .ok (.iadd, 1) := by decide +kernel
theorem dX8_join_79 : decode cX8_join 79 = .ok (.istore 4, 2) := by decide +kernel
theorem dX8_join_81 : decode cX8_join 81 = .ok (.aload_n 0, 1) := by decide +kernel
theorem dX8_join_82 : decode cX8_join 82 = .ok (.getfield 12, 3) := by decide +kernel
theorem dX8_join_85 : decode cX8_join 85 = .ok (.getfield 66, 3) := by decide +kernel
theorem dX8_join_88 : decode cX8_join 88 = .ok (.iload_n 1, 1) := by decide +kernel
theorem dX8_join_89 : decode cX8_join 89 = .ok (.iload_n 2, 1) := by decide +kernel
theorem dX8_join_90 : decode cX8_join 90 = .ok (.iload_n 3, 1) := by decide +kernel
theorem dX8_join_91 : decode cX8_join 91 = .ok (.invokevirtual 92, 3) := by decide +kernel
theorem dX8_join_94 : decode cX8_join 94 = .ok (.iload 4, 2) := by decide +kernel
theorem dX8_join_96 : decode cX8_join 96 = .ok (.ireturn, 1) := by decide +kernel
theorem dX8_keys_0 : decode cX8_keys 0 = .ok (.iload_n 1, 1) := by decide +kernel
theorem dX8_keys_1 : decode cX8_keys 1 = .ok (.invokestatic 96, 3) := by decide +kernel
theorem dX8_keys_4 : decode cX8_keys 4 = .ok (.ifCond .eq 10, 3) := by decide +kernel
theorem dX8_keys_7 : decode cX8_keys 7 = .ok (.iload_n 2, 1) := by decide +kernel
theorem dX8_keys_8 : decode cX8_keys 8 = .ok (.invokestatic 99, 3) := by decide +kernel
theorem dX8_keys_11 : decode cX8_keys 11 = .ok (.ifCond .ne 5, 3) := by decide +kernel
theorem dX8_keys_14 : decode cX8_keys 14 = .ok (.iconst (-1), 1) := by decide +kernel
theorem dX8_keys_15 : decode cX8_keys 15 = .ok (.ireturn, 1) := by decide +kernel
theorem dX8_keys_16 : decode cX8_keys 16 = .ok (.aload_n 0, 1) := by decide +kernel
theorem dX8_keys_17 : decode cX8_keys 17 = .ok (.getfield 19, 3) := by decide +kernel
theorem dX8_keys_20 : decode cX8_keys 20 = .ok (.aload_n 0, 1) := by decide +kernel
theorem dX8_keys_21 : decode cX8_keys 21 = .ok (.getfield 12, 3) := by decide +kernel
theorem dX8_keys_24 : decode cX8_keys 24 = .ok (.invokevirtual 55, 3) := by decide +kernel
theorem dX8_keys_27 : decode cX8_keys 27 = .ok (.aload_n 0, 1) := by decide +kernel
theorem dX8_keys_28 : decode cX8_keys 28 = .ok (.getfield 12, 3) := by decide +kernel
theorem dX8_keys_31 : decode cX8_keys 31 = .ok (.getfield 102, 3) := by decide +kernel
theorem dX8_keys_34 : decode cX8_keys 34 = .ok (.getfield 106, 3) := by decide +kernel
theorem dX8_keys_37 : decode cX8_keys 37 = .ok (.iload_n 1, 1) := by decide +kernel
theorem dX8_keys_38 : decode cX8_keys 38 = .ok (.iaload, 1) := by decide +kernel
theorem dX8_keys_39 : decode cX8_keys 39 = .ok (.istore_n 3, 1) := by decide +kernel
theorem dX8_keys_40 : decode cX8_keys 40 = .ok (.aload_n 0, 1) := by decide +kernel
theorem dX8_keys_41 : decode cX8_keys 41 = .ok (.getfield 12, 3) := by decide +kernel
theorem dX8_keys_44 : decode cX8_keys 44 = .ok (.getfield 102, 3) := by decide +kernel
theorem dX8_keys_47 : decode cX8_keys 47 = .ok (.getfield 106, 3) := by decide +kernel
theorem dX8_keys_50 : decode cX8_keys 50 = .ok (.iload_n 1, 1) := by decide +kernel
theorem dX8_keys_51 : decode cX8_keys 51 = .ok (.iload_n 2, 1) := by decide +kernel
theorem dX8_keys_52 : decode cX8_keys 52 = .ok (.iastore, 1) := by decide +kernel
theorem dX8_keys_53 : decode cX8_keys 53 = .ok (.iload_n 3, 1) := by decide +kernel
theorem dX8_keys_54 : decode cX8_keys 54 = .ok (.ireturn, 1) := by decide +kernel
theorem dX8_draft_0 : decode cX8_draft 0 = .ok (.iload_n 1, 1) := by decide +kernel
theorem dX8_draft_1 : decode cX8_draft 1 = .ok (.iconst 1, 1) := by decide +kernel
theorem dX8_draft_2 : decode cX8_draft 2 = .ok (.if_icmp .lt 9, 3) := by decide +kernel
theorem dX8_draft_5 : decode cX8_draft 5 = .ok (.iload_n 1, 1) := by decide +kernel
theorem dX8_draft_6 : decode cX8_draft 6 = .ok (.bipush 10, 2) := by decide +kernel
theorem dX8_draft_8 : decode cX8_draft 8 = .ok (.if_icmp .le 5, 3) := by decide +kernel
theorem dX8_draft_11 : decode cX8_draft 11 = .ok (.iconst (-1), 1) := by decide +kernel
theorem dX8_draft_12 : decode cX8_draft 12 = .ok (.ireturn, 1) := by decide +kernel
theorem dX8_draft_13 : decode cX8_draft 13 = .ok (.aload_n 0, 1) := by decide +kernel
theorem dX8_draft_14 : decode cX8_draft 14 = .ok (.getfield 19, 3) := by decide +kernel
theorem dX8_draft_17 : decode cX8_draft 17 = .ok (.aload_n 0, 1) := by decide +kernel
theorem dX8_draft_18 : decode cX8_draft 18 = .ok (.getfield 12, 3) := by decide +kernel
theorem dX8_draft_21 : decode cX8_draft 21 = .ok (.invokevirtual 55, 3) := by decide +kernel
theorem dX8_draft_24 : decode cX8_draft 24 = .ok (.aload_n 0, 1) := by decide +kernel
theorem dX8_draft_25 : decode cX8_draft 25 = .ok (.getfield 12, 3) := by decide +kernel
theorem dX8_draft_28 : decode cX8_draft 28 = .ok (.getfield 66, 3) := by decide +kernel
theorem dX8_draft_31 : decode cX8_draft 31 = .ok (.getfield 112, 3) := by decide +kernel
theorem dX8_draft_34 : decode cX8_draft 34 = .ok (.istore_n 2, 1) := by decide +kernel
theorem dX8_draft_35 : decode cX8_draft 35 = .ok (.aload_n 0, 1) := by decide +kernel
theorem dX8_draft_36 : decode cX8_draft 36 = .ok (.getfield 12, 3) := by decide +kernel
theorem dX8_draft_39 : decode cX8_draft 39 = .ok (.getfield 66, 3) := by decide +kernel
theorem dX8_draft_42 : decode cX8_draft 42 = .ok (.iload_n 1, 1) := by decide +kernel
theorem dX8_draft_43 : decode cX8_draft 43 = .ok (.putfield 112, 3) := by decide +kernel
theorem dX8_draft_46 : decode cX8_draft 46 = .ok (.iload_n 2, 1) := by decide +kernel
theorem dX8_draft_47 : decode cX8_draft 47 = .ok (.ireturn, 1) := by decide +kernel
theorem dX8_guestOpens_0 : decode cX8_guestOpens 0 = .ok (.iload_n 1, 1) := by decide +kernel
theorem dX8_guestOpens_1 : decode cX8_guestOpens 1 = .ok (.invokestatic 96, 3) := by decide +kernel
theorem dX8_guestOpens_4 : decode cX8_guestOpens 4 = .ok (.ifCond .eq 10, 3) := by decide +kernel
theorem dX8_guestOpens_7 : decode cX8_guestOpens 7 = .ok (.iload_n 2, 1) := by decide +kernel
theorem dX8_guestOpens_8 : decode cX8_guestOpens 8 = .ok (.invokestatic 51, 3) := by decide +kernel
theorem dX8_guestOpens_11 : decode cX8_guestOpens 11 = .ok (.ifCond .ne 5, 3) := by decide +kernel
theorem dX8_guestOpens_14 : decode cX8_guestOpens 14 = .ok (.iconst (-1), 1) := by decide +kernel
theorem dX8_guestOpens_15 : decode cX8_guestOpens 15 = .ok (.ireturn, 1) := by decide +kernel
theorem dX8_guestOpens_16 : decode cX8_guestOpens 16 = .ok (.aload_n 0, 1) := by decide +kernel
theorem dX8_guestOpens_17 : decode cX8_guestOpens 17 = .ok (.getfield 19, 3) := by decide +kernel
theorem dX8_guestOpens_20 : decode cX8_guestOpens 20 = .ok (.aload_n 0, 1) := by decide +kernel
theorem dX8_guestOpens_21 : decode cX8_guestOpens 21 = .ok (.getfield 12, 3) := by decide +kernel
theorem dX8_guestOpens_24 : decode cX8_guestOpens 24 = .ok (.invokevirtual 55, 3) := by decide +kernel
theorem dX8_guestOpens_27 : decode cX8_guestOpens 27 = .ok (.aload_n 0, 1) := by decide +kernel
theorem dX8_guestOpens_28 : decode cX8_guestOpens 28 = .ok (.getfield 12, 3) := by decide +kernel
theorem dX8_guestOpens_31 : decode cX8_guestOpens 31 = .ok (.iload_n 1, 1) := by decide +kernel
theorem dX8_guestOpens_32 : decode cX8_guestOpens 32 = .ok (.iload_n 2, 1) := by decide +kernel
theorem dX8_guestOpens_33 : decode cX8_guestOpens 33 = .ok (.invokevirtual 116, 3) := by decide +kernel
theorem dX8_guestOpens_36 : decode cX8_guestOpens 36 = .ok (.ireturn, 1) := by decide +kernel
theorem dX8_guestShuts_0 : decode cX8_guestShuts 0 = .ok (.iload_n 1, 1) := by decide +kernel
theorem dX8_guestShuts_1 : decode cX8_guestShuts 1 = .ok (.invokestatic 96, 3) := by decide +kernel
theorem dX8_guestShuts_4 : decode cX8_guestShuts 4 = .ok (.ifCond .eq 10, 3) := by decide +kernel
theorem dX8_guestShuts_7 : decode cX8_guestShuts 7 = .ok (.iload_n 2, 1) := by decide +kernel
theorem dX8_guestShuts_8 : decode cX8_guestShuts 8 = .ok (.invokestatic 51, 3) := by decide +kernel
theorem dX8_guestShuts_11 : decode cX8_guestShuts 11 = .ok (.ifCond .ne 5, 3) := by decide +kernel
theorem dX8_guestShuts_14 : decode cX8_guestShuts 14 = .ok (.iconst (-1), 1) := by decide +kernel
theorem dX8_guestShuts_15 : decode cX8_guestShuts 15 = .ok (.ireturn, 1) := by decide +kernel
theorem dX8_guestShuts_16 : decode cX8_guestShuts 16 = .ok (.aload_n 0, 1) := by decide +kernel
theorem dX8_guestShuts_17 : decode cX8_guestShuts 17 = .ok (.getfield 19, 3) := by decide +kernel
theorem dX8_guestShuts_20 : decode cX8_guestShuts 20 = .ok (.aload_n 0, 1) := by decide +kernel
theorem dX8_guestShuts_21 : decode cX8_guestShuts 21 = .ok (.getfield 12, 3) := by decide +kernel
theorem dX8_guestShuts_24 : decode cX8_guestShuts 24 = .ok (.invokevirtual 55, 3) := by decide +kernel
theorem dX8_guestShuts_27 : decode cX8_guestShuts 27 = .ok (.aload_n 0, 1) := by decide +kernel
theorem dX8_guestShuts_28 : decode cX8_guestShuts 28 = .ok (.getfield 12, 3) := by decide +kernel
theorem dX8_guestShuts_31 : decode cX8_guestShuts 31 = .ok (.iload_n 1, 1) := by decide +kernel
theorem dX8_guestShuts_32 : decode cX8_guestShuts 32 = .ok (.iload_n 2, 1) := by decide +kernel
theorem dX8_guestShuts_33 : decode cX8_guestShuts 33 = .ok (.invokevirtual 120, 3) := by decide +kernel
theorem dX8_guestShuts_36 : decode cX8_guestShuts 36 = .ok (.ireturn, 1) := by decide +kernel
theorem dX8_walk_0 : decode cX8_walk 0 = .ok (.iload_n 1, 1) := by decide +kernel
theorem dX8_walk_1 : decode cX8_walk 1 = .ok (.invokestatic 96, 3) := by decide +kernel
theorem dX8_walk_4 : decode cX8_walk 4 = .ok (.ifCond .eq 10, 3) := by decide +kernel
theorem dX8_walk_7 : decode cX8_walk 7 = .ok (.iload_n 2, 1) := by decide +kernel
theorem dX8_walk_8 : decode cX8_walk 8 = .ok (.invokestatic 51, 3) := by decide +kernel
theorem dX8_walk_11 : decode cX8_walk 11 = .ok (.ifCond .ne 5, 3) := by decide +kernel
theorem dX8_walk_14 : decode cX8_walk 14 = .ok (.iconst (-1), 1) := by decide +kernel
theorem dX8_walk_15 : decode cX8_walk 15 = .ok (.ireturn, 1) := by decide +kernel
theorem dX8_walk_16 : decode cX8_walk 16 = .ok (.aload_n 0, 1) := by decide +kernel
theorem dX8_walk_17 : decode cX8_walk 17 = .ok (.getfield 19, 3) := by decide +kernel
theorem dX8_walk_20 : decode cX8_walk 20 = .ok (.aload_n 0, 1) := by decide +kernel
theorem dX8_walk_21 : decode cX8_walk 21 = .ok (.getfield 12, 3) := by decide +kernel
theorem dX8_walk_24 : decode cX8_walk 24 = .ok (.invokevirtual 55, 3) := by decide +kernel
theorem dX8_walk_27 : decode cX8_walk 27 = .ok (.aload_n 0, 1) := by decide +kernel
theorem dX8_walk_28 : decode cX8_walk 28 = .ok (.getfield 12, 3) := by decide +kernel
theorem dX8_walk_31 : decode cX8_walk 31 = .ok (.iload_n 1, 1) := by decide +kernel
theorem dX8_walk_32 : decode cX8_walk 32 = .ok (.iload_n 2, 1) := by decide +kernel
theorem dX8_walk_33 : decode cX8_walk 33 = .ok (.invokevirtual 123, 3) := by decide +kernel
theorem dX8_walk_36 : decode cX8_walk 36 = .ok (.ireturn, 1) := by decide +kernel
theorem dX8_append_0 : decode cX8_append 0 = .ok (.iload_n 1, 1) := by decide +kernel
theorem dX8_append_1 : decode cX8_append 1 = .ok (.bipush 33, 2) := by decide +kernel
theorem dX8_append_3 : decode cX8_append 3 = .ok (.if_icmp .lt 9, 3) := by decide +kernel
theorem dX8_append_6 : decode cX8_append 6 = .ok (.iload_n 1, 1) := by decide +kernel
theorem dX8_append_7 : decode cX8_append 7 = .ok (.bipush 126, 2) := by decide +kernel
theorem dX8_append_9 : decode cX8_append 9 = .ok (.if_icmp .le 5, 3) := by decide +kernel
theorem dX8_append_12 : decode cX8_append 12 = .ok (.iconst (-1), 1) := by decide +kernel
theorem dX8_append_13 : decode cX8_append 13 = .ok (.ireturn, 1) := by decide +kernel
theorem dX8_append_14 : decode cX8_append 14 = .ok (.aload_n 0, 1) := by decide +kernel
theorem dX8_append_15 : decode cX8_append 15 = .ok (.getfield 33, 3) := by decide +kernel
theorem dX8_append_18 : decode cX8_append 18 = .ok (.getfield 126, 3) := by decide +kernel
theorem dX8_append_21 : decode cX8_append 21 = .ok (.bipush 60, 2) := by decide +kernel
theorem dX8_append_23 : decode cX8_append 23 = .ok (.if_icmp .lt 6, 3) := by decide +kernel
theorem dX8_append_26 : decode cX8_append 26 = .ok (.bipush (-3), 2) := by decide +kernel
theorem dX8_append_28 : decode cX8_append 28 = .ok (.ireturn, 1) := by decide +kernel
theorem dX8_append_29 : decode cX8_append 29 = .ok (.aload_n 0, 1) := by decide +kernel
theorem dX8_append_30 : decode cX8_append 30 = .ok (.getfield 33, 3) := by decide +kernel
theorem dX8_append_33 : decode cX8_append 33 = .ok (.iload_n 1, 1) := by decide +kernel
theorem dX8_append_34 : decode cX8_append 34 = .ok (.invokevirtual 129, 3) := by decide +kernel
theorem dX8_append_37 : decode cX8_append 37 = .ok (.ireturn, 1) := by decide +kernel
theorem dX8_clear_0 : decode cX8_clear 0 = .ok (.aload_n 0, 1) := by decide +kernel
theorem dX8_clear_1 : decode cX8_clear 1 = .ok (.getfield 33, 3) := by decide +kernel
theorem dX8_clear_4 : decode cX8_clear 4 = .ok (.invokevirtual 132, 3) := by decide +kernel
theorem dX8_clear_7 : decode cX8_clear 7 = .ok (.ireturn, 1) := by decide +kernel
theorem dX8_fault_0 : decode cX8_fault 0 = .ok (.aload_n 0, 1) := by decide +kernel
theorem dX8_fault_1 : decode cX8_fault 1 = .ok (.getfield 33, 3) := by decide +kernel
theorem dX8_fault_4 : decode cX8_fault 4 = .ok (.invokevirtual 136, 3) := by decide +kernel
theorem dX8_fault_7 : decode cX8_fault 7 = .ok (.ireturn, 1) := by decide +kernel
theorem dX8_run_0 : decode cX8_run 0 = .ok (.aload_n 0, 1) := by decide +kernel
theorem dX8_run_1 : decode cX8_run 1 = .ok (.getfield 33, 3) := by decide +kernel
theorem dX8_run_4 : decode cX8_run 4 = .ok (.invokevirtual 136, 3) := by decide +kernel
theorem dX8_run_7 : decode cX8_run 7 = .ok (.bipush (-4), 2) := by decide +kernel
theorem dX8_run_9 : decode cX8_run 9 = .ok (.if_icmp .eq 6, 3) := by decide +kernel
theorem dX8_run_12 : decode cX8_run 12 = .ok (.bipush (-2), 2) := by decide +kernel
theorem dX8_run_14 : decode cX8_run 14 = .ok (.ireturn, 1) := by decide +kernel
theorem dX8_run_15 : decode cX8_run 15 = .ok (.aload_n 0, 1) := by decide +kernel
theorem dX8_run_16 : decode cX8_run 16 = .ok (.getfield 19, 3) := by decide +kernel
theorem dX8_run_19 : decode cX8_run 19 = .ok (.aload_n 0, 1) := by decide +kernel
theorem dX8_run_20 : decode cX8_run 20 = .ok (.getfield 12, 3) := by decide +kernel
theorem dX8_run_23 : decode cX8_run 23 = .ok (.invokevirtual 55, 3) := by decide +kernel
theorem dX8_run_26 : decode cX8_run 26 = .ok (.aload_n 0, 1) := by decide +kernel
theorem dX8_run_27 : decode cX8_run 27 = .ok (.getfield 40, 3) := by decide +kernel
theorem dX8_run_30 : decode cX8_run 30 = .ok (.invokevirtual 139, 3) := by decide +kernel
theorem dX8_run_33 : decode cX8_run 33 = .ok (.iconst 0, 1) := by decide +kernel
theorem dX8_run_34 : decode cX8_run 34 = .ok (.istore_n 1, 1) := by decide +kernel
theorem dX8_run_35 : decode cX8_run 35 = .ok (.iconst 0, 1) := by decide +kernel
theorem dX8_run_36 : decode cX8_run 36 = .ok (.istore_n 2, 1) := by decide +kernel
theorem dX8_run_37 : decode cX8_run 37 = .ok (.iconst 0, 1) := by decide +kernel
theorem dX8_run_38 : decode cX8_run 38 = .ok (.istore_n 3, 1) := by decide +kernel
theorem dX8_run_39 : decode cX8_run 39 = .ok (.iload_n 3, 1) := by decide +kernel
theorem dX8_run_40 : decode cX8_run 40 = .ok (.bipush 60, 2) := by decide +kernel
theorem dX8_run_42 : decode cX8_run 42 = .ok (.if_icmp .ge 70, 3) := by decide +kernel
theorem dX8_run_45 : decode cX8_run 45 = .ok (.iload_n 1, 1) := by decide +kernel
theorem dX8_run_46 : decode cX8_run 46 = .ok (.aload_n 0, 1) := by decide +kernel
theorem dX8_run_47 : decode cX8_run 47 = .ok (.getfield 33, 3) := by decide +kernel
theorem dX8_run_50 : decode cX8_run 50 = .ok (.getfield 126, 3) := by decide +kernel
theorem dX8_run_53 : decode cX8_run 53 = .ok (.if_icmp .ge 59, 3) := by decide +kernel
theorem dX8_run_56 : decode cX8_run 56 = .ok (.aload_n 0, 1) := by decide +kernel
theorem dX8_run_57 : decode cX8_run 57 = .ok (.getfield 40, 3) := by decide +kernel
theorem dX8_run_60 : decode cX8_run 60 = .ok (.invokevirtual 142, 3) := by decide +kernel
theorem dX8_run_63 : decode cX8_run 63 = .ok (.ifCond .ne 49, 3) := by decide +kernel
theorem dX8_run_66 : decode cX8_run 66 = .ok (.aload_n 0, 1) := by decide +kernel
theorem dX8_run_67 : decode cX8_run 67 = .ok (.iload_n 1, 1) := by decide +kernel
theorem dX8_run_68 : decode cX8_run 68 = .ok (.invokevirtual 146, 3) := by decide +kernel
theorem dX8_run_71 : decode cX8_run 71 = .ok (.istore 4, 2) := by decide +kernel
theorem dX8_run_73 : decode cX8_run 73 = .ok (.iload 4, 2) := by decide +kernel
theorem dX8_run_75 : decode cX8_run 75 = .ok (.bipush 10, 2) := by decide +kernel
theorem dX8_run_77 : decode cX8_run 77 = .ok (.if_icmp .ge 17, 3) := by decide +kernel
theorem dX8_run_80 : decode cX8_run 80 = .ok (.aload_n 0, 1) := by decide +kernel
theorem dX8_run_81 : decode cX8_run 81 = .ok (.getfield 40, 3) := by decide +kernel
theorem dX8_run_84 : decode cX8_run 84 = .ok (.iload 4, 2) := by decide +kernel
theorem dX8_run_86 : decode cX8_run 86 = .ok (.iload_n 3, 1) := by decide +kernel
theorem dX8_run_87 : decode cX8_run 87 = .ok (.iload_n 1, 1) := by decide +kernel
theorem dX8_run_88 : decode cX8_run 88 = .ok (.invokevirtual 149, 3) := by decide +kernel
theorem dX8_run_91 : decode cX8_run 91 = .ok (.goto 15, 3) := by decide +kernel
theorem dX8_run_94 : decode cX8_run 94 = .ok (.iinc 2 1, 3) := by decide +kernel
theorem dX8_run_97 : decode cX8_run 97 = .ok (.aload_n 0, 1) := by decide +kernel
theorem dX8_run_98 : decode cX8_run 98 = .ok (.getfield 33, 3) := by decide +kernel
theorem dX8_run_101 : decode cX8_run 101 = .ok (.iload_n 1, 1) := by decide +kernel
theorem dX8_run_102 : decode cX8_run 102 = .ok (.invokevirtual 152, 3) := by decide +kernel
theorem dX8_run_105 : decode cX8_run 105 = .ok (.istore_n 1, 1) := by decide +kernel
theorem dX8_run_106 : decode cX8_run 106 = .ok (.iinc 3 1, 3) := by decide +kernel
theorem dX8_run_109 : decode cX8_run 109 = .ok (.goto (-70), 3) := by decide +kernel
theorem dX8_run_112 : decode cX8_run 112 = .ok (.aload_n 0, 1) := by decide +kernel
theorem dX8_run_113 : decode cX8_run 113 = .ok (.getfield 33, 3) := by decide +kernel
theorem dX8_run_116 : decode cX8_run 116 = .ok (.invokevirtual 132, 3) := by decide +kernel
theorem dX8_run_119 : decode cX8_run 119 = .ok (.pop, 1) := by decide +kernel
theorem dX8_run_120 : decode cX8_run 120 = .ok (.iload_n 2, 1) := by decide +kernel
theorem dX8_run_121 : decode cX8_run 121 = .ok (.ireturn, 1) := by decide +kernel
theorem dX8_why_0 : decode cX8_why 0 = .ok (.iload_n 1, 1) := by decide +kernel
theorem dX8_why_1 : decode cX8_why 1 = .ok (.tableswitch 96 0 2 #[27, 50, 73], 27) := by decide +kernel
theorem dX8_why_28 : decode cX8_why 28 = .ok (.aload_n 0, 1) := by decide +kernel
theorem dX8_why_29 : decode cX8_why 29 = .ok (.getfield 40, 3) := by decide +kernel
theorem dX8_why_32 : decode cX8_why 32 = .ok (.invokevirtual 142, 3) := by decide +kernel
theorem dX8_why_35 : decode cX8_why 35 = .ok (.ifCond .eq 13, 3) := by decide +kernel
theorem dX8_why_38 : decode cX8_why 38 = .ok (.aload_n 0, 1) := by decide +kernel
theorem dX8_why_39 : decode cX8_why 39 = .ok (.getfield 40, 3) := by decide +kernel
theorem dX8_why_42 : decode cX8_why 42 = .ok (.getfield 155, 3) := by decide +kernel
theorem dX8_why_45 : decode cX8_why 45 = .ok (.goto 5, 3) := by decide +kernel
theorem dX8_why_48 : decode cX8_why 48 = .ok (.bipush (-4), 2) := by decide +kernel
theorem dX8_why_50 : decode cX8_why 50 = .ok (.ireturn, 1) := by decide +kernel
theorem dX8_why_51 : decode cX8_why 51 = .ok (.aload_n 0, 1) := by decide +kernel
theorem dX8_why_52 : decode cX8_why 52 = .ok (.getfield 40, 3) := by decide +kernel
theorem dX8_why_55 : decode cX8_why 55 = .ok (.invokevirtual 142, 3) := by decide +kernel
theorem dX8_why_58 : decode cX8_why 58 = .ok (.ifCond .eq 13, 3) := by decide +kernel
theorem dX8_why_61 : decode cX8_why 61 = .ok (.aload_n 0, 1) := by decide +kernel
theorem dX8_why_62 : decode cX8_why 62 = .ok (.getfield 40, 3) := by decide +kernel
theorem dX8_why_65 : decode cX8_why 65 = .ok (.getfield 158, 3) := by decide +kernel
theorem dX8_why_68 : decode cX8_why 68 = .ok (.goto 5, 3) := by decide +kernel
theorem dX8_why_71 : decode cX8_why 71 = .ok (.bipush (-4), 2) := by decide +kernel
theorem dX8_why_73 : decode cX8_why 73 = .ok (.ireturn, 1) := by decide +kernel
theorem dX8_why_74 : decode cX8_why 74 = .ok (.aload_n 0, 1) := by decide +kernel
theorem dX8_why_75 : decode cX8_why 75 = .ok (.getfield 40, 3) := by decide +kernel
theorem dX8_why_78 : decode cX8_why 78 = .ok (.invokevirtual 142, 3) := by decide +kernel
theorem dX8_why_81 : decode cX8_why 81 = .ok (.ifCond .eq 13, 3) := by decide +kernel
theorem dX8_why_84 : decode cX8_why 84 = .ok (.aload_n 0, 1) := by decide +kernel
theorem dX8_why_85 : decode cX8_why 85 = .ok (.getfield 40, 3) := by decide +kernel
theorem dX8_why_88 : decode cX8_why 88 = .ok (.getfield 161, 3) := by decide +kernel
theorem dX8_why_91 : decode cX8_why 91 = .ok (.goto 5, 3) := by decide +kernel
theorem dX8_why_94 : decode cX8_why 94 = .ok (.bipush (-4), 2) := by decide +kernel
theorem dX8_why_96 : decode cX8_why 96 = .ok (.ireturn, 1) := by decide +kernel
theorem dX8_why_97 : decode cX8_why 97 = .ok (.iconst (-1), 1) := by decide +kernel
theorem dX8_why_98 : decode cX8_why 98 = .ok (.ireturn, 1) := by decide +kernel
theorem dX8_door_0 : decode cX8_door 0 = .ok (.iload_n 1, 1) := by decide +kernel
theorem dX8_door_1 : decode cX8_door 1 = .ok (.invokestatic 51, 3) := by decide +kernel
theorem dX8_door_4 : decode cX8_door 4 = .ok (.ifCond .ne 5, 3) := by decide +kernel
theorem dX8_door_7 : decode cX8_door 7 = .ok (.iconst (-1), 1) := by decide +kernel
theorem dX8_door_8 : decode cX8_door 8 = .ok (.ireturn, 1) := by decide +kernel
theorem dX8_door_9 : decode cX8_door 9 = .ok (.aload_n 0, 1) := by decide +kernel
theorem dX8_door_10 : decode cX8_door 10 = .ok (.getfield 12, 3) := by decide +kernel
theorem dX8_door_13 : decode cX8_door 13 = .ok (.getfield 66, 3) := by decide +kernel
theorem dX8_door_16 : decode cX8_door 16 = .ok (.astore_n 3, 1) := by decide +kernel
theorem dX8_door_17 : decode cX8_door 17 = .ok (.iload_n 2, 1) := by decide +kernel
theorem dX8_door_18 : decode cX8_door 18 = .ok (.tableswitch 175 0 9 #[54, 71, 77, 83, 93, 103, 127, 136, 149, 162], 54) := by decide +kernel
theorem dX8_door_72 : decode cX8_door 72 = .ok (.aload_n 0, 1) := by decide +kernel
theorem dX8_door_73 : decode cX8_door 73 = .ok (.getfield 12, 3) := by decide +kernel
theorem dX8_door_76 : decode cX8_door 76 = .ok (.iload_n 1, 1) := by decide +kernel
theorem dX8_door_77 : decode cX8_door 77 = .ok (.invokevirtual 83, 3) := by decide +kernel
theorem dX8_door_80 : decode cX8_door 80 = .ok (.ifCond .eq 7, 3) := by decide +kernel
theorem dX8_door_83 : decode cX8_door 83 = .ok (.iconst 1, 1) := by decide +kernel
theorem dX8_door_84 : decode cX8_door 84 = .ok (.goto 4, 3) := by decide +kernel
theorem dX8_door_87 : decode cX8_door 87 = .ok (.iconst 0, 1) := by decide +kernel
theorem dX8_door_88 : decode cX8_door 88 = .ok (.ireturn, 1) := by decide +kernel
theorem dX8_door_89 : decode cX8_door 89 = .ok (.aload_n 3, 1) := by decide +kernel
theorem dX8_door_90 : decode cX8_door 90 = .ok (.iload_n 1, 1) := by decide +kernel
theorem dX8_door_91 : decode cX8_door 91 = .ok (.invokevirtual 86, 3) := by decide +kernel
theorem dX8_door_94 : decode cX8_door 94 = .ok (.ireturn, 1) := by decide +kernel
theorem dX8_door_95 : decode cX8_door 95 = .ok (.aload_n 3, 1) := by decide +kernel
theorem dX8_door_96 : decode cX8_door 96 = .ok (.iload_n 1, 1) := by decide +kernel
theorem dX8_door_97 : decode cX8_door 97 = .ok (.invokevirtual 89, 3) := by decide +kernel
theorem dX8_door_100 : decode cX8_door 100 = .ok (.ireturn, 1) := by decide +kernel
theorem dX8_door_101 : decode cX8_door 101 = .ok (.aload_n 3, 1) := by decide +kernel
theorem dX8_door_102 : decode cX8_door 102 = .ok (.iload_n 1, 1) := by decide +kernel
theorem dX8_door_103 : decode cX8_door 103 = .ok (.iconst 0, 1) := by decide +kernel
theorem dX8_door_104 : decode cX8_door 104 = .ok (.invokevirtual 70, 3) := by decide +kernel
theorem dX8_door_107 : decode cX8_door 107 = .ok (.invokestatic 164, 3) := by decide +kernel
theorem dX8_door_110 : decode cX8_door 110 = .ok (.ireturn, 1) := by decide +kernel
theorem dX8_door_111 : decode cX8_door 111 = .ok (.aload_n 3, 1) := by decide +kernel
theorem dX8_door_112 : decode cX8_door 112 = .ok (.iload_n 1, 1) := by decide +kernel
theorem dX8_door_113 : decode cX8_door 113 = .ok (.iconst 1, 1) := by decide +kernel
theorem dX8_door_114 : decode cX8_door 114 = .ok (.invokevirtual 70, 3) := by decide +kernel
theorem dX8_door_117 : decode cX8_door 117 = .ok (.invokestatic 164, 3) := by decide +kernel
theorem dX8_door_120 : decode cX8_door 120 = .ok (.ireturn, 1) := by decide +kernel
theorem dX8_door_121 : decode cX8_door 121 = .ok (.aload_n 3, 1) := by decide +kernel
theorem dX8_door_122 : decode cX8_door 122 = .ok (.aload_n 0, 1) := by decide +kernel
theorem dX8_door_123 : decode cX8_door 123 = .ok (.getfield 12, 3) := by decide +kernel
theorem dX8_door_126 : decode cX8_door 126 = .ok (.getfield 167, 3) := by decide +kernel
theorem dX8_door_129 : decode cX8_door 129 = .ok (.invokevirtual 170, 3) := by decide +kernel
theorem dX8_door_132 : decode cX8_door 132 = .ok (.iload_n 1, 1) := by decide +kernel
theorem dX8_door_133 : decode cX8_door 133 = .ok (.invokestatic 173, 3) := by decide +kernel
theorem dX8_door_136 : decode cX8_door 136 = .ok (.ifCond .eq 7, 3) := by decide +kernel
theorem dX8_door_139 : decode cX8_door 139 = .ok (.iconst 1, 1) := by decide +kernel
theorem dX8_door_140 : decode cX8_door 140 = .ok (.goto 4, 3) := by decide +kernel
theorem dX8_door_143 : decode cX8_door 143 = .ok (.iconst 0, 1) := by decide +kernel
theorem dX8_door_144 : decode cX8_door 144 = .ok (.ireturn, 1) := by decide +kernel
theorem dX8_door_145 : decode cX8_door 145 = .ok (.aload_n 3, 1) := by decide +kernel
theorem dX8_door_146 : decode cX8_door 146 = .ok (.iload_n 1, 1) := by decide +kernel
theorem dX8_door_147 : decode cX8_door 147 = .ok (.sipush 1023, 3) := by decide +kernel
theorem dX8_door_150 : decode cX8_door 150 = .ok (.invokevirtual 177, 3) := by decide +kernel
theorem dX8_door_153 : decode cX8_door 153 = .ok (.ireturn, 1) := by decide +kernel
theorem dX8_door_154 : decode cX8_door 154 = .ok (.aload_n 3, 1) := by decide +kernel
theorem dX8_door_155 : decode cX8_door 155 = .ok (.iload_n 1, 1) := by decide +kernel
theorem dX8_door_156 : decode cX8_door 156 = .ok (.aload_n 0, 1) := by decide +kernel
theorem dX8_door_157 : decode cX8_door 157 = .ok (.getfield 12, 3) := by decide +kernel
theorem dX8_door_160 : decode cX8_door 160 = .ok (.getfield 167, 3) := by decide +kernel
theorem dX8_door_163 : decode cX8_door 163 = .ok (.invokevirtual 177, 3) := by decide +kernel
theorem dX8_door_166 : decode cX8_door 166 = .ok (.ireturn, 1) := by decide +kernel
theorem dX8_door_167 : decode cX8_door 167 = .ok (.aload_n 0, 1) := by decide +kernel
theorem dX8_door_168 : decode cX8_door 168 = .ok (.getfield 12, 3) := by decide +kernel
theorem dX8_door_171 : decode cX8_door 171 = .ok (.getfield 180, 3) := by decide +kernel
theorem dX8_door_174 : decode cX8_door 174 = .ok (.getfield 184, 3) := by decide +kernel
theorem dX8_door_177 : decode cX8_door 177 = .ok (.iload_n 1, 1) := by decide +kernel
theorem dX8_door_178 : decode cX8_door 178 = .ok (.iaload, 1) := by decide +kernel
theorem dX8_door_179 : decode cX8_door 179 = .ok (.ireturn, 1) := by decide +kernel
theorem dX8_door_180 : decode cX8_door 180 = .ok (.aload_n 0, 1) := by decide +kernel
theorem dX8_door_181 : decode cX8_door 181 = .ok (.getfield 12, 3) := by decide +kernel
theorem dX8_door_184 : decode cX8_door 184 = .ok (.getfield 180, 3) := by decide +kernel
theorem dX8_door_187 : decode cX8_door 187 = .ok (.getfield 189, 3) := by decide +kernel
theorem dX8_door_190 : decode cX8_door 190 = .ok (.iload_n 1, 1) := by decide +kernel
theorem dX8_door_191 : decode cX8_door 191 = .ok (.iaload, 1) := by decide +kernel
theorem dX8_door_192 : decode cX8_door 192 = .ok (.ireturn, 1) := by decide +kernel
theorem dX8_door_193 : decode cX8_door 193 = .ok (.iconst (-1), 1) := by decide +kernel
theorem dX8_door_194 : decode cX8_door 194 = .ok (.ireturn, 1) := by decide +kernel
theorem dX8_hall_0 : decode cX8_hall 0 = .ok (.iload_n 1, 1) := by decide +kernel
theorem dX8_hall_1 : decode cX8_hall 1 = .ok (.invokestatic 80, 3) := by decide +kernel
theorem dX8_hall_4 : decode cX8_hall 4 = .ok (.ifCond .ne 5, 3) := by decide +kernel
theorem dX8_hall_7 : decode cX8_hall 7 = .ok (.iconst (-1), 1) := by decide +kernel
theorem dX8_hall_8 : decode cX8_hall 8 = .ok (.ireturn, 1) := by decide +kernel
theorem dX8_hall_9 : decode cX8_hall 9 = .ok (.iload_n 2, 1) := by decide +kernel
theorem dX8_hall_10 : decode cX8_hall 10 = .ok (.tableswitch 102 0 3 #[30, 45, 68, 80], 30) := by decide +kernel
theorem dX8_hall_40 : decode cX8_hall 40 = .ok (.aload_n 0, 1) := by decide +kernel
theorem dX8_hall_41 : decode cX8_hall 41 = .ok (.getfield 12, 3) := by decide +kernel
theorem dX8_hall_44 : decode cX8_hall 44 = .ok (.getfield 66, 3) := by decide +kernel
theorem dX8_hall_47 : decode cX8_hall 47 = .ok (.iload_n 1, 1) := by decide +kernel
theorem dX8_hall_48 : decode cX8_hall 48 = .ok (.invokevirtual 192, 3) := by decide +kernel
theorem dX8_hall_51 : decode cX8_hall 51 = .ok (.invokestatic 195, 3) := by decide +kernel
theorem dX8_hall_54 : decode cX8_hall 54 = .ok (.ireturn, 1) := by decide +kernel
theorem dX8_hall_55 : decode cX8_hall 55 = .ok (.aload_n 0, 1) := by decide +kernel
theorem dX8_hall_56 : decode cX8_hall 56 = .ok (.getfield 12, 3) := by decide +kernel
theorem dX8_hall_59 : decode cX8_hall 59 = .ok (.getfield 66, 3) := by decide +kernel
theorem dX8_hall_62 : decode cX8_hall 62 = .ok (.iload_n 1, 1) := by decide +kernel
theorem dX8_hall_63 : decode cX8_hall 63 = .ok (.invokevirtual 192, 3) := by decide +kernel
theorem dX8_hall_66 : decode cX8_hall 66 = .ok (.aload_n 0, 1) := by decide +kernel
theorem dX8_hall_67 : decode cX8_hall 67 = .ok (.getfield 12, 3) := by decide +kernel
theorem dX8_hall_70 : decode cX8_hall 70 = .ok (.getfield 167, 3) := by decide +kernel
theorem dX8_hall_73 : decode cX8_hall 73 = .ok (.iand, 1) := by decide +kernel
theorem dX8_hall_74 : decode cX8_hall 74 = .ok (.invokestatic 195, 3) := by decide +kernel
theorem dX8_hall_77 : decode cX8_hall 77 = .ok (.ireturn, 1) := by decide +kernel
theorem dX8_hall_78 : decode cX8_hall 78 = .ok (.aload_n 0, 1) := by decide +kernel
theorem dX8_hall_79 : decode cX8_hall 79 = .ok (.getfield 12, 3) := by decide +kernel
theorem dX8_hall_82 : decode cX8_hall 82 = .ok (.getfield 102, 3) := by decide +kernel
theorem dX8_hall_85 : decode cX8_hall 85 = .ok (.iload_n 1, 1) := by decide +kernel
theorem dX8_hall_86 : decode cX8_hall 86 = .ok (.invokevirtual 200, 3) := by decide +kernel
theorem dX8_hall_89 : decode cX8_hall 89 = .ok (.ireturn, 1) := by decide +kernel
theorem dX8_hall_90 : decode cX8_hall 90 = .ok (.aload_n 0, 1) := by decide +kernel
theorem dX8_hall_91 : decode cX8_hall 91 = .ok (.getfield 12, 3) := by decide +kernel
theorem dX8_hall_94 : decode cX8_hall 94 = .ok (.getfield 66, 3) := by decide +kernel
theorem dX8_hall_97 : decode cX8_hall 97 = .ok (.iload_n 1, 1) := by decide +kernel
theorem dX8_hall_98 : decode cX8_hall 98 = .ok (.aload_n 0, 1) := by decide +kernel
theorem dX8_hall_99 : decode cX8_hall 99 = .ok (.getfield 12, 3) := by decide +kernel
theorem dX8_hall_102 : decode cX8_hall 102 = .ok (.getfield 167, 3) := by decide +kernel
theorem dX8_hall_105 : decode cX8_hall 105 = .ok (.invokevirtual 203, 3) := by decide +kernel
theorem dX8_hall_108 : decode cX8_hall 108 = .ok (.invokestatic 195, 3) := by decide +kernel
theorem dX8_hall_111 : decode cX8_hall 111 = .ok (.ireturn, 1) := by decide +kernel
theorem dX8_hall_112 : decode cX8_hall 112 = .ok (.iconst (-1), 1) := by decide +kernel
theorem dX8_hall_113 : decode cX8_hall 113 = .ok (.ireturn, 1) := by decide +kernel
theorem dX8_guest_0 : decode cX8_guest 0 = .ok (.iload_n 1, 1) := by decide +kernel
theorem dX8_guest_1 : decode cX8_guest 1 = .ok (.invokestatic 96, 3) := by decide +kernel
theorem dX8_guest_4 : decode cX8_guest 4 = .ok (.ifCond .ne 5, 3) := by decide +kernel
theorem dX8_guest_7 : decode cX8_guest 7 = .ok (.iconst (-1), 1) := by decide +kernel
theorem dX8_guest_8 : decode cX8_guest 8 = .ok (.ireturn, 1) := by decide +kernel
theorem dX8_guest_9 : decode cX8_guest 9 = .ok (.iload_n 2, 1) := by decide +kernel
theorem dX8_guest_10 : decode cX8_guest 10 = .ok (.tableswitch 78 0 3 #[30, 43, 56, 65], 30) := by decide +kernel
theorem dX8_guest_40 : decode cX8_guest 40 = .ok (.aload_n 0, 1) := by decide +kernel
theorem dX8_guest_41 : decode cX8_guest 41 = .ok (.getfield 12, 3) := by decide +kernel
theorem dX8_guest_44 : decode cX8_guest 44 = .ok (.getfield 102, 3) := by decide +kernel
theorem dX8_guest_47 : decode cX8_guest 47 = .ok (.getfield 206, 3) := by decide +kernel
theorem dX8_guest_50 : decode cX8_guest 50 = .ok (.iload_n 1, 1) := by decide +kernel
theorem dX8_guest_51 : decode cX8_guest 51 = .ok (.iaload, 1) := by decide +kernel
theorem dX8_guest_52 : decode cX8_guest 52 = .ok (.ireturn, 1) := by decide +kernel
theorem dX8_guest_53 : decode cX8_guest 53 = .ok (.aload_n 0, 1) := by decide +kernel
theorem dX8_guest_54 : decode cX8_guest 54 = .ok (.getfield 12, 3) := by decide +kernel
theorem dX8_guest_57 : decode cX8_guest 57 = .ok (.getfield 102, 3) := by decide +kernel
theorem dX8_guest_60 : decode cX8_guest 60 = .ok (.getfield 106, 3) := by decide +kernel
theorem dX8_guest_63 : decode cX8_guest 63 = .ok (.iload_n 1, 1) := by decide +kernel
theorem dX8_guest_64 : decode cX8_guest 64 = .ok (.iaload, 1) := by decide +kernel
theorem dX8_guest_65 : decode cX8_guest 65 = .ok (.ireturn, 1) := by decide +kernel
theorem dX8_guest_66 : decode cX8_guest 66 = .ok (.aload_n 0, 1) := by decide +kernel
theorem dX8_guest_67 : decode cX8_guest 67 = .ok (.getfield 12, 3) := by decide +kernel
theorem dX8_guest_70 : decode cX8_guest 70 = .ok (.iload_n 1, 1) := by decide +kernel
theorem dX8_guest_71 : decode cX8_guest 71 = .ok (.invokevirtual 209, 3) := by decide +kernel
theorem dX8_guest_74 : decode cX8_guest 74 = .ok (.ireturn, 1) := by decide +kernel
theorem dX8_guest_75 : decode cX8_guest 75 = .ok (.aload_n 0, 1) := by decide +kernel
theorem dX8_guest_76 : decode cX8_guest 76 = .ok (.getfield 12, 3) := by decide +kernel
theorem dX8_guest_79 : decode cX8_guest 79 = .ok (.getfield 102, 3) := by decide +kernel
theorem dX8_guest_82 : decode cX8_guest 82 = .ok (.getfield 212, 3) := by decide +kernel
theorem dX8_guest_85 : decode cX8_guest 85 = .ok (.iload_n 1, 1) := by decide +kernel
theorem dX8_guest_86 : decode cX8_guest 86 = .ok (.iaload, 1) := by decide +kernel
theorem dX8_guest_87 : decode cX8_guest 87 = .ok (.ireturn, 1) := by decide +kernel
theorem dX8_guest_88 : decode cX8_guest 88 = .ok (.iconst (-1), 1) := by decide +kernel
theorem dX8_guest_89 : decode cX8_guest 89 = .ok (.ireturn, 1) := by decide +kernel
theorem dX8_whyNot_0 : decode cX8_whyNot 0 = .ok (.iload_n 1, 1) := by decide +kernel
theorem dX8_whyNot_1 : decode cX8_whyNot 1 = .ok (.invokestatic 51, 3) := by decide +kernel
theorem dX8_whyNot_4 : decode cX8_whyNot 4 = .ok (.ifCond .eq 14, 3) := by decide +kernel
theorem dX8_whyNot_7 : decode cX8_whyNot 7 = .ok (.aload_n 0, 1) := by decide +kernel
theorem dX8_whyNot_8 : decode cX8_whyNot 8 = .ok (.getfield 12, 3) := by decide +kernel
theorem dX8_whyNot_11 : decode cX8_whyNot 11 = .ok (.iload_n 1, 1) := by decide +kernel
theorem dX8_whyNot_12 : decode cX8_whyNot 12 = .ok (.invokevirtual 215, 3) := by decide +kernel
theorem dX8_whyNot_15 : decode cX8_whyNot 15 = .ok (.goto 4, 3) := by decide +kernel
theorem dX8_whyNot_18 : decode cX8_whyNot 18 = .ok (.iconst (-1), 1) := by decide +kernel
theorem dX8_whyNot_19 : decode cX8_whyNot 19 = .ok (.ireturn, 1) := by decide +kernel
theorem dX8_together_0 : decode cX8_together 0 = .ok (.iload_n 1, 1) := by decide +kernel
theorem dX8_together_1 : decode cX8_together 1 = .ok (.lookupswitch 45 #[(0, 27), (1, 32)], 27) := by decide +kernel
theorem dX8_together_28 : decode cX8_together 28 = .ok (.aload_n 0, 1) := by decide +kernel
theorem dX8_together_29 : decode cX8_together 29 = .ok (.invokevirtual 218, 3) := by decide +kernel
theorem dX8_together_32 : decode cX8_together 32 = .ok (.ireturn, 1) := by decide +kernel
theorem dX8_together_33 : decode cX8_together 33 = .ok (.aload_n 0, 1) := by decide +kernel
theorem dX8_together_34 : decode cX8_together 34 = .ok (.getfield 12, 3) := by decide +kernel
theorem dX8_together_37 : decode cX8_together 37 = .ok (.getfield 66, 3) := by decide +kernel
theorem dX8_together_40 : decode cX8_together 40 = .ok (.iconst 0, 1) := by decide +kernel
theorem dX8_together_41 : decode cX8_together 41 = .ok (.iconst 0, 1) := by decide +kernel
theorem dX8_together_42 : decode cX8_together 42 = .ok (.invokestatic 221, 3) := by decide +kernel
theorem dX8_together_45 : decode cX8_together 45 = .ok (.ireturn, 1) := by decide +kernel
theorem dX8_together_46 : decode cX8_together 46 = .ok (.iconst (-1), 1) := by decide +kernel
theorem dX8_together_47 : decode cX8_together 47 = .ok (.ireturn, 1) := by decide +kernel
theorem dX8_can_0 : decode cX8_can 0 = .ok (.iload_n 1, 1) := by decide +kernel
theorem dX8_can_1 : decode cX8_can 1 = .ok (.invokestatic 99, 3) := by decide +kernel
theorem dX8_can_4 : decode cX8_can 4 = .ok (.ifCond .ne 5, 3) := by decide +kernel
theorem dX8_can_7 : decode cX8_can 7 = .ok (.iconst (-1), 1) := by decide +kernel
theorem dX8_can_8 : decode cX8_can 8 = .ok (.ireturn, 1) := by decide +kernel
theorem dX8_can_9 : decode cX8_can 9 = .ok (.aload_n 0, 1) := by decide +kernel
theorem dX8_can_10 : decode cX8_can 10 = .ok (.getfield 12, 3) := by decide +kernel
theorem dX8_can_13 : decode cX8_can 13 = .ok (.getfield 66, 3) := by decide +kernel
theorem dX8_can_16 : decode cX8_can 16 = .ok (.iload_n 1, 1) := by decide +kernel
theorem dX8_can_17 : decode cX8_can 17 = .ok (.invokevirtual 225, 3) := by decide +kernel
theorem dX8_can_20 : decode cX8_can 20 = .ok (.ifCond .eq 7, 3) := by decide +kernel
theorem dX8_can_23 : decode cX8_can 23 = .ok (.iconst 1, 1) := by decide +kernel
theorem dX8_can_24 : decode cX8_can 24 = .ok (.goto 4, 3) := by decide +kernel
theorem dX8_can_27 : decode cX8_can 27 = .ok (.iconst 0, 1) := by decide +kernel
theorem dX8_can_28 : decode cX8_can 28 = .ok (.ireturn, 1) := by decide +kernel
theorem dX8_deeds_0 : decode cX8_deeds 0 = .ok (.iload_n 1, 1) := by decide +kernel
theorem dX8_deeds_1 : decode cX8_deeds 1 = .ok (.invokestatic 96, 3) := by decide +kernel
theorem dX8_deeds_4 : decode cX8_deeds 4 = .ok (.ifCond .eq 10, 3) := by decide +kernel
theorem dX8_deeds_7 : decode cX8_deeds 7 = .ok (.iload_n 2, 1) := by decide +kernel
theorem dX8_deeds_8 : decode cX8_deeds 8 = .ok (.invokestatic 80, 3) := by decide +kernel
theorem dX8_deeds_11 : decode cX8_deeds 11 = .ok (.ifCond .ne 5, 3) := by decide +kernel
theorem dX8_deeds_14 : decode cX8_deeds 14 = .ok (.iconst (-1), 1) := by decide +kernel
theorem dX8_deeds_15 : decode cX8_deeds 15 = .ok (.ireturn, 1) := by decide +kernel
theorem dX8_deeds_16 : decode cX8_deeds 16 = .ok (.aload_n 0, 1) := by decide +kernel
theorem dX8_deeds_17 : decode cX8_deeds 17 = .ok (.getfield 12, 3) := by decide +kernel
theorem dX8_deeds_20 : decode cX8_deeds 20 = .ok (.getfield 167, 3) := by decide +kernel
theorem dX8_deeds_23 : decode cX8_deeds 23 = .ok (.aload_n 0, 1) := by decide +kernel
theorem dX8_deeds_24 : decode cX8_deeds 24 = .ok (.getfield 12, 3) := by decide +kernel
theorem dX8_deeds_27 : decode cX8_deeds 27 = .ok (.getfield 102, 3) := by decide +kernel
theorem dX8_deeds_30 : decode cX8_deeds 30 = .ok (.getfield 206, 3) := by decide +kernel
theorem dX8_deeds_33 : decode cX8_deeds 33 = .ok (.iload_n 1, 1) := by decide +kernel
theorem dX8_deeds_34 : decode cX8_deeds 34 = .ok (.iaload, 1) := by decide +kernel
theorem dX8_deeds_35 : decode cX8_deeds 35 = .ok (.invokestatic 228, 3) := by decide +kernel
theorem dX8_deeds_38 : decode cX8_deeds 38 = .ok (.istore 4, 2) := by decide +kernel
theorem dX8_deeds_40 : decode cX8_deeds 40 = .ok (.aload_n 0, 1) := by decide +kernel
theorem dX8_deeds_41 : decode cX8_deeds 41 = .ok (.getfield 12, 3) := by decide +kernel
theorem dX8_deeds_44 : decode cX8_deeds 44 = .ok (.getfield 102, 3) := by decide +kernel
theorem dX8_deeds_47 : decode cX8_deeds 47 = .ok (.getfield 106, 3) := by decide +kernel
theorem dX8_deeds_50 : decode cX8_deeds 50 = .ok (.iload_n 1, 1) := by decide +kernel
theorem dX8_deeds_51 : decode cX8_deeds 51 = .ok (.iaload, 1) := by decide +kernel
theorem dX8_deeds_52 : decode cX8_deeds 52 = .ok (.istore 5, 2) := by decide +kernel
theorem dX8_deeds_54 : decode cX8_deeds 54 = .ok (.iload_n 3, 1) := by decide +kernel
theorem dX8_deeds_55 : decode cX8_deeds 55 = .ok (.lookupswitch 65 #[(0, 25), (1, 45)], 25) := by decide +kernel
theorem dX8_deeds_80 : decode cX8_deeds 80 = .ok (.aload_n 0, 1) := by decide +kernel
theorem dX8_deeds_81 : decode cX8_deeds 81 = .ok (.getfield 47, 3) := by decide +kernel
theorem dX8_deeds_84 : decode cX8_deeds 84 = .ok (.aload_n 0, 1) := by decide +kernel
theorem dX8_deeds_85 : decode cX8_deeds 85 = .ok (.getfield 12, 3) := by decide +kernel
theorem dX8_deeds_88 : decode cX8_deeds 88 = .ok (.getfield 66, 3) := by decide +kernel
theorem dX8_deeds_91 : decode cX8_deeds 91 = .ok (.iload 4, 2) := by decide +kernel
theorem dX8_deeds_93 : decode cX8_deeds 93 = .ok (.iload 5, 2) := by decide +kernel
theorem dX8_deeds_95 : decode cX8_deeds 95 = .ok (.iload_n 2, 1) := by decide +kernel
theorem dX8_deeds_96 : decode cX8_deeds 96 = .ok (.invokevirtual 231, 3) := by decide +kernel
theorem dX8_deeds_99 : decode cX8_deeds 99 = .ok (.ireturn, 1) := by decide +kernel
theorem dX8_deeds_100 : decode cX8_deeds 100 = .ok (.aload_n 0, 1) := by decide +kernel
theorem dX8_deeds_101 : decode cX8_deeds 101 = .ok (.getfield 47, 3) := by decide +kernel
theorem dX8_deeds_104 : decode cX8_deeds 104 = .ok (.aload_n 0, 1) := by decide +kernel
theorem dX8_deeds_105 : decode cX8_deeds 105 = .ok (.getfield 12, 3) := by decide +kernel
theorem dX8_deeds_108 : decode cX8_deeds 108 = .ok (.getfield 66, 3) := by decide +kernel
theorem dX8_deeds_111 : decode cX8_deeds 111 = .ok (.iload 4, 2) := by decide +kernel
theorem dX8_deeds_113 : decode cX8_deeds 113 = .ok (.iload 5, 2) := by decide +kernel
theorem dX8_deeds_115 : decode cX8_deeds 115 = .ok (.iload_n 2, 1) := by decide +kernel
theorem dX8_deeds_116 : decode cX8_deeds 116 = .ok (.invokevirtual 235, 3) := by decide +kernel
theorem dX8_deeds_119 : decode cX8_deeds 119 = .ok (.ireturn, 1) := by decide +kernel
theorem dX8_deeds_120 : decode cX8_deeds 120 = .ok (.iconst (-1), 1) := by decide +kernel
theorem dX8_deeds_121 : decode cX8_deeds 121 = .ok (.ireturn, 1) := by decide +kernel
theorem dX8_count_0 : decode cX8_count 0 = .ok (.aload_n 0, 1) := by decide +kernel
theorem dX8_count_1 : decode cX8_count 1 = .ok (.getfield 12, 3) := by decide +kernel
theorem dX8_count_4 : decode cX8_count 4 = .ok (.getfield 66, 3) := by decide +kernel
theorem dX8_count_7 : decode cX8_count 7 = .ok (.astore_n 2, 1) := by decide +kernel
theorem dX8_count_8 : decode cX8_count 8 = .ok (.aload_n 0, 1) := by decide +kernel
theorem dX8_count_9 : decode cX8_count 9 = .ok (.getfield 12, 3) := by decide +kernel
theorem dX8_count_12 : decode cX8_count 12 = .ok (.getfield 180, 3) := by decide +kernel
theorem dX8_count_15 : decode cX8_count 15 = .ok (.astore_n 3, 1) := by decide +kernel
theorem dX8_count_16 : decode cX8_count 16 = .ok (.iload_n 1, 1) := by decide +kernel
theorem dX8_count_17 : decode cX8_count 17 = .ok (.tableswitch 196 0 14 #[75, 83, 94, 106, 118, 133, 145, 150, 155, 160, 165, 170, 175, 180, 188], 75) := by decide +kernel
theorem dX8_count_92 : decode cX8_count 92 = .ok (.aload_n 0, 1) := by decide +kernel
theorem dX8_count_93 : decode cX8_count 93 = .ok (.getfield 12, 3) := by decide +kernel
theorem dX8_count_96 : decode cX8_count 96 = .ok (.getfield 167, 3) := by decide +kernel
theorem dX8_count_99 : decode cX8_count 99 = .ok (.ireturn, 1) := by decide +kernel
theorem dX8_count_100 : decode cX8_count 100 = .ok (.aload_n 0, 1) := by decide +kernel
theorem dX8_count_101 : decode cX8_count 101 = .ok (.getfield 12, 3) := by decide +kernel
theorem dX8_count_104 : decode cX8_count 104 = .ok (.getfield 167, 3) := by decide +kernel
theorem dX8_count_107 : decode cX8_count 107 = .ok (.invokestatic 195, 3) := by decide +kernel
theorem dX8_count_110 : decode cX8_count 110 = .ok (.ireturn, 1) := by decide +kernel
theorem dX8_count_111 : decode cX8_count 111 = .ok (.aload_n 2, 1) := by decide +kernel
theorem dX8_count_112 : decode cX8_count 112 = .ok (.aload_n 0, 1) := by decide +kernel
theorem dX8_count_113 : decode cX8_count 113 = .ok (.getfield 12, 3) := by decide +kernel
theorem dX8_count_116 : decode cX8_count 116 = .ok (.getfield 167, 3) := by decide +kernel
theorem dX8_count_119 : decode cX8_count 119 = .ok (.invokevirtual 238, 3) := by decide +kernel
theorem dX8_count_122 : decode cX8_count 122 = .ok (.ireturn, 1) := by decide +kernel
theorem dX8_count_123 : decode cX8_count 123 = .ok (.aload_n 2, 1) := by decide +kernel
theorem dX8_count_124 : decode cX8_count 124 = .ok (.aload_n 0, 1) := by decide +kernel
theorem dX8_count_125 : decode cX8_count 125 = .ok (.getfield 12, 3) := by decide +kernel
theorem dX8_count_128 : decode cX8_count 128 = .ok (.invokevirtual 241, 3) := by decide +kernel
theorem dX8_count_131 : decode cX8_count 131 = .ok (.invokevirtual 238, 3) := by decide +kernel
theorem dX8_count_134 : decode cX8_count 134 = .ok (.ireturn, 1) := by decide +kernel
theorem dX8_count_135 : decode cX8_count 135 = .ok (.aload_n 2, 1) := by decide +kernel
theorem dX8_count_136 : decode cX8_count 136 = .ok (.aload_n 0, 1) := by decide +kernel
theorem dX8_count_137 : decode cX8_count 137 = .ok (.getfield 12, 3) := by decide +kernel
theorem dX8_count_140 : decode cX8_count 140 = .ok (.getfield 167, 3) := by decide +kernel
theorem dX8_count_143 : decode cX8_count 143 = .ok (.invokevirtual 170, 3) := by decide +kernel
theorem dX8_count_146 : decode cX8_count 146 = .ok (.invokestatic 195, 3) := by decide +kernel
theorem dX8_count_149 : decode cX8_count 149 = .ok (.ireturn, 1) := by decide +kernel
theorem dX8_count_150 : decode cX8_count 150 = .ok (.aload_n 2, 1) := by decide +kernel
theorem dX8_count_151 : decode cX8_count 151 = .ok (.aload_n 0, 1) := by decide +kernel
theorem dX8_count_152 : decode cX8_count 152 = .ok (.getfield 12, 3) := by decide +kernel
theorem dX8_count_155 : decode cX8_count 155 = .ok (.getfield 167, 3) := by decide +kernel
theorem dX8_count_158 : decode cX8_count 158 = .ok (.invokevirtual 244, 3) := by decide +kernel
theorem dX8_count_161 : decode cX8_count 161 = .ok (.ireturn, 1) := by decide +kernel
theorem dX8_count_162 : decode cX8_count 162 = .ok (.aload_n 2, 1) := by decide +kernel
theorem dX8_count_163 : decode cX8_count 163 = .ok (.invokevirtual 247, 3) := by decide +kernel
theorem dX8_count_166 : decode cX8_count 166 = .ok (.ireturn, 1) := by decide +kernel
theorem dX8_count_167 : decode cX8_count 167 = .ok (.aload_n 3, 1) := by decide +kernel
theorem dX8_count_168 : decode cX8_count 168 = .ok (.getfield 250, 3) := by decide +kernel
theorem dX8_count_171 : decode cX8_count 171 = .ok (.ireturn, 1) := by decide +kernel
theorem dX8_count_172 : decode cX8_count 172 = .ok (.aload_n 3, 1) := by decide +kernel
theorem dX8_count_173 : decode cX8_count 173 = .ok (.getfield 253, 3) := by decide +kernel
theorem dX8_count_176 : decode cX8_count 176 = .ok (.ireturn, 1) := by decide +kernel
theorem dX8_count_177 : decode cX8_count 177 = .ok (.aload_n 3, 1) := by decide +kernel
theorem dX8_count_178 : decode cX8_count 178 = .ok (.getfield 256, 3) := by decide +kernel
theorem dX8_count_181 : decode cX8_count 181 = .ok (.ireturn, 1) := by decide +kernel
theorem dX8_count_182 : decode cX8_count 182 = .ok (.aload_n 3, 1) := by decide +kernel
theorem dX8_count_183 : decode cX8_count 183 = .ok (.getfield 259, 3) := by decide +kernel
theorem dX8_count_186 : decode cX8_count 186 = .ok (.ireturn, 1) := by decide +kernel
theorem dX8_count_187 : decode cX8_count 187 = .ok (.aload_n 3, 1) := by decide +kernel
theorem dX8_count_188 : decode cX8_count 188 = .ok (.getfield 262, 3) := by decide +kernel
theorem dX8_count_191 : decode cX8_count 191 = .ok (.ireturn, 1) := by decide +kernel
theorem dX8_count_192 : decode cX8_count 192 = .ok (.aload_n 2, 1) := by decide +kernel
theorem dX8_count_193 : decode cX8_count 193 = .ok (.getfield 112, 3) := by decide +kernel
theorem dX8_count_196 : decode cX8_count 196 = .ok (.ireturn, 1) := by decide +kernel
theorem dX8_count_197 : decode cX8_count 197 = .ok (.aload_n 0, 1) := by decide +kernel
theorem dX8_count_198 : decode cX8_count 198 = .ok (.getfield 33, 3) := by decide +kernel
theorem dX8_count_201 : decode cX8_count 201 = .ok (.getfield 126, 3) := by decide +kernel
theorem dX8_count_204 : decode cX8_count 204 = .ok (.ireturn, 1) := by decide +kernel
theorem dX8_count_205 : decode cX8_count 205 = .ok (.aload_n 0, 1) := by decide +kernel
theorem dX8_count_206 : decode cX8_count 206 = .ok (.getfield 19, 3) := by decide +kernel
theorem dX8_count_209 : decode cX8_count 209 = .ok (.getfield 265, 3) := by decide +kernel
theorem dX8_count_212 : decode cX8_count 212 = .ok (.ireturn, 1) := by decide +kernel
theorem dX8_count_213 : decode cX8_count 213 = .ok (.iconst (-1), 1) := by decide +kernel
theorem dX8_count_214 : decode cX8_count 214 = .ok (.ireturn, 1) := by decide +kernel
theorem dX8_tightness_0 : decode cX8_tightness 0 = .ok (.aload_n 0, 1) := by decide +kernel
theorem dX8_tightness_1 : decode cX8_tightness 1 = .ok (.getfield 12, 3) := by decide +kernel
theorem dX8_tightness_4 : decode cX8_tightness 4 = .ok (.getfield 66, 3) := by decide +kernel
theorem dX8_tightness_7 : decode cX8_tightness 7 = .ok (.sipush 1023, 3) := by decide +kernel
theorem dX8_tightness_10 : decode cX8_tightness 10 = .ok (.invokevirtual 238, 3) := by decide +kernel
theorem dX8_tightness_13 : decode cX8_tightness 13 = .ok (.istore_n 1, 1) := by decide +kernel
theorem dX8_tightness_14 : decode cX8_tightness 14 = .ok (.iload_n 1, 1) := by decide +kernel
theorem dX8_tightness_15 : decode cX8_tightness 15 = .ok (.ifCond .ne 7, 3) := by decide +kernel
theorem dX8_tightness_18 : decode cX8_tightness 18 = .ok (.dconst 0, 1) := by decide +kernel
theorem dX8_tightness_19 : decode cX8_tightness 19 = .ok (.goto 24, 3) := by decide +kernel
theorem dX8_tightness_22 : decode cX8_tightness 22 = .ok (.aload_n 0, 1) := by decide +kernel
theorem dX8_tightness_23 : decode cX8_tightness 23 = .ok (.getfield 12, 3) := by decide +kernel
theorem dX8_tightness_26 : decode cX8_tightness 26 = .ok (.getfield 66, 3) := by decide +kernel
theorem dX8_tightness_29 : decode cX8_tightness 29 = .ok (.aload_n 0, 1) := by decide +kernel
theorem dX8_tightness_30 : decode cX8_tightness 30 = .ok (.getfield 12, 3) := by decide +kernel
theorem dX8_tightness_33 : decode cX8_tightness 33 = .ok (.getfield 167, 3) := by decide +kernel
theorem dX8_tightness_36 : decode cX8_tightness 36 = .ok (.invokevirtual 238, 3) := by decide +kernel
theorem dX8_tightness_39 : decode cX8_tightness 39 = .ok (.i2d, 1) := by decide +kernel
theorem dX8_tightness_40 : decode cX8_tightness 40 = .ok (.iload_n 1, 1) := by decide +kernel
theorem dX8_tightness_41 : decode cX8_tightness 41 = .ok (.i2d, 1) := by decide +kernel
theorem dX8_tightness_42 : decode cX8_tightness 42 = .ok (.ddiv, 1) := by decide +kernel
theorem dX8_tightness_43 : decode cX8_tightness 43 = .ok (.dreturn, 1) := by decide +kernel
theorem dX8_ifOpened_0 : decode cX8_ifOpened 0 = .ok (.iload_n 1, 1) := by decide +kernel
theorem dX8_ifOpened_1 : decode cX8_ifOpened 1 = .ok (.invokestatic 51, 3) := by decide +kernel
theorem dX8_ifOpened_4 : decode cX8_ifOpened 4 = .ok (.ifCond .ne 5, 3) := by decide +kernel
theorem dX8_ifOpened_7 : decode cX8_ifOpened 7 = .ok (.iconst (-1), 1) := by decide +kernel
theorem dX8_ifOpened_8 : decode cX8_ifOpened 8 = .ok (.ireturn, 1) := by decide +kernel
theorem dX8_ifOpened_9 : decode cX8_ifOpened 9 = .ok (.aload_n 0, 1) := by decide +kernel
theorem dX8_ifOpened_10 : decode cX8_ifOpened 10 = .ok (.getfield 12, 3) := by decide +kernel
theorem dX8_ifOpened_13 : decode cX8_ifOpened 13 = .ok (.getfield 167, 3) := by decide +kernel
theorem dX8_ifOpened_16 : decode cX8_ifOpened 16 = .ok (.istore_n 3, 1) := by decide +kernel
theorem dX8_ifOpened_17 : decode cX8_ifOpened 17 = .ok (.aload_n 0, 1) := by decide +kernel
theorem dX8_ifOpened_18 : decode cX8_ifOpened 18 = .ok (.getfield 12, 3) := by decide +kernel
theorem dX8_ifOpened_21 : decode cX8_ifOpened 21 = .ok (.iload_n 1, 1) := by decide +kernel
theorem dX8_ifOpened_22 : decode cX8_ifOpened 22 = .ok (.invokevirtual 215, 3) := by decide +kernel
theorem dX8_ifOpened_25 : decode cX8_ifOpened 25 = .ok (.ifCond .eq 7, 3) := by decide +kernel
theorem dX8_ifOpened_28 : decode cX8_ifOpened 28 = .ok (.iconst 1, 1) := by decide +kernel
theorem dX8_ifOpened_29 : decode cX8_ifOpened 29 = .ok (.goto 4, 3) := by decide +kernel
theorem dX8_ifOpened_32 : decode cX8_ifOpened 32 = .ok (.iconst 0, 1) := by decide +kernel
theorem dX8_ifOpened_33 : decode cX8_ifOpened 33 = .ok (.istore 4, 2) := by decide +kernel
theorem dX8_ifOpened_35 : decode cX8_ifOpened 35 = .ok (.iload 4, 2) := by decide +kernel
theorem dX8_ifOpened_37 : decode cX8_ifOpened 37 = .ok (.ifCond .eq 7, 3) := by decide +kernel
theorem dX8_ifOpened_40 : decode cX8_ifOpened 40 = .ok (.iload_n 3, 1) := by decide +kernel
theorem dX8_ifOpened_41 : decode cX8_ifOpened 41 = .ok (.goto 15, 3) := by decide +kernel
theorem dX8_ifOpened_44 : decode cX8_ifOpened 44 = .ok (.aload_n 0, 1) := by decide +kernel
theorem dX8_ifOpened_45 : decode cX8_ifOpened 45 = .ok (.getfield 12, 3) := by decide +kernel
theorem dX8_ifOpened_48 : decode cX8_ifOpened 48 = .ok (.getfield 66, 3) := by decide +kernel
theorem dX8_ifOpened_51 : decode cX8_ifOpened 51 = .ok (.iload_n 3, 1) := by decide +kernel
theorem dX8_ifOpened_52 : decode cX8_ifOpened 52 = .ok (.iload_n 1, 1) := by decide +kernel
theorem dX8_ifOpened_53 : decode cX8_ifOpened 53 = .ok (.invokevirtual 268, 3) := by decide +kernel
theorem dX8_ifOpened_56 : decode cX8_ifOpened 56 = .ok (.istore 5, 2) := by decide +kernel
theorem dX8_ifOpened_58 : decode cX8_ifOpened 58 = .ok (.iload 4, 2) := by decide +kernel
theorem dX8_ifOpened_60 : decode cX8_ifOpened 60 = .ok (.ifCond .eq 7, 3) := by decide +kernel
theorem dX8_ifOpened_63 : decode cX8_ifOpened 63 = .ok (.iload_n 3, 1) := by decide +kernel
theorem dX8_ifOpened_64 : decode cX8_ifOpened 64 = .ok (.goto 16, 3) := by decide +kernel
theorem dX8_ifOpened_67 : decode cX8_ifOpened 67 = .ok (.aload_n 0, 1) := by decide +kernel
theorem dX8_ifOpened_68 : decode cX8_ifOpened 68 = .ok (.getfield 12, 3) := by decide +kernel
theorem dX8_ifOpened_71 : decode cX8_ifOpened 71 = .ok (.getfield 66, 3) := by decide +kernel
theorem dX8_ifOpened_74 : decode cX8_ifOpened 74 = .ok (.iload 5, 2) := by decide +kernel
theorem dX8_ifOpened_76 : decode cX8_ifOpened 76 = .ok (.iload_n 1, 1) := by decide +kernel
theorem dX8_ifOpened_77 : decode cX8_ifOpened 77 = .ok (.invokevirtual 271, 3) := by decide +kernel
theorem dX8_ifOpened_80 : decode cX8_ifOpened 80 = .ok (.istore 6, 2) := by decide +kernel
theorem dX8_ifOpened_82 : decode cX8_ifOpened 82 = .ok (.iload_n 2, 1) := by decide +kernel
theorem dX8_ifOpened_83 : decode cX8_ifOpened 83 = .ok (.tableswitch 49 0 2 #[25, 28, 38], 25) := by decide +kernel
theorem dX8_ifOpened_108 : decode cX8_ifOpened 108 = .ok (.iload 6, 2) := by decide +kernel
theorem dX8_ifOpened_110 : decode cX8_ifOpened 110 = .ok (.ireturn, 1) := by decide +kernel
theorem dX8_ifOpened_111 : decode cX8_ifOpened 111 = .ok (.iload_n 3, 1) := by decide +kernel
theorem dX8_ifOpened_112 : decode cX8_ifOpened 112 = .ok (.iload 5, 2) := by decide +kernel
theorem dX8_ifOpened_114 : decode cX8_ifOpened 114 = .ok (.iconst (-1), 1) := by decide +kernel
theorem dX8_ifOpened_115 : decode cX8_ifOpened 115 = .ok (.ixor, 1) := by decide +kernel
theorem dX8_ifOpened_116 : decode cX8_ifOpened 116 = .ok (.iand, 1) := by decide +kernel
theorem dX8_ifOpened_117 : decode cX8_ifOpened 117 = .ok (.invokestatic 195, 3) := by decide +kernel
theorem dX8_ifOpened_120 : decode cX8_ifOpened 120 = .ok (.ireturn, 1) := by decide +kernel
theorem dX8_ifOpened_121 : decode cX8_ifOpened 121 = .ok (.iload 5, 2) := by decide +kernel
theorem dX8_ifOpened_123 : decode cX8_ifOpened 123 = .ok (.iload 6, 2) := by decide +kernel
theorem dX8_ifOpened_125 : decode cX8_ifOpened 125 = .ok (.iconst (-1), 1) := by decide +kernel
theorem dX8_ifOpened_126 : decode cX8_ifOpened 126 = .ok (.ixor, 1) := by decide +kernel
theorem dX8_ifOpened_127 : decode cX8_ifOpened 127 = .ok (.iand, 1) := by decide +kernel
theorem dX8_ifOpened_128 : decode cX8_ifOpened 128 = .ok (.invokestatic 195, 3) := by decide +kernel
theorem dX8_ifOpened_131 : decode cX8_ifOpened 131 = .ok (.ireturn, 1) := by decide +kernel
theorem dX8_ifOpened_132 : decode cX8_ifOpened 132 = .ok (.iconst (-1), 1) := by decide +kernel
theorem dX8_ifOpened_133 : decode cX8_ifOpened 133 = .ok (.ireturn, 1) := by decide +kernel
theorem dX8_undo_0 : decode cX8_undo 0 = .ok (.aload_n 0, 1) := by decide +kernel
theorem dX8_undo_1 : decode cX8_undo 1 = .ok (.getfield 19, 3) := by decide +kernel
theorem dX8_undo_4 : decode cX8_undo 4 = .ok (.getfield 265, 3) := by decide +kernel
theorem dX8_undo_7 : decode cX8_undo 7 = .ok (.ifCond .ne 6, 3) := by decide +kernel
theorem dX8_undo_10 : decode cX8_undo 10 = .ok (.bipush (-2), 2) := by decide +kernel
theorem dX8_undo_12 : decode cX8_undo 12 = .ok (.ireturn, 1) := by decide +kernel
theorem dX8_undo_13 : decode cX8_undo 13 = .ok (.aload_n 0, 1) := by decide +kernel
theorem dX8_undo_14 : decode cX8_undo 14 = .ok (.getfield 19, 3) := by decide +kernel
theorem dX8_undo_17 : decode cX8_undo 17 = .ok (.aload_n 0, 1) := by decide +kernel
theorem dX8_undo_18 : decode cX8_undo 18 = .ok (.getfield 12, 3) := by decide +kernel
theorem dX8_undo_21 : decode cX8_undo 21 = .ok (.invokevirtual 274, 3) := by decide +kernel
theorem dX8_undo_24 : decode cX8_undo 24 = .ok (.aload_n 0, 1) := by decide +kernel
theorem dX8_undo_25 : decode cX8_undo 25 = .ok (.getfield 19, 3) := by decide +kernel
theorem dX8_undo_28 : decode cX8_undo 28 = .ok (.getfield 265, 3) := by decide +kernel
theorem dX8_undo_31 : decode cX8_undo 31 = .ok (.ireturn, 1) := by decide +kernel
theorem dX8_save_0 : decode cX8_save 0 = .ok (.aload_n 0, 1) := by decide +kernel
theorem dX8_save_1 : decode cX8_save 1 = .ok (.getfield 23, 3) := by decide +kernel
theorem dX8_save_4 : decode cX8_save 4 = .ok (.aload_n 0, 1) := by decide +kernel
theorem dX8_save_5 : decode cX8_save 5 = .ok (.getfield 12, 3) := by decide +kernel
theorem dX8_save_8 : decode cX8_save 8 = .ok (.invokevirtual 277, 3) := by decide +kernel
theorem dX8_save_11 : decode cX8_save 11 = .ok (.aload_n 0, 1) := by decide +kernel
theorem dX8_save_12 : decode cX8_save 12 = .ok (.iconst 1, 1) := by decide +kernel
theorem dX8_save_13 : decode cX8_save 13 = .ok (.putfield 26, 3) := by decide +kernel
theorem dX8_save_16 : decode cX8_save 16 = .ok (.aload_n 0, 1) := by decide +kernel
theorem dX8_save_17 : decode cX8_save 17 = .ok (.getfield 12, 3) := by decide +kernel
theorem dX8_save_20 : decode cX8_save 20 = .ok (.getfield 167, 3) := by decide +kernel
theorem dX8_save_23 : decode cX8_save 23 = .ok (.ireturn, 1) := by decide +kernel
theorem dX8_restore_0 : decode cX8_restore 0 = .ok (.aload_n 0, 1) := by decide +kernel
theorem dX8_restore_1 : decode cX8_restore 1 = .ok (.getfield 26, 3) := by decide +kernel
theorem dX8_restore_4 : decode cX8_restore 4 = .ok (.ifCond .ne 6, 3) := by decide +kernel
theorem dX8_restore_7 : decode cX8_restore 7 = .ok (.bipush (-2), 2) := by decide +kernel
theorem dX8_restore_9 : decode cX8_restore 9 = .ok (.ireturn, 1) := by decide +kernel
theorem dX8_restore_10 : decode cX8_restore 10 = .ok (.aload_n 0, 1) := by decide +kernel
theorem dX8_restore_11 : decode cX8_restore 11 = .ok (.getfield 19, 3) := by decide +kernel
theorem dX8_restore_14 : decode cX8_restore 14 = .ok (.aload_n 0, 1) := by decide +kernel
theorem dX8_restore_15 : decode cX8_restore 15 = .ok (.getfield 12, 3) := by decide +kernel
theorem dX8_restore_18 : decode cX8_restore 18 = .ok (.invokevirtual 55, 3) := by decide +kernel
theorem dX8_restore_21 : decode cX8_restore 21 = .ok (.aload_n 0, 1) := by decide +kernel
theorem dX8_restore_22 : decode cX8_restore 22 = .ok (.getfield 12, 3) := by decide +kernel
theorem dX8_restore_25 : decode cX8_restore 25 = .ok (.aload_n 0, 1) := by decide +kernel
theorem dX8_restore_26 : decode cX8_restore 26 = .ok (.getfield 23, 3) := by decide +kernel
theorem dX8_restore_29 : decode cX8_restore 29 = .ok (.invokevirtual 277, 3) := by decide +kernel
theorem dX8_restore_32 : decode cX8_restore 32 = .ok (.aload_n 0, 1) := by decide +kernel
theorem dX8_restore_33 : decode cX8_restore 33 = .ok (.getfield 12, 3) := by decide +kernel
theorem dX8_restore_36 : decode cX8_restore 36 = .ok (.getfield 167, 3) := by decide +kernel
theorem dX8_restore_39 : decode cX8_restore 39 = .ok (.ireturn, 1) := by decide +kernel
theorem dX8_isDoor_0 : decode cX8_isDoor 0 = .ok (.iload_n 0, 1) := by decide +kernel
theorem dX8_isDoor_1 : decode cX8_isDoor 1 = .ok (.ifCond .lt 13, 3) := by decide +kernel
theorem dX8_isDoor_4 : decode cX8_isDoor 4 = .ok (.iload_n 0, 1) := by decide +kernel
theorem dX8_isDoor_5 : decode cX8_isDoor 5 = .ok (.bipush 10, 2) := by decide +kernel
theorem dX8_isDoor_7 : decode cX8_isDoor 7 = .ok (.if_icmp .ge 7, 3) := by decide +kernel
theorem dX8_isDoor_10 : decode cX8_isDoor 10 = .ok (.iconst 1, 1) := by decide +kernel
theorem dX8_isDoor_11 : decode cX8_isDoor 11 = .ok (.goto 4, 3) := by decide +kernel
theorem dX8_isDoor_14 : decode cX8_isDoor 14 = .ok (.iconst 0, 1) := by decide +kernel
theorem dX8_isDoor_15 : decode cX8_isDoor 15 = .ok (.ireturn, 1) := by decide +kernel
theorem dX8_isHall_0 : decode cX8_isHall 0 = .ok (.iload_n 0, 1) := by decide +kernel
theorem dX8_isHall_1 : decode cX8_isHall 1 = .ok (.ifCond .lt 13, 3) := by decide +kernel
theorem dX8_isHall_4 : decode cX8_isHall 4 = .ok (.iload_n 0, 1) := by decide +kernel
theorem dX8_isHall_5 : decode cX8_isHall 5 = .ok (.bipush 6, 2) := by decide +kernel
theorem dX8_isHall_7 : decode cX8_isHall 7 = .ok (.if_icmp .ge 7, 3) := by decide +kernel
theorem dX8_isHall_10 : decode cX8_isHall 10 = .ok (.iconst 1, 1) := by decide +kernel
theorem dX8_isHall_11 : decode cX8_isHall 11 = .ok (.goto 4, 3) := by decide +kernel
theorem dX8_isHall_14 : decode cX8_isHall 14 = .ok (.iconst 0, 1) := by decide +kernel
theorem dX8_isHall_15 : decode cX8_isHall 15 = .ok (.ireturn, 1) := by decide +kernel
theorem dX8_isGuest_0 : decode cX8_isGuest 0 = .ok (.iload_n 0, 1) := by decide +kernel
theorem dX8_isGuest_1 : decode cX8_isGuest 1 = .ok (.ifCond .lt 12, 3) := by decide +kernel
theorem dX8_isGuest_4 : decode cX8_isGuest 4 = .ok (.iload_n 0, 1) := by decide +kernel
theorem dX8_isGuest_5 : decode cX8_isGuest 5 = .ok (.iconst 3, 1) := by decide +kernel
theorem dX8_isGuest_6 : decode cX8_isGuest 6 = .ok (.if_icmp .ge 7, 3) := by decide +kernel
theorem dX8_isGuest_9 : decode cX8_isGuest 9 = .ok (.iconst 1, 1) := by decide +kernel
theorem dX8_isGuest_10 : decode cX8_isGuest 10 = .ok (.goto 4, 3) := by decide +kernel
theorem dX8_isGuest_13 : decode cX8_isGuest 13 = .ok (.iconst 0, 1) := by decide +kernel
theorem dX8_isGuest_14 : decode cX8_isGuest 14 = .ok (.ireturn, 1) := by decide +kernel
theorem dX8_isSetOfDoors_0 : decode cX8_isSetOfDoors 0 = .ok (.iload_n 0, 1) := by decide +kernel
theorem dX8_isSetOfDoors_1 : decode cX8_isSetOfDoors 1 = .ok (.ifCond .lt 14, 3) := by decide +kernel
theorem dX8_isSetOfDoors_4 : decode cX8_isSetOfDoors 4 = .ok (.iload_n 0, 1) := by decide +kernel
theorem dX8_isSetOfDoors_5 : decode cX8_isSetOfDoors 5 = .ok (.sipush 1023, 3) := by decide +kernel
theorem dX8_isSetOfDoors_8 : decode cX8_isSetOfDoors 8 = .ok (.if_icmp .gt 7, 3) := by decide +kernel
theorem dX8_isSetOfDoors_11 : decode cX8_isSetOfDoors 11 = .ok (.iconst 1, 1) := by decide +kernel
theorem dX8_isSetOfDoors_12 : decode cX8_isSetOfDoors 12 = .ok (.goto 4, 3) := by decide +kernel
theorem dX8_isSetOfDoors_15 : decode cX8_isSetOfDoors 15 = .ok (.iconst 0, 1) := by decide +kernel
theorem dX8_isSetOfDoors_16 : decode cX8_isSetOfDoors 16 = .ok (.ireturn, 1) := by decide +kernel
theorem dX8_has_0 : decode cX8_has 0 = .ok (.iload_n 0, 1) := by decide +kernel
theorem dX8_has_1 : decode cX8_has 1 = .ok (.iload_n 1, 1) := by decide +kernel
theorem dX8_has_2 : decode cX8_has 2 = .ok (.ishr, 1) := by decide +kernel
theorem dX8_has_3 : decode cX8_has 3 = .ok (.iconst 1, 1) := by decide +kernel
theorem dX8_has_4 : decode cX8_has 4 = .ok (.iand, 1) := by decide +kernel
theorem dX8_has_5 : decode cX8_has 5 = .ok (.ifCond .eq 7, 3) := by decide +kernel
theorem dX8_has_8 : decode cX8_has 8 = .ok (.iconst 1, 1) := by decide +kernel
theorem dX8_has_9 : decode cX8_has 9 = .ok (.goto 4, 3) := by decide +kernel
theorem dX8_has_12 : decode cX8_has 12 = .ok (.iconst 0, 1) := by decide +kernel
theorem dX8_has_13 : decode cX8_has 13 = .ok (.ireturn, 1) := by decide +kernel
theorem dX8_without_0 : decode cX8_without 0 = .ok (.iload_n 0, 1) := by decide +kernel
theorem dX8_without_1 : decode cX8_without 1 = .ok (.iconst 1, 1) := by decide +kernel
theorem dX8_without_2 : decode cX8_without 2 = .ok (.iload_n 1, 1) := by decide +kernel
theorem dX8_without_3 : decode cX8_without 3 = .ok (.ishl, 1) := by decide +kernel
theorem dX8_without_4 : decode cX8_without 4 = .ok (.iconst (-1), 1) := by decide +kernel
theorem dX8_without_5 : decode cX8_without 5 = .ok (.ixor, 1) := by decide +kernel
theorem dX8_without_6 : decode cX8_without 6 = .ok (.iand, 1) := by decide +kernel
theorem dX8_without_7 : decode cX8_without 7 = .ok (.ireturn, 1) := by decide +kernel
theorem dX8_spot_0 : decode cX8_spot 0 = .ok (.iload_n 0, 1) := by decide +kernel
theorem dX8_spot_1 : decode cX8_spot 1 = .ok (.bipush 6, 2) := by decide +kernel
theorem dX8_spot_3 : decode cX8_spot 3 = .ok (.imul, 1) := by decide +kernel
theorem dX8_spot_4 : decode cX8_spot 4 = .ok (.iload_n 1, 1) := by decide +kernel
theorem dX8_spot_5 : decode cX8_spot 5 = .ok (.iadd, 1) := by decide +kernel
theorem dX8_spot_6 : decode cX8_spot 6 = .ok (.ireturn, 1) := by decide +kernel
theorem dX8_doorOrNotFound_0 : decode cX8_doorOrNotFound 0 = .ok (.iload_n 0, 1) := by decide +kernel
theorem dX8_doorOrNotFound_1 : decode cX8_doorOrNotFound 1 = .ok (.bipush 10, 2) := by decide +kernel
theorem dX8_doorOrNotFound_3 : decode cX8_doorOrNotFound 3 = .ok (.if_icmp .ne 8, 3) := by decide +kernel
theorem dX8_doorOrNotFound_6 : decode cX8_doorOrNotFound 6 = .ok (.bipush (-4), 2) := by decide +kernel
theorem dX8_doorOrNotFound_8 : decode cX8_doorOrNotFound 8 = .ok (.goto 4, 3) := by decide +kernel
theorem dX8_doorOrNotFound_11 : decode cX8_doorOrNotFound 11 = .ok (.iload_n 0, 1) := by decide +kernel
theorem dX8_doorOrNotFound_12 : decode cX8_doorOrNotFound 12 = .ok (.ireturn, 1) := by decide +kernel
theorem dX8_runDeedAt_0 : decode cX8_runDeedAt 0 = .ok (.aload_n 0, 1) := by decide +kernel
theorem dX8_runDeedAt_1 : decode cX8_runDeedAt 1 = .ok (.getfield 33, 3) := by decide +kernel
theorem dX8_runDeedAt_4 : decode cX8_runDeedAt 4 = .ok (.iload_n 1, 1) := by decide +kernel
theorem dX8_runDeedAt_5 : decode cX8_runDeedAt 5 = .ok (.invokevirtual 280, 3) := by decide +kernel
theorem dX8_runDeedAt_8 : decode cX8_runDeedAt 8 = .ok (.istore_n 2, 1) := by decide +kernel
theorem dX8_runDeedAt_9 : decode cX8_runDeedAt 9 = .ok (.aload_n 0, 1) := by decide +kernel
theorem dX8_runDeedAt_10 : decode cX8_runDeedAt 10 = .ok (.getfield 33, 3) := by decide +kernel
theorem dX8_runDeedAt_13 : decode cX8_runDeedAt 13 = .ok (.iload_n 1, 1) := by decide +kernel
theorem dX8_runDeedAt_14 : decode cX8_runDeedAt 14 = .ok (.invokevirtual 283, 3) := by decide +kernel
theorem dX8_runDeedAt_17 : decode cX8_runDeedAt 17 = .ok (.istore_n 3, 1) := by decide +kernel
theorem dX8_runDeedAt_18 : decode cX8_runDeedAt 18 = .ok (.aload_n 0, 1) := by decide +kernel
theorem dX8_runDeedAt_19 : decode cX8_runDeedAt 19 = .ok (.getfield 33, 3) := by decide +kernel
theorem dX8_runDeedAt_22 : decode cX8_runDeedAt 22 = .ok (.iload_n 1, 1) := by decide +kernel
theorem dX8_runDeedAt_23 : decode cX8_runDeedAt 23 = .ok (.invokevirtual 286, 3) := by decide +kernel
theorem dX8_runDeedAt_26 : decode cX8_runDeedAt 26 = .ok (.ifCond .ne 29, 3) := by decide +kernel
theorem dX8_runDeedAt_29 : decode cX8_runDeedAt 29 = .ok (.iload_n 3, 1) := by decide +kernel
theorem dX8_runDeedAt_30 : decode cX8_runDeedAt 30 = .ok (.bipush 111, 2) := by decide +kernel
theorem dX8_runDeedAt_32 : decode cX8_runDeedAt 32 = .ok (.if_icmp .ne 14, 3) := by decide +kernel
theorem dX8_runDeedAt_35 : decode cX8_runDeedAt 35 = .ok (.aload_n 0, 1) := by decide +kernel
theorem dX8_runDeedAt_36 : decode cX8_runDeedAt 36 = .ok (.getfield 12, 3) := by decide +kernel
theorem dX8_runDeedAt_39 : decode cX8_runDeedAt 39 = .ok (.iload_n 2, 1) := by decide +kernel
theorem dX8_runDeedAt_40 : decode cX8_runDeedAt 40 = .ok (.invokevirtual 59, 3) := by decide +kernel
theorem dX8_runDeedAt_43 : decode cX8_runDeedAt 43 = .ok (.goto 11, 3) := by decide +kernel
theorem dX8_runDeedAt_46 : decode cX8_runDeedAt 46 = .ok (.aload_n 0, 1) := by decide +kernel
theorem dX8_runDeedAt_47 : decode cX8_runDeedAt 47 = .ok (.getfield 12, 3) := by decide +kernel
theorem dX8_runDeedAt_50 : decode cX8_runDeedAt 50 = .ok (.iload_n 2, 1) := by decide +kernel
theorem dX8_runDeedAt_51 : decode cX8_runDeedAt 51 = .ok (.invokevirtual 63, 3) := by decide +kernel
theorem dX8_runDeedAt_54 : decode cX8_runDeedAt 54 = .ok (.ireturn, 1) := by decide +kernel
theorem dX8_runDeedAt_55 : decode cX8_runDeedAt 55 = .ok (.aload_n 0, 1) := by decide +kernel
theorem dX8_runDeedAt_56 : decode cX8_runDeedAt 56 = .ok (.getfield 33, 3) := by decide +kernel
theorem dX8_runDeedAt_59 : decode cX8_runDeedAt 59 = .ok (.iload_n 1, 1) := by decide +kernel
theorem dX8_runDeedAt_60 : decode cX8_runDeedAt 60 = .ok (.invokevirtual 289, 3) := by decide +kernel
theorem dX8_runDeedAt_63 : decode cX8_runDeedAt 63 = .ok (.istore 4, 2) := by decide +kernel
theorem dX8_runDeedAt_65 : decode cX8_runDeedAt 65 = .ok (.iload_n 3, 1) := by decide +kernel
theorem dX8_runDeedAt_66 : decode cX8_runDeedAt 66 = .ok (.bipush 119, 2) := by decide +kernel
theorem dX8_runDeedAt_68 : decode cX8_runDeedAt 68 = .ok (.if_icmp .ne 14, 3) := by decide +kernel
theorem dX8_runDeedAt_71 : decode cX8_runDeedAt 71 = .ok (.aload_n 0, 1) := by decide +kernel
theorem dX8_runDeedAt_72 : decode cX8_runDeedAt 72 = .ok (.getfield 12, 3) := by decide +kernel
theorem dX8_runDeedAt_75 : decode cX8_runDeedAt 75 = .ok (.iload 4, 2) := by decide +kernel
theorem dX8_runDeedAt_77 : decode cX8_runDeedAt 77 = .ok (.iload_n 2, 1) := by decide +kernel
theorem dX8_runDeedAt_78 : decode cX8_runDeedAt 78 = .ok (.invokevirtual 123, 3) := by decide +kernel
theorem dX8_runDeedAt_81 : decode cX8_runDeedAt 81 = .ok (.ireturn, 1) := by decide +kernel
theorem dX8_runDeedAt_82 : decode cX8_runDeedAt 82 = .ok (.iload_n 3, 1) := by decide +kernel
theorem dX8_runDeedAt_83 : decode cX8_runDeedAt 83 = .ok (.bipush 111, 2) := by decide +kernel
theorem dX8_runDeedAt_85 : decode cX8_runDeedAt 85 = .ok (.if_icmp .ne 16, 3) := by decide +kernel
theorem dX8_runDeedAt_88 : decode cX8_runDeedAt 88 = .ok (.aload_n 0, 1) := by decide +kernel
theorem dX8_runDeedAt_89 : decode cX8_runDeedAt 89 = .ok (.getfield 12, 3) := by decide +kernel
theorem dX8_runDeedAt_92 : decode cX8_runDeedAt 92 = .ok (.iload 4, 2) := by decide +kernel
theorem dX8_runDeedAt_94 : decode cX8_runDeedAt 94 = .ok (.iload_n 2, 1) := by decide +kernel
theorem dX8_runDeedAt_95 : decode cX8_runDeedAt 95 = .ok (.invokevirtual 116, 3) := by decide +kernel
theorem dX8_runDeedAt_98 : decode cX8_runDeedAt 98 = .ok (.goto 13, 3) := by decide +kernel
theorem dX8_runDeedAt_101 : decode cX8_runDeedAt 101 = .ok (.aload_n 0, 1) := by decide +kernel
theorem dX8_runDeedAt_102 : decode cX8_runDeedAt 102 = .ok (.getfield 12, 3) := by decide +kernel
theorem dX8_runDeedAt_105 : decode cX8_runDeedAt 105 = .ok (.iload 4, 2) := by decide +kernel
theorem dX8_runDeedAt_107 : decode cX8_runDeedAt 107 = .ok (.iload_n 2, 1) := by decide +kernel
theorem dX8_runDeedAt_108 : decode cX8_runDeedAt 108 = .ok (.invokevirtual 120, 3) := by decide +kernel
theorem dX8_runDeedAt_111 : decode cX8_runDeedAt 111 = .ok (.ireturn, 1) := by decide +kernel
theorem dX8_mostOfAllSets_0 : decode cX8_mostOfAllSets 0 = .ok (.iconst 0, 1) := by decide +kernel
theorem dX8_mostOfAllSets_1 : decode cX8_mostOfAllSets 1 = .ok (.istore_n 1, 1) := by decide +kernel
theorem dX8_mostOfAllSets_2 : decode cX8_mostOfAllSets 2 = .ok (.iconst 0, 1) := by decide +kernel
theorem dX8_mostOfAllSets_3 : decode cX8_mostOfAllSets 3 = .ok (.istore_n 2, 1) := by decide +kernel
theorem dX8_mostOfAllSets_4 : decode cX8_mostOfAllSets 4 = .ok (.iload_n 2, 1) := by decide +kernel
theorem dX8_mostOfAllSets_5 : decode cX8_mostOfAllSets 5 = .ok (.sipush 1023, 3) := by decide +kernel
theorem dX8_mostOfAllSets_8 : decode cX8_mostOfAllSets 8 = .ok (.if_icmp .gt 32, 3) := by decide +kernel
theorem dX8_mostOfAllSets_11 : decode cX8_mostOfAllSets 11 = .ok (.aload_n 0, 1) := by decide +kernel
theorem dX8_mostOfAllSets_12 : decode cX8_mostOfAllSets 12 = .ok (.getfield 12, 3) := by decide +kernel
theorem dX8_mostOfAllSets_15 : decode cX8_mostOfAllSets 15 = .ok (.getfield 66, 3) := by decide +kernel
theorem dX8_mostOfAllSets_18 : decode cX8_mostOfAllSets 18 = .ok (.iload_n 2, 1) := by decide +kernel
theorem dX8_mostOfAllSets_19 : decode cX8_mostOfAllSets 19 = .ok (.invokevirtual 225, 3) := by decide +kernel
theorem dX8_mostOfAllSets_22 : decode cX8_mostOfAllSets 22 = .ok (.ifCond .eq 12, 3) := by decide +kernel
theorem dX8_mostOfAllSets_25 : decode cX8_mostOfAllSets 25 = .ok (.iload_n 1, 1) := by decide +kernel
theorem dX8_mostOfAllSets_26 : decode cX8_mostOfAllSets 26 = .ok (.iload_n 2, 1) := by decide +kernel
theorem dX8_mostOfAllSets_27 : decode cX8_mostOfAllSets 27 = .ok (.invokestatic 195, 3) := by decide +kernel
theorem dX8_mostOfAllSets_30 : decode cX8_mostOfAllSets 30 = .ok (.invokestatic 292, 3) := by decide +kernel
theorem dX8_mostOfAllSets_33 : decode cX8_mostOfAllSets 33 = .ok (.istore_n 1, 1) := by decide +kernel
theorem dX8_mostOfAllSets_34 : decode cX8_mostOfAllSets 34 = .ok (.iinc 2 1, 3) := by decide +kernel
theorem dX8_mostOfAllSets_37 : decode cX8_mostOfAllSets 37 = .ok (.goto (-33), 3) := by decide +kernel
theorem dX8_mostOfAllSets_40 : decode cX8_mostOfAllSets 40 = .ok (.iload_n 1, 1) := by decide +kernel
theorem dX8_mostOfAllSets_41 : decode cX8_mostOfAllSets 41 = .ok (.ireturn, 1) := by decide +kernel
theorem dX8_mostDoorByDoor_0 : decode cX8_mostDoorByDoor 0 = .ok (.iload_n 1, 1) := by decide +kernel
theorem dX8_mostDoorByDoor_1 : decode cX8_mostDoorByDoor 1 = .ok (.bipush 10, 2) := by decide +kernel
theorem dX8_mostDoorByDoor_3 : decode cX8_mostDoorByDoor 3 = .ok (.if_icmp .lt 8, 3) := by decide +kernel
theorem dX8_mostDoorByDoor_6 : decode cX8_mostDoorByDoor 6 = .ok (.iload_n 2, 1) := by decide +kernel
theorem dX8_mostDoorByDoor_7 : decode cX8_mostDoorByDoor 7 = .ok (.invokestatic 195, 3) := by decide +kernel
theorem dX8_mostDoorByDoor_10 : decode cX8_mostDoorByDoor 10 = .ok (.ireturn, 1) := by decide +kernel
theorem dX8_mostDoorByDoor_11 : decode cX8_mostDoorByDoor 11 = .ok (.aload_n 0, 1) := by decide +kernel
theorem dX8_mostDoorByDoor_12 : decode cX8_mostDoorByDoor 12 = .ok (.iload_n 1, 1) := by decide +kernel
theorem dX8_mostDoorByDoor_13 : decode cX8_mostDoorByDoor 13 = .ok (.iconst 1, 1) := by decide +kernel
theorem dX8_mostDoorByDoor_14 : decode cX8_mostDoorByDoor 14 = .ok (.iadd, 1) := by decide +kernel
theorem dX8_mostDoorByDoor_15 : decode cX8_mostDoorByDoor 15 = .ok (.iload_n 2, 1) := by decide +kernel
theorem dX8_mostDoorByDoor_16 : decode cX8_mostDoorByDoor 16 = .ok (.invokestatic 221, 3) := by decide +kernel
theorem dX8_mostDoorByDoor_19 : decode cX8_mostDoorByDoor 19 = .ok (.istore_n 3, 1) := by decide +kernel
theorem dX8_mostDoorByDoor_20 : decode cX8_mostDoorByDoor 20 = .ok (.iload_n 2, 1) := by decide +kernel
theorem dX8_mostDoorByDoor_21 : decode cX8_mostDoorByDoor 21 = .ok (.iconst 1, 1) := by decide +kernel
theorem dX8_mostDoorByDoor_22 : decode cX8_mostDoorByDoor 22 = .ok (.iload_n 1, 1) := by decide +kernel
theorem dX8_mostDoorByDoor_23 : decode cX8_mostDoorByDoor 23 = .ok (.ishl, 1) := by decide +kernel
theorem dX8_mostDoorByDoor_24 : decode cX8_mostDoorByDoor 24 = .ok (.ior, 1) := by decide +kernel
theorem dX8_mostDoorByDoor_25 : decode cX8_mostDoorByDoor 25 = .ok (.istore 4, 2) := by decide +kernel
theorem dX8_mostDoorByDoor_27 : decode cX8_mostDoorByDoor 27 = .ok (.aload_n 0, 1) := by decide +kernel
theorem dX8_mostDoorByDoor_28 : decode cX8_mostDoorByDoor 28 = .ok (.iload 4, 2) := by decide +kernel
theorem dX8_mostDoorByDoor_30 : decode cX8_mostDoorByDoor 30 = .ok (.invokevirtual 225, 3) := by decide +kernel
theorem dX8_mostDoorByDoor_33 : decode cX8_mostDoorByDoor 33 = .ok (.ifCond .ne 5, 3) := by decide +kernel
theorem dX8_mostDoorByDoor_36 : decode cX8_mostDoorByDoor 36 = .ok (.iload_n 3, 1) := by decide +kernel
theorem dX8_mostDoorByDoor_37 : decode cX8_mostDoorByDoor 37 = .ok (.ireturn, 1) := by decide +kernel
theorem dX8_mostDoorByDoor_38 : decode cX8_mostDoorByDoor 38 = .ok (.iload_n 3, 1) := by decide +kernel
theorem dX8_mostDoorByDoor_39 : decode cX8_mostDoorByDoor 39 = .ok (.aload_n 0, 1) := by decide +kernel
theorem dX8_mostDoorByDoor_40 : decode cX8_mostDoorByDoor 40 = .ok (.iload_n 1, 1) := by decide +kernel
theorem dX8_mostDoorByDoor_41 : decode cX8_mostDoorByDoor 41 = .ok (.iconst 1, 1) := by decide +kernel
theorem dX8_mostDoorByDoor_42 : decode cX8_mostDoorByDoor 42 = .ok (.iadd, 1) := by decide +kernel
theorem dX8_mostDoorByDoor_43 : decode cX8_mostDoorByDoor 43 = .ok (.iload 4, 2) := by decide +kernel
theorem dX8_mostDoorByDoor_45 : decode cX8_mostDoorByDoor 45 = .ok (.invokestatic 221, 3) := by decide +kernel
theorem dX8_mostDoorByDoor_48 : decode cX8_mostDoorByDoor 48 = .ok (.invokestatic 292, 3) := by decide +kernel
theorem dX8_mostDoorByDoor_51 : decode cX8_mostDoorByDoor 51 = .ok (.ireturn, 1) := by decide +kernel
theorem dJ6_bitCount_0f7a4_0 : decode cJ6_bitCount_0f7a4 0 = .ok (.iload_n 0, 1) := by decide +kernel
theorem dJ6_bitCount_0f7a4_1 : decode cJ6_bitCount_0f7a4 1 = .ok (.iload_n 0, 1) := by decide +kernel
theorem dJ6_bitCount_0f7a4_2 : decode cJ6_bitCount_0f7a4 2 = .ok (.iconst 1, 1) := by decide +kernel
theorem dJ6_bitCount_0f7a4_3 : decode cJ6_bitCount_0f7a4 3 = .ok (.iushr, 1) := by decide +kernel
theorem dJ6_bitCount_0f7a4_4 : decode cJ6_bitCount_0f7a4 4 = .ok (.ldc_w 265, 3) := by decide +kernel
theorem dJ6_bitCount_0f7a4_7 : decode cJ6_bitCount_0f7a4 7 = .ok (.iand, 1) := by decide +kernel
theorem dJ6_bitCount_0f7a4_8 : decode cJ6_bitCount_0f7a4 8 = .ok (.isub, 1) := by decide +kernel
theorem dJ6_bitCount_0f7a4_9 : decode cJ6_bitCount_0f7a4 9 = .ok (.istore_n 0, 1) := by decide +kernel
theorem dJ6_bitCount_0f7a4_10 : decode cJ6_bitCount_0f7a4 10 = .ok (.iload_n 0, 1) := by decide +kernel
theorem dJ6_bitCount_0f7a4_11 : decode cJ6_bitCount_0f7a4 11 = .ok (.ldc_w 266, 3) := by decide +kernel
theorem dJ6_bitCount_0f7a4_14 : decode cJ6_bitCount_0f7a4 14 = .ok (.iand, 1) := by decide +kernel
theorem dJ6_bitCount_0f7a4_15 : decode cJ6_bitCount_0f7a4 15 = .ok (.iload_n 0, 1) := by decide +kernel
theorem dJ6_bitCount_0f7a4_16 : decode cJ6_bitCount_0f7a4 16 = .ok (.iconst 2, 1) := by decide +kernel
theorem dJ6_bitCount_0f7a4_17 : decode cJ6_bitCount_0f7a4 17 = .ok (.iushr, 1) := by decide +kernel
theorem dJ6_bitCount_0f7a4_18 : decode cJ6_bitCount_0f7a4 18 = .ok (.ldc_w 266, 3) := by decide +kernel
theorem dJ6_bitCount_0f7a4_21 : decode cJ6_bitCount_0f7a4 21 = .ok (.iand, 1) := by decide +kernel
theorem dJ6_bitCount_0f7a4_22 : decode cJ6_bitCount_0f7a4 22 = .ok (.iadd, 1) := by decide +kernel
theorem dJ6_bitCount_0f7a4_23 : decode cJ6_bitCount_0f7a4 23 = .ok (.istore_n 0, 1) := by decide +kernel
theorem dJ6_bitCount_0f7a4_24 : decode cJ6_bitCount_0f7a4 24 = .ok (.iload_n 0, 1) := by decide +kernel
theorem dJ6_bitCount_0f7a4_25 : decode cJ6_bitCount_0f7a4 25 = .ok (.iload_n 0, 1) := by decide +kernel
theorem dJ6_bitCount_0f7a4_26 : decode cJ6_bitCount_0f7a4 26 = .ok (.iconst 4, 1) := by decide +kernel
theorem dJ6_bitCount_0f7a4_27 : decode cJ6_bitCount_0f7a4 27 = .ok (.iushr, 1) := by decide +kernel
theorem dJ6_bitCount_0f7a4_28 : decode cJ6_bitCount_0f7a4 28 = .ok (.iadd, 1) := by decide +kernel
theorem dJ6_bitCount_0f7a4_29 : decode cJ6_bitCount_0f7a4 29 = .ok (.ldc_w 267, 3) := by decide +kernel
theorem dJ6_bitCount_0f7a4_32 : decode cJ6_bitCount_0f7a4 32 = .ok (.iand, 1) := by decide +kernel
theorem dJ6_bitCount_0f7a4_33 : decode cJ6_bitCount_0f7a4 33 = .ok (.istore_n 0, 1) := by decide +kernel
theorem dJ6_bitCount_0f7a4_34 : decode cJ6_bitCount_0f7a4 34 = .ok (.iload_n 0, 1) := by decide +kernel
theorem dJ6_bitCount_0f7a4_35 : decode cJ6_bitCount_0f7a4 35 = .ok (.iload_n 0, 1) := by decide +kernel
theorem dJ6_bitCount_0f7a4_36 : decode cJ6_bitCount_0f7a4 36 = .ok (.bipush 8, 2) := by decide +kernel
theorem dJ6_bitCount_0f7a4_38 : decode cJ6_bitCount_0f7a4 38 = .ok (.iushr, 1) := by decide +kernel
theorem dJ6_bitCount_0f7a4_39 : decode cJ6_bitCount_0f7a4 39 = .ok (.iadd, 1) := by decide +kernel
theorem dJ6_bitCount_0f7a4_40 : decode cJ6_bitCount_0f7a4 40 = .ok (.istore_n 0, 1) := by decide +kernel
theorem dJ6_bitCount_0f7a4_41 : decode cJ6_bitCount_0f7a4 41 = .ok (.iload_n 0, 1) := by decide +kernel
theorem dJ6_bitCount_0f7a4_42 : decode cJ6_bitCount_0f7a4 42 = .ok (.iload_n 0, 1) := by decide +kernel
theorem dJ6_bitCount_0f7a4_43 : decode cJ6_bitCount_0f7a4 43 = .ok (.bipush 16, 2) := by decide +kernel
theorem dJ6_bitCount_0f7a4_45 : decode cJ6_bitCount_0f7a4 45 = .ok (.iushr, 1) := by decide +kernel
theorem dJ6_bitCount_0f7a4_46 : decode cJ6_bitCount_0f7a4 46 = .ok (.iadd, 1) := by decide +kernel
theorem dJ6_bitCount_0f7a4_47 : decode cJ6_bitCount_0f7a4 47 = .ok (.istore_n 0, 1) := by decide +kernel
theorem dJ6_bitCount_0f7a4_48 : decode cJ6_bitCount_0f7a4 48 = .ok (.iload_n 0, 1) := by decide +kernel
theorem dJ6_bitCount_0f7a4_49 : decode cJ6_bitCount_0f7a4 49 = .ok (.bipush 63, 2) := by decide +kernel
theorem dJ6_bitCount_0f7a4_51 : decode cJ6_bitCount_0f7a4 51 = .ok (.iand, 1) := by decide +kernel
theorem dJ6_bitCount_0f7a4_52 : decode cJ6_bitCount_0f7a4 52 = .ok (.ireturn, 1) := by decide +kernel
theorem dJ9_floorMod_7cf53_0 : decode cJ9_floorMod_7cf53 0 = .ok (.iload_n 0, 1) := by decide +kernel
theorem dJ9_floorMod_7cf53_1 : decode cJ9_floorMod_7cf53 1 = .ok (.iload_n 1, 1) := by decide +kernel
theorem dJ9_floorMod_7cf53_2 : decode cJ9_floorMod_7cf53 2 = .ok (.irem, 1) := by decide +kernel
theorem dJ9_floorMod_7cf53_3 : decode cJ9_floorMod_7cf53 3 = .ok (.istore_n 2, 1) := by decide +kernel
theorem dJ9_floorMod_7cf53_4 : decode cJ9_floorMod_7cf53 4 = .ok (.iload_n 0, 1) := by decide +kernel
theorem dJ9_floorMod_7cf53_5 : decode cJ9_floorMod_7cf53 5 = .ok (.iload_n 1, 1) := by decide +kernel
theorem dJ9_floorMod_7cf53_6 : decode cJ9_floorMod_7cf53 6 = .ok (.ixor, 1) := by decide +kernel
theorem dJ9_floorMod_7cf53_7 : decode cJ9_floorMod_7cf53 7 = .ok (.ifCond .ge 11, 3) := by decide +kernel
theorem dJ9_floorMod_7cf53_10 : decode cJ9_floorMod_7cf53 10 = .ok (.iload_n 2, 1) := by decide +kernel
theorem dJ9_floorMod_7cf53_11 : decode cJ9_floorMod_7cf53 11 = .ok (.ifCond .eq 7, 3) := by decide +kernel
theorem dJ9_floorMod_7cf53_14 : decode cJ9_floorMod_7cf53 14 = .ok (.iload_n 2, 1) := by decide +kernel
theorem dJ9_floorMod_7cf53_15 : decode cJ9_floorMod_7cf53 15 = .ok (.iload_n 1, 1) := by decide +kernel
theorem dJ9_floorMod_7cf53_16 : decode cJ9_floorMod_7cf53 16 = .ok (.iadd, 1) := by decide +kernel
theorem dJ9_floorMod_7cf53_17 : decode cJ9_floorMod_7cf53 17 = .ok (.ireturn, 1) := by decide +kernel
theorem dJ9_floorMod_7cf53_18 : decode cJ9_floorMod_7cf53 18 = .ok (.iload_n 2, 1) := by decide +kernel
theorem dJ9_floorMod_7cf53_19 : decode cJ9_floorMod_7cf53 19 = .ok (.ireturn, 1) := by decide +kernel
theorem dJ9_max_7cf53_0 : decode cJ9_max_7cf53 0 = .ok (.iload_n 0, 1) := by decide +kernel
theorem dJ9_max_7cf53_1 : decode cJ9_max_7cf53 1 = .ok (.iload_n 1, 1) := by decide +kernel
theorem dJ9_max_7cf53_2 : decode cJ9_max_7cf53 2 = .ok (.if_icmp .lt 7, 3) := by decide +kernel
theorem dJ9_max_7cf53_5 : decode cJ9_max_7cf53 5 = .ok (.iload_n 0, 1) := by decide +kernel
theorem dJ9_max_7cf53_6 : decode cJ9_max_7cf53 6 = .ok (.goto 4, 3) := by decide +kernel
theorem dJ9_max_7cf53_9 : decode cJ9_max_7cf53 9 = .ok (.iload_n 1, 1) := by decide +kernel
theorem dJ9_max_7cf53_10 : decode cJ9_max_7cf53 10 = .ok (.ireturn, 1) := by decide +kernel
theorem dJ9_min_7cf53_0 : decode cJ9_min_7cf53 0 = .ok (.iload_n 0, 1) := by decide +kernel
theorem dJ9_min_7cf53_1 : decode cJ9_min_7cf53 1 = .ok (.iload_n 1, 1) := by decide +kernel
theorem dJ9_min_7cf53_2 : decode cJ9_min_7cf53 2 = .ok (.if_icmp .gt 7, 3) := by decide +kernel
theorem dJ9_min_7cf53_5 : decode cJ9_min_7cf53 5 = .ok (.iload_n 0, 1) := by decide +kernel
theorem dJ9_min_7cf53_6 : decode cJ9_min_7cf53 6 = .ok (.goto 4, 3) := by decide +kernel
theorem dJ9_min_7cf53_9 : decode cJ9_min_7cf53 9 = .ok (.iload_n 1, 1) := by decide +kernel
theorem dJ9_min_7cf53_10 : decode cJ9_min_7cf53 10 = .ok (.ireturn, 1) := by decide +kernel
theorem dJ7_fill_53178_0 : decode cJ7_fill_53178 0 = .ok (.iconst 0, 1) := by decide +kernel
theorem dJ7_fill_53178_1 : decode cJ7_fill_53178 1 = .ok (.istore_n 2, 1) := by decide +kernel
theorem dJ7_fill_53178_2 : decode cJ7_fill_53178 2 = .ok (.aload_n 0, 1) := by decide +kernel
theorem dJ7_fill_53178_3 : decode cJ7_fill_53178 3 = .ok (.arraylength, 1) := by decide +kernel
theorem dJ7_fill_53178_4 : decode cJ7_fill_53178 4 = .ok (.istore_n 3, 1) := by decide +kernel
theorem dJ7_fill_53178_5 : decode cJ7_fill_53178 5 = .ok (.iload_n 2, 1) := by decide +kernel
theorem dJ7_fill_53178_6 : decode cJ7_fill_53178 6 = .ok (.iload_n 3, 1) := by decide +kernel
theorem dJ7_fill_53178_7 : decode cJ7_fill_53178 7 = .ok (.if_icmp .ge 13, 3) := by decide +kernel
theorem dJ7_fill_53178_10 : decode cJ7_fill_53178 10 = .ok (.aload_n 0, 1) := by decide +kernel
theorem dJ7_fill_53178_11 : decode cJ7_fill_53178 11 = .ok (.iload_n 2, 1) := by decide +kernel
theorem dJ7_fill_53178_12 : decode cJ7_fill_53178 12 = .ok (.iload_n 1, 1) := by decide +kernel
theorem dJ7_fill_53178_13 : decode cJ7_fill_53178 13 = .ok (.iastore, 1) := by decide +kernel
theorem dJ7_fill_53178_14 : decode cJ7_fill_53178 14 = .ok (.iinc 2 1, 3) := by decide +kernel
theorem dJ7_fill_53178_17 : decode cJ7_fill_53178 17 = .ok (.goto (-12), 3) := by decide +kernel
theorem dJ7_fill_53178_20 : decode cJ7_fill_53178 20 = .ok (.return_, 1) := by decide +kernel
theorem dL_cell_0 : decode cL_cell 0 = .ok (.iload_n 1, 1) := by decide +kernel
theorem dL_cell_1 : decode cL_cell 1 = .ok (.aload_n 0, 1) := by decide +kernel
theorem dL_cell_2 : decode cL_cell 2 = .ok (.arraylength, 1) := by decide +kernel
theorem dL_cell_3 : decode cL_cell 3 = .ok (.if_icmp .ge 9, 3) := by decide +kernel
theorem dL_cell_6 : decode cL_cell 6 = .ok (.aload_n 0, 1) := by decide +kernel
theorem dL_cell_7 : decode cL_cell 7 = .ok (.iload_n 1, 1) := by decide +kernel
theorem dL_cell_8 : decode cL_cell 8 = .ok (.iaload, 1) := by decide +kernel
theorem dL_cell_9 : decode cL_cell 9 = .ok (.goto 14, 3) := by decide +kernel
theorem dL_cell_12 : decode cL_cell 12 = .ok (.ldc 7, 2) := by decide +kernel
theorem dL_cell_14 : decode cL_cell 14 = .ok (.iload_n 1, 1) := by decide +kernel
theorem dL_cell_15 : decode cL_cell 15 = .ok (.sipush 401, 3) := by decide +kernel
theorem dL_cell_18 : decode cL_cell 18 = .ok (.iadd, 1) := by decide +kernel
theorem dL_cell_19 : decode cL_cell 19 = .ok (.imul, 1) := by decide +kernel
theorem dL_cell_20 : decode cL_cell 20 = .ok (.ldc 8, 2) := by decide +kernel
theorem dL_cell_22 : decode cL_cell 22 = .ok (.iadd, 1) := by decide +kernel
theorem dL_cell_23 : decode cL_cell 23 = .ok (.ldc 9, 2) := by decide +kernel
theorem dL_cell_25 : decode cL_cell 25 = .ok (.iand, 1) := by decide +kernel
theorem dL_cell_26 : decode cL_cell 26 = .ok (.ireturn, 1) := by decide +kernel
theorem dL_seen_0 : decode cL_seen 0 = .ok (.ldc2_w 10, 3) := by decide +kernel
theorem dL_seen_3 : decode cL_seen 3 = .ok (.lstore_n 1, 1) := by decide +kernel
theorem dL_seen_4 : decode cL_seen 4 = .ok (.iconst 0, 1) := by decide +kernel
theorem dL_seen_5 : decode cL_seen 5 = .ok (.istore_n 3, 1) := by decide +kernel
theorem dL_seen_6 : decode cL_seen 6 = .ok (.iload_n 3, 1) := by decide +kernel
theorem dL_seen_7 : decode cL_seen 7 = .ok (.bipush 13, 2) := by decide +kernel
theorem dL_seen_9 : decode cL_seen 9 = .ok (.if_icmp .ge 22, 3) := by decide +kernel
theorem dL_seen_12 : decode cL_seen 12 = .ok (.ldc2_w 12, 3) := by decide +kernel
theorem dL_seen_15 : decode cL_seen 15 = .ok (.lload_n 1, 1) := by decide +kernel
theorem dL_seen_16 : decode cL_seen 16 = .ok (.lmul, 1) := by decide +kernel
theorem dL_seen_17 : decode cL_seen 17 = .ok (.aload_n 0, 1) := by decide +kernel
theorem dL_seen_18 : decode cL_seen 18 = .ok (.iload_n 3, 1) := by decide +kernel
theorem dL_seen_19 : decode cL_seen 19 = .ok (.invokevirtual 14, 3) := by decide +kernel
theorem dL_seen_22 : decode cL_seen 22 = .ok (.i2l, 1) := by decide +kernel
theorem dL_seen_23 : decode cL_seen 23 = .ok (.ladd, 1) := by decide +kernel
theorem dL_seen_24 : decode cL_seen 24 = .ok (.lstore_n 1, 1) := by decide +kernel
theorem dL_seen_25 : decode cL_seen 25 = .ok (.iinc 3 1, 3) := by decide +kernel
theorem dL_seen_28 : decode cL_seen 28 = .ok (.goto (-22), 3) := by decide +kernel
theorem dL_seen_31 : decode cL_seen 31 = .ok (.iconst 0, 1) := by decide +kernel
theorem dL_seen_32 : decode cL_seen 32 = .ok (.istore_n 3, 1) := by decide +kernel
theorem dL_seen_33 : decode cL_seen 33 = .ok (.iload_n 3, 1) := by decide +kernel
theorem dL_seen_34 : decode cL_seen 34 = .ok (.bipush 100, 2) := by decide +kernel
theorem dL_seen_36 : decode cL_seen 36 = .ok (.if_icmp .ge 29, 3) := by decide +kernel
theorem dL_seen_39 : decode cL_seen 39 = .ok (.ldc2_w 12, 3) := by decide +kernel
theorem dL_seen_42 : decode cL_seen 42 = .ok (.lload_n 1, 1) := by decide +kernel
theorem dL_seen_43 : decode cL_seen 43 = .ok (.lmul, 1) := by decide +kernel
theorem dL_seen_44 : decode cL_seen 44 = .ok (.aload_n 0, 1) := by decide +kernel
theorem dL_seen_45 : decode cL_seen 45 = .ok (.iload_n 3, 1) := by decide +kernel
theorem dL_seen_46 : decode cL_seen 46 = .ok (.bipush 10, 2) := by decide +kernel
theorem dL_seen_48 : decode cL_seen 48 = .ok (.idiv, 1) := by decide +kernel
theorem dL_seen_49 : decode cL_seen 49 = .ok (.iload_n 3, 1) := by decide +kernel
theorem dL_seen_50 : decode cL_seen 50 = .ok (.bipush 10, 2) := by decide +kernel
theorem dL_seen_52 : decode cL_seen 52 = .ok (.irem, 1) := by decide +kernel
theorem dL_seen_53 : decode cL_seen 53 = .ok (.invokevirtual 20, 3) := by decide +kernel
theorem dL_seen_56 : decode cL_seen 56 = .ok (.i2l, 1) := by decide +kernel
theorem dL_seen_57 : decode cL_seen 57 = .ok (.ladd, 1) := by decide +kernel
theorem dL_seen_58 : decode cL_seen 58 = .ok (.lstore_n 1, 1) := by decide +kernel
theorem dL_seen_59 : decode cL_seen 59 = .ok (.iinc 3 1, 3) := by decide +kernel
theorem dL_seen_62 : decode cL_seen 62 = .ok (.goto (-29), 3) := by decide +kernel
theorem dL_seen_65 : decode cL_seen 65 = .ok (.iconst 0, 1) := by decide +kernel
theorem dL_seen_66 : decode cL_seen 66 = .ok (.istore_n 3, 1) := by decide +kernel
theorem dL_seen_67 : decode cL_seen 67 = .ok (.iload_n 3, 1) := by decide +kernel
theorem dL_seen_68 : decode cL_seen 68 = .ok (.bipush 12, 2) := by decide +kernel
theorem dL_seen_70 : decode cL_seen 70 = .ok (.if_icmp .ge 27, 3) := by decide +kernel
theorem dL_seen_73 : decode cL_seen 73 = .ok (.ldc2_w 12, 3) := by decide +kernel
theorem dL_seen_76 : decode cL_seen 76 = .ok (.lload_n 1, 1) := by decide +kernel
theorem dL_seen_77 : decode cL_seen 77 = .ok (.lmul, 1) := by decide +kernel
theorem dL_seen_78 : decode cL_seen 78 = .ok (.aload_n 0, 1) := by decide +kernel
theorem dL_seen_79 : decode cL_seen 79 = .ok (.iload_n 3, 1) := by decide +kernel
theorem dL_seen_80 : decode cL_seen 80 = .ok (.iconst 4, 1) := by decide +kernel
theorem dL_seen_81 : decode cL_seen 81 = .ok (.idiv, 1) := by decide +kernel
theorem dL_seen_82 : decode cL_seen 82 = .ok (.iload_n 3, 1) := by decide +kernel
theorem dL_seen_83 : decode cL_seen 83 = .ok (.iconst 4, 1) := by decide +kernel
theorem dL_seen_84 : decode cL_seen 84 = .ok (.irem, 1) := by decide +kernel
theorem dL_seen_85 : decode cL_seen 85 = .ok (.invokevirtual 24, 3) := by decide +kernel
theorem dL_seen_88 : decode cL_seen 88 = .ok (.i2l, 1) := by decide +kernel
theorem dL_seen_89 : decode cL_seen 89 = .ok (.ladd, 1) := by decide +kernel
theorem dL_seen_90 : decode cL_seen 90 = .ok (.lstore_n 1, 1) := by decide +kernel
theorem dL_seen_91 : decode cL_seen 91 = .ok (.iinc 3 1, 3) := by decide +kernel
theorem dL_seen_94 : decode cL_seen 94 = .ok (.goto (-27), 3) := by decide +kernel
theorem dL_seen_97 : decode cL_seen 97 = .ok (.lload_n 1, 1) := by decide +kernel
theorem dL_seen_98 : decode cL_seen 98 = .ok (.lreturn, 1) := by decide +kernel
theorem dL_size_0 : decode cL_size 0 = .ok (.iconst 0, 1) := by decide +kernel
theorem dL_size_1 : decode cL_size 1 = .ok (.istore_n 1, 1) := by decide +kernel
theorem dL_size_2 : decode cL_size 2 = .ok (.iload_n 0, 1) := by decide +kernel
theorem dL_size_3 : decode cL_size 3 = .ok (.istore_n 2, 1) := by decide +kernel
theorem dL_size_4 : decode cL_size 4 = .ok (.iload_n 2, 1) := by decide +kernel
theorem dL_size_5 : decode cL_size 5 = .ok (.ifCond .eq 15, 3) := by decide +kernel
theorem dL_size_8 : decode cL_size 8 = .ok (.iinc 1 1, 3) := by decide +kernel
theorem dL_size_11 : decode cL_size 11 = .ok (.iload_n 2, 1) := by decide +kernel
theorem dL_size_12 : decode cL_size 12 = .ok (.iload_n 2, 1) := by decide +kernel
theorem dL_size_13 : decode cL_size 13 = .ok (.iconst 1, 1) := by decide +kernel
theorem dL_size_14 : decode cL_size 14 = .ok (.isub, 1) := by decide +kernel
theorem dL_size_15 : decode cL_size 15 = .ok (.iand, 1) := by decide +kernel
theorem dL_size_16 : decode cL_size 16 = .ok (.istore_n 2, 1) := by decide +kernel
theorem dL_size_17 : decode cL_size 17 = .ok (.goto (-13), 3) := by decide +kernel
theorem dL_size_20 : decode cL_size 20 = .ok (.iload_n 1, 1) := by decide +kernel
theorem dL_size_21 : decode cL_size 21 = .ok (.ireturn, 1) := by decide +kernel
theorem dL_areDoors_0 : decode cL_areDoors 0 = .ok (.aload_n 0, 1) := by decide +kernel
theorem dL_areDoors_1 : decode cL_areDoors 1 = .ok (.iconst 0, 1) := by decide +kernel
theorem dL_areDoors_2 : decode cL_areDoors 2 = .ok (.invokevirtual 14, 3) := by decide +kernel
theorem dL_areDoors_5 : decode cL_areDoors 5 = .ok (.istore_n 1, 1) := by decide +kernel
theorem dL_areDoors_6 : decode cL_areDoors 6 = .ok (.iconst 0, 1) := by decide +kernel
theorem dL_areDoors_7 : decode cL_areDoors 7 = .ok (.istore_n 2, 1) := by decide +kernel
theorem dL_areDoors_8 : decode cL_areDoors 8 = .ok (.iconst 0, 1) := by decide +kernel
theorem dL_areDoors_9 : decode cL_areDoors 9 = .ok (.istore_n 3, 1) := by decide +kernel
theorem dL_areDoors_10 : decode cL_areDoors 10 = .ok (.iconst 0, 1) := by decide +kernel
theorem dL_areDoors_11 : decode cL_areDoors 11 = .ok (.istore 4, 2) := by decide +kernel
theorem dL_areDoors_13 : decode cL_areDoors 13 = .ok (.iconst 0, 1) := by decide +kernel
theorem dL_areDoors_14 : decode cL_areDoors 14 = .ok (.istore 5, 2) := by decide +kernel
theorem dL_areDoors_16 : decode cL_areDoors 16 = .ok (.iconst 0, 1) := by decide +kernel
theorem dL_areDoors_17 : decode cL_areDoors 17 = .ok (.istore 6, 2) := by decide +kernel
theorem dL_areDoors_19 : decode cL_areDoors 19 = .ok (.iconst 0, 1) := by decide +kernel
theorem dL_areDoors_20 : decode cL_areDoors 20 = .ok (.istore 7, 2) := by decide +kernel
theorem dL_areDoors_22 : decode cL_areDoors 22 = .ok (.iconst 0, 1) := by decide +kernel
theorem dL_areDoors_23 : decode cL_areDoors 23 = .ok (.istore 8, 2) := by decide +kernel
theorem dL_areDoors_25 : decode cL_areDoors 25 = .ok (.iload_n 1, 1) := by decide +kernel
theorem dL_areDoors_26 : decode cL_areDoors 26 = .ok (.ifCond .lt 26, 3) := by decide +kernel
theorem dL_areDoors_29 : decode cL_areDoors 29 = .ok (.iload_n 1, 1) := by decide +kernel
theorem dL_areDoors_30 : decode cL_areDoors 30 = .ok (.sipush 1024, 3) := by decide +kernel
theorem dL_areDoors_33 : decode cL_areDoors 33 = .ok (.if_icmp .ge 19, 3) := by decide +kernel
theorem dL_areDoors_36 : decode cL_areDoors 36 = .ok (.iload_n 1, 1) := by decide +kernel
theorem dL_areDoors_37 : decode cL_areDoors 37 = .ok (.invokestatic 27, 3) := by decide +kernel
theorem dL_areDoors_40 : decode cL_areDoors 40 = .ok (.aload_n 0, 1) := by decide +kernel
theorem dL_areDoors_41 : decode cL_areDoors 41 = .ok (.iconst 1, 1) := by decide +kernel
theorem dL_areDoors_42 : decode cL_areDoors 42 = .ok (.invokevirtual 14, 3) := by decide +kernel
theorem dL_areDoors_45 : decode cL_areDoors 45 = .ok (.if_icmp .ne 7, 3) := by decide +kernel
theorem dL_areDoors_48 : decode cL_areDoors 48 = .ok (.iconst 1, 1) := by decide +kernel
theorem dL_areDoors_49 : decode cL_areDoors 49 = .ok (.goto 4, 3) := by decide +kernel
theorem dL_areDoors_52 : decode cL_areDoors 52 = .ok (.iconst 0, 1) := by decide +kernel
theorem dL_areDoors_53 : decode cL_areDoors 53 = .ok (.istore 9, 2) := by decide +kernel
theorem dL_areDoors_55 : decode cL_areDoors 55 = .ok (.iconst 0, 1) := by decide +kernel
theorem dL_areDoors_56 : decode cL_areDoors 56 = .ok (.istore 10, 2) := by decide +kernel
theorem dL_areDoors_58 : decode cL_areDoors 58 = .ok (.iload 10, 2) := by decide +kernel
theorem dL_areDoors_60 : decode cL_areDoors 60 = .ok (.bipush 10, 2) := by decide +kernel
theorem dL_areDoors_62 : decode cL_areDoors 62 = .ok (.if_icmp .ge 455, 3) := by decide +kernel
theorem dL_areDoors_65 : decode cL_areDoors 65 = .ok (.iload 9, 2) := by decide +kernel
theorem dL_areDoors_67 : decode cL_areDoors 67 = .ok (.ifCond .eq 450, 3) := by decide +kernel
theorem dL_areDoors_70 : decode cL_areDoors 70 = .ok (.aload_n 0, 1) := by decide +kernel
theorem dL_areDoors_71 : decode cL_areDoors 71 = .ok (.iload 10, 2) := by decide +kernel
theorem dL_areDoors_73 : decode cL_areDoors 73 = .ok (.iconst 0, 1) := by decide +kernel
theorem dL_areDoors_74 : decode cL_areDoors 74 = .ok (.invokevirtual 20, 3) := by decide +kernel
theorem dL_areDoors_77 : decode cL_areDoors 77 = .ok (.iconst 1, 1) := by decide +kernel
theorem dL_areDoors_78 : decode cL_areDoors 78 = .ok (.if_icmp .ne 7, 3) := by decide +kernel
theorem dL_areDoors_81 : decode cL_areDoors 81 = .ok (.iconst 1, 1) := by decide +kernel
theorem dL_areDoors_82 : decode cL_areDoors 82 = .ok (.goto 4, 3) := by decide +kernel
theorem dL_areDoors_85 : decode cL_areDoors 85 = .ok (.iconst 0, 1) := by decide +kernel
theorem dL_areDoors_86 : decode cL_areDoors 86 = .ok (.istore 11, 2) := by decide +kernel
theorem dL_areDoors_88 : decode cL_areDoors 88 = .ok (.aload_n 0, 1) := by decide +kernel
theorem dL_areDoors_89 : decode cL_areDoors 89 = .ok (.iload 10, 2) := by decide +kernel
theorem dL_areDoors_91 : decode cL_areDoors 91 = .ok (.iconst 3, 1) := by decide +kernel
theorem dL_areDoors_92 : decode cL_areDoors 92 = .ok (.invokevirtual 20, 3) := by decide +kernel
theorem dL_areDoors_95 : decode cL_areDoors 95 = .ok (.istore 12, 2) := by decide +kernel
theorem dL_areDoors_97 : decode cL_areDoors 97 = .ok (.aload_n 0, 1) := by decide +kernel
theorem dL_areDoors_98 : decode cL_areDoors 98 = .ok (.iload 10, 2) := by decide +kernel
theorem dL_areDoors_100 : decode cL_areDoors 100 = .ok (.iconst 4, 1) := by decide +kernel
theorem dL_areDoors_101 : decode cL_areDoors 101 = .ok (.invokevirtual 20, 3) := by decide +kernel
theorem dL_areDoors_104 : decode cL_areDoors 104 = .ok (.istore 13, 2) := by decide +kernel
theorem dL_areDoors_106 : decode cL_areDoors 106 = .ok (.iload 12, 2) := by decide +kernel
theorem dL_areDoors_108 : decode cL_areDoors 108 = .ok (.ifCond .lt 7, 3) := by decide +kernel
theorem dL_areDoors_111 : decode cL_areDoors 111 = .ok (.iconst 1, 1) := by decide +kernel
theorem dL_areDoors_112 : decode cL_areDoors 112 = .ok (.goto 4, 3) := by decide +kernel
theorem dL_areDoors_115 : decode cL_areDoors 115 = .ok (.iconst 0, 1) := by decide +kernel
theorem dL_areDoors_116 : decode cL_areDoors 116 = .ok (.iload 13, 2) := by decide +kernel
theorem dL_areDoors_118 : decode cL_areDoors 118 = .ok (.ifCond .lt 7, 3) := by decide +kernel
theorem dL_areDoors_121 : decode cL_areDoors 121 = .ok (.iconst 1, 1) := by decide +kernel
theorem dL_areDoors_122 : decode cL_areDoors 122 = .ok (.goto 4, 3) := by decide +kernel
theorem dL_areDoors_125 : decode cL_areDoors 125 = .ok (.iconst 0, 1) := by decide +kernel
theorem dL_areDoors_126 : decode cL_areDoors 126 = .ok (.iadd, 1) := by decide +kernel
theorem dL_areDoors_127 : decode cL_areDoors 127 = .ok (.istore 14, 2) := by decide +kernel
theorem dL_areDoors_129 : decode cL_areDoors 129 = .ok (.iload_n 2, 1) := by decide +kernel
theorem dL_areDoors_130 : decode cL_areDoors 130 = .ok (.iload 11, 2) := by decide +kernel
theorem dL_areDoors_132 : decode cL_areDoors 132 = .ok (.ifCond .eq 8, 3) := by decide +kernel
theorem dL_areDoors_135 : decode cL_areDoors 135 = .ok (.iload 14, 2) := by decide +kernel
theorem dL_areDoors_137 : decode cL_areDoors 137 = .ok (.goto 4, 3) := by decide +kernel
theorem dL_areDoors_140 : decode cL_areDoors 140 = .ok (.iconst 0, 1) := by decide +kernel
theorem dL_areDoors_141 : decode cL_areDoors 141 = .ok (.iadd, 1) := by decide +kernel
theorem dL_areDoors_142 : decode cL_areDoors 142 = .ok (.istore_n 2, 1) := by decide +kernel
theorem dL_areDoors_143 : decode cL_areDoors 143 = .ok (.iload_n 3, 1) := by decide +kernel
theorem dL_areDoors_144 : decode cL_areDoors 144 = .ok (.iload 11, 2) := by decide +kernel
theorem dL_areDoors_146 : decode cL_areDoors 146 = .ok (.ifCond .eq 7, 3) := by decide +kernel
theorem dL_areDoors_149 : decode cL_areDoors 149 = .ok (.iconst 0, 1) := by decide +kernel
theorem dL_areDoors_150 : decode cL_areDoors 150 = .ok (.goto 5, 3) := by decide +kernel
theorem dL_areDoors_153 : decode cL_areDoors 153 = .ok (.iload 14, 2) := by decide +kernel
theorem dL_areDoors_155 : decode cL_areDoors 155 = .ok (.iadd, 1) := by decide +kernel
theorem dL_areDoors_156 : decode cL_areDoors 156 = .ok (.istore_n 3, 1) := by decide +kernel
theorem dL_areDoors_157 : decode cL_areDoors 157 = .ok (.iload 5, 2) := by decide +kernel
theorem dL_areDoors_159 : decode cL_areDoors 159 = .ok (.aload_n 0, 1) := by decide +kernel
theorem dL_areDoors_160 : decode cL_areDoors 160 = .ok (.iload 10, 2) := by decide +kernel
theorem dL_areDoors_162 : decode cL_areDoors 162 = .ok (.bipush 6, 2) := by decide +kernel
theorem dL_areDoors_164 : decode cL_areDoors 164 = .ok (.invokevirtual 20, 3) := by decide +kernel
theorem dL_areDoors_167 : decode cL_areDoors 167 = .ok (.iadd, 1) := by decide +kernel
theorem dL_areDoors_168 : decode cL_areDoors 168 = .ok (.istore 5, 2) := by decide +kernel
theorem dL_areDoors_170 : decode cL_areDoors 170 = .ok (.iload 4, 2) := by decide +kernel
theorem dL_areDoors_172 : decode cL_areDoors 172 = .ok (.aload_n 0, 1) := by decide +kernel
theorem dL_areDoors_173 : decode cL_areDoors 173 = .ok (.iload 10, 2) := by decide +kernel
theorem dL_areDoors_175 : decode cL_areDoors 175 = .ok (.bipush 7, 2) := by decide +kernel
theorem dL_areDoors_177 : decode cL_areDoors 177 = .ok (.invokevirtual 20, 3) := by decide +kernel
theorem dL_areDoors_180 : decode cL_areDoors 180 = .ok (.iadd, 1) := by decide +kernel
theorem dL_areDoors_181 : decode cL_areDoors 181 = .ok (.istore 4, 2) := by decide +kernel
theorem dL_areDoors_183 : decode cL_areDoors 183 = .ok (.iload 6, 2) := by decide +kernel
theorem dL_areDoors_185 : decode cL_areDoors 185 = .ok (.aload_n 0, 1) := by decide +kernel
theorem dL_areDoors_186 : decode cL_areDoors 186 = .ok (.iload 10, 2) := by decide +kernel
theorem dL_areDoors_188 : decode cL_areDoors 188 = .ok (.iconst 5, 1) := by decide +kernel
theorem dL_areDoors_189 : decode cL_areDoors 189 = .ok (.invokevirtual 20, 3) := by decide +kernel
theorem dL_areDoors_192 : decode cL_areDoors 192 = .ok (.iadd, 1) := by decide +kernel
theorem dL_areDoors_193 : decode cL_areDoors 193 = .ok (.istore 6, 2) := by decide +kernel
theorem dL_areDoors_195 : decode cL_areDoors 195 = .ok (.iload 7, 2) := by decide +kernel
theorem dL_areDoors_197 : decode cL_areDoors 197 = .ok (.aload_n 0, 1) := by decide +kernel
theorem dL_areDoors_198 : decode cL_areDoors 198 = .ok (.iload 10, 2) := by decide +kernel
theorem dL_areDoors_200 : decode cL_areDoors 200 = .ok (.bipush 8, 2) := by decide +kernel
theorem dL_areDoors_202 : decode cL_areDoors 202 = .ok (.invokevirtual 20, 3) := by decide +kernel
theorem dL_areDoors_205 : decode cL_areDoors 205 = .ok (.iadd, 1) := by decide +kernel
theorem dL_areDoors_206 : decode cL_areDoors 206 = .ok (.istore 7, 2) := by decide +kernel
theorem dL_areDoors_208 : decode cL_areDoors 208 = .ok (.iload 8, 2) := by decide +kernel
theorem dL_areDoors_210 : decode cL_areDoors 210 = .ok (.aload_n 0, 1) := by decide +kernel
theorem dL_areDoors_211 : decode cL_areDoors 211 = .ok (.iload 10, 2) := by decide +kernel
theorem dL_areDoors_213 : decode cL_areDoors 213 = .ok (.bipush 9, 2) := by decide +kernel
theorem dL_areDoors_215 : decode cL_areDoors 215 = .ok (.invokevirtual 20, 3) := by decide +kernel
theorem dL_areDoors_218 : decode cL_areDoors 218 = .ok (.iadd, 1) := by decide +kernel
theorem dL_areDoors_219 : decode cL_areDoors 219 = .ok (.istore 8, 2) := by decide +kernel
theorem dL_areDoors_221 : decode cL_areDoors 221 = .ok (.iload_n 1, 1) := by decide +kernel
theorem dL_areDoors_222 : decode cL_areDoors 222 = .ok (.iload 10, 2) := by decide +kernel
theorem dL_areDoors_224 : decode cL_areDoors 224 = .ok (.ishr, 1) := by decide +kernel
theorem dL_areDoors_225 : decode cL_areDoors 225 = .ok (.iconst 1, 1) := by decide +kernel
theorem dL_areDoors_226 : decode cL_areDoors 226 = .ok (.iand, 1) := by decide +kernel
theorem dL_areDoors_227 : decode cL_areDoors 227 = .ok (.iload 11, 2) := by decide +kernel
theorem dL_areDoors_229 : decode cL_areDoors 229 = .ok (.ifCond .eq 7, 3) := by decide +kernel
theorem dL_areDoors_232 : decode cL_areDoors 232 = .ok (.iconst 1, 1) := by decide +kernel
theorem dL_areDoors_233 : decode cL_areDoors 233 = .ok (.goto 4, 3) := by decide +kernel
theorem dL_areDoors_236 : decode cL_areDoors 236 = .ok (.iconst 0, 1) := by decide +kernel
theorem dL_areDoors_237 : decode cL_areDoors 237 = .ok (.if_icmp .ne 271, 3) := by decide +kernel
theorem dL_areDoors_240 : decode cL_areDoors 240 = .ok (.aload_n 0, 1) := by decide +kernel
theorem dL_areDoors_241 : decode cL_areDoors 241 = .ok (.iload 10, 2) := by decide +kernel
theorem dL_areDoors_243 : decode cL_areDoors 243 = .ok (.iconst 1, 1) := by decide +kernel
theorem dL_areDoors_244 : decode cL_areDoors 244 = .ok (.invokevirtual 20, 3) := by decide +kernel
theorem dL_areDoors_247 : decode cL_areDoors 247 = .ok (.ifCond .lt 261, 3) := by decide +kernel
theorem dL_areDoors_250 : decode cL_areDoors 250 = .ok (.aload_n 0, 1) := by decide +kernel
theorem dL_areDoors_251 : decode cL_areDoors 251 = .ok (.iload 10, 2) := by decide +kernel
theorem dL_areDoors_253 : decode cL_areDoors 253 = .ok (.iconst 1, 1) := by decide +kernel
theorem dL_areDoors_254 : decode cL_areDoors 254 = .ok (.invokevirtual 20, 3) := by decide +kernel
theorem dL_areDoors_257 : decode cL_areDoors 257 = .ok (.aload_n 0, 1) := by decide +kernel
theorem dL_areDoors_258 : decode cL_areDoors 258 = .ok (.iload 10, 2) := by decide +kernel
theorem dL_areDoors_260 : decode cL_areDoors 260 = .ok (.iconst 2, 1) := by decide +kernel
theorem dL_areDoors_261 : decode cL_areDoors 261 = .ok (.invokevirtual 20, 3) := by decide +kernel
theorem dL_areDoors_264 : decode cL_areDoors 264 = .ok (.if_icmp .ge 244, 3) := by decide +kernel
theorem dL_areDoors_267 : decode cL_areDoors 267 = .ok (.aload_n 0, 1) := by decide +kernel
theorem dL_areDoors_268 : decode cL_areDoors 268 = .ok (.iload 10, 2) := by decide +kernel
theorem dL_areDoors_270 : decode cL_areDoors 270 = .ok (.iconst 2, 1) := by decide +kernel
theorem dL_areDoors_271 : decode cL_areDoors 271 = .ok (.invokevirtual 20, 3) := by decide +kernel
theorem dL_areDoors_274 : decode cL_areDoors 274 = .ok (.bipush 6, 2) := by decide +kernel
theorem dL_areDoors_276 : decode cL_areDoors 276 = .ok (.if_icmp .ge 232, 3) := by decide +kernel
theorem dL_areDoors_279 : decode cL_areDoors 279 = .ok (.iload 12, 2) := by decide +kernel
theorem dL_areDoors_281 : decode cL_areDoors 281 = .ok (.iload 10, 2) := by decide +kernel
theorem dL_areDoors_283 : decode cL_areDoors 283 = .ok (.if_icmp .eq 225, 3) := by decide +kernel
theorem dL_areDoors_286 : decode cL_areDoors 286 = .ok (.iload 13, 2) := by decide +kernel
theorem dL_areDoors_288 : decode cL_areDoors 288 = .ok (.iload 10, 2) := by decide +kernel
theorem dL_areDoors_290 : decode cL_areDoors 290 = .ok (.if_icmp .eq 218, 3) := by decide +kernel
theorem dL_areDoors_293 : decode cL_areDoors 293 = .ok (.iload 12, 2) := by decide +kernel
theorem dL_areDoors_295 : decode cL_areDoors 295 = .ok (.iload 13, 2) := by decide +kernel
theorem dL_areDoors_297 : decode cL_areDoors 297 = .ok (.if_icmp .ne 10, 3) := by decide +kernel
theorem dL_areDoors_300 : decode cL_areDoors 300 = .ok (.iload 12, 2) := by decide +kernel
theorem dL_areDoors_302 : decode cL_areDoors 302 = .ok (.bipush (-4), 2) := by decide +kernel
theorem dL_areDoors_304 : decode cL_areDoors 304 = .ok (.if_icmp .ne 204, 3) := by decide +kernel
theorem dL_areDoors_307 : decode cL_areDoors 307 = .ok (.iload 12, 2) := by decide +kernel
theorem dL_areDoors_309 : decode cL_areDoors 309 = .ok (.bipush 10, 2) := by decide +kernel
theorem dL_areDoors_311 : decode cL_areDoors 311 = .ok (.if_icmp .ge 197, 3) := by decide +kernel
theorem dL_areDoors_314 : decode cL_areDoors 314 = .ok (.iload 13, 2) := by decide +kernel
theorem dL_areDoors_316 : decode cL_areDoors 316 = .ok (.bipush 10, 2) := by decide +kernel
theorem dL_areDoors_318 : decode cL_areDoors 318 = .ok (.if_icmp .ge 190, 3) := by decide +kernel
theorem dL_areDoors_321 : decode cL_areDoors 321 = .ok (.iload 12, 2) := by decide +kernel
theorem dL_areDoors_323 : decode cL_areDoors 323 = .ok (.ifCond .ge 10, 3) := by decide +kernel
theorem dL_areDoors_326 : decode cL_areDoors 326 = .ok (.iload 12, 2) := by decide +kernel
theorem dL_areDoors_328 : decode cL_areDoors 328 = .ok (.bipush (-4), 2) := by decide +kernel
theorem dL_areDoors_330 : decode cL_areDoors 330 = .ok (.if_icmp .ne 178, 3) := by decide +kernel
theorem dL_areDoors_333 : decode cL_areDoors 333 = .ok (.iload 13, 2) := by decide +kernel
theorem dL_areDoors_335 : decode cL_areDoors 335 = .ok (.ifCond .ge 10, 3) := by decide +kernel
theorem dL_areDoors_338 : decode cL_areDoors 338 = .ok (.iload 13, 2) := by decide +kernel
theorem dL_areDoors_340 : decode cL_areDoors 340 = .ok (.bipush (-4), 2) := by decide +kernel
theorem dL_areDoors_342 : decode cL_areDoors 342 = .ok (.if_icmp .ne 166, 3) := by decide +kernel
theorem dL_areDoors_345 : decode cL_areDoors 345 = .ok (.aload_n 0, 1) := by decide +kernel
theorem dL_areDoors_346 : decode cL_areDoors 346 = .ok (.iload 10, 2) := by decide +kernel
theorem dL_areDoors_348 : decode cL_areDoors 348 = .ok (.iconst 5, 1) := by decide +kernel
theorem dL_areDoors_349 : decode cL_areDoors 349 = .ok (.invokevirtual 20, 3) := by decide +kernel
theorem dL_areDoors_352 : decode cL_areDoors 352 = .ok (.aload_n 0, 1) := by decide +kernel
theorem dL_areDoors_353 : decode cL_areDoors 353 = .ok (.iload 10, 2) := by decide +kernel
theorem dL_areDoors_355 : decode cL_areDoors 355 = .ok (.bipush 7, 2) := by decide +kernel
theorem dL_areDoors_357 : decode cL_areDoors 357 = .ok (.invokevirtual 20, 3) := by decide +kernel
theorem dL_areDoors_360 : decode cL_areDoors 360 = .ok (.ifCond .le 7, 3) := by decide +kernel
theorem dL_areDoors_363 : decode cL_areDoors 363 = .ok (.iconst 1, 1) := by decide +kernel
theorem dL_areDoors_364 : decode cL_areDoors 364 = .ok (.goto 4, 3) := by decide +kernel
theorem dL_areDoors_367 : decode cL_areDoors 367 = .ok (.iconst 0, 1) := by decide +kernel
theorem dL_areDoors_368 : decode cL_areDoors 368 = .ok (.if_icmp .ne 140, 3) := by decide +kernel
theorem dL_areDoors_371 : decode cL_areDoors 371 = .ok (.aload_n 0, 1) := by decide +kernel
theorem dL_areDoors_372 : decode cL_areDoors 372 = .ok (.iload 10, 2) := by decide +kernel
theorem dL_areDoors_374 : decode cL_areDoors 374 = .ok (.iconst 5, 1) := by decide +kernel
theorem dL_areDoors_375 : decode cL_areDoors 375 = .ok (.invokevirtual 20, 3) := by decide +kernel
theorem dL_areDoors_378 : decode cL_areDoors 378 = .ok (.ifCond .eq 8, 3) := by decide +kernel
theorem dL_areDoors_381 : decode cL_areDoors 381 = .ok (.iload 11, 2) := by decide +kernel
theorem dL_areDoors_383 : decode cL_areDoors 383 = .ok (.ifCond .ne 125, 3) := by decide +kernel
theorem dL_areDoors_386 : decode cL_areDoors 386 = .ok (.aload_n 0, 1) := by decide +kernel
theorem dL_areDoors_387 : decode cL_areDoors 387 = .ok (.iload 10, 2) := by decide +kernel
theorem dL_areDoors_389 : decode cL_areDoors 389 = .ok (.bipush 7, 2) := by decide +kernel
theorem dL_areDoors_391 : decode cL_areDoors 391 = .ok (.invokevirtual 20, 3) := by decide +kernel
theorem dL_areDoors_394 : decode cL_areDoors 394 = .ok (.aload_n 0, 1) := by decide +kernel
theorem dL_areDoors_395 : decode cL_areDoors 395 = .ok (.iload 10, 2) := by decide +kernel
theorem dL_areDoors_397 : decode cL_areDoors 397 = .ok (.bipush 6, 2) := by decide +kernel
theorem dL_areDoors_399 : decode cL_areDoors 399 = .ok (.invokevirtual 20, 3) := by decide +kernel
theorem dL_areDoors_402 : decode cL_areDoors 402 = .ok (.if_icmp .gt 106, 3) := by decide +kernel
theorem dL_areDoors_405 : decode cL_areDoors 405 = .ok (.aload_n 0, 1) := by decide +kernel
theorem dL_areDoors_406 : decode cL_areDoors 406 = .ok (.iload 10, 2) := by decide +kernel
theorem dL_areDoors_408 : decode cL_areDoors 408 = .ok (.bipush 8, 2) := by decide +kernel
theorem dL_areDoors_410 : decode cL_areDoors 410 = .ok (.invokevirtual 20, 3) := by decide +kernel
theorem dL_areDoors_413 : decode cL_areDoors 413 = .ok (.aload_n 0, 1) := by decide +kernel
theorem dL_areDoors_414 : decode cL_areDoors 414 = .ok (.iload 10, 2) := by decide +kernel
theorem dL_areDoors_416 : decode cL_areDoors 416 = .ok (.bipush 9, 2) := by decide +kernel
theorem dL_areDoors_418 : decode cL_areDoors 418 = .ok (.invokevirtual 20, 3) := by decide +kernel
theorem dL_areDoors_421 : decode cL_areDoors 421 = .ok (.iload 11, 2) := by decide +kernel
theorem dL_areDoors_423 : decode cL_areDoors 423 = .ok (.ifCond .eq 7, 3) := by decide +kernel
theorem dL_areDoors_426 : decode cL_areDoors 426 = .ok (.iconst 1, 1) := by decide +kernel
theorem dL_areDoors_427 : decode cL_areDoors 427 = .ok (.goto 4, 3) := by decide +kernel
theorem dL_areDoors_430 : decode cL_areDoors 430 = .ok (.iconst 0, 1) := by decide +kernel
theorem dL_areDoors_431 : decode cL_areDoors 431 = .ok (.iadd, 1) := by decide +kernel
theorem dL_areDoors_432 : decode cL_areDoors 432 = .ok (.if_icmp .ne 76, 3) := by decide +kernel
theorem dL_areDoors_435 : decode cL_areDoors 435 = .ok (.aload_n 0, 1) := by decide +kernel
theorem dL_areDoors_436 : decode cL_areDoors 436 = .ok (.iload 10, 2) := by decide +kernel
theorem dL_areDoors_438 : decode cL_areDoors 438 = .ok (.invokevirtual 32, 3) := by decide +kernel
theorem dL_areDoors_441 : decode cL_areDoors 441 = .ok (.iload 11, 2) := by decide +kernel
theorem dL_areDoors_443 : decode cL_areDoors 443 = .ok (.ifCond .eq 7, 3) := by decide +kernel
theorem dL_areDoors_446 : decode cL_areDoors 446 = .ok (.iconst 1, 1) := by decide +kernel
theorem dL_areDoors_447 : decode cL_areDoors 447 = .ok (.goto 19, 3) := by decide +kernel
theorem dL_areDoors_450 : decode cL_areDoors 450 = .ok (.aload_n 0, 1) := by decide +kernel
theorem dL_areDoors_451 : decode cL_areDoors 451 = .ok (.iload 10, 2) := by decide +kernel
theorem dL_areDoors_453 : decode cL_areDoors 453 = .ok (.iconst 5, 1) := by decide +kernel
theorem dL_areDoors_454 : decode cL_areDoors 454 = .ok (.invokevirtual 20, 3) := by decide +kernel
theorem dL_areDoors_457 : decode cL_areDoors 457 = .ok (.iconst 1, 1) := by decide +kernel
theorem dL_areDoors_458 : decode cL_areDoors 458 = .ok (.if_icmp .ne 7, 3) := by decide +kernel
theorem dL_areDoors_461 : decode cL_areDoors 461 = .ok (.iconst 2, 1) := by decide +kernel
theorem dL_areDoors_462 : decode cL_areDoors 462 = .ok (.goto 4, 3) := by decide +kernel
theorem dL_areDoors_465 : decode cL_areDoors 465 = .ok (.iconst 0, 1) := by decide +kernel
theorem dL_areDoors_466 : decode cL_areDoors 466 = .ok (.if_icmp .ne 42, 3) := by decide +kernel
theorem dL_areDoors_469 : decode cL_areDoors 469 = .ok (.iload 11, 2) := by decide +kernel
theorem dL_areDoors_471 : decode cL_areDoors 471 = .ok (.ifCond .eq 33, 3) := by decide +kernel
theorem dL_areDoors_474 : decode cL_areDoors 474 = .ok (.iload 12, 2) := by decide +kernel
theorem dL_areDoors_476 : decode cL_areDoors 476 = .ok (.ifCond .lt 13, 3) := by decide +kernel
theorem dL_areDoors_479 : decode cL_areDoors 479 = .ok (.aload_n 0, 1) := by decide +kernel
theorem dL_areDoors_480 : decode cL_areDoors 480 = .ok (.iload 12, 2) := by decide +kernel
theorem dL_areDoors_482 : decode cL_areDoors 482 = .ok (.iconst 0, 1) := by decide +kernel
theorem dL_areDoors_483 : decode cL_areDoors 483 = .ok (.invokevirtual 20, 3) := by decide +kernel
theorem dL_areDoors_486 : decode cL_areDoors 486 = .ok (.ifCond .ne 22, 3) := by decide +kernel
theorem dL_areDoors_489 : decode cL_areDoors 489 = .ok (.iload 13, 2) := by decide +kernel
theorem dL_areDoors_491 : decode cL_areDoors 491 = .ok (.ifCond .lt 13, 3) := by decide +kernel
theorem dL_areDoors_494 : decode cL_areDoors 494 = .ok (.aload_n 0, 1) := by decide +kernel
theorem dL_areDoors_495 : decode cL_areDoors 495 = .ok (.iload 13, 2) := by decide +kernel
theorem dL_areDoors_497 : decode cL_areDoors 497 = .ok (.iconst 0, 1) := by decide +kernel
theorem dL_areDoors_498 : decode cL_areDoors 498 = .ok (.invokevirtual 20, 3) := by decide +kernel
theorem dL_areDoors_501 : decode cL_areDoors 501 = .ok (.ifCond .ne 7, 3) := by decide +kernel
theorem dL_areDoors_504 : decode cL_areDoors 504 = .ok (.iconst 1, 1) := by decide +kernel
theorem dL_areDoors_505 : decode cL_areDoors 505 = .ok (.goto 4, 3) := by decide +kernel
theorem dL_areDoors_508 : decode cL_areDoors 508 = .ok (.iconst 0, 1) := by decide +kernel
theorem dL_areDoors_509 : decode cL_areDoors 509 = .ok (.istore 9, 2) := by decide +kernel
theorem dL_areDoors_511 : decode cL_areDoors 511 = .ok (.iinc 10 1, 3) := by decide +kernel
theorem dL_areDoors_514 : decode cL_areDoors 514 = .ok (.goto (-456), 3) := by decide +kernel
theorem dL_areDoors_517 : decode cL_areDoors 517 = .ok (.aload_n 0, 1) := by decide +kernel
theorem dL_areDoors_518 : decode cL_areDoors 518 = .ok (.invokevirtual 35, 3) := by decide +kernel
theorem dL_areDoors_521 : decode cL_areDoors 521 = .ok (.dstore 10, 2) := by decide +kernel
theorem dL_areDoors_523 : decode cL_areDoors 523 = .ok (.iload 9, 2) := by decide +kernel
theorem dL_areDoors_525 : decode cL_areDoors 525 = .ok (.ifCond .eq 147, 3) := by decide +kernel
theorem dL_areDoors_528 : decode cL_areDoors 528 = .ok (.iload_n 2, 1) := by decide +kernel
theorem dL_areDoors_529 : decode cL_areDoors 529 = .ok (.aload_n 0, 1) := by decide +kernel
theorem dL_areDoors_530 : decode cL_areDoors 530 = .ok (.iconst 2, 1) := by decide +kernel
theorem dL_areDoors_531 : decode cL_areDoors 531 = .ok (.invokevirtual 14, 3) := by decide +kernel
theorem dL_areDoors_534 : decode cL_areDoors 534 = .ok (.if_icmp .ne 138, 3) := by decide +kernel
theorem dL_areDoors_537 : decode cL_areDoors 537 = .ok (.iload_n 3, 1) := by decide +kernel
theorem dL_areDoors_538 : decode cL_areDoors 538 = .ok (.aload_n 0, 1) := by decide +kernel
theorem dL_areDoors_539 : decode cL_areDoors 539 = .ok (.iconst 3, 1) := by decide +kernel
theorem dL_areDoors_540 : decode cL_areDoors 540 = .ok (.invokevirtual 14, 3) := by decide +kernel
theorem dL_areDoors_543 : decode cL_areDoors 543 = .ok (.if_icmp .ne 129, 3) := by decide +kernel
theorem dL_areDoors_546 : decode cL_areDoors 546 = .ok (.iload 5, 2) := by decide +kernel
theorem dL_areDoors_548 : decode cL_areDoors 548 = .ok (.iload_n 2, 1) := by decide +kernel
theorem dL_areDoors_549 : decode cL_areDoors 549 = .ok (.iload_n 3, 1) := by decide +kernel
theorem dL_areDoors_550 : decode cL_areDoors 550 = .ok (.iadd, 1) := by decide +kernel
theorem dL_areDoors_551 : decode cL_areDoors 551 = .ok (.if_icmp .ne 121, 3) := by decide +kernel
theorem dL_areDoors_554 : decode cL_areDoors 554 = .ok (.iload 4, 2) := by decide +kernel
theorem dL_areDoors_556 : decode cL_areDoors 556 = .ok (.iload_n 2, 1) := by decide +kernel
theorem dL_areDoors_557 : decode cL_areDoors 557 = .ok (.if_icmp .ne 115, 3) := by decide +kernel
theorem dL_areDoors_560 : decode cL_areDoors 560 = .ok (.iload 6, 2) := by decide +kernel
theorem dL_areDoors_562 : decode cL_areDoors 562 = .ok (.aload_n 0, 1) := by decide +kernel
theorem dL_areDoors_563 : decode cL_areDoors 563 = .ok (.iconst 4, 1) := by decide +kernel
theorem dL_areDoors_564 : decode cL_areDoors 564 = .ok (.invokevirtual 14, 3) := by decide +kernel
theorem dL_areDoors_567 : decode cL_areDoors 567 = .ok (.if_icmp .ne 105, 3) := by decide +kernel
theorem dL_areDoors_570 : decode cL_areDoors 570 = .ok (.iload 7, 2) := by decide +kernel
theorem dL_areDoors_572 : decode cL_areDoors 572 = .ok (.aload_n 0, 1) := by decide +kernel
theorem dL_areDoors_573 : decode cL_areDoors 573 = .ok (.bipush 7, 2) := by decide +kernel
theorem dL_areDoors_575 : decode cL_areDoors 575 = .ok (.invokevirtual 14, 3) := by decide +kernel
theorem dL_areDoors_578 : decode cL_areDoors 578 = .ok (.if_icmp .ne 94, 3) := by decide +kernel
theorem dL_areDoors_581 : decode cL_areDoors 581 = .ok (.iload 8, 2) := by decide +kernel
theorem dL_areDoors_583 : decode cL_areDoors 583 = .ok (.aload_n 0, 1) := by decide +kernel
theorem dL_areDoors_584 : decode cL_areDoors 584 = .ok (.bipush 8, 2) := by decide +kernel
theorem dL_areDoors_586 : decode cL_areDoors 586 = .ok (.invokevirtual 14, 3) := by decide +kernel
theorem dL_areDoors_589 : decode cL_areDoors 589 = .ok (.aload_n 0, 1) := by decide +kernel
theorem dL_areDoors_590 : decode cL_areDoors 590 = .ok (.bipush 9, 2) := by decide +kernel
theorem dL_areDoors_592 : decode cL_areDoors 592 = .ok (.invokevirtual 14, 3) := by decide +kernel
theorem dL_areDoors_595 : decode cL_areDoors 595 = .ok (.iadd, 1) := by decide +kernel
theorem dL_areDoors_596 : decode cL_areDoors 596 = .ok (.aload_n 0, 1) := by decide +kernel
theorem dL_areDoors_597 : decode cL_areDoors 597 = .ok (.bipush 10, 2) := by decide +kernel
theorem dL_areDoors_599 : decode cL_areDoors 599 = .ok (.invokevirtual 14, 3) := by decide +kernel
theorem dL_areDoors_602 : decode cL_areDoors 602 = .ok (.iadd, 1) := by decide +kernel
theorem dL_areDoors_603 : decode cL_areDoors 603 = .ok (.if_icmp .ne 69, 3) := by decide +kernel
theorem dL_areDoors_606 : decode cL_areDoors 606 = .ok (.iload 7, 2) := by decide +kernel
theorem dL_areDoors_608 : decode cL_areDoors 608 = .ok (.iload 8, 2) := by decide +kernel
theorem dL_areDoors_610 : decode cL_areDoors 610 = .ok (.isub, 1) := by decide +kernel
theorem dL_areDoors_611 : decode cL_areDoors 611 = .ok (.aload_n 0, 1) := by decide +kernel
theorem dL_areDoors_612 : decode cL_areDoors 612 = .ok (.iconst 1, 1) := by decide +kernel
theorem dL_areDoors_613 : decode cL_areDoors 613 = .ok (.invokevirtual 14, 3) := by decide +kernel
theorem dL_areDoors_616 : decode cL_areDoors 616 = .ok (.if_icmp .ne 56, 3) := by decide +kernel
theorem dL_areDoors_619 : decode cL_areDoors 619 = .ok (.dload 10, 2) := by decide +kernel
theorem dL_areDoors_621 : decode cL_areDoors 621 = .ok (.dconst 0, 1) := by decide +kernel
theorem dL_areDoors_622 : decode cL_areDoors 622 = .ok (.dcmp .l, 1) := by decide +kernel
theorem dL_areDoors_623 : decode cL_areDoors 623 = .ok (.ifCond .lt 49, 3) := by decide +kernel
theorem dL_areDoors_626 : decode cL_areDoors 626 = .ok (.dload 10, 2) := by decide +kernel
theorem dL_areDoors_628 : decode cL_areDoors 628 = .ok (.dconst 1, 1) := by decide +kernel
theorem dL_areDoors_629 : decode cL_areDoors 629 = .ok (.dcmp .g, 1) := by decide +kernel
theorem dL_areDoors_630 : decode cL_areDoors 630 = .ok (.ifCond .gt 42, 3) := by decide +kernel
theorem dL_areDoors_633 : decode cL_areDoors 633 = .ok (.dload 10, 2) := by decide +kernel
theorem dL_areDoors_635 : decode cL_areDoors 635 = .ok (.dconst 0, 1) := by decide +kernel
theorem dL_areDoors_636 : decode cL_areDoors 636 = .ok (.dcmp .l, 1) := by decide +kernel
theorem dL_areDoors_637 : decode cL_areDoors 637 = .ok (.ifCond .le 7, 3) := by decide +kernel
theorem dL_areDoors_640 : decode cL_areDoors 640 = .ok (.iconst 1, 1) := by decide +kernel
theorem dL_areDoors_641 : decode cL_areDoors 641 = .ok (.goto 4, 3) := by decide +kernel
theorem dL_areDoors_644 : decode cL_areDoors 644 = .ok (.iconst 0, 1) := by decide +kernel
theorem dL_areDoors_645 : decode cL_areDoors 645 = .ok (.iload_n 2, 1) := by decide +kernel
theorem dL_areDoors_646 : decode cL_areDoors 646 = .ok (.ifCond .le 7, 3) := by decide +kernel
theorem dL_areDoors_649 : decode cL_areDoors 649 = .ok (.iconst 1, 1) := by decide +kernel
theorem dL_areDoors_650 : decode cL_areDoors 650 = .ok (.goto 4, 3) := by decide +kernel
theorem dL_areDoors_653 : decode cL_areDoors 653 = .ok (.iconst 0, 1) := by decide +kernel
theorem dL_areDoors_654 : decode cL_areDoors 654 = .ok (.if_icmp .ne 18, 3) := by decide +kernel
theorem dL_areDoors_657 : decode cL_areDoors 657 = .ok (.aload_n 0, 1) := by decide +kernel
theorem dL_areDoors_658 : decode cL_areDoors 658 = .ok (.bipush 6, 2) := by decide +kernel
theorem dL_areDoors_660 : decode cL_areDoors 660 = .ok (.invokevirtual 14, 3) := by decide +kernel
theorem dL_areDoors_663 : decode cL_areDoors 663 = .ok (.bipush 10, 2) := by decide +kernel
theorem dL_areDoors_665 : decode cL_areDoors 665 = .ok (.if_icmp .gt 7, 3) := by decide +kernel
theorem dL_areDoors_668 : decode cL_areDoors 668 = .ok (.iconst 1, 1) := by decide +kernel
theorem dL_areDoors_669 : decode cL_areDoors 669 = .ok (.goto 4, 3) := by decide +kernel
theorem dL_areDoors_672 : decode cL_areDoors 672 = .ok (.iconst 0, 1) := by decide +kernel
theorem dL_areDoors_673 : decode cL_areDoors 673 = .ok (.ireturn, 1) := by decide +kernel
theorem dL_areHalls_0 : decode cL_areHalls 0 = .ok (.iconst 0, 1) := by decide +kernel
theorem dL_areHalls_1 : decode cL_areHalls 1 = .ok (.istore_n 1, 1) := by decide +kernel
theorem dL_areHalls_2 : decode cL_areHalls 2 = .ok (.iconst 0, 1) := by decide +kernel
theorem dL_areHalls_3 : decode cL_areHalls 3 = .ok (.istore_n 2, 1) := by decide +kernel
theorem dL_areHalls_4 : decode cL_areHalls 4 = .ok (.iconst 0, 1) := by decide +kernel
theorem dL_areHalls_5 : decode cL_areHalls 5 = .ok (.istore_n 3, 1) := by decide +kernel
theorem dL_areHalls_6 : decode cL_areHalls 6 = .ok (.iconst 0, 1) := by decide +kernel
theorem dL_areHalls_7 : decode cL_areHalls 7 = .ok (.istore 4, 2) := by decide +kernel
theorem dL_areHalls_9 : decode cL_areHalls 9 = .ok (.iconst 1, 1) := by decide +kernel
theorem dL_areHalls_10 : decode cL_areHalls 10 = .ok (.istore 5, 2) := by decide +kernel
theorem dL_areHalls_12 : decode cL_areHalls 12 = .ok (.iconst 0, 1) := by decide +kernel
theorem dL_areHalls_13 : decode cL_areHalls 13 = .ok (.istore 6, 2) := by decide +kernel
theorem dL_areHalls_15 : decode cL_areHalls 15 = .ok (.iload 6, 2) := by decide +kernel
theorem dL_areHalls_17 : decode cL_areHalls 17 = .ok (.bipush 6, 2) := by decide +kernel
theorem dL_areHalls_19 : decode cL_areHalls 19 = .ok (.if_icmp .ge 138, 3) := by decide +kernel
theorem dL_areHalls_22 : decode cL_areHalls 22 = .ok (.iload 5, 2) := by decide +kernel
theorem dL_areHalls_24 : decode cL_areHalls 24 = .ok (.ifCond .eq 133, 3) := by decide +kernel
theorem dL_areHalls_27 : decode cL_areHalls 27 = .ok (.iload_n 1, 1) := by decide +kernel
theorem dL_areHalls_28 : decode cL_areHalls 28 = .ok (.aload_n 0, 1) := by decide +kernel
theorem dL_areHalls_29 : decode cL_areHalls 29 = .ok (.iload 6, 2) := by decide +kernel
theorem dL_areHalls_31 : decode cL_areHalls 31 = .ok (.iconst 0, 1) := by decide +kernel
theorem dL_areHalls_32 : decode cL_areHalls 32 = .ok (.invokevirtual 39, 3) := by decide +kernel
theorem dL_areHalls_35 : decode cL_areHalls 35 = .ok (.iadd, 1) := by decide +kernel
theorem dL_areHalls_36 : decode cL_areHalls 36 = .ok (.istore_n 1, 1) := by decide +kernel
theorem dL_areHalls_37 : decode cL_areHalls 37 = .ok (.iload_n 2, 1) := by decide +kernel
theorem dL_areHalls_38 : decode cL_areHalls 38 = .ok (.aload_n 0, 1) := by decide +kernel
theorem dL_areHalls_39 : decode cL_areHalls 39 = .ok (.iload 6, 2) := by decide +kernel
theorem dL_areHalls_41 : decode cL_areHalls 41 = .ok (.iconst 1, 1) := by decide +kernel
theorem dL_areHalls_42 : decode cL_areHalls 42 = .ok (.invokevirtual 39, 3) := by decide +kernel
theorem dL_areHalls_45 : decode cL_areHalls 45 = .ok (.iadd, 1) := by decide +kernel
theorem dL_areHalls_46 : decode cL_areHalls 46 = .ok (.istore_n 2, 1) := by decide +kernel
theorem dL_areHalls_47 : decode cL_areHalls 47 = .ok (.iload_n 3, 1) := by decide +kernel
theorem dL_areHalls_48 : decode cL_areHalls 48 = .ok (.aload_n 0, 1) := by decide +kernel
theorem dL_areHalls_49 : decode cL_areHalls 49 = .ok (.iload 6, 2) := by decide +kernel
theorem dL_areHalls_51 : decode cL_areHalls 51 = .ok (.iconst 2, 1) := by decide +kernel
theorem dL_areHalls_52 : decode cL_areHalls 52 = .ok (.invokevirtual 39, 3) := by decide +kernel
theorem dL_areHalls_55 : decode cL_areHalls 55 = .ok (.iadd, 1) := by decide +kernel
theorem dL_areHalls_56 : decode cL_areHalls 56 = .ok (.istore_n 3, 1) := by decide +kernel
theorem dL_areHalls_57 : decode cL_areHalls 57 = .ok (.iload 4, 2) := by decide +kernel
theorem dL_areHalls_59 : decode cL_areHalls 59 = .ok (.aload_n 0, 1) := by decide +kernel
theorem dL_areHalls_60 : decode cL_areHalls 60 = .ok (.iload 6, 2) := by decide +kernel
theorem dL_areHalls_62 : decode cL_areHalls 62 = .ok (.iconst 3, 1) := by decide +kernel
theorem dL_areHalls_63 : decode cL_areHalls 63 = .ok (.invokevirtual 39, 3) := by decide +kernel
theorem dL_areHalls_66 : decode cL_areHalls 66 = .ok (.iconst 1, 1) := by decide +kernel
theorem dL_areHalls_67 : decode cL_areHalls 67 = .ok (.isub, 1) := by decide +kernel
theorem dL_areHalls_68 : decode cL_areHalls 68 = .ok (.iadd, 1) := by decide +kernel
theorem dL_areHalls_69 : decode cL_areHalls 69 = .ok (.istore 4, 2) := by decide +kernel
theorem dL_areHalls_71 : decode cL_areHalls 71 = .ok (.aload_n 0, 1) := by decide +kernel
theorem dL_areHalls_72 : decode cL_areHalls 72 = .ok (.iload 6, 2) := by decide +kernel
theorem dL_areHalls_74 : decode cL_areHalls 74 = .ok (.iconst 1, 1) := by decide +kernel
theorem dL_areHalls_75 : decode cL_areHalls 75 = .ok (.invokevirtual 39, 3) := by decide +kernel
theorem dL_areHalls_78 : decode cL_areHalls 78 = .ok (.aload_n 0, 1) := by decide +kernel
theorem dL_areHalls_79 : decode cL_areHalls 79 = .ok (.iload 6, 2) := by decide +kernel
theorem dL_areHalls_81 : decode cL_areHalls 81 = .ok (.iconst 0, 1) := by decide +kernel
theorem dL_areHalls_82 : decode cL_areHalls 82 = .ok (.invokevirtual 39, 3) := by decide +kernel
theorem dL_areHalls_85 : decode cL_areHalls 85 = .ok (.if_icmp .gt 63, 3) := by decide +kernel
theorem dL_areHalls_88 : decode cL_areHalls 88 = .ok (.aload_n 0, 1) := by decide +kernel
theorem dL_areHalls_89 : decode cL_areHalls 89 = .ok (.iload 6, 2) := by decide +kernel
theorem dL_areHalls_91 : decode cL_areHalls 91 = .ok (.iconst 3, 1) := by decide +kernel
theorem dL_areHalls_92 : decode cL_areHalls 92 = .ok (.invokevirtual 39, 3) := by decide +kernel
theorem dL_areHalls_95 : decode cL_areHalls 95 = .ok (.ifCond .le 53, 3) := by decide +kernel
theorem dL_areHalls_98 : decode cL_areHalls 98 = .ok (.aload_n 0, 1) := by decide +kernel
theorem dL_areHalls_99 : decode cL_areHalls 99 = .ok (.iload 6, 2) := by decide +kernel
theorem dL_areHalls_101 : decode cL_areHalls 101 = .ok (.iconst 3, 1) := by decide +kernel
theorem dL_areHalls_102 : decode cL_areHalls 102 = .ok (.invokevirtual 39, 3) := by decide +kernel
theorem dL_areHalls_105 : decode cL_areHalls 105 = .ok (.bipush 6, 2) := by decide +kernel
theorem dL_areHalls_107 : decode cL_areHalls 107 = .ok (.if_icmp .gt 41, 3) := by decide +kernel
theorem dL_areHalls_110 : decode cL_areHalls 110 = .ok (.aload_n 0, 1) := by decide +kernel
theorem dL_areHalls_111 : decode cL_areHalls 111 = .ok (.iload 6, 2) := by decide +kernel
theorem dL_areHalls_113 : decode cL_areHalls 113 = .ok (.iconst 1, 1) := by decide +kernel
theorem dL_areHalls_114 : decode cL_areHalls 114 = .ok (.invokevirtual 39, 3) := by decide +kernel
theorem dL_areHalls_117 : decode cL_areHalls 117 = .ok (.ifCond .le 7, 3) := by decide +kernel
theorem dL_areHalls_120 : decode cL_areHalls 120 = .ok (.iconst 1, 1) := by decide +kernel
theorem dL_areHalls_121 : decode cL_areHalls 121 = .ok (.goto 4, 3) := by decide +kernel
theorem dL_areHalls_124 : decode cL_areHalls 124 = .ok (.iconst 0, 1) := by decide +kernel
theorem dL_areHalls_125 : decode cL_areHalls 125 = .ok (.aload_n 0, 1) := by decide +kernel
theorem dL_areHalls_126 : decode cL_areHalls 126 = .ok (.iload 6, 2) := by decide +kernel
theorem dL_areHalls_128 : decode cL_areHalls 128 = .ok (.iconst 3, 1) := by decide +kernel
theorem dL_areHalls_129 : decode cL_areHalls 129 = .ok (.invokevirtual 39, 3) := by decide +kernel
theorem dL_areHalls_132 : decode cL_areHalls 132 = .ok (.iconst 1, 1) := by decide +kernel
theorem dL_areHalls_133 : decode cL_areHalls 133 = .ok (.if_icmp .le 7, 3) := by decide +kernel
theorem dL_areHalls_136 : decode cL_areHalls 136 = .ok (.iconst 1, 1) := by decide +kernel
theorem dL_areHalls_137 : decode cL_areHalls 137 = .ok (.goto 4, 3) := by decide +kernel
theorem dL_areHalls_140 : decode cL_areHalls 140 = .ok (.iconst 0, 1) := by decide +kernel
theorem dL_areHalls_141 : decode cL_areHalls 141 = .ok (.if_icmp .ne 7, 3) := by decide +kernel
theorem dL_areHalls_144 : decode cL_areHalls 144 = .ok (.iconst 1, 1) := by decide +kernel
theorem dL_areHalls_145 : decode cL_areHalls 145 = .ok (.goto 4, 3) := by decide +kernel
theorem dL_areHalls_148 : decode cL_areHalls 148 = .ok (.iconst 0, 1) := by decide +kernel
theorem dL_areHalls_149 : decode cL_areHalls 149 = .ok (.istore 5, 2) := by decide +kernel
theorem dL_areHalls_151 : decode cL_areHalls 151 = .ok (.iinc 6 1, 3) := by decide +kernel
theorem dL_areHalls_154 : decode cL_areHalls 154 = .ok (.goto (-139), 3) := by decide +kernel
theorem dL_areHalls_157 : decode cL_areHalls 157 = .ok (.iconst 0, 1) := by decide +kernel
theorem dL_areHalls_158 : decode cL_areHalls 158 = .ok (.istore 6, 2) := by decide +kernel
theorem dL_areHalls_160 : decode cL_areHalls 160 = .ok (.iconst 0, 1) := by decide +kernel
theorem dL_areHalls_161 : decode cL_areHalls 161 = .ok (.istore 7, 2) := by decide +kernel
theorem dL_areHalls_163 : decode cL_areHalls 163 = .ok (.iload 7, 2) := by decide +kernel
theorem dL_areHalls_165 : decode cL_areHalls 165 = .ok (.iconst 3, 1) := by decide +kernel
theorem dL_areHalls_166 : decode cL_areHalls 166 = .ok (.if_icmp .ge 108, 3) := by decide +kernel
theorem dL_areHalls_169 : decode cL_areHalls 169 = .ok (.iload 5, 2) := by decide +kernel
theorem dL_areHalls_171 : decode cL_areHalls 171 = .ok (.ifCond .eq 103, 3) := by decide +kernel
theorem dL_areHalls_174 : decode cL_areHalls 174 = .ok (.aload_n 0, 1) := by decide +kernel
theorem dL_areHalls_175 : decode cL_areHalls 175 = .ok (.iload 7, 2) := by decide +kernel
theorem dL_areHalls_177 : decode cL_areHalls 177 = .ok (.iconst 0, 1) := by decide +kernel
theorem dL_areHalls_178 : decode cL_areHalls 178 = .ok (.invokevirtual 24, 3) := by decide +kernel
theorem dL_areHalls_181 : decode cL_areHalls 181 = .ok (.istore 8, 2) := by decide +kernel
theorem dL_areHalls_183 : decode cL_areHalls 183 = .ok (.aload_n 0, 1) := by decide +kernel
theorem dL_areHalls_184 : decode cL_areHalls 184 = .ok (.iload 7, 2) := by decide +kernel
theorem dL_areHalls_186 : decode cL_areHalls 186 = .ok (.iconst 1, 1) := by decide +kernel
theorem dL_areHalls_187 : decode cL_areHalls 187 = .ok (.invokevirtual 24, 3) := by decide +kernel
theorem dL_areHalls_190 : decode cL_areHalls 190 = .ok (.istore 9, 2) := by decide +kernel
theorem dL_areHalls_192 : decode cL_areHalls 192 = .ok (.iload 6, 2) := by decide +kernel
theorem dL_areHalls_194 : decode cL_areHalls 194 = .ok (.aload_n 0, 1) := by decide +kernel
theorem dL_areHalls_195 : decode cL_areHalls 195 = .ok (.iload 7, 2) := by decide +kernel
theorem dL_areHalls_197 : decode cL_areHalls 197 = .ok (.iconst 3, 1) := by decide +kernel
theorem dL_areHalls_198 : decode cL_areHalls 198 = .ok (.invokevirtual 24, 3) := by decide +kernel
theorem dL_areHalls_201 : decode cL_areHalls 201 = .ok (.iadd, 1) := by decide +kernel
theorem dL_areHalls_202 : decode cL_areHalls 202 = .ok (.istore 6, 2) := by decide +kernel
theorem dL_areHalls_204 : decode cL_areHalls 204 = .ok (.iload 8, 2) := by decide +kernel
theorem dL_areHalls_206 : decode cL_areHalls 206 = .ok (.ifCond .lt 59, 3) := by decide +kernel
theorem dL_areHalls_209 : decode cL_areHalls 209 = .ok (.iload 8, 2) := by decide +kernel
theorem dL_areHalls_211 : decode cL_areHalls 211 = .ok (.bipush 6, 2) := by decide +kernel
theorem dL_areHalls_213 : decode cL_areHalls 213 = .ok (.if_icmp .ge 52, 3) := by decide +kernel
theorem dL_areHalls_216 : decode cL_areHalls 216 = .ok (.iload 9, 2) := by decide +kernel
theorem dL_areHalls_218 : decode cL_areHalls 218 = .ok (.ifCond .lt 47, 3) := by decide +kernel
theorem dL_areHalls_221 : decode cL_areHalls 221 = .ok (.iload 9, 2) := by decide +kernel
theorem dL_areHalls_223 : decode cL_areHalls 223 = .ok (.sipush 1024, 3) := by decide +kernel
theorem dL_areHalls_226 : decode cL_areHalls 226 = .ok (.if_icmp .ge 39, 3) := by decide +kernel
theorem dL_areHalls_229 : decode cL_areHalls 229 = .ok (.aload_n 0, 1) := by decide +kernel
theorem dL_areHalls_230 : decode cL_areHalls 230 = .ok (.iload 7, 2) := by decide +kernel
theorem dL_areHalls_232 : decode cL_areHalls 232 = .ok (.iconst 2, 1) := by decide +kernel
theorem dL_areHalls_233 : decode cL_areHalls 233 = .ok (.invokevirtual 24, 3) := by decide +kernel
theorem dL_areHalls_236 : decode cL_areHalls 236 = .ok (.iload 9, 2) := by decide +kernel
theorem dL_areHalls_238 : decode cL_areHalls 238 = .ok (.invokestatic 27, 3) := by decide +kernel
theorem dL_areHalls_241 : decode cL_areHalls 241 = .ok (.if_icmp .gt 24, 3) := by decide +kernel
theorem dL_areHalls_244 : decode cL_areHalls 244 = .ok (.aload_n 0, 1) := by decide +kernel
theorem dL_areHalls_245 : decode cL_areHalls 245 = .ok (.iload 7, 2) := by decide +kernel
theorem dL_areHalls_247 : decode cL_areHalls 247 = .ok (.iconst 2, 1) := by decide +kernel
theorem dL_areHalls_248 : decode cL_areHalls 248 = .ok (.invokevirtual 24, 3) := by decide +kernel
theorem dL_areHalls_251 : decode cL_areHalls 251 = .ok (.aload_n 0, 1) := by decide +kernel
theorem dL_areHalls_252 : decode cL_areHalls 252 = .ok (.iload 8, 2) := by decide +kernel
theorem dL_areHalls_254 : decode cL_areHalls 254 = .ok (.iconst 0, 1) := by decide +kernel
theorem dL_areHalls_255 : decode cL_areHalls 255 = .ok (.invokevirtual 39, 3) := by decide +kernel
theorem dL_areHalls_258 : decode cL_areHalls 258 = .ok (.if_icmp .gt 7, 3) := by decide +kernel
theorem dL_areHalls_261 : decode cL_areHalls 261 = .ok (.iconst 1, 1) := by decide +kernel
theorem dL_areHalls_262 : decode cL_areHalls 262 = .ok (.goto 4, 3) := by decide +kernel
theorem dL_areHalls_265 : decode cL_areHalls 265 = .ok (.iconst 0, 1) := by decide +kernel
theorem dL_areHalls_266 : decode cL_areHalls 266 = .ok (.istore 5, 2) := by decide +kernel
theorem dL_areHalls_268 : decode cL_areHalls 268 = .ok (.iinc 7 1, 3) := by decide +kernel
theorem dL_areHalls_271 : decode cL_areHalls 271 = .ok (.goto (-108), 3) := by decide +kernel
theorem dL_areHalls_274 : decode cL_areHalls 274 = .ok (.iload 5, 2) := by decide +kernel
theorem dL_areHalls_276 : decode cL_areHalls 276 = .ok (.ifCond .eq 46, 3) := by decide +kernel
theorem dL_areHalls_279 : decode cL_areHalls 279 = .ok (.iload_n 1, 1) := by decide +kernel
theorem dL_areHalls_280 : decode cL_areHalls 280 = .ok (.bipush 20, 2) := by decide +kernel
theorem dL_areHalls_282 : decode cL_areHalls 282 = .ok (.if_icmp .ne 40, 3) := by decide +kernel
theorem dL_areHalls_285 : decode cL_areHalls 285 = .ok (.iload_n 2, 1) := by decide +kernel
theorem dL_areHalls_286 : decode cL_areHalls 286 = .ok (.iconst 2, 1) := by decide +kernel
theorem dL_areHalls_287 : decode cL_areHalls 287 = .ok (.aload_n 0, 1) := by decide +kernel
theorem dL_areHalls_288 : decode cL_areHalls 288 = .ok (.iconst 1, 1) := by decide +kernel
theorem dL_areHalls_289 : decode cL_areHalls 289 = .ok (.invokevirtual 14, 3) := by decide +kernel
theorem dL_areHalls_292 : decode cL_areHalls 292 = .ok (.imul, 1) := by decide +kernel
theorem dL_areHalls_293 : decode cL_areHalls 293 = .ok (.if_icmp .ne 29, 3) := by decide +kernel
theorem dL_areHalls_296 : decode cL_areHalls 296 = .ok (.iload_n 3, 1) := by decide +kernel
theorem dL_areHalls_297 : decode cL_areHalls 297 = .ok (.iconst 3, 1) := by decide +kernel
theorem dL_areHalls_298 : decode cL_areHalls 298 = .ok (.if_icmp .ne 24, 3) := by decide +kernel
theorem dL_areHalls_301 : decode cL_areHalls 301 = .ok (.iload 4, 2) := by decide +kernel
theorem dL_areHalls_303 : decode cL_areHalls 303 = .ok (.iconst 2, 1) := by decide +kernel
theorem dL_areHalls_304 : decode cL_areHalls 304 = .ok (.aload_n 0, 1) := by decide +kernel
theorem dL_areHalls_305 : decode cL_areHalls 305 = .ok (.iconst 5, 1) := by decide +kernel
theorem dL_areHalls_306 : decode cL_areHalls 306 = .ok (.invokevirtual 14, 3) := by decide +kernel
theorem dL_areHalls_309 : decode cL_areHalls 309 = .ok (.imul, 1) := by decide +kernel
theorem dL_areHalls_310 : decode cL_areHalls 310 = .ok (.if_icmp .ne 12, 3) := by decide +kernel
theorem dL_areHalls_313 : decode cL_areHalls 313 = .ok (.iload 6, 2) := by decide +kernel
theorem dL_areHalls_315 : decode cL_areHalls 315 = .ok (.ifCond .lt 7, 3) := by decide +kernel
theorem dL_areHalls_318 : decode cL_areHalls 318 = .ok (.iconst 1, 1) := by decide +kernel
theorem dL_areHalls_319 : decode cL_areHalls 319 = .ok (.goto 4, 3) := by decide +kernel
theorem dL_areHalls_322 : decode cL_areHalls 322 = .ok (.iconst 0, 1) := by decide +kernel
theorem dL_areHalls_323 : decode cL_areHalls 323 = .ok (.ireturn, 1) := by decide +kernel
theorem dL_refusesAny_0 : decode cL_refusesAny 0 = .ok (.iload_n 1, 1) := by decide +kernel
theorem dL_refusesAny_1 : decode cL_refusesAny 1 = .ok (.iconst 2, 1) := by decide +kernel
theorem dL_refusesAny_2 : decode cL_refusesAny 2 = .ok (.irem, 1) := by decide +kernel
theorem dL_refusesAny_3 : decode cL_refusesAny 3 = .ok (.ifCond .ne 12, 3) := by decide +kernel
theorem dL_refusesAny_6 : decode cL_refusesAny 6 = .ok (.iconst (-1), 1) := by decide +kernel
theorem dL_refusesAny_7 : decode cL_refusesAny 7 = .ok (.iload_n 1, 1) := by decide +kernel
theorem dL_refusesAny_8 : decode cL_refusesAny 8 = .ok (.bipush 99, 2) := by decide +kernel
theorem dL_refusesAny_10 : decode cL_refusesAny 10 = .ok (.irem, 1) := by decide +kernel
theorem dL_refusesAny_11 : decode cL_refusesAny 11 = .ok (.isub, 1) := by decide +kernel
theorem dL_refusesAny_12 : decode cL_refusesAny 12 = .ok (.goto 10, 3) := by decide +kernel
theorem dL_refusesAny_15 : decode cL_refusesAny 15 = .ok (.bipush 10, 2) := by decide +kernel
theorem dL_refusesAny_17 : decode cL_refusesAny 17 = .ok (.iload_n 1, 1) := by decide +kernel
theorem dL_refusesAny_18 : decode cL_refusesAny 18 = .ok (.bipush 99, 2) := by decide +kernel
theorem dL_refusesAny_20 : decode cL_refusesAny 20 = .ok (.irem, 1) := by decide +kernel
theorem dL_refusesAny_21 : decode cL_refusesAny 21 = .ok (.iadd, 1) := by decide +kernel
theorem dL_refusesAny_22 : decode cL_refusesAny 22 = .ok (.istore_n 2, 1) := by decide +kernel
theorem dL_refusesAny_23 : decode cL_refusesAny 23 = .ok (.iload_n 1, 1) := by decide +kernel
theorem dL_refusesAny_24 : decode cL_refusesAny 24 = .ok (.iconst 2, 1) := by decide +kernel
theorem dL_refusesAny_25 : decode cL_refusesAny 25 = .ok (.irem, 1) := by decide +kernel
theorem dL_refusesAny_26 : decode cL_refusesAny 26 = .ok (.ifCond .ne 12, 3) := by decide +kernel
theorem dL_refusesAny_29 : decode cL_refusesAny 29 = .ok (.iconst (-1), 1) := by decide +kernel
theorem dL_refusesAny_30 : decode cL_refusesAny 30 = .ok (.iload_n 1, 1) := by decide +kernel
theorem dL_refusesAny_31 : decode cL_refusesAny 31 = .ok (.bipush 99, 2) := by decide +kernel
theorem dL_refusesAny_33 : decode cL_refusesAny 33 = .ok (.irem, 1) := by decide +kernel
theorem dL_refusesAny_34 : decode cL_refusesAny 34 = .ok (.isub, 1) := by decide +kernel
theorem dL_refusesAny_35 : decode cL_refusesAny 35 = .ok (.goto 9, 3) := by decide +kernel
theorem dL_refusesAny_38 : decode cL_refusesAny 38 = .ok (.iconst 3, 1) := by decide +kernel
theorem dL_refusesAny_39 : decode cL_refusesAny 39 = .ok (.iload_n 1, 1) := by decide +kernel
theorem dL_refusesAny_40 : decode cL_refusesAny 40 = .ok (.bipush 99, 2) := by decide +kernel
theorem dL_refusesAny_42 : decode cL_refusesAny 42 = .ok (.irem, 1) := by decide +kernel
theorem dL_refusesAny_43 : decode cL_refusesAny 43 = .ok (.iadd, 1) := by decide +kernel
theorem dL_refusesAny_44 : decode cL_refusesAny 44 = .ok (.istore_n 3, 1) := by decide +kernel
theorem dL_refusesAny_45 : decode cL_refusesAny 45 = .ok (.iload_n 1, 1) := by decide +kernel
theorem dL_refusesAny_46 : decode cL_refusesAny 46 = .ok (.iconst 2, 1) := by decide +kernel
theorem dL_refusesAny_47 : decode cL_refusesAny 47 = .ok (.irem, 1) := by decide +kernel
theorem dL_refusesAny_48 : decode cL_refusesAny 48 = .ok (.ifCond .ne 12, 3) := by decide +kernel
theorem dL_refusesAny_51 : decode cL_refusesAny 51 = .ok (.iconst (-1), 1) := by decide +kernel
theorem dL_refusesAny_52 : decode cL_refusesAny 52 = .ok (.iload_n 1, 1) := by decide +kernel
theorem dL_refusesAny_53 : decode cL_refusesAny 53 = .ok (.bipush 99, 2) := by decide +kernel
theorem dL_refusesAny_55 : decode cL_refusesAny 55 = .ok (.irem, 1) := by decide +kernel
theorem dL_refusesAny_56 : decode cL_refusesAny 56 = .ok (.isub, 1) := by decide +kernel
theorem dL_refusesAny_57 : decode cL_refusesAny 57 = .ok (.goto 10, 3) := by decide +kernel
theorem dL_refusesAny_60 : decode cL_refusesAny 60 = .ok (.bipush 6, 2) := by decide +kernel
theorem dL_refusesAny_62 : decode cL_refusesAny 62 = .ok (.iload_n 1, 1) := by decide +kernel
theorem dL_refusesAny_63 : decode cL_refusesAny 63 = .ok (.bipush 99, 2) := by decide +kernel
theorem dL_refusesAny_65 : decode cL_refusesAny 65 = .ok (.irem, 1) := by decide +kernel
theorem dL_refusesAny_66 : decode cL_refusesAny 66 = .ok (.iadd, 1) := by decide +kernel
theorem dL_refusesAny_67 : decode cL_refusesAny 67 = .ok (.istore 4, 2) := by decide +kernel
theorem dL_refusesAny_69 : decode cL_refusesAny 69 = .ok (.iload_n 1, 1) := by decide +kernel
theorem dL_refusesAny_70 : decode cL_refusesAny 70 = .ok (.iconst 2, 1) := by decide +kernel
theorem dL_refusesAny_71 : decode cL_refusesAny 71 = .ok (.irem, 1) := by decide +kernel
theorem dL_refusesAny_72 : decode cL_refusesAny 72 = .ok (.ifCond .ne 12, 3) := by decide +kernel
theorem dL_refusesAny_75 : decode cL_refusesAny 75 = .ok (.iconst (-1), 1) := by decide +kernel
theorem dL_refusesAny_76 : decode cL_refusesAny 76 = .ok (.iload_n 1, 1) := by decide +kernel
theorem dL_refusesAny_77 : decode cL_refusesAny 77 = .ok (.bipush 99, 2) := by decide +kernel
theorem dL_refusesAny_79 : decode cL_refusesAny 79 = .ok (.irem, 1) := by decide +kernel
theorem dL_refusesAny_80 : decode cL_refusesAny 80 = .ok (.isub, 1) := by decide +kernel
theorem dL_refusesAny_81 : decode cL_refusesAny 81 = .ok (.goto 11, 3) := by decide +kernel
theorem dL_refusesAny_84 : decode cL_refusesAny 84 = .ok (.sipush 1024, 3) := by decide +kernel
theorem dL_refusesAny_87 : decode cL_refusesAny 87 = .ok (.iload_n 1, 1) := by decide +kernel
theorem dL_refusesAny_88 : decode cL_refusesAny 88 = .ok (.bipush 99, 2) := by decide +kernel
theorem dL_refusesAny_90 : decode cL_refusesAny 90 = .ok (.irem, 1) := by decide +kernel
theorem dL_refusesAny_91 : decode cL_refusesAny 91 = .ok (.iadd, 1) := by decide +kernel
theorem dL_refusesAny_92 : decode cL_refusesAny 92 = .ok (.istore 5, 2) := by decide +kernel
theorem dL_refusesAny_94 : decode cL_refusesAny 94 = .ok (.iload_n 1, 1) := by decide +kernel
theorem dL_refusesAny_95 : decode cL_refusesAny 95 = .ok (.bipush 10, 2) := by decide +kernel
theorem dL_refusesAny_97 : decode cL_refusesAny 97 = .ok (.irem, 1) := by decide +kernel
theorem dL_refusesAny_98 : decode cL_refusesAny 98 = .ok (.istore 6, 2) := by decide +kernel
theorem dL_refusesAny_100 : decode cL_refusesAny 100 = .ok (.aload_n 0, 1) := by decide +kernel
theorem dL_refusesAny_101 : decode cL_refusesAny 101 = .ok (.iload_n 2, 1) := by decide +kernel
theorem dL_refusesAny_102 : decode cL_refusesAny 102 = .ok (.invokevirtual 42, 3) := by decide +kernel
theorem dL_refusesAny_105 : decode cL_refusesAny 105 = .ok (.iconst (-1), 1) := by decide +kernel
theorem dL_refusesAny_106 : decode cL_refusesAny 106 = .ok (.if_icmp .ne 264, 3) := by decide +kernel
theorem dL_refusesAny_109 : decode cL_refusesAny 109 = .ok (.aload_n 0, 1) := by decide +kernel
theorem dL_refusesAny_110 : decode cL_refusesAny 110 = .ok (.iload_n 2, 1) := by decide +kernel
theorem dL_refusesAny_111 : decode cL_refusesAny 111 = .ok (.invokevirtual 45, 3) := by decide +kernel
theorem dL_refusesAny_114 : decode cL_refusesAny 114 = .ok (.iconst (-1), 1) := by decide +kernel
theorem dL_refusesAny_115 : decode cL_refusesAny 115 = .ok (.if_icmp .ne 255, 3) := by decide +kernel
theorem dL_refusesAny_118 : decode cL_refusesAny 118 = .ok (.aload_n 0, 1) := by decide +kernel
theorem dL_refusesAny_119 : decode cL_refusesAny 119 = .ok (.iload_n 2, 1) := by decide +kernel
theorem dL_refusesAny_120 : decode cL_refusesAny 120 = .ok (.iconst 1, 1) := by decide +kernel
theorem dL_refusesAny_121 : decode cL_refusesAny 121 = .ok (.iconst 0, 1) := by decide +kernel
theorem dL_refusesAny_122 : decode cL_refusesAny 122 = .ok (.invokevirtual 48, 3) := by decide +kernel
theorem dL_refusesAny_125 : decode cL_refusesAny 125 = .ok (.iconst (-1), 1) := by decide +kernel
theorem dL_refusesAny_126 : decode cL_refusesAny 126 = .ok (.if_icmp .ne 244, 3) := by decide +kernel
theorem dL_refusesAny_129 : decode cL_refusesAny 129 = .ok (.aload_n 0, 1) := by decide +kernel
theorem dL_refusesAny_130 : decode cL_refusesAny 130 = .ok (.iload 6, 2) := by decide +kernel
theorem dL_refusesAny_132 : decode cL_refusesAny 132 = .ok (.iconst 0, 1) := by decide +kernel
theorem dL_refusesAny_133 : decode cL_refusesAny 133 = .ok (.iload_n 1, 1) := by decide +kernel
theorem dL_refusesAny_134 : decode cL_refusesAny 134 = .ok (.iconst 2, 1) := by decide +kernel
theorem dL_refusesAny_135 : decode cL_refusesAny 135 = .ok (.irem, 1) := by decide +kernel
theorem dL_refusesAny_136 : decode cL_refusesAny 136 = .ok (.ifCond .ne 7, 3) := by decide +kernel
theorem dL_refusesAny_139 : decode cL_refusesAny 139 = .ok (.iconst (-1), 1) := by decide +kernel
theorem dL_refusesAny_140 : decode cL_refusesAny 140 = .ok (.goto 5, 3) := by decide +kernel
theorem dL_refusesAny_143 : decode cL_refusesAny 143 = .ok (.bipush 11, 2) := by decide +kernel
theorem dL_refusesAny_145 : decode cL_refusesAny 145 = .ok (.invokevirtual 48, 3) := by decide +kernel
theorem dL_refusesAny_148 : decode cL_refusesAny 148 = .ok (.iconst (-1), 1) := by decide +kernel
theorem dL_refusesAny_149 : decode cL_refusesAny 149 = .ok (.if_icmp .ne 221, 3) := by decide +kernel
theorem dL_refusesAny_152 : decode cL_refusesAny 152 = .ok (.aload_n 0, 1) := by decide +kernel
theorem dL_refusesAny_153 : decode cL_refusesAny 153 = .ok (.iload 6, 2) := by decide +kernel
theorem dL_refusesAny_155 : decode cL_refusesAny 155 = .ok (.iconst 1, 1) := by decide +kernel
theorem dL_refusesAny_156 : decode cL_refusesAny 156 = .ok (.iload 6, 2) := by decide +kernel
theorem dL_refusesAny_158 : decode cL_refusesAny 158 = .ok (.invokevirtual 48, 3) := by decide +kernel
theorem dL_refusesAny_161 : decode cL_refusesAny 161 = .ok (.iconst (-1), 1) := by decide +kernel
theorem dL_refusesAny_162 : decode cL_refusesAny 162 = .ok (.if_icmp .ne 208, 3) := by decide +kernel
theorem dL_refusesAny_165 : decode cL_refusesAny 165 = .ok (.aload_n 0, 1) := by decide +kernel
theorem dL_refusesAny_166 : decode cL_refusesAny 166 = .ok (.iload 6, 2) := by decide +kernel
theorem dL_refusesAny_168 : decode cL_refusesAny 168 = .ok (.iconst 4, 1) := by decide +kernel
theorem dL_refusesAny_169 : decode cL_refusesAny 169 = .ok (.invokevirtual 20, 3) := by decide +kernel
theorem dL_refusesAny_172 : decode cL_refusesAny 172 = .ok (.ifCond .lt 21, 3) := by decide +kernel
theorem dL_refusesAny_175 : decode cL_refusesAny 175 = .ok (.aload_n 0, 1) := by decide +kernel
theorem dL_refusesAny_176 : decode cL_refusesAny 176 = .ok (.iload 6, 2) := by decide +kernel
theorem dL_refusesAny_178 : decode cL_refusesAny 178 = .ok (.iconst 0, 1) := by decide +kernel
theorem dL_refusesAny_179 : decode cL_refusesAny 179 = .ok (.aload_n 0, 1) := by decide +kernel
theorem dL_refusesAny_180 : decode cL_refusesAny 180 = .ok (.iload 6, 2) := by decide +kernel
theorem dL_refusesAny_182 : decode cL_refusesAny 182 = .ok (.iconst 4, 1) := by decide +kernel
theorem dL_refusesAny_183 : decode cL_refusesAny 183 = .ok (.invokevirtual 20, 3) := by decide +kernel
theorem dL_refusesAny_186 : decode cL_refusesAny 186 = .ok (.invokevirtual 48, 3) := by decide +kernel
theorem dL_refusesAny_189 : decode cL_refusesAny 189 = .ok (.iconst (-1), 1) := by decide +kernel
theorem dL_refusesAny_190 : decode cL_refusesAny 190 = .ok (.if_icmp .ne 180, 3) := by decide +kernel
theorem dL_refusesAny_193 : decode cL_refusesAny 193 = .ok (.aload_n 0, 1) := by decide +kernel
theorem dL_refusesAny_194 : decode cL_refusesAny 194 = .ok (.iload_n 2, 1) := by decide +kernel
theorem dL_refusesAny_195 : decode cL_refusesAny 195 = .ok (.iconst 0, 1) := by decide +kernel
theorem dL_refusesAny_196 : decode cL_refusesAny 196 = .ok (.iconst 1, 1) := by decide +kernel
theorem dL_refusesAny_197 : decode cL_refusesAny 197 = .ok (.invokevirtual 52, 3) := by decide +kernel
theorem dL_refusesAny_200 : decode cL_refusesAny 200 = .ok (.iconst (-1), 1) := by decide +kernel
theorem dL_refusesAny_201 : decode cL_refusesAny 201 = .ok (.if_icmp .ne 169, 3) := by decide +kernel
theorem dL_refusesAny_204 : decode cL_refusesAny 204 = .ok (.aload_n 0, 1) := by decide +kernel
theorem dL_refusesAny_205 : decode cL_refusesAny 205 = .ok (.iload 6, 2) := by decide +kernel
theorem dL_refusesAny_207 : decode cL_refusesAny 207 = .ok (.iload 4, 2) := by decide +kernel
theorem dL_refusesAny_209 : decode cL_refusesAny 209 = .ok (.iconst 0, 1) := by decide +kernel
theorem dL_refusesAny_210 : decode cL_refusesAny 210 = .ok (.invokevirtual 52, 3) := by decide +kernel
theorem dL_refusesAny_213 : decode cL_refusesAny 213 = .ok (.iconst (-1), 1) := by decide +kernel
theorem dL_refusesAny_214 : decode cL_refusesAny 214 = .ok (.if_icmp .ne 156, 3) := by decide +kernel
theorem dL_refusesAny_217 : decode cL_refusesAny 217 = .ok (.aload_n 0, 1) := by decide +kernel
theorem dL_refusesAny_218 : decode cL_refusesAny 218 = .ok (.iload 6, 2) := by decide +kernel
theorem dL_refusesAny_220 : decode cL_refusesAny 220 = .ok (.iconst 0, 1) := by decide +kernel
theorem dL_refusesAny_221 : decode cL_refusesAny 221 = .ok (.iload 4, 2) := by decide +kernel
theorem dL_refusesAny_223 : decode cL_refusesAny 223 = .ok (.invokevirtual 52, 3) := by decide +kernel
theorem dL_refusesAny_226 : decode cL_refusesAny 226 = .ok (.iconst (-1), 1) := by decide +kernel
theorem dL_refusesAny_227 : decode cL_refusesAny 227 = .ok (.if_icmp .ne 143, 3) := by decide +kernel
theorem dL_refusesAny_230 : decode cL_refusesAny 230 = .ok (.aload_n 0, 1) := by decide +kernel
theorem dL_refusesAny_231 : decode cL_refusesAny 231 = .ok (.iload 6, 2) := by decide +kernel
theorem dL_refusesAny_233 : decode cL_refusesAny 233 = .ok (.iconst 3, 1) := by decide +kernel
theorem dL_refusesAny_234 : decode cL_refusesAny 234 = .ok (.iconst 3, 1) := by decide +kernel
theorem dL_refusesAny_235 : decode cL_refusesAny 235 = .ok (.invokevirtual 52, 3) := by decide +kernel
theorem dL_refusesAny_238 : decode cL_refusesAny 238 = .ok (.iconst (-1), 1) := by decide +kernel
theorem dL_refusesAny_239 : decode cL_refusesAny 239 = .ok (.if_icmp .ne 131, 3) := by decide +kernel
theorem dL_refusesAny_242 : decode cL_refusesAny 242 = .ok (.aload_n 0, 1) := by decide +kernel
theorem dL_refusesAny_243 : decode cL_refusesAny 243 = .ok (.iload 6, 2) := by decide +kernel
theorem dL_refusesAny_245 : decode cL_refusesAny 245 = .ok (.iconst 0, 1) := by decide +kernel
theorem dL_refusesAny_246 : decode cL_refusesAny 246 = .ok (.invokevirtual 20, 3) := by decide +kernel
theorem dL_refusesAny_249 : decode cL_refusesAny 249 = .ok (.ifCond .eq 16, 3) := by decide +kernel
theorem dL_refusesAny_252 : decode cL_refusesAny 252 = .ok (.aload_n 0, 1) := by decide +kernel
theorem dL_refusesAny_253 : decode cL_refusesAny 253 = .ok (.iload 6, 2) := by decide +kernel
theorem dL_refusesAny_255 : decode cL_refusesAny 255 = .ok (.iconst 0, 1) := by decide +kernel
theorem dL_refusesAny_256 : decode cL_refusesAny 256 = .ok (.iconst 1, 1) := by decide +kernel
theorem dL_refusesAny_257 : decode cL_refusesAny 257 = .ok (.invokevirtual 52, 3) := by decide +kernel
theorem dL_refusesAny_260 : decode cL_refusesAny 260 = .ok (.bipush (-2), 2) := by decide +kernel
theorem dL_refusesAny_262 : decode cL_refusesAny 262 = .ok (.if_icmp .ne 108, 3) := by decide +kernel
theorem dL_refusesAny_265 : decode cL_refusesAny 265 = .ok (.aload_n 0, 1) := by decide +kernel
theorem dL_refusesAny_266 : decode cL_refusesAny 266 = .ok (.iload_n 3, 1) := by decide +kernel
theorem dL_refusesAny_267 : decode cL_refusesAny 267 = .ok (.iconst 0, 1) := by decide +kernel
theorem dL_refusesAny_268 : decode cL_refusesAny 268 = .ok (.invokevirtual 56, 3) := by decide +kernel
theorem dL_refusesAny_271 : decode cL_refusesAny 271 = .ok (.iconst (-1), 1) := by decide +kernel
theorem dL_refusesAny_272 : decode cL_refusesAny 272 = .ok (.if_icmp .ne 98, 3) := by decide +kernel
theorem dL_refusesAny_275 : decode cL_refusesAny 275 = .ok (.aload_n 0, 1) := by decide +kernel
theorem dL_refusesAny_276 : decode cL_refusesAny 276 = .ok (.iconst 0, 1) := by decide +kernel
theorem dL_refusesAny_277 : decode cL_refusesAny 277 = .ok (.iload 5, 2) := by decide +kernel
theorem dL_refusesAny_279 : decode cL_refusesAny 279 = .ok (.invokevirtual 56, 3) := by decide +kernel
theorem dL_refusesAny_282 : decode cL_refusesAny 282 = .ok (.iconst (-1), 1) := by decide +kernel
theorem dL_refusesAny_283 : decode cL_refusesAny 283 = .ok (.if_icmp .ne 87, 3) := by decide +kernel
theorem dL_refusesAny_286 : decode cL_refusesAny 286 = .ok (.aload_n 0, 1) := by decide +kernel
theorem dL_refusesAny_287 : decode cL_refusesAny 287 = .ok (.iload_n 1, 1) := by decide +kernel
theorem dL_refusesAny_288 : decode cL_refusesAny 288 = .ok (.iconst 2, 1) := by decide +kernel
theorem dL_refusesAny_289 : decode cL_refusesAny 289 = .ok (.irem, 1) := by decide +kernel
theorem dL_refusesAny_290 : decode cL_refusesAny 290 = .ok (.ifCond .ne 7, 3) := by decide +kernel
theorem dL_refusesAny_293 : decode cL_refusesAny 293 = .ok (.iconst 0, 1) := by decide +kernel
theorem dL_refusesAny_294 : decode cL_refusesAny 294 = .ok (.goto 5, 3) := by decide +kernel
theorem dL_refusesAny_297 : decode cL_refusesAny 297 = .ok (.bipush 11, 2) := by decide +kernel
theorem dL_refusesAny_299 : decode cL_refusesAny 299 = .ok (.invokevirtual 59, 3) := by decide +kernel
theorem dL_refusesAny_302 : decode cL_refusesAny 302 = .ok (.iconst (-1), 1) := by decide +kernel
theorem dL_refusesAny_303 : decode cL_refusesAny 303 = .ok (.if_icmp .ne 67, 3) := by decide +kernel
theorem dL_refusesAny_306 : decode cL_refusesAny 306 = .ok (.aload_n 0, 1) := by decide +kernel
theorem dL_refusesAny_307 : decode cL_refusesAny 307 = .ok (.iload_n 3, 1) := by decide +kernel
theorem dL_refusesAny_308 : decode cL_refusesAny 308 = .ok (.iconst 0, 1) := by decide +kernel
theorem dL_refusesAny_309 : decode cL_refusesAny 309 = .ok (.invokevirtual 62, 3) := by decide +kernel
theorem dL_refusesAny_312 : decode cL_refusesAny 312 = .ok (.iconst (-1), 1) := by decide +kernel
theorem dL_refusesAny_313 : decode cL_refusesAny 313 = .ok (.if_icmp .ne 57, 3) := by decide +kernel
theorem dL_refusesAny_316 : decode cL_refusesAny 316 = .ok (.aload_n 0, 1) := by decide +kernel
theorem dL_refusesAny_317 : decode cL_refusesAny 317 = .ok (.iconst 0, 1) := by decide +kernel
theorem dL_refusesAny_318 : decode cL_refusesAny 318 = .ok (.iload_n 2, 1) := by decide +kernel
theorem dL_refusesAny_319 : decode cL_refusesAny 319 = .ok (.invokevirtual 62, 3) := by decide +kernel
theorem dL_refusesAny_322 : decode cL_refusesAny 322 = .ok (.iconst (-1), 1) := by decide +kernel
theorem dL_refusesAny_323 : decode cL_refusesAny 323 = .ok (.if_icmp .ne 47, 3) := by decide +kernel
theorem dL_refusesAny_326 : decode cL_refusesAny 326 = .ok (.aload_n 0, 1) := by decide +kernel
theorem dL_refusesAny_327 : decode cL_refusesAny 327 = .ok (.iload_n 3, 1) := by decide +kernel
theorem dL_refusesAny_328 : decode cL_refusesAny 328 = .ok (.iconst 0, 1) := by decide +kernel
theorem dL_refusesAny_329 : decode cL_refusesAny 329 = .ok (.invokevirtual 65, 3) := by decide +kernel
theorem dL_refusesAny_332 : decode cL_refusesAny 332 = .ok (.iconst (-1), 1) := by decide +kernel
theorem dL_refusesAny_333 : decode cL_refusesAny 333 = .ok (.if_icmp .ne 37, 3) := by decide +kernel
theorem dL_refusesAny_336 : decode cL_refusesAny 336 = .ok (.aload_n 0, 1) := by decide +kernel
theorem dL_refusesAny_337 : decode cL_refusesAny 337 = .ok (.iconst 0, 1) := by decide +kernel
theorem dL_refusesAny_338 : decode cL_refusesAny 338 = .ok (.iload_n 2, 1) := by decide +kernel
theorem dL_refusesAny_339 : decode cL_refusesAny 339 = .ok (.invokevirtual 65, 3) := by decide +kernel
theorem dL_refusesAny_342 : decode cL_refusesAny 342 = .ok (.iconst (-1), 1) := by decide +kernel
theorem dL_refusesAny_343 : decode cL_refusesAny 343 = .ok (.if_icmp .ne 27, 3) := by decide +kernel
theorem dL_refusesAny_346 : decode cL_refusesAny 346 = .ok (.aload_n 0, 1) := by decide +kernel
theorem dL_refusesAny_347 : decode cL_refusesAny 347 = .ok (.iload_n 3, 1) := by decide +kernel
theorem dL_refusesAny_348 : decode cL_refusesAny 348 = .ok (.iconst 0, 1) := by decide +kernel
theorem dL_refusesAny_349 : decode cL_refusesAny 349 = .ok (.invokevirtual 68, 3) := by decide +kernel
theorem dL_refusesAny_352 : decode cL_refusesAny 352 = .ok (.iconst (-1), 1) := by decide +kernel
theorem dL_refusesAny_353 : decode cL_refusesAny 353 = .ok (.if_icmp .ne 17, 3) := by decide +kernel
theorem dL_refusesAny_356 : decode cL_refusesAny 356 = .ok (.aload_n 0, 1) := by decide +kernel
theorem dL_refusesAny_357 : decode cL_refusesAny 357 = .ok (.iconst 0, 1) := by decide +kernel
theorem dL_refusesAny_358 : decode cL_refusesAny 358 = .ok (.iload_n 2, 1) := by decide +kernel
theorem dL_refusesAny_359 : decode cL_refusesAny 359 = .ok (.invokevirtual 68, 3) := by decide +kernel
theorem dL_refusesAny_362 : decode cL_refusesAny 362 = .ok (.iconst (-1), 1) := by decide +kernel
theorem dL_refusesAny_363 : decode cL_refusesAny 363 = .ok (.if_icmp .ne 7, 3) := by decide +kernel
theorem dL_refusesAny_366 : decode cL_refusesAny 366 = .ok (.iconst 1, 1) := by decide +kernel
theorem dL_refusesAny_367 : decode cL_refusesAny 367 = .ok (.goto 4, 3) := by decide +kernel
theorem dL_refusesAny_370 : decode cL_refusesAny 370 = .ok (.iconst 0, 1) := by decide +kernel
theorem dL_refusesAny_371 : decode cL_refusesAny 371 = .ok (.istore 7, 2) := by decide +kernel
theorem dL_refusesAny_373 : decode cL_refusesAny 373 = .ok (.iload 7, 2) := by decide +kernel
theorem dL_refusesAny_375 : decode cL_refusesAny 375 = .ok (.ifCond .eq 271, 3) := by decide +kernel
theorem dL_refusesAny_378 : decode cL_refusesAny 378 = .ok (.aload_n 0, 1) := by decide +kernel
theorem dL_refusesAny_379 : decode cL_refusesAny 379 = .ok (.iload_n 2, 1) := by decide +kernel
theorem dL_refusesAny_380 : decode cL_refusesAny 380 = .ok (.iconst 0, 1) := by decide +kernel
theorem dL_refusesAny_381 : decode cL_refusesAny 381 = .ok (.invokevirtual 20, 3) := by decide +kernel
theorem dL_refusesAny_384 : decode cL_refusesAny 384 = .ok (.iconst (-1), 1) := by decide +kernel
theorem dL_refusesAny_385 : decode cL_refusesAny 385 = .ok (.if_icmp .ne 261, 3) := by decide +kernel
theorem dL_refusesAny_388 : decode cL_refusesAny 388 = .ok (.aload_n 0, 1) := by decide +kernel
theorem dL_refusesAny_389 : decode cL_refusesAny 389 = .ok (.iconst 0, 1) := by decide +kernel
theorem dL_refusesAny_390 : decode cL_refusesAny 390 = .ok (.iload_n 1, 1) := by decide +kernel
theorem dL_refusesAny_391 : decode cL_refusesAny 391 = .ok (.iconst 2, 1) := by decide +kernel
theorem dL_refusesAny_392 : decode cL_refusesAny 392 = .ok (.irem, 1) := by decide +kernel
theorem dL_refusesAny_393 : decode cL_refusesAny 393 = .ok (.ifCond .ne 7, 3) := by decide +kernel
theorem dL_refusesAny_396 : decode cL_refusesAny 396 = .ok (.iconst (-1), 1) := by decide +kernel
theorem dL_refusesAny_397 : decode cL_refusesAny 397 = .ok (.goto 5, 3) := by decide +kernel
theorem dL_refusesAny_400 : decode cL_refusesAny 400 = .ok (.bipush 10, 2) := by decide +kernel
theorem dL_refusesAny_402 : decode cL_refusesAny 402 = .ok (.invokevirtual 20, 3) := by decide +kernel
theorem dL_refusesAny_405 : decode cL_refusesAny 405 = .ok (.iconst (-1), 1) := by decide +kernel
theorem dL_refusesAny_406 : decode cL_refusesAny 406 = .ok (.if_icmp .ne 240, 3) := by decide +kernel
theorem dL_refusesAny_409 : decode cL_refusesAny 409 = .ok (.aload_n 0, 1) := by decide +kernel
theorem dL_refusesAny_410 : decode cL_refusesAny 410 = .ok (.iload 4, 2) := by decide +kernel
theorem dL_refusesAny_412 : decode cL_refusesAny 412 = .ok (.iconst 0, 1) := by decide +kernel
theorem dL_refusesAny_413 : decode cL_refusesAny 413 = .ok (.invokevirtual 39, 3) := by decide +kernel
theorem dL_refusesAny_416 : decode cL_refusesAny 416 = .ok (.iconst (-1), 1) := by decide +kernel
theorem dL_refusesAny_417 : decode cL_refusesAny 417 = .ok (.if_icmp .ne 229, 3) := by decide +kernel
theorem dL_refusesAny_420 : decode cL_refusesAny 420 = .ok (.aload_n 0, 1) := by decide +kernel
theorem dL_refusesAny_421 : decode cL_refusesAny 421 = .ok (.iconst 0, 1) := by decide +kernel
theorem dL_refusesAny_422 : decode cL_refusesAny 422 = .ok (.iload_n 1, 1) := by decide +kernel
theorem dL_refusesAny_423 : decode cL_refusesAny 423 = .ok (.iconst 2, 1) := by decide +kernel
theorem dL_refusesAny_424 : decode cL_refusesAny 424 = .ok (.irem, 1) := by decide +kernel
theorem dL_refusesAny_425 : decode cL_refusesAny 425 = .ok (.ifCond .ne 7, 3) := by decide +kernel
theorem dL_refusesAny_428 : decode cL_refusesAny 428 = .ok (.iconst (-1), 1) := by decide +kernel
theorem dL_refusesAny_429 : decode cL_refusesAny 429 = .ok (.goto 4, 3) := by decide +kernel
theorem dL_refusesAny_432 : decode cL_refusesAny 432 = .ok (.iconst 4, 1) := by decide +kernel
theorem dL_refusesAny_433 : decode cL_refusesAny 433 = .ok (.invokevirtual 39, 3) := by decide +kernel
theorem dL_refusesAny_436 : decode cL_refusesAny 436 = .ok (.iconst (-1), 1) := by decide +kernel
theorem dL_refusesAny_437 : decode cL_refusesAny 437 = .ok (.if_icmp .ne 209, 3) := by decide +kernel
theorem dL_refusesAny_440 : decode cL_refusesAny 440 = .ok (.aload_n 0, 1) := by decide +kernel
theorem dL_refusesAny_441 : decode cL_refusesAny 441 = .ok (.iload_n 3, 1) := by decide +kernel
theorem dL_refusesAny_442 : decode cL_refusesAny 442 = .ok (.iconst 0, 1) := by decide +kernel
theorem dL_refusesAny_443 : decode cL_refusesAny 443 = .ok (.invokevirtual 24, 3) := by decide +kernel
theorem dL_refusesAny_446 : decode cL_refusesAny 446 = .ok (.iconst (-1), 1) := by decide +kernel
theorem dL_refusesAny_447 : decode cL_refusesAny 447 = .ok (.if_icmp .ne 199, 3) := by decide +kernel
theorem dL_refusesAny_450 : decode cL_refusesAny 450 = .ok (.aload_n 0, 1) := by decide +kernel
theorem dL_refusesAny_451 : decode cL_refusesAny 451 = .ok (.iconst 0, 1) := by decide +kernel
theorem dL_refusesAny_452 : decode cL_refusesAny 452 = .ok (.iload_n 1, 1) := by decide +kernel
theorem dL_refusesAny_453 : decode cL_refusesAny 453 = .ok (.iconst 2, 1) := by decide +kernel
theorem dL_refusesAny_454 : decode cL_refusesAny 454 = .ok (.irem, 1) := by decide +kernel
theorem dL_refusesAny_455 : decode cL_refusesAny 455 = .ok (.ifCond .ne 7, 3) := by decide +kernel
theorem dL_refusesAny_458 : decode cL_refusesAny 458 = .ok (.iconst (-1), 1) := by decide +kernel
theorem dL_refusesAny_459 : decode cL_refusesAny 459 = .ok (.goto 4, 3) := by decide +kernel
theorem dL_refusesAny_462 : decode cL_refusesAny 462 = .ok (.iconst 4, 1) := by decide +kernel
theorem dL_refusesAny_463 : decode cL_refusesAny 463 = .ok (.invokevirtual 24, 3) := by decide +kernel
theorem dL_refusesAny_466 : decode cL_refusesAny 466 = .ok (.iconst (-1), 1) := by decide +kernel
theorem dL_refusesAny_467 : decode cL_refusesAny 467 = .ok (.if_icmp .ne 179, 3) := by decide +kernel
theorem dL_refusesAny_470 : decode cL_refusesAny 470 = .ok (.aload_n 0, 1) := by decide +kernel
theorem dL_refusesAny_471 : decode cL_refusesAny 471 = .ok (.iload_n 2, 1) := by decide +kernel
theorem dL_refusesAny_472 : decode cL_refusesAny 472 = .ok (.invokevirtual 32, 3) := by decide +kernel
theorem dL_refusesAny_475 : decode cL_refusesAny 475 = .ok (.iconst (-1), 1) := by decide +kernel
theorem dL_refusesAny_476 : decode cL_refusesAny 476 = .ok (.if_icmp .ne 170, 3) := by decide +kernel
theorem dL_refusesAny_479 : decode cL_refusesAny 479 = .ok (.aload_n 0, 1) := by decide +kernel
theorem dL_refusesAny_480 : decode cL_refusesAny 480 = .ok (.iload_n 1, 1) := by decide +kernel
theorem dL_refusesAny_481 : decode cL_refusesAny 481 = .ok (.iconst 2, 1) := by decide +kernel
theorem dL_refusesAny_482 : decode cL_refusesAny 482 = .ok (.irem, 1) := by decide +kernel
theorem dL_refusesAny_483 : decode cL_refusesAny 483 = .ok (.ifCond .ne 7, 3) := by decide +kernel
theorem dL_refusesAny_486 : decode cL_refusesAny 486 = .ok (.iconst (-1), 1) := by decide +kernel
theorem dL_refusesAny_487 : decode cL_refusesAny 487 = .ok (.goto 4, 3) := by decide +kernel
theorem dL_refusesAny_490 : decode cL_refusesAny 490 = .ok (.iconst 2, 1) := by decide +kernel
theorem dL_refusesAny_491 : decode cL_refusesAny 491 = .ok (.invokevirtual 71, 3) := by decide +kernel
theorem dL_refusesAny_494 : decode cL_refusesAny 494 = .ok (.iconst (-1), 1) := by decide +kernel
theorem dL_refusesAny_495 : decode cL_refusesAny 495 = .ok (.if_icmp .ne 151, 3) := by decide +kernel
theorem dL_refusesAny_498 : decode cL_refusesAny 498 = .ok (.aload_n 0, 1) := by decide +kernel
theorem dL_refusesAny_499 : decode cL_refusesAny 499 = .ok (.iload 5, 2) := by decide +kernel
theorem dL_refusesAny_501 : decode cL_refusesAny 501 = .ok (.invokevirtual 74, 3) := by decide +kernel
theorem dL_refusesAny_504 : decode cL_refusesAny 504 = .ok (.iconst (-1), 1) := by decide +kernel
theorem dL_refusesAny_505 : decode cL_refusesAny 505 = .ok (.if_icmp .ne 141, 3) := by decide +kernel
theorem dL_refusesAny_508 : decode cL_refusesAny 508 = .ok (.aload_n 0, 1) := by decide +kernel
theorem dL_refusesAny_509 : decode cL_refusesAny 509 = .ok (.iload_n 3, 1) := by decide +kernel
theorem dL_refusesAny_510 : decode cL_refusesAny 510 = .ok (.iconst 0, 1) := by decide +kernel
theorem dL_refusesAny_511 : decode cL_refusesAny 511 = .ok (.iconst 0, 1) := by decide +kernel
theorem dL_refusesAny_512 : decode cL_refusesAny 512 = .ok (.invokevirtual 77, 3) := by decide +kernel
theorem dL_refusesAny_515 : decode cL_refusesAny 515 = .ok (.iconst (-1), 1) := by decide +kernel
theorem dL_refusesAny_516 : decode cL_refusesAny 516 = .ok (.if_icmp .ne 130, 3) := by decide +kernel
theorem dL_refusesAny_519 : decode cL_refusesAny 519 = .ok (.aload_n 0, 1) := by decide +kernel
theorem dL_refusesAny_520 : decode cL_refusesAny 520 = .ok (.iconst 0, 1) := by decide +kernel
theorem dL_refusesAny_521 : decode cL_refusesAny 521 = .ok (.iload 4, 2) := by decide +kernel
theorem dL_refusesAny_523 : decode cL_refusesAny 523 = .ok (.iconst 0, 1) := by decide +kernel
theorem dL_refusesAny_524 : decode cL_refusesAny 524 = .ok (.invokevirtual 77, 3) := by decide +kernel
theorem dL_refusesAny_527 : decode cL_refusesAny 527 = .ok (.iconst (-1), 1) := by decide +kernel
theorem dL_refusesAny_528 : decode cL_refusesAny 528 = .ok (.if_icmp .ne 118, 3) := by decide +kernel
theorem dL_refusesAny_531 : decode cL_refusesAny 531 = .ok (.aload_n 0, 1) := by decide +kernel
theorem dL_refusesAny_532 : decode cL_refusesAny 532 = .ok (.iconst 0, 1) := by decide +kernel
theorem dL_refusesAny_533 : decode cL_refusesAny 533 = .ok (.iconst 0, 1) := by decide +kernel
theorem dL_refusesAny_534 : decode cL_refusesAny 534 = .ok (.iload_n 1, 1) := by decide +kernel
theorem dL_refusesAny_535 : decode cL_refusesAny 535 = .ok (.iconst 2, 1) := by decide +kernel
theorem dL_refusesAny_536 : decode cL_refusesAny 536 = .ok (.irem, 1) := by decide +kernel
theorem dL_refusesAny_537 : decode cL_refusesAny 537 = .ok (.ifCond .ne 7, 3) := by decide +kernel
theorem dL_refusesAny_540 : decode cL_refusesAny 540 = .ok (.iconst (-1), 1) := by decide +kernel
theorem dL_refusesAny_541 : decode cL_refusesAny 541 = .ok (.goto 4, 3) := by decide +kernel
theorem dL_refusesAny_544 : decode cL_refusesAny 544 = .ok (.iconst 2, 1) := by decide +kernel
theorem dL_refusesAny_545 : decode cL_refusesAny 545 = .ok (.invokevirtual 77, 3) := by decide +kernel
theorem dL_refusesAny_548 : decode cL_refusesAny 548 = .ok (.iconst (-1), 1) := by decide +kernel
theorem dL_refusesAny_549 : decode cL_refusesAny 549 = .ok (.if_icmp .ne 97, 3) := by decide +kernel
theorem dL_refusesAny_552 : decode cL_refusesAny 552 = .ok (.aload_n 0, 1) := by decide +kernel
theorem dL_refusesAny_553 : decode cL_refusesAny 553 = .ok (.iload_n 1, 1) := by decide +kernel
theorem dL_refusesAny_554 : decode cL_refusesAny 554 = .ok (.iconst 2, 1) := by decide +kernel
theorem dL_refusesAny_555 : decode cL_refusesAny 555 = .ok (.irem, 1) := by decide +kernel
theorem dL_refusesAny_556 : decode cL_refusesAny 556 = .ok (.ifCond .ne 7, 3) := by decide +kernel
theorem dL_refusesAny_559 : decode cL_refusesAny 559 = .ok (.iconst (-1), 1) := by decide +kernel
theorem dL_refusesAny_560 : decode cL_refusesAny 560 = .ok (.goto 5, 3) := by decide +kernel
theorem dL_refusesAny_563 : decode cL_refusesAny 563 = .ok (.bipush 15, 2) := by decide +kernel
theorem dL_refusesAny_565 : decode cL_refusesAny 565 = .ok (.invokevirtual 14, 3) := by decide +kernel
theorem dL_refusesAny_568 : decode cL_refusesAny 568 = .ok (.iconst (-1), 1) := by decide +kernel
theorem dL_refusesAny_569 : decode cL_refusesAny 569 = .ok (.if_icmp .ne 77, 3) := by decide +kernel
theorem dL_refusesAny_572 : decode cL_refusesAny 572 = .ok (.aload_n 0, 1) := by decide +kernel
theorem dL_refusesAny_573 : decode cL_refusesAny 573 = .ok (.iload_n 2, 1) := by decide +kernel
theorem dL_refusesAny_574 : decode cL_refusesAny 574 = .ok (.iconst 0, 1) := by decide +kernel
theorem dL_refusesAny_575 : decode cL_refusesAny 575 = .ok (.invokevirtual 80, 3) := by decide +kernel
theorem dL_refusesAny_578 : decode cL_refusesAny 578 = .ok (.iconst (-1), 1) := by decide +kernel
theorem dL_refusesAny_579 : decode cL_refusesAny 579 = .ok (.if_icmp .ne 67, 3) := by decide +kernel
theorem dL_refusesAny_582 : decode cL_refusesAny 582 = .ok (.aload_n 0, 1) := by decide +kernel
theorem dL_refusesAny_583 : decode cL_refusesAny 583 = .ok (.iconst 0, 1) := by decide +kernel
theorem dL_refusesAny_584 : decode cL_refusesAny 584 = .ok (.iload_n 1, 1) := by decide +kernel
theorem dL_refusesAny_585 : decode cL_refusesAny 585 = .ok (.iconst 2, 1) := by decide +kernel
theorem dL_refusesAny_586 : decode cL_refusesAny 586 = .ok (.irem, 1) := by decide +kernel
theorem dL_refusesAny_587 : decode cL_refusesAny 587 = .ok (.ifCond .ne 7, 3) := by decide +kernel
theorem dL_refusesAny_590 : decode cL_refusesAny 590 = .ok (.iconst (-1), 1) := by decide +kernel
theorem dL_refusesAny_591 : decode cL_refusesAny 591 = .ok (.goto 4, 3) := by decide +kernel
theorem dL_refusesAny_594 : decode cL_refusesAny 594 = .ok (.iconst 3, 1) := by decide +kernel
theorem dL_refusesAny_595 : decode cL_refusesAny 595 = .ok (.invokevirtual 80, 3) := by decide +kernel
theorem dL_refusesAny_598 : decode cL_refusesAny 598 = .ok (.iconst (-1), 1) := by decide +kernel
theorem dL_refusesAny_599 : decode cL_refusesAny 599 = .ok (.if_icmp .ne 47, 3) := by decide +kernel
theorem dL_refusesAny_602 : decode cL_refusesAny 602 = .ok (.aload_n 0, 1) := by decide +kernel
theorem dL_refusesAny_603 : decode cL_refusesAny 603 = .ok (.iload_n 1, 1) := by decide +kernel
theorem dL_refusesAny_604 : decode cL_refusesAny 604 = .ok (.iconst 2, 1) := by decide +kernel
theorem dL_refusesAny_605 : decode cL_refusesAny 605 = .ok (.irem, 1) := by decide +kernel
theorem dL_refusesAny_606 : decode cL_refusesAny 606 = .ok (.ifCond .ne 7, 3) := by decide +kernel
theorem dL_refusesAny_609 : decode cL_refusesAny 609 = .ok (.iconst (-1), 1) := by decide +kernel
theorem dL_refusesAny_610 : decode cL_refusesAny 610 = .ok (.goto 4, 3) := by decide +kernel
theorem dL_refusesAny_613 : decode cL_refusesAny 613 = .ok (.iconst 3, 1) := by decide +kernel
theorem dL_refusesAny_614 : decode cL_refusesAny 614 = .ok (.invokevirtual 83, 3) := by decide +kernel
theorem dL_refusesAny_617 : decode cL_refusesAny 617 = .ok (.iconst (-1), 1) := by decide +kernel
theorem dL_refusesAny_618 : decode cL_refusesAny 618 = .ok (.if_icmp .ne 28, 3) := by decide +kernel
theorem dL_refusesAny_621 : decode cL_refusesAny 621 = .ok (.aload_n 0, 1) := by decide +kernel
theorem dL_refusesAny_622 : decode cL_refusesAny 622 = .ok (.iload_n 1, 1) := by decide +kernel
theorem dL_refusesAny_623 : decode cL_refusesAny 623 = .ok (.iconst 2, 1) := by decide +kernel
theorem dL_refusesAny_624 : decode cL_refusesAny 624 = .ok (.irem, 1) := by decide +kernel
theorem dL_refusesAny_625 : decode cL_refusesAny 625 = .ok (.ifCond .ne 8, 3) := by decide +kernel
theorem dL_refusesAny_628 : decode cL_refusesAny 628 = .ok (.bipush 32, 2) := by decide +kernel
theorem dL_refusesAny_630 : decode cL_refusesAny 630 = .ok (.goto 5, 3) := by decide +kernel
theorem dL_refusesAny_633 : decode cL_refusesAny 633 = .ok (.bipush 127, 2) := by decide +kernel
theorem dL_refusesAny_635 : decode cL_refusesAny 635 = .ok (.invokevirtual 86, 3) := by decide +kernel
theorem dL_refusesAny_638 : decode cL_refusesAny 638 = .ok (.iconst (-1), 1) := by decide +kernel
theorem dL_refusesAny_639 : decode cL_refusesAny 639 = .ok (.if_icmp .ne 7, 3) := by decide +kernel
theorem dL_refusesAny_642 : decode cL_refusesAny 642 = .ok (.iconst 1, 1) := by decide +kernel
theorem dL_refusesAny_643 : decode cL_refusesAny 643 = .ok (.goto 4, 3) := by decide +kernel
theorem dL_refusesAny_646 : decode cL_refusesAny 646 = .ok (.iconst 0, 1) := by decide +kernel
theorem dL_refusesAny_647 : decode cL_refusesAny 647 = .ok (.istore 7, 2) := by decide +kernel
theorem dL_refusesAny_649 : decode cL_refusesAny 649 = .ok (.iload 7, 2) := by decide +kernel
theorem dL_refusesAny_651 : decode cL_refusesAny 651 = .ok (.ifCond .eq 30, 3) := by decide +kernel
theorem dL_refusesAny_654 : decode cL_refusesAny 654 = .ok (.aload_n 0, 1) := by decide +kernel
theorem dL_refusesAny_655 : decode cL_refusesAny 655 = .ok (.invokevirtual 89, 3) := by decide +kernel
theorem dL_refusesAny_658 : decode cL_refusesAny 658 = .ok (.ifCond .ne 23, 3) := by decide +kernel
theorem dL_refusesAny_661 : decode cL_refusesAny 661 = .ok (.aload_n 0, 1) := by decide +kernel
theorem dL_refusesAny_662 : decode cL_refusesAny 662 = .ok (.invokevirtual 93, 3) := by decide +kernel
theorem dL_refusesAny_665 : decode cL_refusesAny 665 = .ok (.bipush (-2), 2) := by decide +kernel
theorem dL_refusesAny_667 : decode cL_refusesAny 667 = .ok (.if_icmp .ne 14, 3) := by decide +kernel
theorem dL_refusesAny_670 : decode cL_refusesAny 670 = .ok (.aload_n 0, 1) := by decide +kernel
theorem dL_refusesAny_671 : decode cL_refusesAny 671 = .ok (.invokevirtual 96, 3) := by decide +kernel
theorem dL_refusesAny_674 : decode cL_refusesAny 674 = .ok (.ifCond .ne 7, 3) := by decide +kernel
theorem dL_refusesAny_677 : decode cL_refusesAny 677 = .ok (.iconst 1, 1) := by decide +kernel
theorem dL_refusesAny_678 : decode cL_refusesAny 678 = .ok (.goto 4, 3) := by decide +kernel
theorem dL_refusesAny_681 : decode cL_refusesAny 681 = .ok (.iconst 0, 1) := by decide +kernel
theorem dL_refusesAny_682 : decode cL_refusesAny 682 = .ok (.ireturn, 1) := by decide +kernel
theorem dL_refuses_0 : decode cL_refuses 0 = .ok (.aload_n 0, 1) := by decide +kernel
theorem dL_refuses_1 : decode cL_refuses 1 = .ok (.invokestatic 99, 3) := by decide +kernel
theorem dL_refuses_4 : decode cL_refuses 4 = .ok (.lstore_n 2, 1) := by decide +kernel
theorem dL_refuses_5 : decode cL_refuses 5 = .ok (.aload_n 0, 1) := by decide +kernel
theorem dL_refuses_6 : decode cL_refuses 6 = .ok (.bipush 14, 2) := by decide +kernel
theorem dL_refuses_8 : decode cL_refuses 8 = .ok (.invokevirtual 14, 3) := by decide +kernel
theorem dL_refuses_11 : decode cL_refuses 11 = .ok (.istore 4, 2) := by decide +kernel
theorem dL_refuses_13 : decode cL_refuses 13 = .ok (.aload_n 0, 1) := by decide +kernel
theorem dL_refuses_14 : decode cL_refuses 14 = .ok (.iload_n 1, 1) := by decide +kernel
theorem dL_refuses_15 : decode cL_refuses 15 = .ok (.invokestatic 103, 3) := by decide +kernel
theorem dL_refuses_18 : decode cL_refuses 18 = .ok (.ifCond .eq 27, 3) := by decide +kernel
theorem dL_refuses_21 : decode cL_refuses 21 = .ok (.aload_n 0, 1) := by decide +kernel
theorem dL_refuses_22 : decode cL_refuses 22 = .ok (.invokestatic 99, 3) := by decide +kernel
theorem dL_refuses_25 : decode cL_refuses 25 = .ok (.lload_n 2, 1) := by decide +kernel
theorem dL_refuses_26 : decode cL_refuses 26 = .ok (.lcmp, 1) := by decide +kernel
theorem dL_refuses_27 : decode cL_refuses 27 = .ok (.ifCond .ne 18, 3) := by decide +kernel
theorem dL_refuses_30 : decode cL_refuses 30 = .ok (.aload_n 0, 1) := by decide +kernel
theorem dL_refuses_31 : decode cL_refuses 31 = .ok (.bipush 14, 2) := by decide +kernel
theorem dL_refuses_33 : decode cL_refuses 33 = .ok (.invokevirtual 14, 3) := by decide +kernel
theorem dL_refuses_36 : decode cL_refuses 36 = .ok (.iload 4, 2) := by decide +kernel
theorem dL_refuses_38 : decode cL_refuses 38 = .ok (.if_icmp .ne 7, 3) := by decide +kernel
theorem dL_refuses_41 : decode cL_refuses 41 = .ok (.iconst 1, 1) := by decide +kernel
theorem dL_refuses_42 : decode cL_refuses 42 = .ok (.goto 4, 3) := by decide +kernel
theorem dL_refuses_45 : decode cL_refuses 45 = .ok (.iconst 0, 1) := by decide +kernel
theorem dL_refuses_46 : decode cL_refuses 46 = .ok (.ireturn, 1) := by decide +kernel
theorem dL_act_0 : decode cL_act 0 = .ok (.iload_n 1, 1) := by decide +kernel
theorem dL_act_1 : decode cL_act 1 = .ok (.bipush 16, 2) := by decide +kernel
theorem dL_act_3 : decode cL_act 3 = .ok (.irem, 1) := by decide +kernel
theorem dL_act_4 : decode cL_act 4 = .ok (.istore_n 2, 1) := by decide +kernel
theorem dL_act_5 : decode cL_act 5 = .ok (.iload_n 1, 1) := by decide +kernel
theorem dL_act_6 : decode cL_act 6 = .ok (.bipush 16, 2) := by decide +kernel
theorem dL_act_8 : decode cL_act 8 = .ok (.idiv, 1) := by decide +kernel
theorem dL_act_9 : decode cL_act 9 = .ok (.istore_n 3, 1) := by decide +kernel
theorem dL_act_10 : decode cL_act 10 = .ok (.iload_n 3, 1) := by decide +kernel
theorem dL_act_11 : decode cL_act 11 = .ok (.bipush 10, 2) := by decide +kernel
theorem dL_act_13 : decode cL_act 13 = .ok (.irem, 1) := by decide +kernel
theorem dL_act_14 : decode cL_act 14 = .ok (.istore 4, 2) := by decide +kernel
theorem dL_act_16 : decode cL_act 16 = .ok (.iload_n 3, 1) := by decide +kernel
theorem dL_act_17 : decode cL_act 17 = .ok (.bipush 10, 2) := by decide +kernel
theorem dL_act_19 : decode cL_act 19 = .ok (.idiv, 1) := by decide +kernel
theorem dL_act_20 : decode cL_act 20 = .ok (.iconst 3, 1) := by decide +kernel
theorem dL_act_21 : decode cL_act 21 = .ok (.irem, 1) := by decide +kernel
theorem dL_act_22 : decode cL_act 22 = .ok (.istore 5, 2) := by decide +kernel
theorem dL_act_24 : decode cL_act 24 = .ok (.aload_n 0, 1) := by decide +kernel
theorem dL_act_25 : decode cL_act 25 = .ok (.iload 5, 2) := by decide +kernel
theorem dL_act_27 : decode cL_act 27 = .ok (.iconst 0, 1) := by decide +kernel
theorem dL_act_28 : decode cL_act 28 = .ok (.invokevirtual 24, 3) := by decide +kernel
theorem dL_act_31 : decode cL_act 31 = .ok (.istore 6, 2) := by decide +kernel
theorem dL_act_33 : decode cL_act 33 = .ok (.aload_n 0, 1) := by decide +kernel
theorem dL_act_34 : decode cL_act 34 = .ok (.iload 4, 2) := by decide +kernel
theorem dL_act_36 : decode cL_act 36 = .ok (.iconst 1, 1) := by decide +kernel
theorem dL_act_37 : decode cL_act 37 = .ok (.invokevirtual 20, 3) := by decide +kernel
theorem dL_act_40 : decode cL_act 40 = .ok (.iload 6, 2) := by decide +kernel
theorem dL_act_42 : decode cL_act 42 = .ok (.if_icmp .eq 15, 3) := by decide +kernel
theorem dL_act_45 : decode cL_act 45 = .ok (.aload_n 0, 1) := by decide +kernel
theorem dL_act_46 : decode cL_act 46 = .ok (.iload 4, 2) := by decide +kernel
theorem dL_act_48 : decode cL_act 48 = .ok (.iconst 2, 1) := by decide +kernel
theorem dL_act_49 : decode cL_act 49 = .ok (.invokevirtual 20, 3) := by decide +kernel
theorem dL_act_52 : decode cL_act 52 = .ok (.iload 6, 2) := by decide +kernel
theorem dL_act_54 : decode cL_act 54 = .ok (.if_icmp .ne 7, 3) := by decide +kernel
theorem dL_act_57 : decode cL_act 57 = .ok (.iconst 1, 1) := by decide +kernel
theorem dL_act_58 : decode cL_act 58 = .ok (.goto 4, 3) := by decide +kernel
theorem dL_act_61 : decode cL_act 61 = .ok (.iconst 0, 1) := by decide +kernel
theorem dL_act_62 : decode cL_act 62 = .ok (.istore 7, 2) := by decide +kernel
theorem dL_act_64 : decode cL_act 64 = .ok (.aload_n 0, 1) := by decide +kernel
theorem dL_act_65 : decode cL_act 65 = .ok (.iload 4, 2) := by decide +kernel
theorem dL_act_67 : decode cL_act 67 = .ok (.iconst 0, 1) := by decide +kernel
theorem dL_act_68 : decode cL_act 68 = .ok (.invokevirtual 20, 3) := by decide +kernel
theorem dL_act_71 : decode cL_act 71 = .ok (.iconst 1, 1) := by decide +kernel
theorem dL_act_72 : decode cL_act 72 = .ok (.if_icmp .ne 7, 3) := by decide +kernel
theorem dL_act_75 : decode cL_act 75 = .ok (.iconst 1, 1) := by decide +kernel
theorem dL_act_76 : decode cL_act 76 = .ok (.goto 4, 3) := by decide +kernel
theorem dL_act_79 : decode cL_act 79 = .ok (.iconst 0, 1) := by decide +kernel
theorem dL_act_80 : decode cL_act 80 = .ok (.istore 8, 2) := by decide +kernel
theorem dL_act_82 : decode cL_act 82 = .ok (.aload_n 0, 1) := by decide +kernel
theorem dL_act_83 : decode cL_act 83 = .ok (.iconst 0, 1) := by decide +kernel
theorem dL_act_84 : decode cL_act 84 = .ok (.invokevirtual 14, 3) := by decide +kernel
theorem dL_act_87 : decode cL_act 87 = .ok (.istore 9, 2) := by decide +kernel
theorem dL_act_89 : decode cL_act 89 = .ok (.iload_n 2, 1) := by decide +kernel
theorem dL_act_90 : decode cL_act 90 = .ok (.bipush 7, 2) := by decide +kernel
theorem dL_act_92 : decode cL_act 92 = .ok (.if_icmp .ge 152, 3) := by decide +kernel
theorem dL_act_95 : decode cL_act 95 = .ok (.iload_n 2, 1) := by decide +kernel
theorem dL_act_96 : decode cL_act 96 = .ok (.iconst 4, 1) := by decide +kernel
theorem dL_act_97 : decode cL_act 97 = .ok (.if_icmp .ge 7, 3) := by decide +kernel
theorem dL_act_100 : decode cL_act 100 = .ok (.iconst 1, 1) := by decide +kernel
theorem dL_act_101 : decode cL_act 101 = .ok (.goto 4, 3) := by decide +kernel
theorem dL_act_104 : decode cL_act 104 = .ok (.iconst 0, 1) := by decide +kernel
theorem dL_act_105 : decode cL_act 105 = .ok (.istore 10, 2) := by decide +kernel
theorem dL_act_107 : decode cL_act 107 = .ok (.iload 10, 2) := by decide +kernel
theorem dL_act_109 : decode cL_act 109 = .ok (.ifCond .ne 12, 3) := by decide +kernel
theorem dL_act_112 : decode cL_act 112 = .ok (.iload 7, 2) := by decide +kernel
theorem dL_act_114 : decode cL_act 114 = .ok (.ifCond .ne 7, 3) := by decide +kernel
theorem dL_act_117 : decode cL_act 117 = .ok (.iconst 5, 1) := by decide +kernel
theorem dL_act_118 : decode cL_act 118 = .ok (.goto 34, 3) := by decide +kernel
theorem dL_act_121 : decode cL_act 121 = .ok (.iload 10, 2) := by decide +kernel
theorem dL_act_123 : decode cL_act 123 = .ok (.ifCond .ne 23, 3) := by decide +kernel
theorem dL_act_126 : decode cL_act 126 = .ok (.aload_n 0, 1) := by decide +kernel
theorem dL_act_127 : decode cL_act 127 = .ok (.iload 5, 2) := by decide +kernel
theorem dL_act_129 : decode cL_act 129 = .ok (.iconst 1, 1) := by decide +kernel
theorem dL_act_130 : decode cL_act 130 = .ok (.invokevirtual 24, 3) := by decide +kernel
theorem dL_act_133 : decode cL_act 133 = .ok (.iload 4, 2) := by decide +kernel
theorem dL_act_135 : decode cL_act 135 = .ok (.ishr, 1) := by decide +kernel
theorem dL_act_136 : decode cL_act 136 = .ok (.iconst 1, 1) := by decide +kernel
theorem dL_act_137 : decode cL_act 137 = .ok (.iand, 1) := by decide +kernel
theorem dL_act_138 : decode cL_act 138 = .ok (.ifCond .ne 8, 3) := by decide +kernel
theorem dL_act_141 : decode cL_act 141 = .ok (.bipush 6, 2) := by decide +kernel
theorem dL_act_143 : decode cL_act 143 = .ok (.goto 9, 3) := by decide +kernel
theorem dL_act_146 : decode cL_act 146 = .ok (.aload_n 0, 1) := by decide +kernel
theorem dL_act_147 : decode cL_act 147 = .ok (.iload 4, 2) := by decide +kernel
theorem dL_act_149 : decode cL_act 149 = .ok (.invokevirtual 32, 3) := by decide +kernel
theorem dL_act_152 : decode cL_act 152 = .ok (.istore 11, 2) := by decide +kernel
theorem dL_act_154 : decode cL_act 154 = .ok (.aload_n 0, 1) := by decide +kernel
theorem dL_act_155 : decode cL_act 155 = .ok (.iload 4, 2) := by decide +kernel
theorem dL_act_157 : decode cL_act 157 = .ok (.iconst 0, 1) := by decide +kernel
theorem dL_act_158 : decode cL_act 158 = .ok (.invokevirtual 80, 3) := by decide +kernel
theorem dL_act_161 : decode cL_act 161 = .ok (.istore 12, 2) := by decide +kernel
theorem dL_act_163 : decode cL_act 163 = .ok (.iload 10, 2) := by decide +kernel
theorem dL_act_165 : decode cL_act 165 = .ok (.ifCond .eq 12, 3) := by decide +kernel
theorem dL_act_168 : decode cL_act 168 = .ok (.aload_n 0, 1) := by decide +kernel
theorem dL_act_169 : decode cL_act 169 = .ok (.iload 4, 2) := by decide +kernel
theorem dL_act_171 : decode cL_act 171 = .ok (.invokevirtual 42, 3) := by decide +kernel
theorem dL_act_174 : decode cL_act 174 = .ok (.goto 11, 3) := by decide +kernel
theorem dL_act_177 : decode cL_act 177 = .ok (.aload_n 0, 1) := by decide +kernel
theorem dL_act_178 : decode cL_act 178 = .ok (.iload 5, 2) := by decide +kernel
theorem dL_act_180 : decode cL_act 180 = .ok (.iload 4, 2) := by decide +kernel
theorem dL_act_182 : decode cL_act 182 = .ok (.invokevirtual 62, 3) := by decide +kernel
theorem dL_act_185 : decode cL_act 185 = .ok (.istore 13, 2) := by decide +kernel
theorem dL_act_187 : decode cL_act 187 = .ok (.iload 13, 2) := by decide +kernel
theorem dL_act_189 : decode cL_act 189 = .ok (.iload 11, 2) := by decide +kernel
theorem dL_act_191 : decode cL_act 191 = .ok (.ifCond .le 8, 3) := by decide +kernel
theorem dL_act_194 : decode cL_act 194 = .ok (.iload 11, 2) := by decide +kernel
theorem dL_act_196 : decode cL_act 196 = .ok (.goto 17, 3) := by decide +kernel
theorem dL_act_199 : decode cL_act 199 = .ok (.bipush 11, 2) := by decide +kernel
theorem dL_act_201 : decode cL_act 201 = .ok (.iload 9, 2) := by decide +kernel
theorem dL_act_203 : decode cL_act 203 = .ok (.invokestatic 27, 3) := by decide +kernel
theorem dL_act_206 : decode cL_act 206 = .ok (.iadd, 1) := by decide +kernel
theorem dL_act_207 : decode cL_act 207 = .ok (.iload 12, 2) := by decide +kernel
theorem dL_act_209 : decode cL_act 209 = .ok (.invokestatic 27, 3) := by decide +kernel
theorem dL_act_212 : decode cL_act 212 = .ok (.isub, 1) := by decide +kernel
theorem dL_act_213 : decode cL_act 213 = .ok (.if_icmp .ne 28, 3) := by decide +kernel
theorem dL_act_216 : decode cL_act 216 = .ok (.aload_n 0, 1) := by decide +kernel
theorem dL_act_217 : decode cL_act 217 = .ok (.iconst 0, 1) := by decide +kernel
theorem dL_act_218 : decode cL_act 218 = .ok (.invokevirtual 14, 3) := by decide +kernel
theorem dL_act_221 : decode cL_act 221 = .ok (.iload 11, 2) := by decide +kernel
theorem dL_act_223 : decode cL_act 223 = .ok (.ifCond .le 8, 3) := by decide +kernel
theorem dL_act_226 : decode cL_act 226 = .ok (.iload 9, 2) := by decide +kernel
theorem dL_act_228 : decode cL_act 228 = .ok (.goto 5, 3) := by decide +kernel
theorem dL_act_231 : decode cL_act 231 = .ok (.iload 12, 2) := by decide +kernel
theorem dL_act_233 : decode cL_act 233 = .ok (.if_icmp .ne 8, 3) := by decide +kernel
theorem dL_act_236 : decode cL_act 236 = .ok (.iload 13, 2) := by decide +kernel
theorem dL_act_238 : decode cL_act 238 = .ok (.goto 5, 3) := by decide +kernel
theorem dL_act_241 : decode cL_act 241 = .ok (.bipush (-9), 2) := by decide +kernel
theorem dL_act_243 : decode cL_act 243 = .ok (.ireturn, 1) := by decide +kernel
theorem dL_act_244 : decode cL_act 244 = .ok (.iload_n 2, 1) := by decide +kernel
theorem dL_act_245 : decode cL_act 245 = .ok (.bipush 9, 2) := by decide +kernel
theorem dL_act_247 : decode cL_act 247 = .ok (.if_icmp .ge 116, 3) := by decide +kernel
theorem dL_act_250 : decode cL_act 250 = .ok (.iload_n 2, 1) := by decide +kernel
theorem dL_act_251 : decode cL_act 251 = .ok (.bipush 7, 2) := by decide +kernel
theorem dL_act_253 : decode cL_act 253 = .ok (.if_icmp .ne 7, 3) := by decide +kernel
theorem dL_act_256 : decode cL_act 256 = .ok (.iconst 1, 1) := by decide +kernel
theorem dL_act_257 : decode cL_act 257 = .ok (.goto 4, 3) := by decide +kernel
theorem dL_act_260 : decode cL_act 260 = .ok (.iconst 0, 1) := by decide +kernel
theorem dL_act_261 : decode cL_act 261 = .ok (.istore 10, 2) := by decide +kernel
theorem dL_act_263 : decode cL_act 263 = .ok (.iload 10, 2) := by decide +kernel
theorem dL_act_265 : decode cL_act 265 = .ok (.ifCond .ne 12, 3) := by decide +kernel
theorem dL_act_268 : decode cL_act 268 = .ok (.iload 7, 2) := by decide +kernel
theorem dL_act_270 : decode cL_act 270 = .ok (.ifCond .ne 7, 3) := by decide +kernel
theorem dL_act_273 : decode cL_act 273 = .ok (.iconst 5, 1) := by decide +kernel
theorem dL_act_274 : decode cL_act 274 = .ok (.goto 13, 3) := by decide +kernel
theorem dL_act_277 : decode cL_act 277 = .ok (.iload 8, 2) := by decide +kernel
theorem dL_act_279 : decode cL_act 279 = .ok (.ifCond .eq 7, 3) := by decide +kernel
theorem dL_act_282 : decode cL_act 282 = .ok (.iconst 0, 1) := by decide +kernel
theorem dL_act_283 : decode cL_act 283 = .ok (.goto 4, 3) := by decide +kernel
theorem dL_act_286 : decode cL_act 286 = .ok (.iconst 3, 1) := by decide +kernel
theorem dL_act_287 : decode cL_act 287 = .ok (.istore 11, 2) := by decide +kernel
theorem dL_act_289 : decode cL_act 289 = .ok (.iload 10, 2) := by decide +kernel
theorem dL_act_291 : decode cL_act 291 = .ok (.ifCond .eq 12, 3) := by decide +kernel
theorem dL_act_294 : decode cL_act 294 = .ok (.aload_n 0, 1) := by decide +kernel
theorem dL_act_295 : decode cL_act 295 = .ok (.iload 4, 2) := by decide +kernel
theorem dL_act_297 : decode cL_act 297 = .ok (.invokevirtual 45, 3) := by decide +kernel
theorem dL_act_300 : decode cL_act 300 = .ok (.goto 11, 3) := by decide +kernel
theorem dL_act_303 : decode cL_act 303 = .ok (.aload_n 0, 1) := by decide +kernel
theorem dL_act_304 : decode cL_act 304 = .ok (.iload 5, 2) := by decide +kernel
theorem dL_act_306 : decode cL_act 306 = .ok (.iload 4, 2) := by decide +kernel
theorem dL_act_308 : decode cL_act 308 = .ok (.invokevirtual 65, 3) := by decide +kernel
theorem dL_act_311 : decode cL_act 311 = .ok (.istore 12, 2) := by decide +kernel
theorem dL_act_313 : decode cL_act 313 = .ok (.iload 12, 2) := by decide +kernel
theorem dL_act_315 : decode cL_act 315 = .ok (.iload 11, 2) := by decide +kernel
theorem dL_act_317 : decode cL_act 317 = .ok (.ifCond .le 8, 3) := by decide +kernel
theorem dL_act_320 : decode cL_act 320 = .ok (.iload 11, 2) := by decide +kernel
theorem dL_act_322 : decode cL_act 322 = .ok (.goto 5, 3) := by decide +kernel
theorem dL_act_325 : decode cL_act 325 = .ok (.bipush 10, 2) := by decide +kernel
theorem dL_act_327 : decode cL_act 327 = .ok (.if_icmp .ne 33, 3) := by decide +kernel
theorem dL_act_330 : decode cL_act 330 = .ok (.aload_n 0, 1) := by decide +kernel
theorem dL_act_331 : decode cL_act 331 = .ok (.iconst 0, 1) := by decide +kernel
theorem dL_act_332 : decode cL_act 332 = .ok (.invokevirtual 14, 3) := by decide +kernel
theorem dL_act_335 : decode cL_act 335 = .ok (.iload 11, 2) := by decide +kernel
theorem dL_act_337 : decode cL_act 337 = .ok (.ifCond .le 8, 3) := by decide +kernel
theorem dL_act_340 : decode cL_act 340 = .ok (.iload 9, 2) := by decide +kernel
theorem dL_act_342 : decode cL_act 342 = .ok (.goto 10, 3) := by decide +kernel
theorem dL_act_345 : decode cL_act 345 = .ok (.iload 9, 2) := by decide +kernel
theorem dL_act_347 : decode cL_act 347 = .ok (.iconst 1, 1) := by decide +kernel
theorem dL_act_348 : decode cL_act 348 = .ok (.iload 4, 2) := by decide +kernel
theorem dL_act_350 : decode cL_act 350 = .ok (.ishl, 1) := by decide +kernel
theorem dL_act_351 : decode cL_act 351 = .ok (.isub, 1) := by decide +kernel
theorem dL_act_352 : decode cL_act 352 = .ok (.if_icmp .ne 8, 3) := by decide +kernel
theorem dL_act_355 : decode cL_act 355 = .ok (.iload 12, 2) := by decide +kernel
theorem dL_act_357 : decode cL_act 357 = .ok (.goto 5, 3) := by decide +kernel
theorem dL_act_360 : decode cL_act 360 = .ok (.bipush (-9), 2) := by decide +kernel
theorem dL_act_362 : decode cL_act 362 = .ok (.ireturn, 1) := by decide +kernel
theorem dL_act_363 : decode cL_act 363 = .ok (.iload_n 2, 1) := by decide +kernel
theorem dL_act_364 : decode cL_act 364 = .ok (.bipush 12, 2) := by decide +kernel
theorem dL_act_366 : decode cL_act 366 = .ok (.if_icmp .ge 136, 3) := by decide +kernel
theorem dL_act_369 : decode cL_act 369 = .ok (.aload_n 0, 1) := by decide +kernel
theorem dL_act_370 : decode cL_act 370 = .ok (.iload 4, 2) := by decide +kernel
theorem dL_act_372 : decode cL_act 372 = .ok (.iconst 1, 1) := by decide +kernel
theorem dL_act_373 : decode cL_act 373 = .ok (.invokevirtual 20, 3) := by decide +kernel
theorem dL_act_376 : decode cL_act 376 = .ok (.aload_n 0, 1) := by decide +kernel
theorem dL_act_377 : decode cL_act 377 = .ok (.iload 4, 2) := by decide +kernel
theorem dL_act_379 : decode cL_act 379 = .ok (.iconst 2, 1) := by decide +kernel
theorem dL_act_380 : decode cL_act 380 = .ok (.invokevirtual 20, 3) := by decide +kernel
theorem dL_act_383 : decode cL_act 383 = .ok (.iadd, 1) := by decide +kernel
theorem dL_act_384 : decode cL_act 384 = .ok (.iload 6, 2) := by decide +kernel
theorem dL_act_386 : decode cL_act 386 = .ok (.isub, 1) := by decide +kernel
theorem dL_act_387 : decode cL_act 387 = .ok (.istore 10, 2) := by decide +kernel
theorem dL_act_389 : decode cL_act 389 = .ok (.aload_n 0, 1) := by decide +kernel
theorem dL_act_390 : decode cL_act 390 = .ok (.iload 5, 2) := by decide +kernel
theorem dL_act_392 : decode cL_act 392 = .ok (.iconst 3, 1) := by decide +kernel
theorem dL_act_393 : decode cL_act 393 = .ok (.invokevirtual 24, 3) := by decide +kernel
theorem dL_act_396 : decode cL_act 396 = .ok (.istore 11, 2) := by decide +kernel
theorem dL_act_398 : decode cL_act 398 = .ok (.iload 7, 2) := by decide +kernel
theorem dL_act_400 : decode cL_act 400 = .ok (.ifCond .eq 16, 3) := by decide +kernel
theorem dL_act_403 : decode cL_act 403 = .ok (.iload 8, 2) := by decide +kernel
theorem dL_act_405 : decode cL_act 405 = .ok (.ifCond .eq 7, 3) := by decide +kernel
theorem dL_act_408 : decode cL_act 408 = .ok (.iconst 0, 1) := by decide +kernel
theorem dL_act_409 : decode cL_act 409 = .ok (.goto 8, 3) := by decide +kernel
theorem dL_act_412 : decode cL_act 412 = .ok (.iconst 3, 1) := by decide +kernel
theorem dL_act_413 : decode cL_act 413 = .ok (.goto 4, 3) := by decide +kernel
theorem dL_act_416 : decode cL_act 416 = .ok (.iconst 5, 1) := by decide +kernel
theorem dL_act_417 : decode cL_act 417 = .ok (.istore 12, 2) := by decide +kernel
theorem dL_act_419 : decode cL_act 419 = .ok (.aload_n 0, 1) := by decide +kernel
theorem dL_act_420 : decode cL_act 420 = .ok (.iload 5, 2) := by decide +kernel
theorem dL_act_422 : decode cL_act 422 = .ok (.iload 4, 2) := by decide +kernel
theorem dL_act_424 : decode cL_act 424 = .ok (.invokevirtual 68, 3) := by decide +kernel
theorem dL_act_427 : decode cL_act 427 = .ok (.istore 13, 2) := by decide +kernel
theorem dL_act_429 : decode cL_act 429 = .ok (.iload 13, 2) := by decide +kernel
theorem dL_act_431 : decode cL_act 431 = .ok (.iload 12, 2) := by decide +kernel
theorem dL_act_433 : decode cL_act 433 = .ok (.ifCond .le 8, 3) := by decide +kernel
theorem dL_act_436 : decode cL_act 436 = .ok (.iload 12, 2) := by decide +kernel
theorem dL_act_438 : decode cL_act 438 = .ok (.goto 8, 3) := by decide +kernel
theorem dL_act_441 : decode cL_act 441 = .ok (.bipush 10, 2) := by decide +kernel
theorem dL_act_443 : decode cL_act 443 = .ok (.iload 10, 2) := by decide +kernel
theorem dL_act_445 : decode cL_act 445 = .ok (.iadd, 1) := by decide +kernel
theorem dL_act_446 : decode cL_act 446 = .ok (.if_icmp .ne 53, 3) := by decide +kernel
theorem dL_act_449 : decode cL_act 449 = .ok (.aload_n 0, 1) := by decide +kernel
theorem dL_act_450 : decode cL_act 450 = .ok (.iload 5, 2) := by decide +kernel
theorem dL_act_452 : decode cL_act 452 = .ok (.iconst 0, 1) := by decide +kernel
theorem dL_act_453 : decode cL_act 453 = .ok (.invokevirtual 24, 3) := by decide +kernel
theorem dL_act_456 : decode cL_act 456 = .ok (.iload 12, 2) := by decide +kernel
theorem dL_act_458 : decode cL_act 458 = .ok (.ifCond .le 8, 3) := by decide +kernel
theorem dL_act_461 : decode cL_act 461 = .ok (.iload 6, 2) := by decide +kernel
theorem dL_act_463 : decode cL_act 463 = .ok (.goto 5, 3) := by decide +kernel
theorem dL_act_466 : decode cL_act 466 = .ok (.iload 10, 2) := by decide +kernel
theorem dL_act_468 : decode cL_act 468 = .ok (.if_icmp .ne 31, 3) := by decide +kernel
theorem dL_act_471 : decode cL_act 471 = .ok (.aload_n 0, 1) := by decide +kernel
theorem dL_act_472 : decode cL_act 472 = .ok (.iload 5, 2) := by decide +kernel
theorem dL_act_474 : decode cL_act 474 = .ok (.iconst 3, 1) := by decide +kernel
theorem dL_act_475 : decode cL_act 475 = .ok (.invokevirtual 24, 3) := by decide +kernel
theorem dL_act_478 : decode cL_act 478 = .ok (.iload 11, 2) := by decide +kernel
theorem dL_act_480 : decode cL_act 480 = .ok (.iload 12, 2) := by decide +kernel
theorem dL_act_482 : decode cL_act 482 = .ok (.ifCond .le 7, 3) := by decide +kernel
theorem dL_act_485 : decode cL_act 485 = .ok (.iconst 0, 1) := by decide +kernel
theorem dL_act_486 : decode cL_act 486 = .ok (.goto 4, 3) := by decide +kernel
theorem dL_act_489 : decode cL_act 489 = .ok (.iconst 1, 1) := by decide +kernel
theorem dL_act_490 : decode cL_act 490 = .ok (.iadd, 1) := by decide +kernel
theorem dL_act_491 : decode cL_act 491 = .ok (.if_icmp .ne 8, 3) := by decide +kernel
theorem dL_act_494 : decode cL_act 494 = .ok (.iload 13, 2) := by decide +kernel
theorem dL_act_496 : decode cL_act 496 = .ok (.goto 5, 3) := by decide +kernel
theorem dL_act_499 : decode cL_act 499 = .ok (.bipush (-9), 2) := by decide +kernel
theorem dL_act_501 : decode cL_act 501 = .ok (.ireturn, 1) := by decide +kernel
theorem dL_act_502 : decode cL_act 502 = .ok (.iload_n 2, 1) := by decide +kernel
theorem dL_act_503 : decode cL_act 503 = .ok (.bipush 14, 2) := by decide +kernel
theorem dL_act_505 : decode cL_act 505 = .ok (.if_icmp .ge 213, 3) := by decide +kernel
theorem dL_act_508 : decode cL_act 508 = .ok (.iload_n 3, 1) := by decide +kernel
theorem dL_act_509 : decode cL_act 509 = .ok (.bipush 10, 2) := by decide +kernel
theorem dL_act_511 : decode cL_act 511 = .ok (.idiv, 1) := by decide +kernel
theorem dL_act_512 : decode cL_act 512 = .ok (.iconst 2, 1) := by decide +kernel
theorem dL_act_513 : decode cL_act 513 = .ok (.irem, 1) := by decide +kernel
theorem dL_act_514 : decode cL_act 514 = .ok (.ifCond .ne 7, 3) := by decide +kernel
theorem dL_act_517 : decode cL_act 517 = .ok (.iconst 1, 1) := by decide +kernel
theorem dL_act_518 : decode cL_act 518 = .ok (.goto 4, 3) := by decide +kernel
theorem dL_act_521 : decode cL_act 521 = .ok (.iconst 0, 1) := by decide +kernel
theorem dL_act_522 : decode cL_act 522 = .ok (.istore 10, 2) := by decide +kernel
theorem dL_act_524 : decode cL_act 524 = .ok (.iload_n 3, 1) := by decide +kernel
theorem dL_act_525 : decode cL_act 525 = .ok (.bipush 20, 2) := by decide +kernel
theorem dL_act_527 : decode cL_act 527 = .ok (.idiv, 1) := by decide +kernel
theorem dL_act_528 : decode cL_act 528 = .ok (.bipush 11, 2) := by decide +kernel
theorem dL_act_530 : decode cL_act 530 = .ok (.irem, 1) := by decide +kernel
theorem dL_act_531 : decode cL_act 531 = .ok (.istore 11, 2) := by decide +kernel
theorem dL_act_533 : decode cL_act 533 = .ok (.aload_n 0, 1) := by decide +kernel
theorem dL_act_534 : decode cL_act 534 = .ok (.iload 4, 2) := by decide +kernel
theorem dL_act_536 : decode cL_act 536 = .ok (.iload 10, 2) := by decide +kernel
theorem dL_act_538 : decode cL_act 538 = .ok (.ifCond .eq 7, 3) := by decide +kernel
theorem dL_act_541 : decode cL_act 541 = .ok (.iconst 3, 1) := by decide +kernel
theorem dL_act_542 : decode cL_act 542 = .ok (.goto 4, 3) := by decide +kernel
theorem dL_act_545 : decode cL_act 545 = .ok (.iconst 4, 1) := by decide +kernel
theorem dL_act_546 : decode cL_act 546 = .ok (.invokevirtual 20, 3) := by decide +kernel
theorem dL_act_549 : decode cL_act 549 = .ok (.istore 12, 2) := by decide +kernel
theorem dL_act_551 : decode cL_act 551 = .ok (.aload_n 0, 1) := by decide +kernel
theorem dL_act_552 : decode cL_act 552 = .ok (.iload 4, 2) := by decide +kernel
theorem dL_act_554 : decode cL_act 554 = .ok (.iload 10, 2) := by decide +kernel
theorem dL_act_556 : decode cL_act 556 = .ok (.ifCond .eq 7, 3) := by decide +kernel
theorem dL_act_559 : decode cL_act 559 = .ok (.iconst 4, 1) := by decide +kernel
theorem dL_act_560 : decode cL_act 560 = .ok (.goto 4, 3) := by decide +kernel
theorem dL_act_563 : decode cL_act 563 = .ok (.iconst 3, 1) := by decide +kernel
theorem dL_act_564 : decode cL_act 564 = .ok (.invokevirtual 20, 3) := by decide +kernel
theorem dL_act_567 : decode cL_act 567 = .ok (.istore 13, 2) := by decide +kernel
theorem dL_act_569 : decode cL_act 569 = .ok (.iload 11, 2) := by decide +kernel
theorem dL_act_571 : decode cL_act 571 = .ok (.iload 4, 2) := by decide +kernel
theorem dL_act_573 : decode cL_act 573 = .ok (.if_icmp .eq 17, 3) := by decide +kernel
theorem dL_act_576 : decode cL_act 576 = .ok (.iload 11, 2) := by decide +kernel
theorem dL_act_578 : decode cL_act 578 = .ok (.bipush 10, 2) := by decide +kernel
theorem dL_act_580 : decode cL_act 580 = .ok (.if_icmp .ge 14, 3) := by decide +kernel
theorem dL_act_583 : decode cL_act 583 = .ok (.iload 11, 2) := by decide +kernel
theorem dL_act_585 : decode cL_act 585 = .ok (.iload 12, 2) := by decide +kernel
theorem dL_act_587 : decode cL_act 587 = .ok (.if_icmp .ne 7, 3) := by decide +kernel
theorem dL_act_590 : decode cL_act 590 = .ok (.iconst (-1), 1) := by decide +kernel
theorem dL_act_591 : decode cL_act 591 = .ok (.goto 32, 3) := by decide +kernel
theorem dL_act_594 : decode cL_act 594 = .ok (.iload 11, 2) := by decide +kernel
theorem dL_act_596 : decode cL_act 596 = .ok (.bipush 10, 2) := by decide +kernel
theorem dL_act_598 : decode cL_act 598 = .ok (.if_icmp .ge 23, 3) := by decide +kernel
theorem dL_act_601 : decode cL_act 601 = .ok (.iload 8, 2) := by decide +kernel
theorem dL_act_603 : decode cL_act 603 = .ok (.ifCond .eq 18, 3) := by decide +kernel
theorem dL_act_606 : decode cL_act 606 = .ok (.aload_n 0, 1) := by decide +kernel
theorem dL_act_607 : decode cL_act 607 = .ok (.iload 11, 2) := by decide +kernel
theorem dL_act_609 : decode cL_act 609 = .ok (.iconst 0, 1) := by decide +kernel
theorem dL_act_610 : decode cL_act 610 = .ok (.invokevirtual 20, 3) := by decide +kernel
theorem dL_act_613 : decode cL_act 613 = .ok (.iconst 1, 1) := by decide +kernel
theorem dL_act_614 : decode cL_act 614 = .ok (.if_icmp .ne 7, 3) := by decide +kernel
theorem dL_act_617 : decode cL_act 617 = .ok (.iconst 4, 1) := by decide +kernel
theorem dL_act_618 : decode cL_act 618 = .ok (.goto 5, 3) := by decide +kernel
theorem dL_act_621 : decode cL_act 621 = .ok (.bipush 10, 2) := by decide +kernel
theorem dL_act_623 : decode cL_act 623 = .ok (.istore 14, 2) := by decide +kernel
theorem dL_act_625 : decode cL_act 625 = .ok (.aload_n 0, 1) := by decide +kernel
theorem dL_act_626 : decode cL_act 626 = .ok (.iload 4, 2) := by decide +kernel
theorem dL_act_628 : decode cL_act 628 = .ok (.iload 10, 2) := by decide +kernel
theorem dL_act_630 : decode cL_act 630 = .ok (.iload 11, 2) := by decide +kernel
theorem dL_act_632 : decode cL_act 632 = .ok (.invokevirtual 48, 3) := by decide +kernel
theorem dL_act_635 : decode cL_act 635 = .ok (.istore 15, 2) := by decide +kernel
theorem dL_act_637 : decode cL_act 637 = .ok (.iload 15, 2) := by decide +kernel
theorem dL_act_639 : decode cL_act 639 = .ok (.iload 14, 2) := by decide +kernel
theorem dL_act_641 : decode cL_act 641 = .ok (.if_icmp .ne 74, 3) := by decide +kernel
theorem dL_act_644 : decode cL_act 644 = .ok (.aload_n 0, 1) := by decide +kernel
theorem dL_act_645 : decode cL_act 645 = .ok (.iload 4, 2) := by decide +kernel
theorem dL_act_647 : decode cL_act 647 = .ok (.iload 10, 2) := by decide +kernel
theorem dL_act_649 : decode cL_act 649 = .ok (.ifCond .eq 7, 3) := by decide +kernel
theorem dL_act_652 : decode cL_act 652 = .ok (.iconst 4, 1) := by decide +kernel
theorem dL_act_653 : decode cL_act 653 = .ok (.goto 4, 3) := by decide +kernel
theorem dL_act_656 : decode cL_act 656 = .ok (.iconst 3, 1) := by decide +kernel
theorem dL_act_657 : decode cL_act 657 = .ok (.invokevirtual 20, 3) := by decide +kernel
theorem dL_act_660 : decode cL_act 660 = .ok (.iload 14, 2) := by decide +kernel
theorem dL_act_662 : decode cL_act 662 = .ok (.bipush 10, 2) := by decide +kernel
theorem dL_act_664 : decode cL_act 664 = .ok (.if_icmp .ge 8, 3) := by decide +kernel
theorem dL_act_667 : decode cL_act 667 = .ok (.iload 13, 2) := by decide +kernel
theorem dL_act_669 : decode cL_act 669 = .ok (.goto 17, 3) := by decide +kernel
theorem dL_act_672 : decode cL_act 672 = .ok (.iload 11, 2) := by decide +kernel
theorem dL_act_674 : decode cL_act 674 = .ok (.bipush 10, 2) := by decide +kernel
theorem dL_act_676 : decode cL_act 676 = .ok (.if_icmp .ne 8, 3) := by decide +kernel
theorem dL_act_679 : decode cL_act 679 = .ok (.bipush (-4), 2) := by decide +kernel
theorem dL_act_681 : decode cL_act 681 = .ok (.goto 5, 3) := by decide +kernel
theorem dL_act_684 : decode cL_act 684 = .ok (.iload 11, 2) := by decide +kernel
theorem dL_act_686 : decode cL_act 686 = .ok (.if_icmp .ne 29, 3) := by decide +kernel
theorem dL_act_689 : decode cL_act 689 = .ok (.aload_n 0, 1) := by decide +kernel
theorem dL_act_690 : decode cL_act 690 = .ok (.iload 4, 2) := by decide +kernel
theorem dL_act_692 : decode cL_act 692 = .ok (.iload 10, 2) := by decide +kernel
theorem dL_act_694 : decode cL_act 694 = .ok (.ifCond .eq 7, 3) := by decide +kernel
theorem dL_act_697 : decode cL_act 697 = .ok (.iconst 3, 1) := by decide +kernel
theorem dL_act_698 : decode cL_act 698 = .ok (.goto 4, 3) := by decide +kernel
theorem dL_act_701 : decode cL_act 701 = .ok (.iconst 4, 1) := by decide +kernel
theorem dL_act_702 : decode cL_act 702 = .ok (.invokevirtual 20, 3) := by decide +kernel
theorem dL_act_705 : decode cL_act 705 = .ok (.iload 12, 2) := by decide +kernel
theorem dL_act_707 : decode cL_act 707 = .ok (.if_icmp .ne 8, 3) := by decide +kernel
theorem dL_act_710 : decode cL_act 710 = .ok (.iload 15, 2) := by decide +kernel
theorem dL_act_712 : decode cL_act 712 = .ok (.goto 5, 3) := by decide +kernel
theorem dL_act_715 : decode cL_act 715 = .ok (.bipush (-9), 2) := by decide +kernel
theorem dL_act_717 : decode cL_act 717 = .ok (.ireturn, 1) := by decide +kernel
theorem dL_act_718 : decode cL_act 718 = .ok (.iload_n 2, 1) := by decide +kernel
theorem dL_act_719 : decode cL_act 719 = .ok (.bipush 14, 2) := by decide +kernel
theorem dL_act_721 : decode cL_act 721 = .ok (.if_icmp .ne 144, 3) := by decide +kernel
theorem dL_act_724 : decode cL_act 724 = .ok (.iload_n 3, 1) := by decide +kernel
theorem dL_act_725 : decode cL_act 725 = .ok (.bipush 10, 2) := by decide +kernel
theorem dL_act_727 : decode cL_act 727 = .ok (.idiv, 1) := by decide +kernel
theorem dL_act_728 : decode cL_act 728 = .ok (.bipush 6, 2) := by decide +kernel
theorem dL_act_730 : decode cL_act 730 = .ok (.irem, 1) := by decide +kernel
theorem dL_act_731 : decode cL_act 731 = .ok (.istore 10, 2) := by decide +kernel
theorem dL_act_733 : decode cL_act 733 = .ok (.iload 10, 2) := by decide +kernel
theorem dL_act_735 : decode cL_act 735 = .ok (.iconst 1, 1) := by decide +kernel
theorem dL_act_736 : decode cL_act 736 = .ok (.iadd, 1) := by decide +kernel
theorem dL_act_737 : decode cL_act 737 = .ok (.iload_n 3, 1) := by decide +kernel
theorem dL_act_738 : decode cL_act 738 = .ok (.bipush 60, 2) := by decide +kernel
theorem dL_act_740 : decode cL_act 740 = .ok (.idiv, 1) := by decide +kernel
theorem dL_act_741 : decode cL_act 741 = .ok (.iconst 5, 1) := by decide +kernel
theorem dL_act_742 : decode cL_act 742 = .ok (.irem, 1) := by decide +kernel
theorem dL_act_743 : decode cL_act 743 = .ok (.iadd, 1) := by decide +kernel
theorem dL_act_744 : decode cL_act 744 = .ok (.bipush 6, 2) := by decide +kernel
theorem dL_act_746 : decode cL_act 746 = .ok (.irem, 1) := by decide +kernel
theorem dL_act_747 : decode cL_act 747 = .ok (.istore 11, 2) := by decide +kernel
theorem dL_act_749 : decode cL_act 749 = .ok (.bipush 10, 2) := by decide +kernel
theorem dL_act_751 : decode cL_act 751 = .ok (.aload_n 0, 1) := by decide +kernel
theorem dL_act_752 : decode cL_act 752 = .ok (.iload 4, 2) := by decide +kernel
theorem dL_act_754 : decode cL_act 754 = .ok (.iconst 1, 1) := by decide +kernel
theorem dL_act_755 : decode cL_act 755 = .ok (.invokevirtual 20, 3) := by decide +kernel
theorem dL_act_758 : decode cL_act 758 = .ok (.imul, 1) := by decide +kernel
theorem dL_act_759 : decode cL_act 759 = .ok (.aload_n 0, 1) := by decide +kernel
theorem dL_act_760 : decode cL_act 760 = .ok (.iload 4, 2) := by decide +kernel
theorem dL_act_762 : decode cL_act 762 = .ok (.iconst 2, 1) := by decide +kernel
theorem dL_act_763 : decode cL_act 763 = .ok (.invokevirtual 20, 3) := by decide +kernel
theorem dL_act_766 : decode cL_act 766 = .ok (.iadd, 1) := by decide +kernel
theorem dL_act_767 : decode cL_act 767 = .ok (.istore 12, 2) := by decide +kernel
theorem dL_act_769 : decode cL_act 769 = .ok (.aload_n 0, 1) := by decide +kernel
theorem dL_act_770 : decode cL_act 770 = .ok (.iload 4, 2) := by decide +kernel
theorem dL_act_772 : decode cL_act 772 = .ok (.iload 10, 2) := by decide +kernel
theorem dL_act_774 : decode cL_act 774 = .ok (.iload 11, 2) := by decide +kernel
theorem dL_act_776 : decode cL_act 776 = .ok (.invokevirtual 52, 3) := by decide +kernel
theorem dL_act_779 : decode cL_act 779 = .ok (.istore 13, 2) := by decide +kernel
theorem dL_act_781 : decode cL_act 781 = .ok (.iload 8, 2) := by decide +kernel
theorem dL_act_783 : decode cL_act 783 = .ok (.ifCond .eq 20, 3) := by decide +kernel
theorem dL_act_786 : decode cL_act 786 = .ok (.iload 13, 2) := by decide +kernel
theorem dL_act_788 : decode cL_act 788 = .ok (.bipush (-2), 2) := by decide +kernel
theorem dL_act_790 : decode cL_act 790 = .ok (.if_icmp .ne 8, 3) := by decide +kernel
theorem dL_act_793 : decode cL_act 793 = .ok (.iload 13, 2) := by decide +kernel
theorem dL_act_795 : decode cL_act 795 = .ok (.goto 69, 3) := by decide +kernel
theorem dL_act_798 : decode cL_act 798 = .ok (.bipush (-9), 2) := by decide +kernel
theorem dL_act_800 : decode cL_act 800 = .ok (.goto 64, 3) := by decide +kernel
theorem dL_act_803 : decode cL_act 803 = .ok (.iload 13, 2) := by decide +kernel
theorem dL_act_805 : decode cL_act 805 = .ok (.iload 12, 2) := by decide +kernel
theorem dL_act_807 : decode cL_act 807 = .ok (.if_icmp .ne 55, 3) := by decide +kernel
theorem dL_act_810 : decode cL_act 810 = .ok (.aload_n 0, 1) := by decide +kernel
theorem dL_act_811 : decode cL_act 811 = .ok (.iload 4, 2) := by decide +kernel
theorem dL_act_813 : decode cL_act 813 = .ok (.iconst 1, 1) := by decide +kernel
theorem dL_act_814 : decode cL_act 814 = .ok (.invokevirtual 20, 3) := by decide +kernel
theorem dL_act_817 : decode cL_act 817 = .ok (.aload_n 0, 1) := by decide +kernel
theorem dL_act_818 : decode cL_act 818 = .ok (.iload 4, 2) := by decide +kernel
theorem dL_act_820 : decode cL_act 820 = .ok (.iconst 2, 1) := by decide +kernel
theorem dL_act_821 : decode cL_act 821 = .ok (.invokevirtual 20, 3) := by decide +kernel
theorem dL_act_824 : decode cL_act 824 = .ok (.iadd, 1) := by decide +kernel
theorem dL_act_825 : decode cL_act 825 = .ok (.iload 10, 2) := by decide +kernel
theorem dL_act_827 : decode cL_act 827 = .ok (.iload 11, 2) := by decide +kernel
theorem dL_act_829 : decode cL_act 829 = .ok (.iadd, 1) := by decide +kernel
theorem dL_act_830 : decode cL_act 830 = .ok (.if_icmp .ne 32, 3) := by decide +kernel
theorem dL_act_833 : decode cL_act 833 = .ok (.aload_n 0, 1) := by decide +kernel
theorem dL_act_834 : decode cL_act 834 = .ok (.iload 4, 2) := by decide +kernel
theorem dL_act_836 : decode cL_act 836 = .ok (.iconst 1, 1) := by decide +kernel
theorem dL_act_837 : decode cL_act 837 = .ok (.invokevirtual 20, 3) := by decide +kernel
theorem dL_act_840 : decode cL_act 840 = .ok (.iload 10, 2) := by decide +kernel
theorem dL_act_842 : decode cL_act 842 = .ok (.iload 11, 2) := by decide +kernel
theorem dL_act_844 : decode cL_act 844 = .ok (.if_icmp .ge 8, 3) := by decide +kernel
theorem dL_act_847 : decode cL_act 847 = .ok (.iload 10, 2) := by decide +kernel
theorem dL_act_849 : decode cL_act 849 = .ok (.goto 5, 3) := by decide +kernel
theorem dL_act_852 : decode cL_act 852 = .ok (.iload 11, 2) := by decide +kernel
theorem dL_act_854 : decode cL_act 854 = .ok (.if_icmp .ne 8, 3) := by decide +kernel
theorem dL_act_857 : decode cL_act 857 = .ok (.iload 13, 2) := by decide +kernel
theorem dL_act_859 : decode cL_act 859 = .ok (.goto 5, 3) := by decide +kernel
theorem dL_act_862 : decode cL_act 862 = .ok (.bipush (-9), 2) := by decide +kernel
theorem dL_act_864 : decode cL_act 864 = .ok (.ireturn, 1) := by decide +kernel
theorem dL_act_865 : decode cL_act 865 = .ok (.iload_n 3, 1) := by decide +kernel
theorem dL_act_866 : decode cL_act 866 = .ok (.iconst 2, 1) := by decide +kernel
theorem dL_act_867 : decode cL_act 867 = .ok (.irem, 1) := by decide +kernel
theorem dL_act_868 : decode cL_act 868 = .ok (.ifCond .ne 60, 3) := by decide +kernel
theorem dL_act_871 : decode cL_act 871 = .ok (.iconst 1, 1) := by decide +kernel
theorem dL_act_872 : decode cL_act 872 = .ok (.iload_n 3, 1) := by decide +kernel
theorem dL_act_873 : decode cL_act 873 = .ok (.iconst 2, 1) := by decide +kernel
theorem dL_act_874 : decode cL_act 874 = .ok (.idiv, 1) := by decide +kernel
theorem dL_act_875 : decode cL_act 875 = .ok (.iconst 5, 1) := by decide +kernel
theorem dL_act_876 : decode cL_act 876 = .ok (.irem, 1) := by decide +kernel
theorem dL_act_877 : decode cL_act 877 = .ok (.iadd, 1) := by decide +kernel
theorem dL_act_878 : decode cL_act 878 = .ok (.istore 10, 2) := by decide +kernel
theorem dL_act_880 : decode cL_act 880 = .ok (.aload_n 0, 1) := by decide +kernel
theorem dL_act_881 : decode cL_act 881 = .ok (.bipush 12, 2) := by decide +kernel
theorem dL_act_883 : decode cL_act 883 = .ok (.invokevirtual 14, 3) := by decide +kernel
theorem dL_act_886 : decode cL_act 886 = .ok (.istore 11, 2) := by decide +kernel
theorem dL_act_888 : decode cL_act 888 = .ok (.aload_n 0, 1) := by decide +kernel
theorem dL_act_889 : decode cL_act 889 = .ok (.iload 10, 2) := by decide +kernel
theorem dL_act_891 : decode cL_act 891 = .ok (.invokevirtual 59, 3) := by decide +kernel
theorem dL_act_894 : decode cL_act 894 = .ok (.iload 11, 2) := by decide +kernel
theorem dL_act_896 : decode cL_act 896 = .ok (.if_icmp .ne 29, 3) := by decide +kernel
theorem dL_act_899 : decode cL_act 899 = .ok (.aload_n 0, 1) := by decide +kernel
theorem dL_act_900 : decode cL_act 900 = .ok (.bipush 12, 2) := by decide +kernel
theorem dL_act_902 : decode cL_act 902 = .ok (.invokevirtual 14, 3) := by decide +kernel
theorem dL_act_905 : decode cL_act 905 = .ok (.iload 10, 2) := by decide +kernel
theorem dL_act_907 : decode cL_act 907 = .ok (.if_icmp .ne 18, 3) := by decide +kernel
theorem dL_act_910 : decode cL_act 910 = .ok (.aload_n 0, 1) := by decide +kernel
theorem dL_act_911 : decode cL_act 911 = .ok (.iconst 0, 1) := by decide +kernel
theorem dL_act_912 : decode cL_act 912 = .ok (.invokevirtual 14, 3) := by decide +kernel
theorem dL_act_915 : decode cL_act 915 = .ok (.iload 9, 2) := by decide +kernel
theorem dL_act_917 : decode cL_act 917 = .ok (.if_icmp .ne 8, 3) := by decide +kernel
theorem dL_act_920 : decode cL_act 920 = .ok (.iload 11, 2) := by decide +kernel
theorem dL_act_922 : decode cL_act 922 = .ok (.goto 5, 3) := by decide +kernel
theorem dL_act_925 : decode cL_act 925 = .ok (.bipush (-9), 2) := by decide +kernel
theorem dL_act_927 : decode cL_act 927 = .ok (.ireturn, 1) := by decide +kernel
theorem dL_act_928 : decode cL_act 928 = .ok (.iload_n 3, 1) := by decide +kernel
theorem dL_act_929 : decode cL_act 929 = .ok (.bipush 6, 2) := by decide +kernel
theorem dL_act_931 : decode cL_act 931 = .ok (.idiv, 1) := by decide +kernel
theorem dL_act_932 : decode cL_act 932 = .ok (.sipush 1024, 3) := by decide +kernel
theorem dL_act_935 : decode cL_act 935 = .ok (.irem, 1) := by decide +kernel
theorem dL_act_936 : decode cL_act 936 = .ok (.istore 10, 2) := by decide +kernel
theorem dL_act_938 : decode cL_act 938 = .ok (.aload_n 0, 1) := by decide +kernel
theorem dL_act_939 : decode cL_act 939 = .ok (.iload 5, 2) := by decide +kernel
theorem dL_act_941 : decode cL_act 941 = .ok (.iconst 1, 1) := by decide +kernel
theorem dL_act_942 : decode cL_act 942 = .ok (.invokevirtual 24, 3) := by decide +kernel
theorem dL_act_945 : decode cL_act 945 = .ok (.istore 11, 2) := by decide +kernel
theorem dL_act_947 : decode cL_act 947 = .ok (.aload_n 0, 1) := by decide +kernel
theorem dL_act_948 : decode cL_act 948 = .ok (.iload 5, 2) := by decide +kernel
theorem dL_act_950 : decode cL_act 950 = .ok (.iload 10, 2) := by decide +kernel
theorem dL_act_952 : decode cL_act 952 = .ok (.invokevirtual 56, 3) := by decide +kernel
theorem dL_act_955 : decode cL_act 955 = .ok (.iload 11, 2) := by decide +kernel
theorem dL_act_957 : decode cL_act 957 = .ok (.if_icmp .ne 20, 3) := by decide +kernel
theorem dL_act_960 : decode cL_act 960 = .ok (.aload_n 0, 1) := by decide +kernel
theorem dL_act_961 : decode cL_act 961 = .ok (.iload 5, 2) := by decide +kernel
theorem dL_act_963 : decode cL_act 963 = .ok (.iconst 1, 1) := by decide +kernel
theorem dL_act_964 : decode cL_act 964 = .ok (.invokevirtual 24, 3) := by decide +kernel
theorem dL_act_967 : decode cL_act 967 = .ok (.iload 10, 2) := by decide +kernel
theorem dL_act_969 : decode cL_act 969 = .ok (.if_icmp .ne 8, 3) := by decide +kernel
theorem dL_act_972 : decode cL_act 972 = .ok (.iload 11, 2) := by decide +kernel
theorem dL_act_974 : decode cL_act 974 = .ok (.goto 5, 3) := by decide +kernel
theorem dL_act_977 : decode cL_act 977 = .ok (.bipush (-9), 2) := by decide +kernel
theorem dL_act_979 : decode cL_act 979 = .ok (.ireturn, 1) := by decide +kernel
theorem dL_isDeed_0 : decode cL_isDeed 0 = .ok (.iload_n 0, 1) := by decide +kernel
theorem dL_isDeed_1 : decode cL_isDeed 1 = .ok (.bipush 16, 2) := by decide +kernel
theorem dL_isDeed_3 : decode cL_isDeed 3 = .ok (.irem, 1) := by decide +kernel
theorem dL_isDeed_4 : decode cL_isDeed 4 = .ok (.bipush 14, 2) := by decide +kernel
theorem dL_isDeed_6 : decode cL_isDeed 6 = .ok (.if_icmp .ge 7, 3) := by decide +kernel
theorem dL_isDeed_9 : decode cL_isDeed 9 = .ok (.iconst 1, 1) := by decide +kernel
theorem dL_isDeed_10 : decode cL_isDeed 10 = .ok (.goto 4, 3) := by decide +kernel
theorem dL_isDeed_13 : decode cL_isDeed 13 = .ok (.iconst 0, 1) := by decide +kernel
theorem dL_isDeed_14 : decode cL_isDeed 14 = .ok (.ireturn, 1) := by decide +kernel
theorem dL_law_0 : decode cL_law 0 = .ok (.new 15, 3) := by decide +kernel
theorem dL_law_3 : decode cL_law 3 = .ok (.dup, 1) := by decide +kernel
theorem dL_law_4 : decode cL_law 4 = .ok (.invokespecial 107, 3) := by decide +kernel
theorem dL_law_7 : decode cL_law 7 = .ok (.astore_n 1, 1) := by decide +kernel
theorem dL_law_8 : decode cL_law 8 = .ok (.aload_n 1, 1) := by decide +kernel
theorem dL_law_9 : decode cL_law 9 = .ok (.invokevirtual 108, 3) := by decide +kernel
theorem dL_law_12 : decode cL_law 12 = .ok (.bipush (-2), 2) := by decide +kernel
theorem dL_law_14 : decode cL_law 14 = .ok (.if_icmp .ne 57, 3) := by decide +kernel
theorem dL_law_17 : decode cL_law 17 = .ok (.aload_n 1, 1) := by decide +kernel
theorem dL_law_18 : decode cL_law 18 = .ok (.invokevirtual 111, 3) := by decide +kernel
theorem dL_law_21 : decode cL_law 21 = .ok (.bipush (-2), 2) := by decide +kernel
theorem dL_law_23 : decode cL_law 23 = .ok (.if_icmp .ne 48, 3) := by decide +kernel
theorem dL_law_26 : decode cL_law 26 = .ok (.aload_n 1, 1) := by decide +kernel
theorem dL_law_27 : decode cL_law 27 = .ok (.bipush 12, 2) := by decide +kernel
theorem dL_law_29 : decode cL_law 29 = .ok (.invokevirtual 14, 3) := by decide +kernel
theorem dL_law_32 : decode cL_law 32 = .ok (.iconst 3, 1) := by decide +kernel
theorem dL_law_33 : decode cL_law 33 = .ok (.if_icmp .ne 38, 3) := by decide +kernel
theorem dL_law_36 : decode cL_law 36 = .ok (.aload_n 1, 1) := by decide +kernel
theorem dL_law_37 : decode cL_law 37 = .ok (.iconst 0, 1) := by decide +kernel
theorem dL_law_38 : decode cL_law 38 = .ok (.invokevirtual 14, 3) := by decide +kernel
theorem dL_law_41 : decode cL_law 41 = .ok (.ifCond .ne 30, 3) := by decide +kernel
theorem dL_law_44 : decode cL_law 44 = .ok (.aload_n 1, 1) := by decide +kernel
theorem dL_law_45 : decode cL_law 45 = .ok (.iconst 0, 1) := by decide +kernel
theorem dL_law_46 : decode cL_law 46 = .ok (.invokestatic 114, 3) := by decide +kernel
theorem dL_law_49 : decode cL_law 49 = .ok (.ifCond .eq 22, 3) := by decide +kernel
theorem dL_law_52 : decode cL_law 52 = .ok (.aload_n 1, 1) := by decide +kernel
theorem dL_law_53 : decode cL_law 53 = .ok (.iconst 1, 1) := by decide +kernel
theorem dL_law_54 : decode cL_law 54 = .ok (.invokestatic 114, 3) := by decide +kernel
theorem dL_law_57 : decode cL_law 57 = .ok (.ifCond .eq 14, 3) := by decide +kernel
theorem dL_law_60 : decode cL_law 60 = .ok (.aload_n 1, 1) := by decide +kernel
theorem dL_law_61 : decode cL_law 61 = .ok (.invokevirtual 117, 3) := by decide +kernel
theorem dL_law_64 : decode cL_law 64 = .ok (.ifCond .ne 7, 3) := by decide +kernel
theorem dL_law_67 : decode cL_law 67 = .ok (.iconst 1, 1) := by decide +kernel
theorem dL_law_68 : decode cL_law 68 = .ok (.goto 4, 3) := by decide +kernel
theorem dL_law_71 : decode cL_law 71 = .ok (.iconst 0, 1) := by decide +kernel
theorem dL_law_72 : decode cL_law 72 = .ok (.istore_n 2, 1) := by decide +kernel
theorem dL_law_73 : decode cL_law 73 = .ok (.aload_n 1, 1) := by decide +kernel
theorem dL_law_74 : decode cL_law 74 = .ok (.invokestatic 99, 3) := by decide +kernel
theorem dL_law_77 : decode cL_law 77 = .ok (.lstore_n 3, 1) := by decide +kernel
theorem dL_law_78 : decode cL_law 78 = .ok (.iconst 0, 1) := by decide +kernel
theorem dL_law_79 : decode cL_law 79 = .ok (.istore 5, 2) := by decide +kernel
theorem dL_law_81 : decode cL_law 81 = .ok (.iconst 0, 1) := by decide +kernel
theorem dL_law_82 : decode cL_law 82 = .ok (.istore 6, 2) := by decide +kernel
theorem dL_law_84 : decode cL_law 84 = .ok (.iload 6, 2) := by decide +kernel
theorem dL_law_86 : decode cL_law 86 = .ok (.bipush 60, 2) := by decide +kernel
theorem dL_law_88 : decode cL_law 88 = .ok (.if_icmp .ge 401, 3) := by decide +kernel
theorem dL_law_91 : decode cL_law 91 = .ok (.iload_n 2, 1) := by decide +kernel
theorem dL_law_92 : decode cL_law 92 = .ok (.ifCond .eq 397, 3) := by decide +kernel
theorem dL_law_95 : decode cL_law 95 = .ok (.aload_n 0, 1) := by decide +kernel
theorem dL_law_96 : decode cL_law 96 = .ok (.iload 6, 2) := by decide +kernel
theorem dL_law_98 : decode cL_law 98 = .ok (.invokestatic 120, 3) := by decide +kernel
theorem dL_law_101 : decode cL_law 101 = .ok (.istore 7, 2) := by decide +kernel
theorem dL_law_103 : decode cL_law 103 = .ok (.aload_n 1, 1) := by decide +kernel
theorem dL_law_104 : decode cL_law 104 = .ok (.invokestatic 99, 3) := by decide +kernel
theorem dL_law_107 : decode cL_law 107 = .ok (.lstore 8, 2) := by decide +kernel
theorem dL_law_109 : decode cL_law 109 = .ok (.aload_n 1, 1) := by decide +kernel
theorem dL_law_110 : decode cL_law 110 = .ok (.bipush 14, 2) := by decide +kernel
theorem dL_law_112 : decode cL_law 112 = .ok (.invokevirtual 14, 3) := by decide +kernel
theorem dL_law_115 : decode cL_law 115 = .ok (.istore 10, 2) := by decide +kernel
theorem dL_law_117 : decode cL_law 117 = .ok (.aload_n 1, 1) := by decide +kernel
theorem dL_law_118 : decode cL_law 118 = .ok (.bipush 11, 2) := by decide +kernel
theorem dL_law_120 : decode cL_law 120 = .ok (.invokevirtual 14, 3) := by decide +kernel
theorem dL_law_123 : decode cL_law 123 = .ok (.istore 11, 2) := by decide +kernel
theorem dL_law_125 : decode cL_law 125 = .ok (.aload_n 1, 1) := by decide +kernel
theorem dL_law_126 : decode cL_law 126 = .ok (.iload 7, 2) := by decide +kernel
theorem dL_law_128 : decode cL_law 128 = .ok (.invokestatic 124, 3) := by decide +kernel
theorem dL_law_131 : decode cL_law 131 = .ok (.istore 12, 2) := by decide +kernel
theorem dL_law_133 : decode cL_law 133 = .ok (.aload_n 1, 1) := by decide +kernel
theorem dL_law_134 : decode cL_law 134 = .ok (.bipush 14, 2) := by decide +kernel
theorem dL_law_136 : decode cL_law 136 = .ok (.invokevirtual 14, 3) := by decide +kernel
theorem dL_law_139 : decode cL_law 139 = .ok (.istore 13, 2) := by decide +kernel
theorem dL_law_141 : decode cL_law 141 = .ok (.iload 12, 2) := by decide +kernel
theorem dL_law_143 : decode cL_law 143 = .ok (.bipush (-9), 2) := by decide +kernel
theorem dL_law_145 : decode cL_law 145 = .ok (.if_icmp .eq 119, 3) := by decide +kernel
theorem dL_law_148 : decode cL_law 148 = .ok (.iload 12, 2) := by decide +kernel
theorem dL_law_150 : decode cL_law 150 = .ok (.ifCond .ge 23, 3) := by decide +kernel
theorem dL_law_153 : decode cL_law 153 = .ok (.iload 13, 2) := by decide +kernel
theorem dL_law_155 : decode cL_law 155 = .ok (.iload 10, 2) := by decide +kernel
theorem dL_law_157 : decode cL_law 157 = .ok (.if_icmp .ne 107, 3) := by decide +kernel
theorem dL_law_160 : decode cL_law 160 = .ok (.aload_n 1, 1) := by decide +kernel
theorem dL_law_161 : decode cL_law 161 = .ok (.invokestatic 99, 3) := by decide +kernel
theorem dL_law_164 : decode cL_law 164 = .ok (.lload 8, 2) := by decide +kernel
theorem dL_law_166 : decode cL_law 166 = .ok (.lcmp, 1) := by decide +kernel
theorem dL_law_167 : decode cL_law 167 = .ok (.ifCond .ne 97, 3) := by decide +kernel
theorem dL_law_170 : decode cL_law 170 = .ok (.goto 54, 3) := by decide +kernel
theorem dL_law_173 : decode cL_law 173 = .ok (.iload 13, 2) := by decide +kernel
theorem dL_law_175 : decode cL_law 175 = .ok (.iload 10, 2) := by decide +kernel
theorem dL_law_177 : decode cL_law 177 = .ok (.iconst 4, 1) := by decide +kernel
theorem dL_law_178 : decode cL_law 178 = .ok (.if_icmp .ge 10, 3) := by decide +kernel
theorem dL_law_181 : decode cL_law 181 = .ok (.iload 10, 2) := by decide +kernel
theorem dL_law_183 : decode cL_law 183 = .ok (.iconst 1, 1) := by decide +kernel
theorem dL_law_184 : decode cL_law 184 = .ok (.iadd, 1) := by decide +kernel
theorem dL_law_185 : decode cL_law 185 = .ok (.goto 4, 3) := by decide +kernel
theorem dL_law_188 : decode cL_law 188 = .ok (.iconst 4, 1) := by decide +kernel
theorem dL_law_189 : decode cL_law 189 = .ok (.if_icmp .ne 75, 3) := by decide +kernel
theorem dL_law_192 : decode cL_law 192 = .ok (.aload_n 1, 1) := by decide +kernel
theorem dL_law_193 : decode cL_law 193 = .ok (.bipush 11, 2) := by decide +kernel
theorem dL_law_195 : decode cL_law 195 = .ok (.invokevirtual 14, 3) := by decide +kernel
theorem dL_law_198 : decode cL_law 198 = .ok (.iload 11, 2) := by decide +kernel
theorem dL_law_200 : decode cL_law 200 = .ok (.iload 7, 2) := by decide +kernel
theorem dL_law_202 : decode cL_law 202 = .ok (.invokestatic 128, 3) := by decide +kernel
theorem dL_law_205 : decode cL_law 205 = .ok (.ifCond .eq 14, 3) := by decide +kernel
theorem dL_law_208 : decode cL_law 208 = .ok (.iload 12, 2) := by decide +kernel
theorem dL_law_210 : decode cL_law 210 = .ok (.bipush 10, 2) := by decide +kernel
theorem dL_law_212 : decode cL_law 212 = .ok (.if_icmp .ge 7, 3) := by decide +kernel
theorem dL_law_215 : decode cL_law 215 = .ok (.iconst 1, 1) := by decide +kernel
theorem dL_law_216 : decode cL_law 216 = .ok (.goto 4, 3) := by decide +kernel
theorem dL_law_219 : decode cL_law 219 = .ok (.iconst 0, 1) := by decide +kernel
theorem dL_law_220 : decode cL_law 220 = .ok (.iadd, 1) := by decide +kernel
theorem dL_law_221 : decode cL_law 221 = .ok (.if_icmp .ne 43, 3) := by decide +kernel
theorem dL_law_224 : decode cL_law 224 = .ok (.aload_n 1, 1) := by decide +kernel
theorem dL_law_225 : decode cL_law 225 = .ok (.invokestatic 132, 3) := by decide +kernel
theorem dL_law_228 : decode cL_law 228 = .ok (.ifCond .eq 36, 3) := by decide +kernel
theorem dL_law_231 : decode cL_law 231 = .ok (.aload_n 1, 1) := by decide +kernel
theorem dL_law_232 : decode cL_law 232 = .ok (.invokestatic 136, 3) := by decide +kernel
theorem dL_law_235 : decode cL_law 235 = .ok (.ifCond .eq 29, 3) := by decide +kernel
theorem dL_law_238 : decode cL_law 238 = .ok (.iload 6, 2) := by decide +kernel
theorem dL_law_240 : decode cL_law 240 = .ok (.bipush 8, 2) := by decide +kernel
theorem dL_law_242 : decode cL_law 242 = .ok (.irem, 1) := by decide +kernel
theorem dL_law_243 : decode cL_law 243 = .ok (.bipush 7, 2) := by decide +kernel
theorem dL_law_245 : decode cL_law 245 = .ok (.if_icmp .ne 15, 3) := by decide +kernel
theorem dL_law_248 : decode cL_law 248 = .ok (.aload_n 1, 1) := by decide +kernel
theorem dL_law_249 : decode cL_law 249 = .ok (.iload 7, 2) := by decide +kernel
theorem dL_law_251 : decode cL_law 251 = .ok (.bipush 7, 2) := by decide +kernel
theorem dL_law_253 : decode cL_law 253 = .ok (.idiv, 1) := by decide +kernel
theorem dL_law_254 : decode cL_law 254 = .ok (.invokestatic 114, 3) := by decide +kernel
theorem dL_law_257 : decode cL_law 257 = .ok (.ifCond .eq 7, 3) := by decide +kernel
theorem dL_law_260 : decode cL_law 260 = .ok (.iconst 1, 1) := by decide +kernel
theorem dL_law_261 : decode cL_law 261 = .ok (.goto 4, 3) := by decide +kernel
theorem dL_law_264 : decode cL_law 264 = .ok (.iconst 0, 1) := by decide +kernel
theorem dL_law_265 : decode cL_law 265 = .ok (.istore_n 2, 1) := by decide +kernel
theorem dL_law_266 : decode cL_law 266 = .ok (.iload_n 2, 1) := by decide +kernel
theorem dL_law_267 : decode cL_law 267 = .ok (.ifCond .eq 53, 3) := by decide +kernel
theorem dL_law_270 : decode cL_law 270 = .ok (.iload 12, 2) := by decide +kernel
theorem dL_law_272 : decode cL_law 272 = .ok (.ifCond .lt 48, 3) := by decide +kernel
theorem dL_law_275 : decode cL_law 275 = .ok (.iload 7, 2) := by decide +kernel
theorem dL_law_277 : decode cL_law 277 = .ok (.bipush 17, 2) := by decide +kernel
theorem dL_law_279 : decode cL_law 279 = .ok (.idiv, 1) := by decide +kernel
theorem dL_law_280 : decode cL_law 280 = .ok (.iconst 4, 1) := by decide +kernel
theorem dL_law_281 : decode cL_law 281 = .ok (.irem, 1) := by decide +kernel
theorem dL_law_282 : decode cL_law 282 = .ok (.ifCond .ne 38, 3) := by decide +kernel
theorem dL_law_285 : decode cL_law 285 = .ok (.aload_n 1, 1) := by decide +kernel
theorem dL_law_286 : decode cL_law 286 = .ok (.invokevirtual 108, 3) := by decide +kernel
theorem dL_law_289 : decode cL_law 289 = .ok (.iload 10, 2) := by decide +kernel
theorem dL_law_291 : decode cL_law 291 = .ok (.iconst 4, 1) := by decide +kernel
theorem dL_law_292 : decode cL_law 292 = .ok (.if_icmp .ge 8, 3) := by decide +kernel
theorem dL_law_295 : decode cL_law 295 = .ok (.iload 10, 2) := by decide +kernel
theorem dL_law_297 : decode cL_law 297 = .ok (.goto 4, 3) := by decide +kernel
theorem dL_law_300 : decode cL_law 300 = .ok (.iconst 3, 1) := by decide +kernel
theorem dL_law_301 : decode cL_law 301 = .ok (.if_icmp .ne 17, 3) := by decide +kernel
theorem dL_law_304 : decode cL_law 304 = .ok (.aload_n 1, 1) := by decide +kernel
theorem dL_law_305 : decode cL_law 305 = .ok (.invokestatic 99, 3) := by decide +kernel
theorem dL_law_308 : decode cL_law 308 = .ok (.lload 8, 2) := by decide +kernel
theorem dL_law_310 : decode cL_law 310 = .ok (.lcmp, 1) := by decide +kernel
theorem dL_law_311 : decode cL_law 311 = .ok (.ifCond .ne 7, 3) := by decide +kernel
theorem dL_law_314 : decode cL_law 314 = .ok (.iconst 1, 1) := by decide +kernel
theorem dL_law_315 : decode cL_law 315 = .ok (.goto 4, 3) := by decide +kernel
theorem dL_law_318 : decode cL_law 318 = .ok (.iconst 0, 1) := by decide +kernel
theorem dL_law_319 : decode cL_law 319 = .ok (.istore_n 2, 1) := by decide +kernel
theorem dL_law_320 : decode cL_law 320 = .ok (.iload_n 2, 1) := by decide +kernel
theorem dL_law_321 : decode cL_law 321 = .ok (.ifCond .eq 162, 3) := by decide +kernel
theorem dL_law_324 : decode cL_law 324 = .ok (.iload 6, 2) := by decide +kernel
theorem dL_law_326 : decode cL_law 326 = .ok (.bipush 15, 2) := by decide +kernel
theorem dL_law_328 : decode cL_law 328 = .ok (.irem, 1) := by decide +kernel
theorem dL_law_329 : decode cL_law 329 = .ok (.bipush 14, 2) := by decide +kernel
theorem dL_law_331 : decode cL_law 331 = .ok (.if_icmp .ne 152, 3) := by decide +kernel
theorem dL_law_334 : decode cL_law 334 = .ok (.aload_n 1, 1) := by decide +kernel
theorem dL_law_335 : decode cL_law 335 = .ok (.invokestatic 99, 3) := by decide +kernel
theorem dL_law_338 : decode cL_law 338 = .ok (.lstore 14, 2) := by decide +kernel
theorem dL_law_340 : decode cL_law 340 = .ok (.aload_n 1, 1) := by decide +kernel
theorem dL_law_341 : decode cL_law 341 = .ok (.iconst 0, 1) := by decide +kernel
theorem dL_law_342 : decode cL_law 342 = .ok (.invokevirtual 14, 3) := by decide +kernel
theorem dL_law_345 : decode cL_law 345 = .ok (.istore 16, 2) := by decide +kernel
theorem dL_law_347 : decode cL_law 347 = .ok (.iload 7, 2) := by decide +kernel
theorem dL_law_349 : decode cL_law 349 = .ok (.iconst 3, 1) := by decide +kernel
theorem dL_law_350 : decode cL_law 350 = .ok (.irem, 1) := by decide +kernel
theorem dL_law_351 : decode cL_law 351 = .ok (.istore 17, 2) := by decide +kernel
theorem dL_law_353 : decode cL_law 353 = .ok (.iload 7, 2) := by decide +kernel
theorem dL_law_355 : decode cL_law 355 = .ok (.iconst 3, 1) := by decide +kernel
theorem dL_law_356 : decode cL_law 356 = .ok (.idiv, 1) := by decide +kernel
theorem dL_law_357 : decode cL_law 357 = .ok (.bipush 6, 2) := by decide +kernel
theorem dL_law_359 : decode cL_law 359 = .ok (.irem, 1) := by decide +kernel
theorem dL_law_360 : decode cL_law 360 = .ok (.istore 18, 2) := by decide +kernel
theorem dL_law_362 : decode cL_law 362 = .ok (.aload_n 1, 1) := by decide +kernel
theorem dL_law_363 : decode cL_law 363 = .ok (.iload 17, 2) := by decide +kernel
theorem dL_law_365 : decode cL_law 365 = .ok (.iload 18, 2) := by decide +kernel
theorem dL_law_367 : decode cL_law 367 = .ok (.iconst 0, 1) := by decide +kernel
theorem dL_law_368 : decode cL_law 368 = .ok (.invokevirtual 77, 3) := by decide +kernel
theorem dL_law_371 : decode cL_law 371 = .ok (.istore 19, 2) := by decide +kernel
theorem dL_law_373 : decode cL_law 373 = .ok (.aload_n 1, 1) := by decide +kernel
theorem dL_law_374 : decode cL_law 374 = .ok (.iload 17, 2) := by decide +kernel
theorem dL_law_376 : decode cL_law 376 = .ok (.iload 18, 2) := by decide +kernel
theorem dL_law_378 : decode cL_law 378 = .ok (.iconst 1, 1) := by decide +kernel
theorem dL_law_379 : decode cL_law 379 = .ok (.invokevirtual 77, 3) := by decide +kernel
theorem dL_law_382 : decode cL_law 382 = .ok (.iload 19, 2) := by decide +kernel
theorem dL_law_384 : decode cL_law 384 = .ok (.if_icmp .ne 90, 3) := by decide +kernel
theorem dL_law_387 : decode cL_law 387 = .ok (.iload 19, 2) := by decide +kernel
theorem dL_law_389 : decode cL_law 389 = .ok (.ifCond .ne 7, 3) := by decide +kernel
theorem dL_law_392 : decode cL_law 392 = .ok (.iconst 1, 1) := by decide +kernel
theorem dL_law_393 : decode cL_law 393 = .ok (.goto 4, 3) := by decide +kernel
theorem dL_law_396 : decode cL_law 396 = .ok (.iconst 0, 1) := by decide +kernel
theorem dL_law_397 : decode cL_law 397 = .ok (.aload_n 1, 1) := by decide +kernel
theorem dL_law_398 : decode cL_law 398 = .ok (.iload 17, 2) := by decide +kernel
theorem dL_law_400 : decode cL_law 400 = .ok (.iconst 0, 1) := by decide +kernel
theorem dL_law_401 : decode cL_law 401 = .ok (.invokevirtual 24, 3) := by decide +kernel
theorem dL_law_404 : decode cL_law 404 = .ok (.iload 18, 2) := by decide +kernel
theorem dL_law_406 : decode cL_law 406 = .ok (.if_icmp .ne 7, 3) := by decide +kernel
theorem dL_law_409 : decode cL_law 409 = .ok (.iconst 1, 1) := by decide +kernel
theorem dL_law_410 : decode cL_law 410 = .ok (.goto 4, 3) := by decide +kernel
theorem dL_law_413 : decode cL_law 413 = .ok (.iconst 0, 1) := by decide +kernel
theorem dL_law_414 : decode cL_law 414 = .ok (.if_icmp .ne 60, 3) := by decide +kernel
theorem dL_law_417 : decode cL_law 417 = .ok (.aload_n 1, 1) := by decide +kernel
theorem dL_law_418 : decode cL_law 418 = .ok (.iconst 0, 1) := by decide +kernel
theorem dL_law_419 : decode cL_law 419 = .ok (.invokevirtual 74, 3) := by decide +kernel
theorem dL_law_422 : decode cL_law 422 = .ok (.iconst 1, 1) := by decide +kernel
theorem dL_law_423 : decode cL_law 423 = .ok (.if_icmp .ne 51, 3) := by decide +kernel
theorem dL_law_426 : decode cL_law 426 = .ok (.aload_n 1, 1) := by decide +kernel
theorem dL_law_427 : decode cL_law 427 = .ok (.invokevirtual 111, 3) := by decide +kernel
theorem dL_law_430 : decode cL_law 430 = .ok (.iload 5, 2) := by decide +kernel
theorem dL_law_432 : decode cL_law 432 = .ok (.if_icmp .ne 42, 3) := by decide +kernel
theorem dL_law_435 : decode cL_law 435 = .ok (.aload_n 1, 1) := by decide +kernel
theorem dL_law_436 : decode cL_law 436 = .ok (.invokestatic 99, 3) := by decide +kernel
theorem dL_law_439 : decode cL_law 439 = .ok (.lload_n 3, 1) := by decide +kernel
theorem dL_law_440 : decode cL_law 440 = .ok (.lcmp, 1) := by decide +kernel
theorem dL_law_441 : decode cL_law 441 = .ok (.ifCond .ne 33, 3) := by decide +kernel
theorem dL_law_444 : decode cL_law 444 = .ok (.aload_n 1, 1) := by decide +kernel
theorem dL_law_445 : decode cL_law 445 = .ok (.invokevirtual 108, 3) := by decide +kernel
theorem dL_law_448 : decode cL_law 448 = .ok (.ifCond .lt 26, 3) := by decide +kernel
theorem dL_law_451 : decode cL_law 451 = .ok (.aload_n 1, 1) := by decide +kernel
theorem dL_law_452 : decode cL_law 452 = .ok (.invokestatic 99, 3) := by decide +kernel
theorem dL_law_455 : decode cL_law 455 = .ok (.lload 14, 2) := by decide +kernel
theorem dL_law_457 : decode cL_law 457 = .ok (.lcmp, 1) := by decide +kernel
theorem dL_law_458 : decode cL_law 458 = .ok (.ifCond .ne 16, 3) := by decide +kernel
theorem dL_law_461 : decode cL_law 461 = .ok (.aload_n 1, 1) := by decide +kernel
theorem dL_law_462 : decode cL_law 462 = .ok (.invokevirtual 117, 3) := by decide +kernel
theorem dL_law_465 : decode cL_law 465 = .ok (.iload 16, 2) := by decide +kernel
theorem dL_law_467 : decode cL_law 467 = .ok (.if_icmp .ne 7, 3) := by decide +kernel
theorem dL_law_470 : decode cL_law 470 = .ok (.iconst 1, 1) := by decide +kernel
theorem dL_law_471 : decode cL_law 471 = .ok (.goto 4, 3) := by decide +kernel
theorem dL_law_474 : decode cL_law 474 = .ok (.iconst 0, 1) := by decide +kernel
theorem dL_law_475 : decode cL_law 475 = .ok (.istore_n 2, 1) := by decide +kernel
theorem dL_law_476 : decode cL_law 476 = .ok (.lload 14, 2) := by decide +kernel
theorem dL_law_478 : decode cL_law 478 = .ok (.lstore_n 3, 1) := by decide +kernel
theorem dL_law_479 : decode cL_law 479 = .ok (.iload 16, 2) := by decide +kernel
theorem dL_law_481 : decode cL_law 481 = .ok (.istore 5, 2) := by decide +kernel
theorem dL_law_483 : decode cL_law 483 = .ok (.iinc 6 1, 3) := by decide +kernel
theorem dL_law_486 : decode cL_law 486 = .ok (.goto (-402), 3) := by decide +kernel
theorem dL_law_489 : decode cL_law 489 = .ok (.iload_n 2, 1) := by decide +kernel
theorem dL_law_490 : decode cL_law 490 = .ok (.ireturn, 1) := by decide +kernel
