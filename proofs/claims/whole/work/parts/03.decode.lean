theorem dX0_init_0 : decode cX0_init 0 = .ok (.aload_n 0, 1) := by decide +kernel
theorem dX0_init_1 : decode cX0_init 1 = .ok (.invokespecial 3, 3) := by decide +kernel
theorem dX0_init_4 : decode cX0_init 4 = .ok (.aload_n 0, 1) := by decide +kernel
theorem dX0_init_5 : decode cX0_init 5 = .ok (.bipush 10, 2) := by decide +kernel
theorem dX0_init_7 : decode cX0_init 7 = .ok (.newarray .int, 2) := by decide +kernel
theorem dX0_init_9 : decode cX0_init 9 = .ok (.putfield 9, 3) := by decide +kernel
theorem dX0_init_12 : decode cX0_init 12 = .ok (.aload_n 0, 1) := by decide +kernel
theorem dX0_init_13 : decode cX0_init 13 = .ok (.bipush 10, 2) := by decide +kernel
theorem dX0_init_15 : decode cX0_init 15 = .ok (.newarray .int, 2) := by decide +kernel
theorem dX0_init_17 : decode cX0_init 17 = .ok (.putfield 15, 3) := by decide +kernel
theorem dX0_init_20 : decode cX0_init 20 = .ok (.aload_n 0, 1) := by decide +kernel
theorem dX0_init_21 : decode cX0_init 21 = .ok (.iconst 0, 1) := by decide +kernel
theorem dX0_init_22 : decode cX0_init 22 = .ok (.putfield 18, 3) := by decide +kernel
theorem dX0_init_25 : decode cX0_init 25 = .ok (.aload_n 0, 1) := by decide +kernel
theorem dX0_init_26 : decode cX0_init 26 = .ok (.iconst 0, 1) := by decide +kernel
theorem dX0_init_27 : decode cX0_init 27 = .ok (.putfield 22, 3) := by decide +kernel
theorem dX0_init_30 : decode cX0_init 30 = .ok (.aload_n 0, 1) := by decide +kernel
theorem dX0_init_31 : decode cX0_init 31 = .ok (.iconst 0, 1) := by decide +kernel
theorem dX0_init_32 : decode cX0_init 32 = .ok (.putfield 25, 3) := by decide +kernel
theorem dX0_init_35 : decode cX0_init 35 = .ok (.aload_n 0, 1) := by decide +kernel
theorem dX0_init_36 : decode cX0_init 36 = .ok (.iconst 0, 1) := by decide +kernel
theorem dX0_init_37 : decode cX0_init 37 = .ok (.putfield 28, 3) := by decide +kernel
theorem dX0_init_40 : decode cX0_init 40 = .ok (.aload_n 0, 1) := by decide +kernel
theorem dX0_init_41 : decode cX0_init 41 = .ok (.iconst 0, 1) := by decide +kernel
theorem dX0_init_42 : decode cX0_init 42 = .ok (.putfield 31, 3) := by decide +kernel
theorem dX0_init_45 : decode cX0_init 45 = .ok (.return_, 1) := by decide +kernel
theorem dX0_copy_0 : decode cX0_copy 0 = .ok (.aload_n 1, 1) := by decide +kernel
theorem dX0_copy_1 : decode cX0_copy 1 = .ok (.getfield 9, 3) := by decide +kernel
theorem dX0_copy_4 : decode cX0_copy 4 = .ok (.iconst 0, 1) := by decide +kernel
theorem dX0_copy_5 : decode cX0_copy 5 = .ok (.aload_n 0, 1) := by decide +kernel
theorem dX0_copy_6 : decode cX0_copy 6 = .ok (.getfield 9, 3) := by decide +kernel
theorem dX0_copy_9 : decode cX0_copy 9 = .ok (.iconst 0, 1) := by decide +kernel
theorem dX0_copy_10 : decode cX0_copy 10 = .ok (.bipush 10, 2) := by decide +kernel
theorem dX0_copy_12 : decode cX0_copy 12 = .ok (.invokestatic 34, 3) := by decide +kernel
theorem dX0_copy_15 : decode cX0_copy 15 = .ok (.aload_n 1, 1) := by decide +kernel
theorem dX0_copy_16 : decode cX0_copy 16 = .ok (.getfield 15, 3) := by decide +kernel
theorem dX0_copy_19 : decode cX0_copy 19 = .ok (.iconst 0, 1) := by decide +kernel
theorem dX0_copy_20 : decode cX0_copy 20 = .ok (.aload_n 0, 1) := by decide +kernel
theorem dX0_copy_21 : decode cX0_copy 21 = .ok (.getfield 15, 3) := by decide +kernel
theorem dX0_copy_24 : decode cX0_copy 24 = .ok (.iconst 0, 1) := by decide +kernel
theorem dX0_copy_25 : decode cX0_copy 25 = .ok (.bipush 10, 2) := by decide +kernel
theorem dX0_copy_27 : decode cX0_copy 27 = .ok (.invokestatic 34, 3) := by decide +kernel
theorem dX0_copy_30 : decode cX0_copy 30 = .ok (.aload_n 0, 1) := by decide +kernel
theorem dX0_copy_31 : decode cX0_copy 31 = .ok (.aload_n 1, 1) := by decide +kernel
theorem dX0_copy_32 : decode cX0_copy 32 = .ok (.getfield 18, 3) := by decide +kernel
theorem dX0_copy_35 : decode cX0_copy 35 = .ok (.putfield 18, 3) := by decide +kernel
theorem dX0_copy_38 : decode cX0_copy 38 = .ok (.aload_n 0, 1) := by decide +kernel
theorem dX0_copy_39 : decode cX0_copy 39 = .ok (.aload_n 1, 1) := by decide +kernel
theorem dX0_copy_40 : decode cX0_copy 40 = .ok (.getfield 22, 3) := by decide +kernel
theorem dX0_copy_43 : decode cX0_copy 43 = .ok (.putfield 22, 3) := by decide +kernel
theorem dX0_copy_46 : decode cX0_copy 46 = .ok (.aload_n 0, 1) := by decide +kernel
theorem dX0_copy_47 : decode cX0_copy 47 = .ok (.aload_n 1, 1) := by decide +kernel
theorem dX0_copy_48 : decode cX0_copy 48 = .ok (.getfield 25, 3) := by decide +kernel
theorem dX0_copy_51 : decode cX0_copy 51 = .ok (.putfield 25, 3) := by decide +kernel
theorem dX0_copy_54 : decode cX0_copy 54 = .ok (.aload_n 0, 1) := by decide +kernel
theorem dX0_copy_55 : decode cX0_copy 55 = .ok (.aload_n 1, 1) := by decide +kernel
theorem dX0_copy_56 : decode cX0_copy 56 = .ok (.getfield 28, 3) := by decide +kernel
theorem dX0_copy_59 : decode cX0_copy 59 = .ok (.putfield 28, 3) := by decide +kernel
theorem dX0_copy_62 : decode cX0_copy 62 = .ok (.aload_n 0, 1) := by decide +kernel
theorem dX0_copy_63 : decode cX0_copy 63 = .ok (.aload_n 1, 1) := by decide +kernel
theorem dX0_copy_64 : decode cX0_copy 64 = .ok (.getfield 31, 3) := by decide +kernel
theorem dX0_copy_67 : decode cX0_copy 67 = .ok (.putfield 31, 3) := by decide +kernel
theorem dX0_copy_70 : decode cX0_copy 70 = .ok (.return_, 1) := by decide +kernel
theorem dX0_noteOpened_0 : decode cX0_noteOpened 0 = .ok (.aload_n 0, 1) := by decide +kernel
theorem dX0_noteOpened_1 : decode cX0_noteOpened 1 = .ok (.getfield 9, 3) := by decide +kernel
theorem dX0_noteOpened_4 : decode cX0_noteOpened 4 = .ok (.iload_n 1, 1) := by decide +kernel
theorem dX0_noteOpened_5 : decode cX0_noteOpened 5 = .ok (.dup2, 1) := by decide +kernel
theorem dX0_noteOpened_6 : decode cX0_noteOpened 6 = .ok (.iaload, 1) := by decide +kernel
theorem dX0_noteOpened_7 : decode cX0_noteOpened 7 = .ok (.iconst 1, 1) := by decide +kernel
theorem dX0_noteOpened_8 : decode cX0_noteOpened 8 = .ok (.iadd, 1) := by decide +kernel
theorem dX0_noteOpened_9 : decode cX0_noteOpened 9 = .ok (.iastore, 1) := by decide +kernel
theorem dX0_noteOpened_10 : decode cX0_noteOpened 10 = .ok (.aload_n 0, 1) := by decide +kernel
theorem dX0_noteOpened_11 : decode cX0_noteOpened 11 = .ok (.dup, 1) := by decide +kernel
theorem dX0_noteOpened_12 : decode cX0_noteOpened 12 = .ok (.getfield 18, 3) := by decide +kernel
theorem dX0_noteOpened_15 : decode cX0_noteOpened 15 = .ok (.iconst 1, 1) := by decide +kernel
theorem dX0_noteOpened_16 : decode cX0_noteOpened 16 = .ok (.iadd, 1) := by decide +kernel
theorem dX0_noteOpened_17 : decode cX0_noteOpened 17 = .ok (.putfield 18, 3) := by decide +kernel
theorem dX0_noteOpened_20 : decode cX0_noteOpened 20 = .ok (.return_, 1) := by decide +kernel
theorem dX0_noteShutByHand_0 : decode cX0_noteShutByHand 0 = .ok (.aload_n 0, 1) := by decide +kernel
theorem dX0_noteShutByHand_1 : decode cX0_noteShutByHand 1 = .ok (.getfield 15, 3) := by decide +kernel
theorem dX0_noteShutByHand_4 : decode cX0_noteShutByHand 4 = .ok (.iload_n 1, 1) := by decide +kernel
theorem dX0_noteShutByHand_5 : decode cX0_noteShutByHand 5 = .ok (.dup2, 1) := by decide +kernel
theorem dX0_noteShutByHand_6 : decode cX0_noteShutByHand 6 = .ok (.iaload, 1) := by decide +kernel
theorem dX0_noteShutByHand_7 : decode cX0_noteShutByHand 7 = .ok (.iconst 1, 1) := by decide +kernel
theorem dX0_noteShutByHand_8 : decode cX0_noteShutByHand 8 = .ok (.iadd, 1) := by decide +kernel
theorem dX0_noteShutByHand_9 : decode cX0_noteShutByHand 9 = .ok (.iastore, 1) := by decide +kernel
theorem dX0_noteShutByHand_10 : decode cX0_noteShutByHand 10 = .ok (.aload_n 0, 1) := by decide +kernel
theorem dX0_noteShutByHand_11 : decode cX0_noteShutByHand 11 = .ok (.dup, 1) := by decide +kernel
theorem dX0_noteShutByHand_12 : decode cX0_noteShutByHand 12 = .ok (.getfield 22, 3) := by decide +kernel
theorem dX0_noteShutByHand_15 : decode cX0_noteShutByHand 15 = .ok (.iconst 1, 1) := by decide +kernel
theorem dX0_noteShutByHand_16 : decode cX0_noteShutByHand 16 = .ok (.iadd, 1) := by decide +kernel
theorem dX0_noteShutByHand_17 : decode cX0_noteShutByHand 17 = .ok (.putfield 22, 3) := by decide +kernel
theorem dX0_noteShutByHand_20 : decode cX0_noteShutByHand 20 = .ok (.return_, 1) := by decide +kernel
theorem dX0_noteShutByOpening_0 : decode cX0_noteShutByOpening 0 = .ok (.aload_n 0, 1) := by decide +kernel
theorem dX0_noteShutByOpening_1 : decode cX0_noteShutByOpening 1 = .ok (.dup, 1) := by decide +kernel
theorem dX0_noteShutByOpening_2 : decode cX0_noteShutByOpening 2 = .ok (.getfield 25, 3) := by decide +kernel
theorem dX0_noteShutByOpening_5 : decode cX0_noteShutByOpening 5 = .ok (.iload_n 1, 1) := by decide +kernel
theorem dX0_noteShutByOpening_6 : decode cX0_noteShutByOpening 6 = .ok (.invokestatic 40, 3) := by decide +kernel
theorem dX0_noteShutByOpening_9 : decode cX0_noteShutByOpening 9 = .ok (.iadd, 1) := by decide +kernel
theorem dX0_noteShutByOpening_10 : decode cX0_noteShutByOpening 10 = .ok (.putfield 25, 3) := by decide +kernel
theorem dX0_noteShutByOpening_13 : decode cX0_noteShutByOpening 13 = .ok (.aload_n 0, 1) := by decide +kernel
theorem dX0_noteShutByOpening_14 : decode cX0_noteShutByOpening 14 = .ok (.dup, 1) := by decide +kernel
theorem dX0_noteShutByOpening_15 : decode cX0_noteShutByOpening 15 = .ok (.getfield 28, 3) := by decide +kernel
theorem dX0_noteShutByOpening_18 : decode cX0_noteShutByOpening 18 = .ok (.iload_n 2, 1) := by decide +kernel
theorem dX0_noteShutByOpening_19 : decode cX0_noteShutByOpening 19 = .ok (.invokestatic 40, 3) := by decide +kernel
theorem dX0_noteShutByOpening_22 : decode cX0_noteShutByOpening 22 = .ok (.iadd, 1) := by decide +kernel
theorem dX0_noteShutByOpening_23 : decode cX0_noteShutByOpening 23 = .ok (.putfield 28, 3) := by decide +kernel
theorem dX0_noteShutByOpening_26 : decode cX0_noteShutByOpening 26 = .ok (.iconst 0, 1) := by decide +kernel
theorem dX0_noteShutByOpening_27 : decode cX0_noteShutByOpening 27 = .ok (.istore_n 3, 1) := by decide +kernel
theorem dX0_noteShutByOpening_28 : decode cX0_noteShutByOpening 28 = .ok (.iload_n 3, 1) := by decide +kernel
theorem dX0_noteShutByOpening_29 : decode cX0_noteShutByOpening 29 = .ok (.bipush 10, 2) := by decide +kernel
theorem dX0_noteShutByOpening_31 : decode cX0_noteShutByOpening 31 = .ok (.if_icmp .ge 29, 3) := by decide +kernel
theorem dX0_noteShutByOpening_34 : decode cX0_noteShutByOpening 34 = .ok (.iload_n 1, 1) := by decide +kernel
theorem dX0_noteShutByOpening_35 : decode cX0_noteShutByOpening 35 = .ok (.iload_n 2, 1) := by decide +kernel
theorem dX0_noteShutByOpening_36 : decode cX0_noteShutByOpening 36 = .ok (.ior, 1) := by decide +kernel
theorem dX0_noteShutByOpening_37 : decode cX0_noteShutByOpening 37 = .ok (.iload_n 3, 1) := by decide +kernel
theorem dX0_noteShutByOpening_38 : decode cX0_noteShutByOpening 38 = .ok (.invokestatic 46, 3) := by decide +kernel
theorem dX0_noteShutByOpening_41 : decode cX0_noteShutByOpening 41 = .ok (.ifCond .eq 13, 3) := by decide +kernel
theorem dX0_noteShutByOpening_44 : decode cX0_noteShutByOpening 44 = .ok (.aload_n 0, 1) := by decide +kernel
theorem dX0_noteShutByOpening_45 : decode cX0_noteShutByOpening 45 = .ok (.getfield 15, 3) := by decide +kernel
theorem dX0_noteShutByOpening_48 : decode cX0_noteShutByOpening 48 = .ok (.iload_n 3, 1) := by decide +kernel
theorem dX0_noteShutByOpening_49 : decode cX0_noteShutByOpening 49 = .ok (.dup2, 1) := by decide +kernel
theorem dX0_noteShutByOpening_50 : decode cX0_noteShutByOpening 50 = .ok (.iaload, 1) := by decide +kernel
theorem dX0_noteShutByOpening_51 : decode cX0_noteShutByOpening 51 = .ok (.iconst 1, 1) := by decide +kernel
theorem dX0_noteShutByOpening_52 : decode cX0_noteShutByOpening 52 = .ok (.iadd, 1) := by decide +kernel
theorem dX0_noteShutByOpening_53 : decode cX0_noteShutByOpening 53 = .ok (.iastore, 1) := by decide +kernel
theorem dX0_noteShutByOpening_54 : decode cX0_noteShutByOpening 54 = .ok (.iinc 3 1, 3) := by decide +kernel
theorem dX0_noteShutByOpening_57 : decode cX0_noteShutByOpening 57 = .ok (.goto (-29), 3) := by decide +kernel
theorem dX0_noteShutByOpening_60 : decode cX0_noteShutByOpening 60 = .ok (.return_, 1) := by decide +kernel
theorem dX0_noteRefused_0 : decode cX0_noteRefused 0 = .ok (.aload_n 0, 1) := by decide +kernel
theorem dX0_noteRefused_1 : decode cX0_noteRefused 1 = .ok (.dup, 1) := by decide +kernel
theorem dX0_noteRefused_2 : decode cX0_noteRefused 2 = .ok (.getfield 31, 3) := by decide +kernel
theorem dX0_noteRefused_5 : decode cX0_noteRefused 5 = .ok (.iconst 1, 1) := by decide +kernel
theorem dX0_noteRefused_6 : decode cX0_noteRefused 6 = .ok (.iadd, 1) := by decide +kernel
theorem dX0_noteRefused_7 : decode cX0_noteRefused 7 = .ok (.putfield 31, 3) := by decide +kernel
theorem dX0_noteRefused_10 : decode cX0_noteRefused 10 = .ok (.iload_n 1, 1) := by decide +kernel
theorem dX0_noteRefused_11 : decode cX0_noteRefused 11 = .ok (.ireturn, 1) := by decide +kernel
theorem dX1_init_0 : decode cX1_init 0 = .ok (.aload_n 0, 1) := by decide +kernel
theorem dX1_init_1 : decode cX1_init 1 = .ok (.invokespecial 3, 3) := by decide +kernel
theorem dX1_init_4 : decode cX1_init 4 = .ok (.aload_n 0, 1) := by decide +kernel
theorem dX1_init_5 : decode cX1_init 5 = .ok (.iconst 3, 1) := by decide +kernel
theorem dX1_init_6 : decode cX1_init 6 = .ok (.newarray .int, 2) := by decide +kernel
theorem dX1_init_8 : decode cX1_init 8 = .ok (.putfield 9, 3) := by decide +kernel
theorem dX1_init_11 : decode cX1_init 11 = .ok (.aload_n 0, 1) := by decide +kernel
theorem dX1_init_12 : decode cX1_init 12 = .ok (.iconst 3, 1) := by decide +kernel
theorem dX1_init_13 : decode cX1_init 13 = .ok (.newarray .int, 2) := by decide +kernel
theorem dX1_init_15 : decode cX1_init 15 = .ok (.putfield 15, 3) := by decide +kernel
theorem dX1_init_18 : decode cX1_init 18 = .ok (.aload_n 0, 1) := by decide +kernel
theorem dX1_init_19 : decode cX1_init 19 = .ok (.iconst 3, 1) := by decide +kernel
theorem dX1_init_20 : decode cX1_init 20 = .ok (.newarray .int, 2) := by decide +kernel
theorem dX1_init_22 : decode cX1_init 22 = .ok (.putfield 18, 3) := by decide +kernel
theorem dX1_init_25 : decode cX1_init 25 = .ok (.return_, 1) := by decide +kernel
theorem dX1_copy_0 : decode cX1_copy 0 = .ok (.aload_n 1, 1) := by decide +kernel
theorem dX1_copy_1 : decode cX1_copy 1 = .ok (.getfield 9, 3) := by decide +kernel
theorem dX1_copy_4 : decode cX1_copy 4 = .ok (.iconst 0, 1) := by decide +kernel
theorem dX1_copy_5 : decode cX1_copy 5 = .ok (.aload_n 0, 1) := by decide +kernel
theorem dX1_copy_6 : decode cX1_copy 6 = .ok (.getfield 9, 3) := by decide +kernel
theorem dX1_copy_9 : decode cX1_copy 9 = .ok (.iconst 0, 1) := by decide +kernel
theorem dX1_copy_10 : decode cX1_copy 10 = .ok (.iconst 3, 1) := by decide +kernel
theorem dX1_copy_11 : decode cX1_copy 11 = .ok (.invokestatic 21, 3) := by decide +kernel
theorem dX1_copy_14 : decode cX1_copy 14 = .ok (.aload_n 1, 1) := by decide +kernel
theorem dX1_copy_15 : decode cX1_copy 15 = .ok (.getfield 15, 3) := by decide +kernel
theorem dX1_copy_18 : decode cX1_copy 18 = .ok (.iconst 0, 1) := by decide +kernel
theorem dX1_copy_19 : decode cX1_copy 19 = .ok (.aload_n 0, 1) := by decide +kernel
theorem dX1_copy_20 : decode cX1_copy 20 = .ok (.getfield 15, 3) := by decide +kernel
theorem dX1_copy_23 : decode cX1_copy 23 = .ok (.iconst 0, 1) := by decide +kernel
theorem dX1_copy_24 : decode cX1_copy 24 = .ok (.iconst 3, 1) := by decide +kernel
theorem dX1_copy_25 : decode cX1_copy 25 = .ok (.invokestatic 21, 3) := by decide +kernel
theorem dX1_copy_28 : decode cX1_copy 28 = .ok (.aload_n 1, 1) := by decide +kernel
theorem dX1_copy_29 : decode cX1_copy 29 = .ok (.getfield 18, 3) := by decide +kernel
theorem dX1_copy_32 : decode cX1_copy 32 = .ok (.iconst 0, 1) := by decide +kernel
theorem dX1_copy_33 : decode cX1_copy 33 = .ok (.aload_n 0, 1) := by decide +kernel
theorem dX1_copy_34 : decode cX1_copy 34 = .ok (.getfield 18, 3) := by decide +kernel
theorem dX1_copy_37 : decode cX1_copy 37 = .ok (.iconst 0, 1) := by decide +kernel
theorem dX1_copy_38 : decode cX1_copy 38 = .ok (.iconst 3, 1) := by decide +kernel
theorem dX1_copy_39 : decode cX1_copy 39 = .ok (.invokestatic 21, 3) := by decide +kernel
theorem dX1_copy_42 : decode cX1_copy 42 = .ok (.return_, 1) := by decide +kernel
theorem dX1_howManyIn_0 : decode cX1_howManyIn 0 = .ok (.iconst 0, 1) := by decide +kernel
theorem dX1_howManyIn_1 : decode cX1_howManyIn 1 = .ok (.istore_n 2, 1) := by decide +kernel
theorem dX1_howManyIn_2 : decode cX1_howManyIn 2 = .ok (.iconst 0, 1) := by decide +kernel
theorem dX1_howManyIn_3 : decode cX1_howManyIn 3 = .ok (.istore_n 3, 1) := by decide +kernel
theorem dX1_howManyIn_4 : decode cX1_howManyIn 4 = .ok (.iload_n 3, 1) := by decide +kernel
theorem dX1_howManyIn_5 : decode cX1_howManyIn 5 = .ok (.iconst 3, 1) := by decide +kernel
theorem dX1_howManyIn_6 : decode cX1_howManyIn 6 = .ok (.if_icmp .ge 22, 3) := by decide +kernel
theorem dX1_howManyIn_9 : decode cX1_howManyIn 9 = .ok (.aload_n 0, 1) := by decide +kernel
theorem dX1_howManyIn_10 : decode cX1_howManyIn 10 = .ok (.getfield 9, 3) := by decide +kernel
theorem dX1_howManyIn_13 : decode cX1_howManyIn 13 = .ok (.iload_n 3, 1) := by decide +kernel
theorem dX1_howManyIn_14 : decode cX1_howManyIn 14 = .ok (.iaload, 1) := by decide +kernel
theorem dX1_howManyIn_15 : decode cX1_howManyIn 15 = .ok (.iload_n 1, 1) := by decide +kernel
theorem dX1_howManyIn_16 : decode cX1_howManyIn 16 = .ok (.if_icmp .ne 6, 3) := by decide +kernel
theorem dX1_howManyIn_19 : decode cX1_howManyIn 19 = .ok (.iinc 2 1, 3) := by decide +kernel
theorem dX1_howManyIn_22 : decode cX1_howManyIn 22 = .ok (.iinc 3 1, 3) := by decide +kernel
theorem dX1_howManyIn_25 : decode cX1_howManyIn 25 = .ok (.goto (-21), 3) := by decide +kernel
theorem dX1_howManyIn_28 : decode cX1_howManyIn 28 = .ok (.iload_n 2, 1) := by decide +kernel
theorem dX1_howManyIn_29 : decode cX1_howManyIn 29 = .ok (.ireturn, 1) := by decide +kernel
theorem dX2_init_0 : decode cX2_init 0 = .ok (.aload_n 0, 1) := by decide +kernel
theorem dX2_init_1 : decode cX2_init 1 = .ok (.invokespecial 3, 3) := by decide +kernel
theorem dX2_init_4 : decode cX2_init 4 = .ok (.aload_n 0, 1) := by decide +kernel
theorem dX2_init_5 : decode cX2_init 5 = .ok (.iconst 4, 1) := by decide +kernel
theorem dX2_init_6 : decode cX2_init 6 = .ok (.anewarray 9, 3) := by decide +kernel
theorem dX2_init_9 : decode cX2_init 9 = .ok (.putfield 11, 3) := by decide +kernel
theorem dX2_init_12 : decode cX2_init 12 = .ok (.aload_n 0, 1) := by decide +kernel
theorem dX2_init_13 : decode cX2_init 13 = .ok (.iconst 0, 1) := by decide +kernel
theorem dX2_init_14 : decode cX2_init 14 = .ok (.putfield 17, 3) := by decide +kernel
theorem dX2_init_17 : decode cX2_init 17 = .ok (.aload_n 0, 1) := by decide +kernel
theorem dX2_init_18 : decode cX2_init 18 = .ok (.iconst 0, 1) := by decide +kernel
theorem dX2_init_19 : decode cX2_init 19 = .ok (.putfield 21, 3) := by decide +kernel
theorem dX2_init_22 : decode cX2_init 22 = .ok (.iconst 0, 1) := by decide +kernel
theorem dX2_init_23 : decode cX2_init 23 = .ok (.istore_n 1, 1) := by decide +kernel
theorem dX2_init_24 : decode cX2_init 24 = .ok (.iload_n 1, 1) := by decide +kernel
theorem dX2_init_25 : decode cX2_init 25 = .ok (.iconst 4, 1) := by decide +kernel
theorem dX2_init_26 : decode cX2_init 26 = .ok (.if_icmp .ge 22, 3) := by decide +kernel
theorem dX2_init_29 : decode cX2_init 29 = .ok (.aload_n 0, 1) := by decide +kernel
theorem dX2_init_30 : decode cX2_init 30 = .ok (.getfield 11, 3) := by decide +kernel
theorem dX2_init_33 : decode cX2_init 33 = .ok (.iload_n 1, 1) := by decide +kernel
theorem dX2_init_34 : decode cX2_init 34 = .ok (.new 9, 3) := by decide +kernel
theorem dX2_init_37 : decode cX2_init 37 = .ok (.dup, 1) := by decide +kernel
theorem dX2_init_38 : decode cX2_init 38 = .ok (.invokespecial 24, 3) := by decide +kernel
theorem dX2_init_41 : decode cX2_init 41 = .ok (.aastore, 1) := by decide +kernel
theorem dX2_init_42 : decode cX2_init 42 = .ok (.iinc 1 1, 3) := by decide +kernel
theorem dX2_init_45 : decode cX2_init 45 = .ok (.goto (-21), 3) := by decide +kernel
theorem dX2_init_48 : decode cX2_init 48 = .ok (.return_, 1) := by decide +kernel
theorem dX2_record_0 : decode cX2_record 0 = .ok (.aload_n 0, 1) := by decide +kernel
theorem dX2_record_1 : decode cX2_record 1 = .ok (.aload_n 0, 1) := by decide +kernel
theorem dX2_record_2 : decode cX2_record 2 = .ok (.getfield 21, 3) := by decide +kernel
theorem dX2_record_5 : decode cX2_record 5 = .ok (.invokevirtual 25, 3) := by decide +kernel
theorem dX2_record_8 : decode cX2_record 8 = .ok (.aload_n 1, 1) := by decide +kernel
theorem dX2_record_9 : decode cX2_record 9 = .ok (.invokevirtual 29, 3) := by decide +kernel
theorem dX2_record_12 : decode cX2_record 12 = .ok (.aload_n 0, 1) := by decide +kernel
theorem dX2_record_13 : decode cX2_record 13 = .ok (.getfield 21, 3) := by decide +kernel
theorem dX2_record_16 : decode cX2_record 16 = .ok (.iconst 4, 1) := by decide +kernel
theorem dX2_record_17 : decode cX2_record 17 = .ok (.if_icmp .ge 16, 3) := by decide +kernel
theorem dX2_record_20 : decode cX2_record 20 = .ok (.aload_n 0, 1) := by decide +kernel
theorem dX2_record_21 : decode cX2_record 21 = .ok (.dup, 1) := by decide +kernel
theorem dX2_record_22 : decode cX2_record 22 = .ok (.getfield 21, 3) := by decide +kernel
theorem dX2_record_25 : decode cX2_record 25 = .ok (.iconst 1, 1) := by decide +kernel
theorem dX2_record_26 : decode cX2_record 26 = .ok (.iadd, 1) := by decide +kernel
theorem dX2_record_27 : decode cX2_record 27 = .ok (.putfield 21, 3) := by decide +kernel
theorem dX2_record_30 : decode cX2_record 30 = .ok (.goto 15, 3) := by decide +kernel
theorem dX2_record_33 : decode cX2_record 33 = .ok (.aload_n 0, 1) := by decide +kernel
theorem dX2_record_34 : decode cX2_record 34 = .ok (.aload_n 0, 1) := by decide +kernel
theorem dX2_record_35 : decode cX2_record 35 = .ok (.getfield 17, 3) := by decide +kernel
theorem dX2_record_38 : decode cX2_record 38 = .ok (.iconst 1, 1) := by decide +kernel
theorem dX2_record_39 : decode cX2_record 39 = .ok (.iadd, 1) := by decide +kernel
theorem dX2_record_40 : decode cX2_record 40 = .ok (.iconst 4, 1) := by decide +kernel
theorem dX2_record_41 : decode cX2_record 41 = .ok (.irem, 1) := by decide +kernel
theorem dX2_record_42 : decode cX2_record 42 = .ok (.putfield 17, 3) := by decide +kernel
theorem dX2_record_45 : decode cX2_record 45 = .ok (.return_, 1) := by decide +kernel
theorem dX2_takeBack_0 : decode cX2_takeBack 0 = .ok (.aload_n 0, 1) := by decide +kernel
theorem dX2_takeBack_1 : decode cX2_takeBack 1 = .ok (.getfield 21, 3) := by decide +kernel
theorem dX2_takeBack_4 : decode cX2_takeBack 4 = .ok (.ifCond .le 25, 3) := by decide +kernel
theorem dX2_takeBack_7 : decode cX2_takeBack 7 = .ok (.aload_n 0, 1) := by decide +kernel
theorem dX2_takeBack_8 : decode cX2_takeBack 8 = .ok (.dup, 1) := by decide +kernel
theorem dX2_takeBack_9 : decode cX2_takeBack 9 = .ok (.getfield 21, 3) := by decide +kernel
theorem dX2_takeBack_12 : decode cX2_takeBack 12 = .ok (.iconst 1, 1) := by decide +kernel
theorem dX2_takeBack_13 : decode cX2_takeBack 13 = .ok (.isub, 1) := by decide +kernel
theorem dX2_takeBack_14 : decode cX2_takeBack 14 = .ok (.putfield 21, 3) := by decide +kernel
theorem dX2_takeBack_17 : decode cX2_takeBack 17 = .ok (.aload_n 1, 1) := by decide +kernel
theorem dX2_takeBack_18 : decode cX2_takeBack 18 = .ok (.aload_n 0, 1) := by decide +kernel
theorem dX2_takeBack_19 : decode cX2_takeBack 19 = .ok (.aload_n 0, 1) := by decide +kernel
theorem dX2_takeBack_20 : decode cX2_takeBack 20 = .ok (.getfield 21, 3) := by decide +kernel
theorem dX2_takeBack_23 : decode cX2_takeBack 23 = .ok (.invokevirtual 25, 3) := by decide +kernel
theorem dX2_takeBack_26 : decode cX2_takeBack 26 = .ok (.invokevirtual 29, 3) := by decide +kernel
theorem dX2_takeBack_29 : decode cX2_takeBack 29 = .ok (.return_, 1) := by decide +kernel
theorem dX2_slotBehind_0 : decode cX2_slotBehind 0 = .ok (.aload_n 0, 1) := by decide +kernel
theorem dX2_slotBehind_1 : decode cX2_slotBehind 1 = .ok (.getfield 11, 3) := by decide +kernel
theorem dX2_slotBehind_4 : decode cX2_slotBehind 4 = .ok (.aload_n 0, 1) := by decide +kernel
theorem dX2_slotBehind_5 : decode cX2_slotBehind 5 = .ok (.getfield 17, 3) := by decide +kernel
theorem dX2_slotBehind_8 : decode cX2_slotBehind 8 = .ok (.iload_n 1, 1) := by decide +kernel
theorem dX2_slotBehind_9 : decode cX2_slotBehind 9 = .ok (.iadd, 1) := by decide +kernel
theorem dX2_slotBehind_10 : decode cX2_slotBehind 10 = .ok (.iconst 4, 1) := by decide +kernel
theorem dX2_slotBehind_11 : decode cX2_slotBehind 11 = .ok (.invokestatic 33, 3) := by decide +kernel
theorem dX2_slotBehind_14 : decode cX2_slotBehind 14 = .ok (.aaload, 1) := by decide +kernel
theorem dX2_slotBehind_15 : decode cX2_slotBehind 15 = .ok (.areturn, 1) := by decide +kernel
theorem dX3_init_0 : decode cX3_init 0 = .ok (.aload_n 0, 1) := by decide +kernel
theorem dX3_init_1 : decode cX3_init 1 = .ok (.invokespecial 3, 3) := by decide +kernel
theorem dX3_init_4 : decode cX3_init 4 = .ok (.aload_n 0, 1) := by decide +kernel
theorem dX3_init_5 : decode cX3_init 5 = .ok (.bipush 10, 2) := by decide +kernel
theorem dX3_init_7 : decode cX3_init 7 = .ok (.newarray .int, 2) := by decide +kernel
theorem dX3_init_9 : decode cX3_init 9 = .ok (.putfield 9, 3) := by decide +kernel
theorem dX3_init_12 : decode cX3_init 12 = .ok (.aload_n 0, 1) := by decide +kernel
theorem dX3_init_13 : decode cX3_init 13 = .ok (.bipush 10, 2) := by decide +kernel
theorem dX3_init_15 : decode cX3_init 15 = .ok (.newarray .int, 2) := by decide +kernel
theorem dX3_init_17 : decode cX3_init 17 = .ok (.putfield 15, 3) := by decide +kernel
theorem dX3_init_20 : decode cX3_init 20 = .ok (.aload_n 0, 1) := by decide +kernel
theorem dX3_init_21 : decode cX3_init 21 = .ok (.bipush 10, 2) := by decide +kernel
theorem dX3_init_23 : decode cX3_init 23 = .ok (.newarray .int, 2) := by decide +kernel
theorem dX3_init_25 : decode cX3_init 25 = .ok (.putfield 18, 3) := by decide +kernel
theorem dX3_init_28 : decode cX3_init 28 = .ok (.aload_n 0, 1) := by decide +kernel
theorem dX3_init_29 : decode cX3_init 29 = .ok (.bipush 10, 2) := by decide +kernel
theorem dX3_init_31 : decode cX3_init 31 = .ok (.newarray .int, 2) := by decide +kernel
theorem dX3_init_33 : decode cX3_init 33 = .ok (.putfield 21, 3) := by decide +kernel
theorem dX3_init_36 : decode cX3_init 36 = .ok (.aload_n 0, 1) := by decide +kernel
theorem dX3_init_37 : decode cX3_init 37 = .ok (.bipush 6, 2) := by decide +kernel
theorem dX3_init_39 : decode cX3_init 39 = .ok (.newarray .int, 2) := by decide +kernel
theorem dX3_init_41 : decode cX3_init 41 = .ok (.putfield 24, 3) := by decide +kernel
theorem dX3_init_44 : decode cX3_init 44 = .ok (.aload_n 0, 1) := by decide +kernel
theorem dX3_init_45 : decode cX3_init 45 = .ok (.iconst 3, 1) := by decide +kernel
theorem dX3_init_46 : decode cX3_init 46 = .ok (.putfield 27, 3) := by decide +kernel
theorem dX3_init_49 : decode cX3_init 49 = .ok (.iconst 0, 1) := by decide +kernel
theorem dX3_init_50 : decode cX3_init 50 = .ok (.istore_n 1, 1) := by decide +kernel
theorem dX3_init_51 : decode cX3_init 51 = .ok (.iload_n 1, 1) := by decide +kernel
theorem dX3_init_52 : decode cX3_init 52 = .ok (.bipush 10, 2) := by decide +kernel
theorem dX3_init_54 : decode cX3_init 54 = .ok (.if_icmp .ge 48, 3) := by decide +kernel
theorem dX3_init_57 : decode cX3_init 57 = .ok (.aload_n 0, 1) := by decide +kernel
theorem dX3_init_58 : decode cX3_init 58 = .ok (.getfield 9, 3) := by decide +kernel
theorem dX3_init_61 : decode cX3_init 61 = .ok (.iload_n 1, 1) := by decide +kernel
theorem dX3_init_62 : decode cX3_init 62 = .ok (.iload_n 1, 1) := by decide +kernel
theorem dX3_init_63 : decode cX3_init 63 = .ok (.iconst 1, 1) := by decide +kernel
theorem dX3_init_64 : decode cX3_init 64 = .ok (.iadd, 1) := by decide +kernel
theorem dX3_init_65 : decode cX3_init 65 = .ok (.bipush 10, 2) := by decide +kernel
theorem dX3_init_67 : decode cX3_init 67 = .ok (.irem, 1) := by decide +kernel
theorem dX3_init_68 : decode cX3_init 68 = .ok (.iastore, 1) := by decide +kernel
theorem dX3_init_69 : decode cX3_init 69 = .ok (.aload_n 0, 1) := by decide +kernel
theorem dX3_init_70 : decode cX3_init 70 = .ok (.getfield 15, 3) := by decide +kernel
theorem dX3_init_73 : decode cX3_init 73 = .ok (.iload_n 1, 1) := by decide +kernel
theorem dX3_init_74 : decode cX3_init 74 = .ok (.iload_n 1, 1) := by decide +kernel
theorem dX3_init_75 : decode cX3_init 75 = .ok (.iconst 3, 1) := by decide +kernel
theorem dX3_init_76 : decode cX3_init 76 = .ok (.iadd, 1) := by decide +kernel
theorem dX3_init_77 : decode cX3_init 77 = .ok (.bipush 10, 2) := by decide +kernel
theorem dX3_init_79 : decode cX3_init 79 = .ok (.irem, 1) := by decide +kernel
theorem dX3_init_80 : decode cX3_init 80 = .ok (.iastore, 1) := by decide +kernel
theorem dX3_init_81 : decode cX3_init 81 = .ok (.aload_n 0, 1) := by decide +kernel
theorem dX3_init_82 : decode cX3_init 82 = .ok (.iload_n 1, 1) := by decide +kernel
theorem dX3_init_83 : decode cX3_init 83 = .ok (.iload_n 1, 1) := by decide +kernel
theorem dX3_init_84 : decode cX3_init 84 = .ok (.bipush 6, 2) := by decide +kernel
theorem dX3_init_86 : decode cX3_init 86 = .ok (.irem, 1) := by decide +kernel
theorem dX3_init_87 : decode cX3_init 87 = .ok (.iload_n 1, 1) := by decide +kernel
theorem dX3_init_88 : decode cX3_init 88 = .ok (.iconst 1, 1) := by decide +kernel
theorem dX3_init_89 : decode cX3_init 89 = .ok (.iadd, 1) := by decide +kernel
theorem dX3_init_90 : decode cX3_init 90 = .ok (.bipush 6, 2) := by decide +kernel
theorem dX3_init_92 : decode cX3_init 92 = .ok (.irem, 1) := by decide +kernel
theorem dX3_init_93 : decode cX3_init 93 = .ok (.invokevirtual 31, 3) := by decide +kernel
theorem dX3_init_96 : decode cX3_init 96 = .ok (.iinc 1 1, 3) := by decide +kernel
theorem dX3_init_99 : decode cX3_init 99 = .ok (.goto (-48), 3) := by decide +kernel
theorem dX3_init_102 : decode cX3_init 102 = .ok (.return_, 1) := by decide +kernel
theorem dX3_copy_0 : decode cX3_copy 0 = .ok (.aload_n 1, 1) := by decide +kernel
theorem dX3_copy_1 : decode cX3_copy 1 = .ok (.getfield 9, 3) := by decide +kernel
theorem dX3_copy_4 : decode cX3_copy 4 = .ok (.iconst 0, 1) := by decide +kernel
theorem dX3_copy_5 : decode cX3_copy 5 = .ok (.aload_n 0, 1) := by decide +kernel
theorem dX3_copy_6 : decode cX3_copy 6 = .ok (.getfield 9, 3) := by decide +kernel
theorem dX3_copy_9 : decode cX3_copy 9 = .ok (.iconst 0, 1) := by decide +kernel
theorem dX3_copy_10 : decode cX3_copy 10 = .ok (.bipush 10, 2) := by decide +kernel
theorem dX3_copy_12 : decode cX3_copy 12 = .ok (.invokestatic 35, 3) := by decide +kernel
theorem dX3_copy_15 : decode cX3_copy 15 = .ok (.aload_n 1, 1) := by decide +kernel
theorem dX3_copy_16 : decode cX3_copy 16 = .ok (.getfield 15, 3) := by decide +kernel
theorem dX3_copy_19 : decode cX3_copy 19 = .ok (.iconst 0, 1) := by decide +kernel
theorem dX3_copy_20 : decode cX3_copy 20 = .ok (.aload_n 0, 1) := by decide +kernel
theorem dX3_copy_21 : decode cX3_copy 21 = .ok (.getfield 15, 3) := by decide +kernel
theorem dX3_copy_24 : decode cX3_copy 24 = .ok (.iconst 0, 1) := by decide +kernel
theorem dX3_copy_25 : decode cX3_copy 25 = .ok (.bipush 10, 2) := by decide +kernel
theorem dX3_copy_27 : decode cX3_copy 27 = .ok (.invokestatic 35, 3) := by decide +kernel
theorem dX3_copy_30 : decode cX3_copy 30 = .ok (.aload_n 1, 1) := by decide +kernel
theorem dX3_copy_31 : decode cX3_copy 31 = .ok (.getfield 18, 3) := by decide +kernel
theorem dX3_copy_34 : decode cX3_copy 34 = .ok (.iconst 0, 1) := by decide +kernel
theorem dX3_copy_35 : decode cX3_copy 35 = .ok (.aload_n 0, 1) := by decide +kernel
theorem dX3_copy_36 : decode cX3_copy 36 = .ok (.getfield 18, 3) := by decide +kernel
theorem dX3_copy_39 : decode cX3_copy 39 = .ok (.iconst 0, 1) := by decide +kernel
theorem dX3_copy_40 : decode cX3_copy 40 = .ok (.bipush 10, 2) := by decide +kernel
theorem dX3_copy_42 : decode cX3_copy 42 = .ok (.invokestatic 35, 3) := by decide +kernel
theorem dX3_copy_45 : decode cX3_copy 45 = .ok (.aload_n 1, 1) := by decide +kernel
theorem dX3_copy_46 : decode cX3_copy 46 = .ok (.getfield 21, 3) := by decide +kernel
theorem dX3_copy_49 : decode cX3_copy 49 = .ok (.iconst 0, 1) := by decide +kernel
theorem dX3_copy_50 : decode cX3_copy 50 = .ok (.aload_n 0, 1) := by decide +kernel
theorem dX3_copy_51 : decode cX3_copy 51 = .ok (.getfield 21, 3) := by decide +kernel
theorem dX3_copy_54 : decode cX3_copy 54 = .ok (.iconst 0, 1) := by decide +kernel
theorem dX3_copy_55 : decode cX3_copy 55 = .ok (.bipush 10, 2) := by decide +kernel
theorem dX3_copy_57 : decode cX3_copy 57 = .ok (.invokestatic 35, 3) := by decide +kernel
theorem dX3_copy_60 : decode cX3_copy 60 = .ok (.aload_n 1, 1) := by decide +kernel
theorem dX3_copy_61 : decode cX3_copy 61 = .ok (.getfield 24, 3) := by decide +kernel
theorem dX3_copy_64 : decode cX3_copy 64 = .ok (.iconst 0, 1) := by decide +kernel
theorem dX3_copy_65 : decode cX3_copy 65 = .ok (.aload_n 0, 1) := by decide +kernel
theorem dX3_copy_66 : decode cX3_copy 66 = .ok (.getfield 24, 3) := by decide +kernel
theorem dX3_copy_69 : decode cX3_copy 69 = .ok (.iconst 0, 1) := by decide +kernel
theorem dX3_copy_70 : decode cX3_copy 70 = .ok (.bipush 6, 2) := by decide +kernel
theorem dX3_copy_72 : decode cX3_copy 72 = .ok (.invokestatic 35, 3) := by decide +kernel
theorem dX3_copy_75 : decode cX3_copy 75 = .ok (.aload_n 0, 1) := by decide +kernel
theorem dX3_copy_76 : decode cX3_copy 76 = .ok (.aload_n 1, 1) := by decide +kernel
theorem dX3_copy_77 : decode cX3_copy 77 = .ok (.getfield 27, 3) := by decide +kernel
theorem dX3_copy_80 : decode cX3_copy 80 = .ok (.putfield 27, 3) := by decide +kernel
theorem dX3_copy_83 : decode cX3_copy 83 = .ok (.return_, 1) := by decide +kernel
theorem dX3_hang_0 : decode cX3_hang 0 = .ok (.iconst 0, 1) := by decide +kernel
theorem dX3_hang_1 : decode cX3_hang 1 = .ok (.istore 4, 2) := by decide +kernel
theorem dX3_hang_3 : decode cX3_hang 3 = .ok (.iload 4, 2) := by decide +kernel
theorem dX3_hang_5 : decode cX3_hang 5 = .ok (.bipush 6, 2) := by decide +kernel
theorem dX3_hang_7 : decode cX3_hang 7 = .ok (.if_icmp .ge 27, 3) := by decide +kernel
theorem dX3_hang_10 : decode cX3_hang 10 = .ok (.aload_n 0, 1) := by decide +kernel
theorem dX3_hang_11 : decode cX3_hang 11 = .ok (.getfield 24, 3) := by decide +kernel
theorem dX3_hang_14 : decode cX3_hang 14 = .ok (.iload 4, 2) := by decide +kernel
theorem dX3_hang_16 : decode cX3_hang 16 = .ok (.aload_n 0, 1) := by decide +kernel
theorem dX3_hang_17 : decode cX3_hang 17 = .ok (.getfield 24, 3) := by decide +kernel
theorem dX3_hang_20 : decode cX3_hang 20 = .ok (.iload 4, 2) := by decide +kernel
theorem dX3_hang_22 : decode cX3_hang 22 = .ok (.iaload, 1) := by decide +kernel
theorem dX3_hang_23 : decode cX3_hang 23 = .ok (.iload_n 1, 1) := by decide +kernel
theorem dX3_hang_24 : decode cX3_hang 24 = .ok (.invokestatic 41, 3) := by decide +kernel
theorem dX3_hang_27 : decode cX3_hang 27 = .ok (.iastore, 1) := by decide +kernel
theorem dX3_hang_28 : decode cX3_hang 28 = .ok (.iinc 4 1, 3) := by decide +kernel
theorem dX3_hang_31 : decode cX3_hang 31 = .ok (.goto (-28), 3) := by decide +kernel
theorem dX3_hang_34 : decode cX3_hang 34 = .ok (.aload_n 0, 1) := by decide +kernel
theorem dX3_hang_35 : decode cX3_hang 35 = .ok (.getfield 18, 3) := by decide +kernel
theorem dX3_hang_38 : decode cX3_hang 38 = .ok (.iload_n 1, 1) := by decide +kernel
theorem dX3_hang_39 : decode cX3_hang 39 = .ok (.iload_n 2, 1) := by decide +kernel
theorem dX3_hang_40 : decode cX3_hang 40 = .ok (.iload_n 3, 1) := by decide +kernel
theorem dX3_hang_41 : decode cX3_hang 41 = .ok (.invokestatic 45, 3) := by decide +kernel
theorem dX3_hang_44 : decode cX3_hang 44 = .ok (.iastore, 1) := by decide +kernel
theorem dX3_hang_45 : decode cX3_hang 45 = .ok (.aload_n 0, 1) := by decide +kernel
theorem dX3_hang_46 : decode cX3_hang 46 = .ok (.getfield 21, 3) := by decide +kernel
theorem dX3_hang_49 : decode cX3_hang 49 = .ok (.iload_n 1, 1) := by decide +kernel
theorem dX3_hang_50 : decode cX3_hang 50 = .ok (.iload_n 2, 1) := by decide +kernel
theorem dX3_hang_51 : decode cX3_hang 51 = .ok (.iload_n 3, 1) := by decide +kernel
theorem dX3_hang_52 : decode cX3_hang 52 = .ok (.invokestatic 50, 3) := by decide +kernel
theorem dX3_hang_55 : decode cX3_hang 55 = .ok (.iastore, 1) := by decide +kernel
theorem dX3_hang_56 : decode cX3_hang 56 = .ok (.aload_n 0, 1) := by decide +kernel
theorem dX3_hang_57 : decode cX3_hang 57 = .ok (.getfield 24, 3) := by decide +kernel
theorem dX3_hang_60 : decode cX3_hang 60 = .ok (.iload_n 2, 1) := by decide +kernel
theorem dX3_hang_61 : decode cX3_hang 61 = .ok (.dup2, 1) := by decide +kernel
theorem dX3_hang_62 : decode cX3_hang 62 = .ok (.iaload, 1) := by decide +kernel
theorem dX3_hang_63 : decode cX3_hang 63 = .ok (.iconst 1, 1) := by decide +kernel
theorem dX3_hang_64 : decode cX3_hang 64 = .ok (.iload_n 1, 1) := by decide +kernel
theorem dX3_hang_65 : decode cX3_hang 65 = .ok (.ishl, 1) := by decide +kernel
theorem dX3_hang_66 : decode cX3_hang 66 = .ok (.ior, 1) := by decide +kernel
theorem dX3_hang_67 : decode cX3_hang 67 = .ok (.iastore, 1) := by decide +kernel
theorem dX3_hang_68 : decode cX3_hang 68 = .ok (.aload_n 0, 1) := by decide +kernel
theorem dX3_hang_69 : decode cX3_hang 69 = .ok (.getfield 24, 3) := by decide +kernel
theorem dX3_hang_72 : decode cX3_hang 72 = .ok (.iload_n 3, 1) := by decide +kernel
theorem dX3_hang_73 : decode cX3_hang 73 = .ok (.dup2, 1) := by decide +kernel
theorem dX3_hang_74 : decode cX3_hang 74 = .ok (.iaload, 1) := by decide +kernel
theorem dX3_hang_75 : decode cX3_hang 75 = .ok (.iconst 1, 1) := by decide +kernel
theorem dX3_hang_76 : decode cX3_hang 76 = .ok (.iload_n 1, 1) := by decide +kernel
theorem dX3_hang_77 : decode cX3_hang 77 = .ok (.ishl, 1) := by decide +kernel
theorem dX3_hang_78 : decode cX3_hang 78 = .ok (.ior, 1) := by decide +kernel
theorem dX3_hang_79 : decode cX3_hang 79 = .ok (.iastore, 1) := by decide +kernel
theorem dX3_hang_80 : decode cX3_hang 80 = .ok (.return_, 1) := by decide +kernel
theorem dX3_lesserHall_0 : decode cX3_lesserHall 0 = .ok (.aload_n 0, 1) := by decide +kernel
theorem dX3_lesserHall_1 : decode cX3_lesserHall 1 = .ok (.getfield 18, 3) := by decide +kernel
theorem dX3_lesserHall_4 : decode cX3_lesserHall 4 = .ok (.iload_n 1, 1) := by decide +kernel
theorem dX3_lesserHall_5 : decode cX3_lesserHall 5 = .ok (.iaload, 1) := by decide +kernel
theorem dX3_lesserHall_6 : decode cX3_lesserHall 6 = .ok (.ireturn, 1) := by decide +kernel
theorem dX3_greaterHall_0 : decode cX3_greaterHall 0 = .ok (.aload_n 0, 1) := by decide +kernel
theorem dX3_greaterHall_1 : decode cX3_greaterHall 1 = .ok (.getfield 21, 3) := by decide +kernel
theorem dX3_greaterHall_4 : decode cX3_greaterHall 4 = .ok (.iload_n 1, 1) := by decide +kernel
theorem dX3_greaterHall_5 : decode cX3_greaterHall 5 = .ok (.iaload, 1) := by decide +kernel
theorem dX3_greaterHall_6 : decode cX3_greaterHall 6 = .ok (.ireturn, 1) := by decide +kernel
theorem dX3_joins_0 : decode cX3_joins 0 = .ok (.aload_n 0, 1) := by decide +kernel
theorem dX3_joins_1 : decode cX3_joins 1 = .ok (.getfield 18, 3) := by decide +kernel
theorem dX3_joins_4 : decode cX3_joins 4 = .ok (.iload_n 1, 1) := by decide +kernel
theorem dX3_joins_5 : decode cX3_joins 5 = .ok (.iaload, 1) := by decide +kernel
theorem dX3_joins_6 : decode cX3_joins 6 = .ok (.iload_n 2, 1) := by decide +kernel
theorem dX3_joins_7 : decode cX3_joins 7 = .ok (.if_icmp .eq 13, 3) := by decide +kernel
theorem dX3_joins_10 : decode cX3_joins 10 = .ok (.aload_n 0, 1) := by decide +kernel
theorem dX3_joins_11 : decode cX3_joins 11 = .ok (.getfield 21, 3) := by decide +kernel
theorem dX3_joins_14 : decode cX3_joins 14 = .ok (.iload_n 1, 1) := by decide +kernel
theorem dX3_joins_15 : decode cX3_joins 15 = .ok (.iaload, 1) := by decide +kernel
theorem dX3_joins_16 : decode cX3_joins 16 = .ok (.iload_n 2, 1) := by decide +kernel
theorem dX3_joins_17 : decode cX3_joins 17 = .ok (.if_icmp .ne 7, 3) := by decide +kernel
theorem dX3_joins_20 : decode cX3_joins 20 = .ok (.iconst 1, 1) := by decide +kernel
theorem dX3_joins_21 : decode cX3_joins 21 = .ok (.goto 4, 3) := by decide +kernel
theorem dX3_joins_24 : decode cX3_joins 24 = .ok (.iconst 0, 1) := by decide +kernel
theorem dX3_joins_25 : decode cX3_joins 25 = .ok (.ireturn, 1) := by decide +kernel
theorem dX3_otherHall_0 : decode cX3_otherHall 0 = .ok (.aload_n 0, 1) := by decide +kernel
theorem dX3_otherHall_1 : decode cX3_otherHall 1 = .ok (.getfield 18, 3) := by decide +kernel
theorem dX3_otherHall_4 : decode cX3_otherHall 4 = .ok (.iload_n 1, 1) := by decide +kernel
theorem dX3_otherHall_5 : decode cX3_otherHall 5 = .ok (.iaload, 1) := by decide +kernel
theorem dX3_otherHall_6 : decode cX3_otherHall 6 = .ok (.iload_n 2, 1) := by decide +kernel
theorem dX3_otherHall_7 : decode cX3_otherHall 7 = .ok (.if_icmp .ne 12, 3) := by decide +kernel
theorem dX3_otherHall_10 : decode cX3_otherHall 10 = .ok (.aload_n 0, 1) := by decide +kernel
theorem dX3_otherHall_11 : decode cX3_otherHall 11 = .ok (.getfield 21, 3) := by decide +kernel
theorem dX3_otherHall_14 : decode cX3_otherHall 14 = .ok (.iload_n 1, 1) := by decide +kernel
theorem dX3_otherHall_15 : decode cX3_otherHall 15 = .ok (.iaload, 1) := by decide +kernel
theorem dX3_otherHall_16 : decode cX3_otherHall 16 = .ok (.goto 9, 3) := by decide +kernel
theorem dX3_otherHall_19 : decode cX3_otherHall 19 = .ok (.aload_n 0, 1) := by decide +kernel
theorem dX3_otherHall_20 : decode cX3_otherHall 20 = .ok (.getfield 18, 3) := by decide +kernel
theorem dX3_otherHall_23 : decode cX3_otherHall 23 = .ok (.iload_n 1, 1) := by decide +kernel
theorem dX3_otherHall_24 : decode cX3_otherHall 24 = .ok (.iaload, 1) := by decide +kernel
theorem dX3_otherHall_25 : decode cX3_otherHall 25 = .ok (.ireturn, 1) := by decide +kernel
theorem dX3_doorsOf_0 : decode cX3_doorsOf 0 = .ok (.aload_n 0, 1) := by decide +kernel
theorem dX3_doorsOf_1 : decode cX3_doorsOf 1 = .ok (.getfield 24, 3) := by decide +kernel
theorem dX3_doorsOf_4 : decode cX3_doorsOf 4 = .ok (.iload_n 1, 1) := by decide +kernel
theorem dX3_doorsOf_5 : decode cX3_doorsOf 5 = .ok (.iaload, 1) := by decide +kernel
theorem dX3_doorsOf_6 : decode cX3_doorsOf 6 = .ok (.ireturn, 1) := by decide +kernel
theorem dX3_cordOf_0 : decode cX3_cordOf 0 = .ok (.iload_n 2, 1) := by decide +kernel
theorem dX3_cordOf_1 : decode cX3_cordOf 1 = .ok (.ifCond .eq 12, 3) := by decide +kernel
theorem dX3_cordOf_4 : decode cX3_cordOf 4 = .ok (.aload_n 0, 1) := by decide +kernel
theorem dX3_cordOf_5 : decode cX3_cordOf 5 = .ok (.getfield 15, 3) := by decide +kernel
theorem dX3_cordOf_8 : decode cX3_cordOf 8 = .ok (.iload_n 1, 1) := by decide +kernel
theorem dX3_cordOf_9 : decode cX3_cordOf 9 = .ok (.iaload, 1) := by decide +kernel
theorem dX3_cordOf_10 : decode cX3_cordOf 10 = .ok (.goto 9, 3) := by decide +kernel
theorem dX3_cordOf_13 : decode cX3_cordOf 13 = .ok (.aload_n 0, 1) := by decide +kernel
theorem dX3_cordOf_14 : decode cX3_cordOf 14 = .ok (.getfield 9, 3) := by decide +kernel
theorem dX3_cordOf_17 : decode cX3_cordOf 17 = .ok (.iload_n 1, 1) := by decide +kernel
theorem dX3_cordOf_18 : decode cX3_cordOf 18 = .ok (.iaload, 1) := by decide +kernel
theorem dX3_cordOf_19 : decode cX3_cordOf 19 = .ok (.ireturn, 1) := by decide +kernel
theorem dX3_layCord_0 : decode cX3_layCord 0 = .ok (.iload_n 2, 1) := by decide +kernel
theorem dX3_layCord_1 : decode cX3_layCord 1 = .ok (.ifCond .eq 13, 3) := by decide +kernel
theorem dX3_layCord_4 : decode cX3_layCord 4 = .ok (.aload_n 0, 1) := by decide +kernel
theorem dX3_layCord_5 : decode cX3_layCord 5 = .ok (.getfield 15, 3) := by decide +kernel
theorem dX3_layCord_8 : decode cX3_layCord 8 = .ok (.iload_n 1, 1) := by decide +kernel
theorem dX3_layCord_9 : decode cX3_layCord 9 = .ok (.iload_n 3, 1) := by decide +kernel
theorem dX3_layCord_10 : decode cX3_layCord 10 = .ok (.iastore, 1) := by decide +kernel
theorem dX3_layCord_11 : decode cX3_layCord 11 = .ok (.goto 10, 3) := by decide +kernel
theorem dX3_layCord_14 : decode cX3_layCord 14 = .ok (.aload_n 0, 1) := by decide +kernel
theorem dX3_layCord_15 : decode cX3_layCord 15 = .ok (.getfield 9, 3) := by decide +kernel
theorem dX3_layCord_18 : decode cX3_layCord 18 = .ok (.iload_n 1, 1) := by decide +kernel
theorem dX3_layCord_19 : decode cX3_layCord 19 = .ok (.iload_n 3, 1) := by decide +kernel
theorem dX3_layCord_20 : decode cX3_layCord 20 = .ok (.iastore, 1) := by decide +kernel
theorem dX3_layCord_21 : decode cX3_layCord 21 = .ok (.return_, 1) := by decide +kernel
theorem dX3_targetsOf_0 : decode cX3_targetsOf 0 = .ok (.iconst 1, 1) := by decide +kernel
theorem dX3_targetsOf_1 : decode cX3_targetsOf 1 = .ok (.aload_n 0, 1) := by decide +kernel
theorem dX3_targetsOf_2 : decode cX3_targetsOf 2 = .ok (.getfield 9, 3) := by decide +kernel
theorem dX3_targetsOf_5 : decode cX3_targetsOf 5 = .ok (.iload_n 1, 1) := by decide +kernel
theorem dX3_targetsOf_6 : decode cX3_targetsOf 6 = .ok (.iaload, 1) := by decide +kernel
theorem dX3_targetsOf_7 : decode cX3_targetsOf 7 = .ok (.ishl, 1) := by decide +kernel
theorem dX3_targetsOf_8 : decode cX3_targetsOf 8 = .ok (.iconst 1, 1) := by decide +kernel
theorem dX3_targetsOf_9 : decode cX3_targetsOf 9 = .ok (.aload_n 0, 1) := by decide +kernel
theorem dX3_targetsOf_10 : decode cX3_targetsOf 10 = .ok (.getfield 15, 3) := by decide +kernel
theorem dX3_targetsOf_13 : decode cX3_targetsOf 13 = .ok (.iload_n 1, 1) := by decide +kernel
theorem dX3_targetsOf_14 : decode cX3_targetsOf 14 = .ok (.iaload, 1) := by decide +kernel
theorem dX3_targetsOf_15 : decode cX3_targetsOf 15 = .ok (.ishl, 1) := by decide +kernel
theorem dX3_targetsOf_16 : decode cX3_targetsOf 16 = .ok (.ior, 1) := by decide +kernel
theorem dX3_targetsOf_17 : decode cX3_targetsOf 17 = .ok (.sipush 1023, 3) := by decide +kernel
theorem dX3_targetsOf_20 : decode cX3_targetsOf 20 = .ok (.iand, 1) := by decide +kernel
theorem dX3_targetsOf_21 : decode cX3_targetsOf 21 = .ok (.ireturn, 1) := by decide +kernel
theorem dX3_heldBy_0 : decode cX3_heldBy 0 = .ok (.iconst 0, 1) := by decide +kernel
theorem dX3_heldBy_1 : decode cX3_heldBy 1 = .ok (.istore_n 2, 1) := by decide +kernel
theorem dX3_heldBy_2 : decode cX3_heldBy 2 = .ok (.iconst 0, 1) := by decide +kernel
theorem dX3_heldBy_3 : decode cX3_heldBy 3 = .ok (.istore_n 3, 1) := by decide +kernel
theorem dX3_heldBy_4 : decode cX3_heldBy 4 = .ok (.iload_n 3, 1) := by decide +kernel
theorem dX3_heldBy_5 : decode cX3_heldBy 5 = .ok (.bipush 10, 2) := by decide +kernel
theorem dX3_heldBy_7 : decode cX3_heldBy 7 = .ok (.if_icmp .ge 25, 3) := by decide +kernel
theorem dX3_heldBy_10 : decode cX3_heldBy 10 = .ok (.iload_n 1, 1) := by decide +kernel
theorem dX3_heldBy_11 : decode cX3_heldBy 11 = .ok (.iload_n 3, 1) := by decide +kernel
theorem dX3_heldBy_12 : decode cX3_heldBy 12 = .ok (.invokestatic 53, 3) := by decide +kernel
theorem dX3_heldBy_15 : decode cX3_heldBy 15 = .ok (.ifCond .eq 11, 3) := by decide +kernel
theorem dX3_heldBy_18 : decode cX3_heldBy 18 = .ok (.iload_n 2, 1) := by decide +kernel
theorem dX3_heldBy_19 : decode cX3_heldBy 19 = .ok (.aload_n 0, 1) := by decide +kernel
theorem dX3_heldBy_20 : decode cX3_heldBy 20 = .ok (.iload_n 3, 1) := by decide +kernel
theorem dX3_heldBy_21 : decode cX3_heldBy 21 = .ok (.invokevirtual 57, 3) := by decide +kernel
theorem dX3_heldBy_24 : decode cX3_heldBy 24 = .ok (.ior, 1) := by decide +kernel
theorem dX3_heldBy_25 : decode cX3_heldBy 25 = .ok (.istore_n 2, 1) := by decide +kernel
theorem dX3_heldBy_26 : decode cX3_heldBy 26 = .ok (.iinc 3 1, 3) := by decide +kernel
theorem dX3_heldBy_29 : decode cX3_heldBy 29 = .ok (.goto (-25), 3) := by decide +kernel
theorem dX3_heldBy_32 : decode cX3_heldBy 32 = .ok (.iload_n 2, 1) := by decide +kernel
theorem dX3_heldBy_33 : decode cX3_heldBy 33 = .ok (.ireturn, 1) := by decide +kernel
theorem dX3_cordsOf_0 : decode cX3_cordsOf 0 = .ok (.iconst 0, 1) := by decide +kernel
theorem dX3_cordsOf_1 : decode cX3_cordsOf 1 = .ok (.istore_n 2, 1) := by decide +kernel
theorem dX3_cordsOf_2 : decode cX3_cordsOf 2 = .ok (.iconst 0, 1) := by decide +kernel
theorem dX3_cordsOf_3 : decode cX3_cordsOf 3 = .ok (.istore_n 3, 1) := by decide +kernel
theorem dX3_cordsOf_4 : decode cX3_cordsOf 4 = .ok (.iload_n 3, 1) := by decide +kernel
theorem dX3_cordsOf_5 : decode cX3_cordsOf 5 = .ok (.bipush 10, 2) := by decide +kernel
theorem dX3_cordsOf_7 : decode cX3_cordsOf 7 = .ok (.if_icmp .ge 28, 3) := by decide +kernel
theorem dX3_cordsOf_10 : decode cX3_cordsOf 10 = .ok (.iload_n 1, 1) := by decide +kernel
theorem dX3_cordsOf_11 : decode cX3_cordsOf 11 = .ok (.iload_n 3, 1) := by decide +kernel
theorem dX3_cordsOf_12 : decode cX3_cordsOf 12 = .ok (.invokestatic 53, 3) := by decide +kernel
theorem dX3_cordsOf_15 : decode cX3_cordsOf 15 = .ok (.ifCond .eq 14, 3) := by decide +kernel
theorem dX3_cordsOf_18 : decode cX3_cordsOf 18 = .ok (.iload_n 2, 1) := by decide +kernel
theorem dX3_cordsOf_19 : decode cX3_cordsOf 19 = .ok (.aload_n 0, 1) := by decide +kernel
theorem dX3_cordsOf_20 : decode cX3_cordsOf 20 = .ok (.iload_n 3, 1) := by decide +kernel
theorem dX3_cordsOf_21 : decode cX3_cordsOf 21 = .ok (.invokevirtual 57, 3) := by decide +kernel
theorem dX3_cordsOf_24 : decode cX3_cordsOf 24 = .ok (.invokestatic 61, 3) := by decide +kernel
theorem dX3_cordsOf_27 : decode cX3_cordsOf 27 = .ok (.iadd, 1) := by decide +kernel
theorem dX3_cordsOf_28 : decode cX3_cordsOf 28 = .ok (.istore_n 2, 1) := by decide +kernel
theorem dX3_cordsOf_29 : decode cX3_cordsOf 29 = .ok (.iinc 3 1, 3) := by decide +kernel
theorem dX3_cordsOf_32 : decode cX3_cordsOf 32 = .ok (.goto (-28), 3) := by decide +kernel
theorem dX3_cordsOf_35 : decode cX3_cordsOf 35 = .ok (.iload_n 2, 1) := by decide +kernel
theorem dX3_cordsOf_36 : decode cX3_cordsOf 36 = .ok (.ireturn, 1) := by decide +kernel
theorem dX3_cordsTo_0 : decode cX3_cordsTo 0 = .ok (.iconst 0, 1) := by decide +kernel
theorem dX3_cordsTo_1 : decode cX3_cordsTo 1 = .ok (.istore_n 3, 1) := by decide +kernel
theorem dX3_cordsTo_2 : decode cX3_cordsTo 2 = .ok (.iconst 0, 1) := by decide +kernel
theorem dX3_cordsTo_3 : decode cX3_cordsTo 3 = .ok (.istore 4, 2) := by decide +kernel
theorem dX3_cordsTo_5 : decode cX3_cordsTo 5 = .ok (.iload 4, 2) := by decide +kernel
theorem dX3_cordsTo_7 : decode cX3_cordsTo 7 = .ok (.bipush 10, 2) := by decide +kernel
theorem dX3_cordsTo_9 : decode cX3_cordsTo 9 = .ok (.if_icmp .ge 34, 3) := by decide +kernel
theorem dX3_cordsTo_12 : decode cX3_cordsTo 12 = .ok (.iload_n 2, 1) := by decide +kernel
theorem dX3_cordsTo_13 : decode cX3_cordsTo 13 = .ok (.iload 4, 2) := by decide +kernel
theorem dX3_cordsTo_15 : decode cX3_cordsTo 15 = .ok (.invokestatic 53, 3) := by decide +kernel
theorem dX3_cordsTo_18 : decode cX3_cordsTo 18 = .ok (.ifCond .eq 19, 3) := by decide +kernel
theorem dX3_cordsTo_21 : decode cX3_cordsTo 21 = .ok (.aload_n 0, 1) := by decide +kernel
theorem dX3_cordsTo_22 : decode cX3_cordsTo 22 = .ok (.iload 4, 2) := by decide +kernel
theorem dX3_cordsTo_24 : decode cX3_cordsTo 24 = .ok (.invokevirtual 57, 3) := by decide +kernel
theorem dX3_cordsTo_27 : decode cX3_cordsTo 27 = .ok (.iload_n 1, 1) := by decide +kernel
theorem dX3_cordsTo_28 : decode cX3_cordsTo 28 = .ok (.invokestatic 53, 3) := by decide +kernel
theorem dX3_cordsTo_31 : decode cX3_cordsTo 31 = .ok (.ifCond .eq 6, 3) := by decide +kernel
theorem dX3_cordsTo_34 : decode cX3_cordsTo 34 = .ok (.iinc 3 1, 3) := by decide +kernel
theorem dX3_cordsTo_37 : decode cX3_cordsTo 37 = .ok (.iinc 4 1, 3) := by decide +kernel
theorem dX3_cordsTo_40 : decode cX3_cordsTo 40 = .ok (.goto (-35), 3) := by decide +kernel
theorem dX3_cordsTo_43 : decode cX3_cordsTo 43 = .ok (.iload_n 3, 1) := by decide +kernel
theorem dX3_cordsTo_44 : decode cX3_cordsTo 44 = .ok (.ireturn, 1) := by decide +kernel
theorem dX3_pairsOfDoors_0 : decode cX3_pairsOfDoors 0 = .ok (.iconst 0, 1) := by decide +kernel
theorem dX3_pairsOfDoors_1 : decode cX3_pairsOfDoors 1 = .ok (.istore_n 1, 1) := by decide +kernel
theorem dX3_pairsOfDoors_2 : decode cX3_pairsOfDoors 2 = .ok (.iconst 0, 1) := by decide +kernel
theorem dX3_pairsOfDoors_3 : decode cX3_pairsOfDoors 3 = .ok (.istore_n 2, 1) := by decide +kernel
theorem dX3_pairsOfDoors_4 : decode cX3_pairsOfDoors 4 = .ok (.iload_n 2, 1) := by decide +kernel
theorem dX3_pairsOfDoors_5 : decode cX3_pairsOfDoors 5 = .ok (.bipush 10, 2) := by decide +kernel
theorem dX3_pairsOfDoors_7 : decode cX3_pairsOfDoors 7 = .ok (.if_icmp .ge 52, 3) := by decide +kernel
theorem dX3_pairsOfDoors_10 : decode cX3_pairsOfDoors 10 = .ok (.iload_n 2, 1) := by decide +kernel
theorem dX3_pairsOfDoors_11 : decode cX3_pairsOfDoors 11 = .ok (.iconst 1, 1) := by decide +kernel
theorem dX3_pairsOfDoors_12 : decode cX3_pairsOfDoors 12 = .ok (.iadd, 1) := by decide +kernel
theorem dX3_pairsOfDoors_13 : decode cX3_pairsOfDoors 13 = .ok (.istore_n 3, 1) := by decide +kernel
theorem dX3_pairsOfDoors_14 : decode cX3_pairsOfDoors 14 = .ok (.iload_n 3, 1) := by decide +kernel
theorem dX3_pairsOfDoors_15 : decode cX3_pairsOfDoors 15 = .ok (.bipush 10, 2) := by decide +kernel
theorem dX3_pairsOfDoors_17 : decode cX3_pairsOfDoors 17 = .ok (.if_icmp .ge 36, 3) := by decide +kernel
theorem dX3_pairsOfDoors_20 : decode cX3_pairsOfDoors 20 = .ok (.aload_n 0, 1) := by decide +kernel
theorem dX3_pairsOfDoors_21 : decode cX3_pairsOfDoors 21 = .ok (.iload_n 2, 1) := by decide +kernel
theorem dX3_pairsOfDoors_22 : decode cX3_pairsOfDoors 22 = .ok (.invokevirtual 57, 3) := by decide +kernel
theorem dX3_pairsOfDoors_25 : decode cX3_pairsOfDoors 25 = .ok (.iload_n 3, 1) := by decide +kernel
theorem dX3_pairsOfDoors_26 : decode cX3_pairsOfDoors 26 = .ok (.invokestatic 53, 3) := by decide +kernel
theorem dX3_pairsOfDoors_29 : decode cX3_pairsOfDoors 29 = .ok (.ifCond .eq 18, 3) := by decide +kernel
theorem dX3_pairsOfDoors_32 : decode cX3_pairsOfDoors 32 = .ok (.aload_n 0, 1) := by decide +kernel
theorem dX3_pairsOfDoors_33 : decode cX3_pairsOfDoors 33 = .ok (.iload_n 3, 1) := by decide +kernel
theorem dX3_pairsOfDoors_34 : decode cX3_pairsOfDoors 34 = .ok (.invokevirtual 57, 3) := by decide +kernel
theorem dX3_pairsOfDoors_37 : decode cX3_pairsOfDoors 37 = .ok (.iload_n 2, 1) := by decide +kernel
theorem dX3_pairsOfDoors_38 : decode cX3_pairsOfDoors 38 = .ok (.invokestatic 53, 3) := by decide +kernel
theorem dX3_pairsOfDoors_41 : decode cX3_pairsOfDoors 41 = .ok (.ifCond .eq 6, 3) := by decide +kernel
theorem dX3_pairsOfDoors_44 : decode cX3_pairsOfDoors 44 = .ok (.iinc 1 1, 3) := by decide +kernel
theorem dX3_pairsOfDoors_47 : decode cX3_pairsOfDoors 47 = .ok (.iinc 3 1, 3) := by decide +kernel
theorem dX3_pairsOfDoors_50 : decode cX3_pairsOfDoors 50 = .ok (.goto (-36), 3) := by decide +kernel
theorem dX3_pairsOfDoors_53 : decode cX3_pairsOfDoors 53 = .ok (.iinc 2 1, 3) := by decide +kernel
theorem dX3_pairsOfDoors_56 : decode cX3_pairsOfDoors 56 = .ok (.goto (-52), 3) := by decide +kernel
theorem dX3_pairsOfDoors_59 : decode cX3_pairsOfDoors 59 = .ok (.iload_n 1, 1) := by decide +kernel
theorem dX3_pairsOfDoors_60 : decode cX3_pairsOfDoors 60 = .ok (.ireturn, 1) := by decide +kernel
theorem dX3_canBeOpen_0 : decode cX3_canBeOpen 0 = .ok (.aload_n 0, 1) := by decide +kernel
theorem dX3_canBeOpen_1 : decode cX3_canBeOpen 1 = .ok (.iload_n 1, 1) := by decide +kernel
theorem dX3_canBeOpen_2 : decode cX3_canBeOpen 2 = .ok (.invokevirtual 66, 3) := by decide +kernel
theorem dX3_canBeOpen_5 : decode cX3_canBeOpen 5 = .ok (.iload_n 1, 1) := by decide +kernel
theorem dX3_canBeOpen_6 : decode cX3_canBeOpen 6 = .ok (.iand, 1) := by decide +kernel
theorem dX3_canBeOpen_7 : decode cX3_canBeOpen 7 = .ok (.ifCond .eq 5, 3) := by decide +kernel
theorem dX3_canBeOpen_10 : decode cX3_canBeOpen 10 = .ok (.iconst 0, 1) := by decide +kernel
theorem dX3_canBeOpen_11 : decode cX3_canBeOpen 11 = .ok (.ireturn, 1) := by decide +kernel
theorem dX3_canBeOpen_12 : decode cX3_canBeOpen 12 = .ok (.iconst 0, 1) := by decide +kernel
theorem dX3_canBeOpen_13 : decode cX3_canBeOpen 13 = .ok (.istore_n 2, 1) := by decide +kernel
theorem dX3_canBeOpen_14 : decode cX3_canBeOpen 14 = .ok (.iload_n 2, 1) := by decide +kernel
theorem dX3_canBeOpen_15 : decode cX3_canBeOpen 15 = .ok (.bipush 6, 2) := by decide +kernel
theorem dX3_canBeOpen_17 : decode cX3_canBeOpen 17 = .ok (.if_icmp .ge 20, 3) := by decide +kernel
theorem dX3_canBeOpen_20 : decode cX3_canBeOpen 20 = .ok (.aload_n 0, 1) := by decide +kernel
theorem dX3_canBeOpen_21 : decode cX3_canBeOpen 21 = .ok (.iload_n 2, 1) := by decide +kernel
theorem dX3_canBeOpen_22 : decode cX3_canBeOpen 22 = .ok (.iload_n 1, 1) := by decide +kernel
theorem dX3_canBeOpen_23 : decode cX3_canBeOpen 23 = .ok (.invokevirtual 69, 3) := by decide +kernel
theorem dX3_canBeOpen_26 : decode cX3_canBeOpen 26 = .ok (.ifCond .eq 5, 3) := by decide +kernel
theorem dX3_canBeOpen_29 : decode cX3_canBeOpen 29 = .ok (.iconst 0, 1) := by decide +kernel
theorem dX3_canBeOpen_30 : decode cX3_canBeOpen 30 = .ok (.ireturn, 1) := by decide +kernel
theorem dX3_canBeOpen_31 : decode cX3_canBeOpen 31 = .ok (.iinc 2 1, 3) := by decide +kernel
theorem dX3_canBeOpen_34 : decode cX3_canBeOpen 34 = .ok (.goto (-20), 3) := by decide +kernel
theorem dX3_canBeOpen_37 : decode cX3_canBeOpen 37 = .ok (.iconst 1, 1) := by decide +kernel
theorem dX3_canBeOpen_38 : decode cX3_canBeOpen 38 = .ok (.ireturn, 1) := by decide +kernel
theorem dX3_hasTooMany_0 : decode cX3_hasTooMany 0 = .ok (.aload_n 0, 1) := by decide +kernel
theorem dX3_hasTooMany_1 : decode cX3_hasTooMany 1 = .ok (.getfield 24, 3) := by decide +kernel
theorem dX3_hasTooMany_4 : decode cX3_hasTooMany 4 = .ok (.iload_n 1, 1) := by decide +kernel
theorem dX3_hasTooMany_5 : decode cX3_hasTooMany 5 = .ok (.iaload, 1) := by decide +kernel
theorem dX3_hasTooMany_6 : decode cX3_hasTooMany 6 = .ok (.iload_n 2, 1) := by decide +kernel
theorem dX3_hasTooMany_7 : decode cX3_hasTooMany 7 = .ok (.iand, 1) := by decide +kernel
theorem dX3_hasTooMany_8 : decode cX3_hasTooMany 8 = .ok (.invokestatic 61, 3) := by decide +kernel
theorem dX3_hasTooMany_11 : decode cX3_hasTooMany 11 = .ok (.aload_n 0, 1) := by decide +kernel
theorem dX3_hasTooMany_12 : decode cX3_hasTooMany 12 = .ok (.getfield 27, 3) := by decide +kernel
theorem dX3_hasTooMany_15 : decode cX3_hasTooMany 15 = .ok (.if_icmp .le 7, 3) := by decide +kernel
theorem dX3_hasTooMany_18 : decode cX3_hasTooMany 18 = .ok (.iconst 1, 1) := by decide +kernel
theorem dX3_hasTooMany_19 : decode cX3_hasTooMany 19 = .ok (.goto 4, 3) := by decide +kernel
theorem dX3_hasTooMany_22 : decode cX3_hasTooMany 22 = .ok (.iconst 0, 1) := by decide +kernel
theorem dX3_hasTooMany_23 : decode cX3_hasTooMany 23 = .ok (.ireturn, 1) := by decide +kernel
theorem dX3_afterOpening_0 : decode cX3_afterOpening 0 = .ok (.aload_n 0, 1) := by decide +kernel
theorem dX3_afterOpening_1 : decode cX3_afterOpening 1 = .ok (.aload_n 0, 1) := by decide +kernel
theorem dX3_afterOpening_2 : decode cX3_afterOpening 2 = .ok (.iload_n 1, 1) := by decide +kernel
theorem dX3_afterOpening_3 : decode cX3_afterOpening 3 = .ok (.iload_n 2, 1) := by decide +kernel
theorem dX3_afterOpening_4 : decode cX3_afterOpening 4 = .ok (.invokevirtual 72, 3) := by decide +kernel
theorem dX3_afterOpening_7 : decode cX3_afterOpening 7 = .ok (.iload_n 2, 1) := by decide +kernel
theorem dX3_afterOpening_8 : decode cX3_afterOpening 8 = .ok (.invokevirtual 75, 3) := by decide +kernel
theorem dX3_afterOpening_11 : decode cX3_afterOpening 11 = .ok (.ireturn, 1) := by decide +kernel
theorem dX3_afterCords_0 : decode cX3_afterCords 0 = .ok (.iload_n 1, 1) := by decide +kernel
theorem dX3_afterCords_1 : decode cX3_afterCords 1 = .ok (.iconst 1, 1) := by decide +kernel
theorem dX3_afterCords_2 : decode cX3_afterCords 2 = .ok (.iload_n 2, 1) := by decide +kernel
theorem dX3_afterCords_3 : decode cX3_afterCords 3 = .ok (.ishl, 1) := by decide +kernel
theorem dX3_afterCords_4 : decode cX3_afterCords 4 = .ok (.ior, 1) := by decide +kernel
theorem dX3_afterCords_5 : decode cX3_afterCords 5 = .ok (.aload_n 0, 1) := by decide +kernel
theorem dX3_afterCords_6 : decode cX3_afterCords 6 = .ok (.iload_n 2, 1) := by decide +kernel
theorem dX3_afterCords_7 : decode cX3_afterCords 7 = .ok (.invokevirtual 57, 3) := by decide +kernel
theorem dX3_afterCords_10 : decode cX3_afterCords 10 = .ok (.iconst (-1), 1) := by decide +kernel
theorem dX3_afterCords_11 : decode cX3_afterCords 11 = .ok (.ixor, 1) := by decide +kernel
theorem dX3_afterCords_12 : decode cX3_afterCords 12 = .ok (.iand, 1) := by decide +kernel
theorem dX3_afterCords_13 : decode cX3_afterCords 13 = .ok (.ireturn, 1) := by decide +kernel
theorem dX3_afterDrafts_0 : decode cX3_afterDrafts 0 = .ok (.iload_n 1, 1) := by decide +kernel
theorem dX3_afterDrafts_1 : decode cX3_afterDrafts 1 = .ok (.istore_n 3, 1) := by decide +kernel
theorem dX3_afterDrafts_2 : decode cX3_afterDrafts 2 = .ok (.iconst 0, 1) := by decide +kernel
theorem dX3_afterDrafts_3 : decode cX3_afterDrafts 3 = .ok (.istore 4, 2) := by decide +kernel
theorem dX3_afterDrafts_5 : decode cX3_afterDrafts 5 = .ok (.iload 4, 2) := by decide +kernel
theorem dX3_afterDrafts_7 : decode cX3_afterDrafts 7 = .ok (.bipush 6, 2) := by decide +kernel
theorem dX3_afterDrafts_9 : decode cX3_afterDrafts 9 = .ok (.if_icmp .ge 65, 3) := by decide +kernel
theorem dX3_afterDrafts_12 : decode cX3_afterDrafts 12 = .ok (.iconst 0, 1) := by decide +kernel
theorem dX3_afterDrafts_13 : decode cX3_afterDrafts 13 = .ok (.istore 5, 2) := by decide +kernel
theorem dX3_afterDrafts_15 : decode cX3_afterDrafts 15 = .ok (.iload 5, 2) := by decide +kernel
theorem dX3_afterDrafts_17 : decode cX3_afterDrafts 17 = .ok (.bipush 10, 2) := by decide +kernel
theorem dX3_afterDrafts_19 : decode cX3_afterDrafts 19 = .ok (.if_icmp .ge 49, 3) := by decide +kernel
theorem dX3_afterDrafts_22 : decode cX3_afterDrafts 22 = .ok (.aload_n 0, 1) := by decide +kernel
theorem dX3_afterDrafts_23 : decode cX3_afterDrafts 23 = .ok (.iload 4, 2) := by decide +kernel
theorem dX3_afterDrafts_25 : decode cX3_afterDrafts 25 = .ok (.iload_n 3, 1) := by decide +kernel
theorem dX3_afterDrafts_26 : decode cX3_afterDrafts 26 = .ok (.invokevirtual 69, 3) := by decide +kernel
theorem dX3_afterDrafts_29 : decode cX3_afterDrafts 29 = .ok (.ifCond .eq 39, 3) := by decide +kernel
theorem dX3_afterDrafts_32 : decode cX3_afterDrafts 32 = .ok (.iload_n 3, 1) := by decide +kernel
theorem dX3_afterDrafts_33 : decode cX3_afterDrafts 33 = .ok (.aload_n 0, 1) := by decide +kernel
theorem dX3_afterDrafts_34 : decode cX3_afterDrafts 34 = .ok (.getfield 24, 3) := by decide +kernel
theorem dX3_afterDrafts_37 : decode cX3_afterDrafts 37 = .ok (.iload 4, 2) := by decide +kernel
theorem dX3_afterDrafts_39 : decode cX3_afterDrafts 39 = .ok (.iaload, 1) := by decide +kernel
theorem dX3_afterDrafts_40 : decode cX3_afterDrafts 40 = .ok (.iand, 1) := by decide +kernel
theorem dX3_afterDrafts_41 : decode cX3_afterDrafts 41 = .ok (.iload_n 2, 1) := by decide +kernel
theorem dX3_afterDrafts_42 : decode cX3_afterDrafts 42 = .ok (.invokestatic 41, 3) := by decide +kernel
theorem dX3_afterDrafts_45 : decode cX3_afterDrafts 45 = .ok (.istore 6, 2) := by decide +kernel
theorem dX3_afterDrafts_47 : decode cX3_afterDrafts 47 = .ok (.iload 6, 2) := by decide +kernel
theorem dX3_afterDrafts_49 : decode cX3_afterDrafts 49 = .ok (.iload 6, 2) := by decide +kernel
theorem dX3_afterDrafts_51 : decode cX3_afterDrafts 51 = .ok (.ineg, 1) := by decide +kernel
theorem dX3_afterDrafts_52 : decode cX3_afterDrafts 52 = .ok (.iand, 1) := by decide +kernel
theorem dX3_afterDrafts_53 : decode cX3_afterDrafts 53 = .ok (.istore 7, 2) := by decide +kernel
theorem dX3_afterDrafts_55 : decode cX3_afterDrafts 55 = .ok (.iload_n 3, 1) := by decide +kernel
theorem dX3_afterDrafts_56 : decode cX3_afterDrafts 56 = .ok (.iload 7, 2) := by decide +kernel
theorem dX3_afterDrafts_58 : decode cX3_afterDrafts 58 = .ok (.iconst (-1), 1) := by decide +kernel
theorem dX3_afterDrafts_59 : decode cX3_afterDrafts 59 = .ok (.ixor, 1) := by decide +kernel
theorem dX3_afterDrafts_60 : decode cX3_afterDrafts 60 = .ok (.iand, 1) := by decide +kernel
theorem dX3_afterDrafts_61 : decode cX3_afterDrafts 61 = .ok (.istore_n 3, 1) := by decide +kernel
theorem dX3_afterDrafts_62 : decode cX3_afterDrafts 62 = .ok (.iinc 5 1, 3) := by decide +kernel
theorem dX3_afterDrafts_65 : decode cX3_afterDrafts 65 = .ok (.goto (-50), 3) := by decide +kernel
theorem dX3_afterDrafts_68 : decode cX3_afterDrafts 68 = .ok (.iinc 4 1, 3) := by decide +kernel
theorem dX3_afterDrafts_71 : decode cX3_afterDrafts 71 = .ok (.goto (-66), 3) := by decide +kernel
theorem dX3_afterDrafts_74 : decode cX3_afterDrafts 74 = .ok (.iload_n 3, 1) := by decide +kernel
theorem dX3_afterDrafts_75 : decode cX3_afterDrafts 75 = .ok (.ireturn, 1) := by decide +kernel
theorem dX3_hallsFrom_0 : decode cX3_hallsFrom 0 = .ok (.iconst 1, 1) := by decide +kernel
theorem dX3_hallsFrom_1 : decode cX3_hallsFrom 1 = .ok (.iload_n 1, 1) := by decide +kernel
theorem dX3_hallsFrom_2 : decode cX3_hallsFrom 2 = .ok (.ishl, 1) := by decide +kernel
theorem dX3_hallsFrom_3 : decode cX3_hallsFrom 3 = .ok (.istore_n 3, 1) := by decide +kernel
theorem dX3_hallsFrom_4 : decode cX3_hallsFrom 4 = .ok (.iconst 0, 1) := by decide +kernel
theorem dX3_hallsFrom_5 : decode cX3_hallsFrom 5 = .ok (.istore 4, 2) := by decide +kernel
theorem dX3_hallsFrom_7 : decode cX3_hallsFrom 7 = .ok (.iload 4, 2) := by decide +kernel
theorem dX3_hallsFrom_9 : decode cX3_hallsFrom 9 = .ok (.bipush 6, 2) := by decide +kernel
theorem dX3_hallsFrom_11 : decode cX3_hallsFrom 11 = .ok (.if_icmp .ge 67, 3) := by decide +kernel
theorem dX3_hallsFrom_14 : decode cX3_hallsFrom 14 = .ok (.iconst 0, 1) := by decide +kernel
theorem dX3_hallsFrom_15 : decode cX3_hallsFrom 15 = .ok (.istore 5, 2) := by decide +kernel
theorem dX3_hallsFrom_17 : decode cX3_hallsFrom 17 = .ok (.iload 5, 2) := by decide +kernel
theorem dX3_hallsFrom_19 : decode cX3_hallsFrom 19 = .ok (.bipush 10, 2) := by decide +kernel
theorem dX3_hallsFrom_21 : decode cX3_hallsFrom 21 = .ok (.if_icmp .ge 51, 3) := by decide +kernel
theorem dX3_hallsFrom_24 : decode cX3_hallsFrom 24 = .ok (.iconst 1, 1) := by decide +kernel
theorem dX3_hallsFrom_25 : decode cX3_hallsFrom 25 = .ok (.aload_n 0, 1) := by decide +kernel
theorem dX3_hallsFrom_26 : decode cX3_hallsFrom 26 = .ok (.getfield 18, 3) := by decide +kernel
theorem dX3_hallsFrom_29 : decode cX3_hallsFrom 29 = .ok (.iload 5, 2) := by decide +kernel
theorem dX3_hallsFrom_31 : decode cX3_hallsFrom 31 = .ok (.iaload, 1) := by decide +kernel
theorem dX3_hallsFrom_32 : decode cX3_hallsFrom 32 = .ok (.ishl, 1) := by decide +kernel
theorem dX3_hallsFrom_33 : decode cX3_hallsFrom 33 = .ok (.iconst 1, 1) := by decide +kernel
theorem dX3_hallsFrom_34 : decode cX3_hallsFrom 34 = .ok (.aload_n 0, 1) := by decide +kernel
theorem dX3_hallsFrom_35 : decode cX3_hallsFrom 35 = .ok (.getfield 21, 3) := by decide +kernel
theorem dX3_hallsFrom_38 : decode cX3_hallsFrom 38 = .ok (.iload 5, 2) := by decide +kernel
theorem dX3_hallsFrom_40 : decode cX3_hallsFrom 40 = .ok (.iaload, 1) := by decide +kernel
theorem dX3_hallsFrom_41 : decode cX3_hallsFrom 41 = .ok (.ishl, 1) := by decide +kernel
theorem dX3_hallsFrom_42 : decode cX3_hallsFrom 42 = .ok (.ior, 1) := by decide +kernel
theorem dX3_hallsFrom_43 : decode cX3_hallsFrom 43 = .ok (.istore 6, 2) := by decide +kernel
theorem dX3_hallsFrom_45 : decode cX3_hallsFrom 45 = .ok (.iload_n 2, 1) := by decide +kernel
theorem dX3_hallsFrom_46 : decode cX3_hallsFrom 46 = .ok (.iload 5, 2) := by decide +kernel
theorem dX3_hallsFrom_48 : decode cX3_hallsFrom 48 = .ok (.invokestatic 53, 3) := by decide +kernel
theorem dX3_hallsFrom_51 : decode cX3_hallsFrom 51 = .ok (.ifCond .eq 15, 3) := by decide +kernel
theorem dX3_hallsFrom_54 : decode cX3_hallsFrom 54 = .ok (.iload_n 3, 1) := by decide +kernel
theorem dX3_hallsFrom_55 : decode cX3_hallsFrom 55 = .ok (.iload 6, 2) := by decide +kernel
theorem dX3_hallsFrom_57 : decode cX3_hallsFrom 57 = .ok (.iand, 1) := by decide +kernel
theorem dX3_hallsFrom_58 : decode cX3_hallsFrom 58 = .ok (.ifCond .eq 8, 3) := by decide +kernel
theorem dX3_hallsFrom_61 : decode cX3_hallsFrom 61 = .ok (.iload_n 3, 1) := by decide +kernel
theorem dX3_hallsFrom_62 : decode cX3_hallsFrom 62 = .ok (.iload 6, 2) := by decide +kernel
theorem dX3_hallsFrom_64 : decode cX3_hallsFrom 64 = .ok (.ior, 1) := by decide +kernel
theorem dX3_hallsFrom_65 : decode cX3_hallsFrom 65 = .ok (.istore_n 3, 1) := by decide +kernel
theorem dX3_hallsFrom_66 : decode cX3_hallsFrom 66 = .ok (.iinc 5 1, 3) := by decide +kernel
theorem dX3_hallsFrom_69 : decode cX3_hallsFrom 69 = .ok (.goto (-52), 3) := by decide +kernel
theorem dX3_hallsFrom_72 : decode cX3_hallsFrom 72 = .ok (.iinc 4 1, 3) := by decide +kernel
theorem dX3_hallsFrom_75 : decode cX3_hallsFrom 75 = .ok (.goto (-68), 3) := by decide +kernel
theorem dX3_hallsFrom_78 : decode cX3_hallsFrom 78 = .ok (.iload_n 3, 1) := by decide +kernel
theorem dX3_hallsFrom_79 : decode cX3_hallsFrom 79 = .ok (.ireturn, 1) := by decide +kernel
theorem dX3_pairsOfHalls_0 : decode cX3_pairsOfHalls 0 = .ok (.iconst 0, 1) := by decide +kernel
theorem dX3_pairsOfHalls_1 : decode cX3_pairsOfHalls 1 = .ok (.istore_n 2, 1) := by decide +kernel
theorem dX3_pairsOfHalls_2 : decode cX3_pairsOfHalls 2 = .ok (.iconst 0, 1) := by decide +kernel
theorem dX3_pairsOfHalls_3 : decode cX3_pairsOfHalls 3 = .ok (.istore_n 3, 1) := by decide +kernel
theorem dX3_pairsOfHalls_4 : decode cX3_pairsOfHalls 4 = .ok (.iload_n 3, 1) := by decide +kernel
theorem dX3_pairsOfHalls_5 : decode cX3_pairsOfHalls 5 = .ok (.bipush 6, 2) := by decide +kernel
theorem dX3_pairsOfHalls_7 : decode cX3_pairsOfHalls 7 = .ok (.if_icmp .ge 23, 3) := by decide +kernel
theorem dX3_pairsOfHalls_10 : decode cX3_pairsOfHalls 10 = .ok (.iload_n 2, 1) := by decide +kernel
theorem dX3_pairsOfHalls_11 : decode cX3_pairsOfHalls 11 = .ok (.aload_n 0, 1) := by decide +kernel
theorem dX3_pairsOfHalls_12 : decode cX3_pairsOfHalls 12 = .ok (.iload_n 3, 1) := by decide +kernel
theorem dX3_pairsOfHalls_13 : decode cX3_pairsOfHalls 13 = .ok (.iload_n 1, 1) := by decide +kernel
theorem dX3_pairsOfHalls_14 : decode cX3_pairsOfHalls 14 = .ok (.invokevirtual 78, 3) := by decide +kernel
theorem dX3_pairsOfHalls_17 : decode cX3_pairsOfHalls 17 = .ok (.invokestatic 61, 3) := by decide +kernel
theorem dX3_pairsOfHalls_20 : decode cX3_pairsOfHalls 20 = .ok (.iconst 1, 1) := by decide +kernel
theorem dX3_pairsOfHalls_21 : decode cX3_pairsOfHalls 21 = .ok (.isub, 1) := by decide +kernel
theorem dX3_pairsOfHalls_22 : decode cX3_pairsOfHalls 22 = .ok (.iadd, 1) := by decide +kernel
theorem dX3_pairsOfHalls_23 : decode cX3_pairsOfHalls 23 = .ok (.istore_n 2, 1) := by decide +kernel
theorem dX3_pairsOfHalls_24 : decode cX3_pairsOfHalls 24 = .ok (.iinc 3 1, 3) := by decide +kernel
theorem dX3_pairsOfHalls_27 : decode cX3_pairsOfHalls 27 = .ok (.goto (-23), 3) := by decide +kernel
theorem dX3_pairsOfHalls_30 : decode cX3_pairsOfHalls 30 = .ok (.iload_n 2, 1) := by decide +kernel
theorem dX3_pairsOfHalls_31 : decode cX3_pairsOfHalls 31 = .ok (.iconst 2, 1) := by decide +kernel
theorem dX3_pairsOfHalls_32 : decode cX3_pairsOfHalls 32 = .ok (.idiv, 1) := by decide +kernel
theorem dX3_pairsOfHalls_33 : decode cX3_pairsOfHalls 33 = .ok (.ireturn, 1) := by decide +kernel
theorem dX4_init_0 : decode cX4_init 0 = .ok (.aload_n 0, 1) := by decide +kernel
theorem dX4_init_1 : decode cX4_init 1 = .ok (.invokespecial 3, 3) := by decide +kernel
theorem dX4_init_4 : decode cX4_init 4 = .ok (.aload_n 0, 1) := by decide +kernel
theorem dX4_init_5 : decode cX4_init 5 = .ok (.bipush 60, 2) := by decide +kernel
theorem dX4_init_7 : decode cX4_init 7 = .ok (.newarray .int, 2) := by decide +kernel
theorem dX4_init_9 : decode cX4_init 9 = .ok (.putfield 9, 3) := by decide +kernel
theorem dX4_init_12 : decode cX4_init 12 = .ok (.aload_n 0, 1) := by decide +kernel
theorem dX4_init_13 : decode cX4_init 13 = .ok (.iconst 0, 1) := by decide +kernel
theorem dX4_init_14 : decode cX4_init 14 = .ok (.putfield 15, 3) := by decide +kernel
theorem dX4_init_17 : decode cX4_init 17 = .ok (.return_, 1) := by decide +kernel
theorem dX4_add_0 : decode cX4_add 0 = .ok (.aload_n 0, 1) := by decide +kernel
theorem dX4_add_1 : decode cX4_add 1 = .ok (.getfield 15, 3) := by decide +kernel
theorem dX4_add_4 : decode cX4_add 4 = .ok (.bipush 60, 2) := by decide +kernel
theorem dX4_add_6 : decode cX4_add 6 = .ok (.if_icmp .ge 23, 3) := by decide +kernel
theorem dX4_add_9 : decode cX4_add 9 = .ok (.aload_n 0, 1) := by decide +kernel
theorem dX4_add_10 : decode cX4_add 10 = .ok (.getfield 9, 3) := by decide +kernel
theorem dX4_add_13 : decode cX4_add 13 = .ok (.aload_n 0, 1) := by decide +kernel
theorem dX4_add_14 : decode cX4_add 14 = .ok (.getfield 15, 3) := by decide +kernel
theorem dX4_add_17 : decode cX4_add 17 = .ok (.iload_n 1, 1) := by decide +kernel
theorem dX4_add_18 : decode cX4_add 18 = .ok (.iastore, 1) := by decide +kernel
theorem dX4_add_19 : decode cX4_add 19 = .ok (.aload_n 0, 1) := by decide +kernel
theorem dX4_add_20 : decode cX4_add 20 = .ok (.dup, 1) := by decide +kernel
theorem dX4_add_21 : decode cX4_add 21 = .ok (.getfield 15, 3) := by decide +kernel
theorem dX4_add_24 : decode cX4_add 24 = .ok (.iconst 1, 1) := by decide +kernel
theorem dX4_add_25 : decode cX4_add 25 = .ok (.iadd, 1) := by decide +kernel
theorem dX4_add_26 : decode cX4_add 26 = .ok (.putfield 15, 3) := by decide +kernel
theorem dX4_add_29 : decode cX4_add 29 = .ok (.aload_n 0, 1) := by decide +kernel
theorem dX4_add_30 : decode cX4_add 30 = .ok (.getfield 15, 3) := by decide +kernel
theorem dX4_add_33 : decode cX4_add 33 = .ok (.ireturn, 1) := by decide +kernel
theorem dX4_empty_0 : decode cX4_empty 0 = .ok (.aload_n 0, 1) := by decide +kernel
theorem dX4_empty_1 : decode cX4_empty 1 = .ok (.getfield 15, 3) := by decide +kernel
theorem dX4_empty_4 : decode cX4_empty 4 = .ok (.istore_n 1, 1) := by decide +kernel
theorem dX4_empty_5 : decode cX4_empty 5 = .ok (.aload_n 0, 1) := by decide +kernel
theorem dX4_empty_6 : decode cX4_empty 6 = .ok (.iconst 0, 1) := by decide +kernel
theorem dX4_empty_7 : decode cX4_empty 7 = .ok (.putfield 15, 3) := by decide +kernel
theorem dX4_empty_10 : decode cX4_empty 10 = .ok (.iload_n 1, 1) := by decide +kernel
theorem dX4_empty_11 : decode cX4_empty 11 = .ok (.ireturn, 1) := by decide +kernel
theorem dX4_faultPlace_0 : decode cX4_faultPlace 0 = .ok (.iconst 0, 1) := by decide +kernel
theorem dX4_faultPlace_1 : decode cX4_faultPlace 1 = .ok (.istore_n 1, 1) := by decide +kernel
theorem dX4_faultPlace_2 : decode cX4_faultPlace 2 = .ok (.iconst 0, 1) := by decide +kernel
theorem dX4_faultPlace_3 : decode cX4_faultPlace 3 = .ok (.istore_n 2, 1) := by decide +kernel
theorem dX4_faultPlace_4 : decode cX4_faultPlace 4 = .ok (.iload_n 2, 1) := by decide +kernel
theorem dX4_faultPlace_5 : decode cX4_faultPlace 5 = .ok (.aload_n 0, 1) := by decide +kernel
theorem dX4_faultPlace_6 : decode cX4_faultPlace 6 = .ok (.getfield 15, 3) := by decide +kernel
theorem dX4_faultPlace_9 : decode cX4_faultPlace 9 = .ok (.if_icmp .ge 26, 3) := by decide +kernel
theorem dX4_faultPlace_12 : decode cX4_faultPlace 12 = .ok (.iload_n 1, 1) := by decide +kernel
theorem dX4_faultPlace_13 : decode cX4_faultPlace 13 = .ok (.aload_n 0, 1) := by decide +kernel
theorem dX4_faultPlace_14 : decode cX4_faultPlace 14 = .ok (.iload_n 2, 1) := by decide +kernel
theorem dX4_faultPlace_15 : decode cX4_faultPlace 15 = .ok (.invokevirtual 19, 3) := by decide +kernel
theorem dX4_faultPlace_18 : decode cX4_faultPlace 18 = .ok (.invokestatic 23, 3) := by decide +kernel
theorem dX4_faultPlace_21 : decode cX4_faultPlace 21 = .ok (.istore_n 1, 1) := by decide +kernel
theorem dX4_faultPlace_22 : decode cX4_faultPlace 22 = .ok (.iload_n 1, 1) := by decide +kernel
theorem dX4_faultPlace_23 : decode cX4_faultPlace 23 = .ok (.iconst 5, 1) := by decide +kernel
theorem dX4_faultPlace_24 : decode cX4_faultPlace 24 = .ok (.if_icmp .ne 5, 3) := by decide +kernel
theorem dX4_faultPlace_27 : decode cX4_faultPlace 27 = .ok (.iload_n 2, 1) := by decide +kernel
theorem dX4_faultPlace_28 : decode cX4_faultPlace 28 = .ok (.ireturn, 1) := by decide +kernel
theorem dX4_faultPlace_29 : decode cX4_faultPlace 29 = .ok (.iinc 2 1, 3) := by decide +kernel
theorem dX4_faultPlace_32 : decode cX4_faultPlace 32 = .ok (.goto (-28), 3) := by decide +kernel
theorem dX4_faultPlace_35 : decode cX4_faultPlace 35 = .ok (.iload_n 1, 1) := by decide +kernel
theorem dX4_faultPlace_36 : decode cX4_faultPlace 36 = .ok (.iconst 4, 1) := by decide +kernel
theorem dX4_faultPlace_37 : decode cX4_faultPlace 37 = .ok (.if_icmp .ne 8, 3) := by decide +kernel
theorem dX4_faultPlace_40 : decode cX4_faultPlace 40 = .ok (.bipush (-4), 2) := by decide +kernel
theorem dX4_faultPlace_42 : decode cX4_faultPlace 42 = .ok (.goto 7, 3) := by decide +kernel
theorem dX4_faultPlace_45 : decode cX4_faultPlace 45 = .ok (.aload_n 0, 1) := by decide +kernel
theorem dX4_faultPlace_46 : decode cX4_faultPlace 46 = .ok (.getfield 15, 3) := by decide +kernel
theorem dX4_faultPlace_49 : decode cX4_faultPlace 49 = .ok (.ireturn, 1) := by decide +kernel
theorem dX4_expectedAfter_0 : decode cX4_expectedAfter 0 = .ok (.iload_n 0, 1) := by decide +kernel
theorem dX4_expectedAfter_1 : decode cX4_expectedAfter 1 = .ok (.tableswitch 129 0 4 #[35, 61, 77, 101, 117], 35) := by decide +kernel
theorem dX4_expectedAfter_36 : decode cX4_expectedAfter 36 = .ok (.iload_n 1, 1) := by decide +kernel
theorem dX4_expectedAfter_37 : decode cX4_expectedAfter 37 = .ok (.bipush 103, 2) := by decide +kernel
theorem dX4_expectedAfter_39 : decode cX4_expectedAfter 39 = .ok (.if_icmp .ne 5, 3) := by decide +kernel
theorem dX4_expectedAfter_42 : decode cX4_expectedAfter 42 = .ok (.iconst 1, 1) := by decide +kernel
theorem dX4_expectedAfter_43 : decode cX4_expectedAfter 43 = .ok (.ireturn, 1) := by decide +kernel
theorem dX4_expectedAfter_44 : decode cX4_expectedAfter 44 = .ok (.iload_n 1, 1) := by decide +kernel
theorem dX4_expectedAfter_45 : decode cX4_expectedAfter 45 = .ok (.bipush 111, 2) := by decide +kernel
theorem dX4_expectedAfter_47 : decode cX4_expectedAfter 47 = .ok (.if_icmp .eq 9, 3) := by decide +kernel
theorem dX4_expectedAfter_50 : decode cX4_expectedAfter 50 = .ok (.iload_n 1, 1) := by decide +kernel
theorem dX4_expectedAfter_51 : decode cX4_expectedAfter 51 = .ok (.bipush 99, 2) := by decide +kernel
theorem dX4_expectedAfter_53 : decode cX4_expectedAfter 53 = .ok (.if_icmp .ne 7, 3) := by decide +kernel
theorem dX4_expectedAfter_56 : decode cX4_expectedAfter 56 = .ok (.iconst 3, 1) := by decide +kernel
theorem dX4_expectedAfter_57 : decode cX4_expectedAfter 57 = .ok (.goto 4, 3) := by decide +kernel
theorem dX4_expectedAfter_60 : decode cX4_expectedAfter 60 = .ok (.iconst 5, 1) := by decide +kernel
theorem dX4_expectedAfter_61 : decode cX4_expectedAfter 61 = .ok (.ireturn, 1) := by decide +kernel
theorem dX4_expectedAfter_62 : decode cX4_expectedAfter 62 = .ok (.iload_n 1, 1) := by decide +kernel
theorem dX4_expectedAfter_63 : decode cX4_expectedAfter 63 = .ok (.bipush 48, 2) := by decide +kernel
theorem dX4_expectedAfter_65 : decode cX4_expectedAfter 65 = .ok (.isub, 1) := by decide +kernel
theorem dX4_expectedAfter_66 : decode cX4_expectedAfter 66 = .ok (.invokestatic 27, 3) := by decide +kernel
theorem dX4_expectedAfter_69 : decode cX4_expectedAfter 69 = .ok (.ifCond .eq 7, 3) := by decide +kernel
theorem dX4_expectedAfter_72 : decode cX4_expectedAfter 72 = .ok (.iconst 2, 1) := by decide +kernel
theorem dX4_expectedAfter_73 : decode cX4_expectedAfter 73 = .ok (.goto 4, 3) := by decide +kernel
theorem dX4_expectedAfter_76 : decode cX4_expectedAfter 76 = .ok (.iconst 5, 1) := by decide +kernel
theorem dX4_expectedAfter_77 : decode cX4_expectedAfter 77 = .ok (.ireturn, 1) := by decide +kernel
theorem dX4_expectedAfter_78 : decode cX4_expectedAfter 78 = .ok (.iload_n 1, 1) := by decide +kernel
theorem dX4_expectedAfter_79 : decode cX4_expectedAfter 79 = .ok (.bipush 111, 2) := by decide +kernel
theorem dX4_expectedAfter_81 : decode cX4_expectedAfter 81 = .ok (.if_icmp .eq 15, 3) := by decide +kernel
theorem dX4_expectedAfter_84 : decode cX4_expectedAfter 84 = .ok (.iload_n 1, 1) := by decide +kernel
theorem dX4_expectedAfter_85 : decode cX4_expectedAfter 85 = .ok (.bipush 99, 2) := by decide +kernel
theorem dX4_expectedAfter_87 : decode cX4_expectedAfter 87 = .ok (.if_icmp .eq 9, 3) := by decide +kernel
theorem dX4_expectedAfter_90 : decode cX4_expectedAfter 90 = .ok (.iload_n 1, 1) := by decide +kernel
theorem dX4_expectedAfter_91 : decode cX4_expectedAfter 91 = .ok (.bipush 119, 2) := by decide +kernel
theorem dX4_expectedAfter_93 : decode cX4_expectedAfter 93 = .ok (.if_icmp .ne 7, 3) := by decide +kernel
theorem dX4_expectedAfter_96 : decode cX4_expectedAfter 96 = .ok (.iconst 3, 1) := by decide +kernel
theorem dX4_expectedAfter_97 : decode cX4_expectedAfter 97 = .ok (.goto 4, 3) := by decide +kernel
theorem dX4_expectedAfter_100 : decode cX4_expectedAfter 100 = .ok (.iconst 5, 1) := by decide +kernel
theorem dX4_expectedAfter_101 : decode cX4_expectedAfter 101 = .ok (.ireturn, 1) := by decide +kernel
theorem dX4_expectedAfter_102 : decode cX4_expectedAfter 102 = .ok (.iload_n 1, 1) := by decide +kernel
theorem dX4_expectedAfter_103 : decode cX4_expectedAfter 103 = .ok (.bipush 48, 2) := by decide +kernel
theorem dX4_expectedAfter_105 : decode cX4_expectedAfter 105 = .ok (.isub, 1) := by decide +kernel
theorem dX4_expectedAfter_106 : decode cX4_expectedAfter 106 = .ok (.invokestatic 31, 3) := by decide +kernel
theorem dX4_expectedAfter_109 : decode cX4_expectedAfter 109 = .ok (.ifCond .eq 7, 3) := by decide +kernel
theorem dX4_expectedAfter_112 : decode cX4_expectedAfter 112 = .ok (.iconst 4, 1) := by decide +kernel
theorem dX4_expectedAfter_113 : decode cX4_expectedAfter 113 = .ok (.goto 4, 3) := by decide +kernel
theorem dX4_expectedAfter_116 : decode cX4_expectedAfter 116 = .ok (.iconst 5, 1) := by decide +kernel
theorem dX4_expectedAfter_117 : decode cX4_expectedAfter 117 = .ok (.ireturn, 1) := by decide +kernel
theorem dX4_expectedAfter_118 : decode cX4_expectedAfter 118 = .ok (.iload_n 1, 1) := by decide +kernel
theorem dX4_expectedAfter_119 : decode cX4_expectedAfter 119 = .ok (.bipush 59, 2) := by decide +kernel
theorem dX4_expectedAfter_121 : decode cX4_expectedAfter 121 = .ok (.if_icmp .ne 7, 3) := by decide +kernel
theorem dX4_expectedAfter_124 : decode cX4_expectedAfter 124 = .ok (.iconst 0, 1) := by decide +kernel
theorem dX4_expectedAfter_125 : decode cX4_expectedAfter 125 = .ok (.goto 4, 3) := by decide +kernel
theorem dX4_expectedAfter_128 : decode cX4_expectedAfter 128 = .ok (.iconst 5, 1) := by decide +kernel
theorem dX4_expectedAfter_129 : decode cX4_expectedAfter 129 = .ok (.ireturn, 1) := by decide +kernel
theorem dX4_expectedAfter_130 : decode cX4_expectedAfter 130 = .ok (.iconst 5, 1) := by decide +kernel
theorem dX4_expectedAfter_131 : decode cX4_expectedAfter 131 = .ok (.ireturn, 1) := by decide +kernel
theorem dX4_codeAt_0 : decode cX4_codeAt 0 = .ok (.iload_n 1, 1) := by decide +kernel
theorem dX4_codeAt_1 : decode cX4_codeAt 1 = .ok (.ifCond .lt 20, 3) := by decide +kernel
theorem dX4_codeAt_4 : decode cX4_codeAt 4 = .ok (.iload_n 1, 1) := by decide +kernel
theorem dX4_codeAt_5 : decode cX4_codeAt 5 = .ok (.aload_n 0, 1) := by decide +kernel
theorem dX4_codeAt_6 : decode cX4_codeAt 6 = .ok (.getfield 15, 3) := by decide +kernel
theorem dX4_codeAt_9 : decode cX4_codeAt 9 = .ok (.if_icmp .ge 12, 3) := by decide +kernel
theorem dX4_codeAt_12 : decode cX4_codeAt 12 = .ok (.aload_n 0, 1) := by decide +kernel
theorem dX4_codeAt_13 : decode cX4_codeAt 13 = .ok (.getfield 9, 3) := by decide +kernel
theorem dX4_codeAt_16 : decode cX4_codeAt 16 = .ok (.iload_n 1, 1) := by decide +kernel
theorem dX4_codeAt_17 : decode cX4_codeAt 17 = .ok (.iaload, 1) := by decide +kernel
theorem dX4_codeAt_18 : decode cX4_codeAt 18 = .ok (.goto 4, 3) := by decide +kernel
theorem dX4_codeAt_21 : decode cX4_codeAt 21 = .ok (.iconst 0, 1) := by decide +kernel
theorem dX4_codeAt_22 : decode cX4_codeAt 22 = .ok (.ireturn, 1) := by decide +kernel
theorem dX4_isGuestsDeed_0 : decode cX4_isGuestsDeed 0 = .ok (.aload_n 0, 1) := by decide +kernel
theorem dX4_isGuestsDeed_1 : decode cX4_isGuestsDeed 1 = .ok (.iload_n 1, 1) := by decide +kernel
theorem dX4_isGuestsDeed_2 : decode cX4_isGuestsDeed 2 = .ok (.invokevirtual 19, 3) := by decide +kernel
theorem dX4_isGuestsDeed_5 : decode cX4_isGuestsDeed 5 = .ok (.bipush 103, 2) := by decide +kernel
theorem dX4_isGuestsDeed_7 : decode cX4_isGuestsDeed 7 = .ok (.if_icmp .ne 7, 3) := by decide +kernel
theorem dX4_isGuestsDeed_10 : decode cX4_isGuestsDeed 10 = .ok (.iconst 1, 1) := by decide +kernel
theorem dX4_isGuestsDeed_11 : decode cX4_isGuestsDeed 11 = .ok (.goto 4, 3) := by decide +kernel
theorem dX4_isGuestsDeed_14 : decode cX4_isGuestsDeed 14 = .ok (.iconst 0, 1) := by decide +kernel
theorem dX4_isGuestsDeed_15 : decode cX4_isGuestsDeed 15 = .ok (.ireturn, 1) := by decide +kernel
theorem dX4_guestOfDeed_0 : decode cX4_guestOfDeed 0 = .ok (.aload_n 0, 1) := by decide +kernel
theorem dX4_guestOfDeed_1 : decode cX4_guestOfDeed 1 = .ok (.iload_n 1, 1) := by decide +kernel
theorem dX4_guestOfDeed_2 : decode cX4_guestOfDeed 2 = .ok (.iconst 1, 1) := by decide +kernel
theorem dX4_guestOfDeed_3 : decode cX4_guestOfDeed 3 = .ok (.iadd, 1) := by decide +kernel
theorem dX4_guestOfDeed_4 : decode cX4_guestOfDeed 4 = .ok (.invokevirtual 19, 3) := by decide +kernel
theorem dX4_guestOfDeed_7 : decode cX4_guestOfDeed 7 = .ok (.bipush 48, 2) := by decide +kernel
theorem dX4_guestOfDeed_9 : decode cX4_guestOfDeed 9 = .ok (.isub, 1) := by decide +kernel
theorem dX4_guestOfDeed_10 : decode cX4_guestOfDeed 10 = .ok (.ireturn, 1) := by decide +kernel
theorem dX4_letterOfDeed_0 : decode cX4_letterOfDeed 0 = .ok (.aload_n 0, 1) := by decide +kernel
theorem dX4_letterOfDeed_1 : decode cX4_letterOfDeed 1 = .ok (.aload_n 0, 1) := by decide +kernel
theorem dX4_letterOfDeed_2 : decode cX4_letterOfDeed 2 = .ok (.iload_n 1, 1) := by decide +kernel
theorem dX4_letterOfDeed_3 : decode cX4_letterOfDeed 3 = .ok (.invokevirtual 34, 3) := by decide +kernel
theorem dX4_letterOfDeed_6 : decode cX4_letterOfDeed 6 = .ok (.invokevirtual 19, 3) := by decide +kernel
theorem dX4_letterOfDeed_9 : decode cX4_letterOfDeed 9 = .ok (.ireturn, 1) := by decide +kernel
theorem dX4_doorOfDeed_0 : decode cX4_doorOfDeed 0 = .ok (.aload_n 0, 1) := by decide +kernel
theorem dX4_doorOfDeed_1 : decode cX4_doorOfDeed 1 = .ok (.aload_n 0, 1) := by decide +kernel
theorem dX4_doorOfDeed_2 : decode cX4_doorOfDeed 2 = .ok (.iload_n 1, 1) := by decide +kernel
theorem dX4_doorOfDeed_3 : decode cX4_doorOfDeed 3 = .ok (.invokevirtual 34, 3) := by decide +kernel
theorem dX4_doorOfDeed_6 : decode cX4_doorOfDeed 6 = .ok (.iconst 1, 1) := by decide +kernel
theorem dX4_doorOfDeed_7 : decode cX4_doorOfDeed 7 = .ok (.iadd, 1) := by decide +kernel
theorem dX4_doorOfDeed_8 : decode cX4_doorOfDeed 8 = .ok (.invokevirtual 19, 3) := by decide +kernel
theorem dX4_doorOfDeed_11 : decode cX4_doorOfDeed 11 = .ok (.bipush 48, 2) := by decide +kernel
theorem dX4_doorOfDeed_13 : decode cX4_doorOfDeed 13 = .ok (.isub, 1) := by decide +kernel
theorem dX4_doorOfDeed_14 : decode cX4_doorOfDeed 14 = .ok (.ireturn, 1) := by decide +kernel
theorem dX4_placeOfNextDeed_0 : decode cX4_placeOfNextDeed 0 = .ok (.aload_n 0, 1) := by decide +kernel
theorem dX4_placeOfNextDeed_1 : decode cX4_placeOfNextDeed 1 = .ok (.iload_n 1, 1) := by decide +kernel
theorem dX4_placeOfNextDeed_2 : decode cX4_placeOfNextDeed 2 = .ok (.invokevirtual 34, 3) := by decide +kernel
theorem dX4_placeOfNextDeed_5 : decode cX4_placeOfNextDeed 5 = .ok (.iconst 3, 1) := by decide +kernel
theorem dX4_placeOfNextDeed_6 : decode cX4_placeOfNextDeed 6 = .ok (.iadd, 1) := by decide +kernel
theorem dX4_placeOfNextDeed_7 : decode cX4_placeOfNextDeed 7 = .ok (.ireturn, 1) := by decide +kernel
theorem dX4_placeOfLetter_0 : decode cX4_placeOfLetter 0 = .ok (.aload_n 0, 1) := by decide +kernel
theorem dX4_placeOfLetter_1 : decode cX4_placeOfLetter 1 = .ok (.iload_n 1, 1) := by decide +kernel
theorem dX4_placeOfLetter_2 : decode cX4_placeOfLetter 2 = .ok (.invokevirtual 37, 3) := by decide +kernel
theorem dX4_placeOfLetter_5 : decode cX4_placeOfLetter 5 = .ok (.ifCond .eq 9, 3) := by decide +kernel
theorem dX4_placeOfLetter_8 : decode cX4_placeOfLetter 8 = .ok (.iload_n 1, 1) := by decide +kernel
theorem dX4_placeOfLetter_9 : decode cX4_placeOfLetter 9 = .ok (.iconst 2, 1) := by decide +kernel
theorem dX4_placeOfLetter_10 : decode cX4_placeOfLetter 10 = .ok (.iadd, 1) := by decide +kernel
theorem dX4_placeOfLetter_11 : decode cX4_placeOfLetter 11 = .ok (.goto 4, 3) := by decide +kernel
theorem dX4_placeOfLetter_14 : decode cX4_placeOfLetter 14 = .ok (.iload_n 1, 1) := by decide +kernel
theorem dX4_placeOfLetter_15 : decode cX4_placeOfLetter 15 = .ok (.ireturn, 1) := by decide +kernel
theorem dX5_init_0 : decode cX5_init 0 = .ok (.aload_n 0, 1) := by decide +kernel
theorem dX5_init_1 : decode cX5_init 1 = .ok (.invokespecial 3, 3) := by decide +kernel
theorem dX5_init_4 : decode cX5_init 4 = .ok (.aload_n 0, 1) := by decide +kernel
theorem dX5_init_5 : decode cX5_init 5 = .ok (.new 9, 3) := by decide +kernel
theorem dX5_init_8 : decode cX5_init 8 = .ok (.dup, 1) := by decide +kernel
theorem dX5_init_9 : decode cX5_init 9 = .ok (.invokespecial 11, 3) := by decide +kernel
theorem dX5_init_12 : decode cX5_init 12 = .ok (.putfield 12, 3) := by decide +kernel
theorem dX5_init_15 : decode cX5_init 15 = .ok (.aload_n 0, 1) := by decide +kernel
theorem dX5_init_16 : decode cX5_init 16 = .ok (.new 18, 3) := by decide +kernel
theorem dX5_init_19 : decode cX5_init 19 = .ok (.dup, 1) := by decide +kernel
theorem dX5_init_20 : decode cX5_init 20 = .ok (.invokespecial 20, 3) := by decide +kernel
theorem dX5_init_23 : decode cX5_init 23 = .ok (.putfield 21, 3) := by decide +kernel
theorem dX5_init_26 : decode cX5_init 26 = .ok (.aload_n 0, 1) := by decide +kernel
theorem dX5_init_27 : decode cX5_init 27 = .ok (.new 25, 3) := by decide +kernel
theorem dX5_init_30 : decode cX5_init 30 = .ok (.dup, 1) := by decide +kernel
theorem dX5_init_31 : decode cX5_init 31 = .ok (.invokespecial 27, 3) := by decide +kernel
theorem dX5_init_34 : decode cX5_init 34 = .ok (.putfield 28, 3) := by decide +kernel
theorem dX5_init_37 : decode cX5_init 37 = .ok (.aload_n 0, 1) := by decide +kernel
theorem dX5_init_38 : decode cX5_init 38 = .ok (.iconst 0, 1) := by decide +kernel
theorem dX5_init_39 : decode cX5_init 39 = .ok (.putfield 32, 3) := by decide +kernel
theorem dX5_init_42 : decode cX5_init 42 = .ok (.return_, 1) := by decide +kernel
theorem dX5_copy_0 : decode cX5_copy 0 = .ok (.aload_n 0, 1) := by decide +kernel
theorem dX5_copy_1 : decode cX5_copy 1 = .ok (.getfield 12, 3) := by decide +kernel
theorem dX5_copy_4 : decode cX5_copy 4 = .ok (.aload_n 1, 1) := by decide +kernel
theorem dX5_copy_5 : decode cX5_copy 5 = .ok (.getfield 12, 3) := by decide +kernel
theorem dX5_copy_8 : decode cX5_copy 8 = .ok (.invokevirtual 36, 3) := by decide +kernel
theorem dX5_copy_11 : decode cX5_copy 11 = .ok (.aload_n 0, 1) := by decide +kernel
theorem dX5_copy_12 : decode cX5_copy 12 = .ok (.getfield 21, 3) := by decide +kernel
theorem dX5_copy_15 : decode cX5_copy 15 = .ok (.aload_n 1, 1) := by decide +kernel
theorem dX5_copy_16 : decode cX5_copy 16 = .ok (.getfield 21, 3) := by decide +kernel
theorem dX5_copy_19 : decode cX5_copy 19 = .ok (.invokevirtual 40, 3) := by decide +kernel
theorem dX5_copy_22 : decode cX5_copy 22 = .ok (.aload_n 0, 1) := by decide +kernel
theorem dX5_copy_23 : decode cX5_copy 23 = .ok (.getfield 28, 3) := by decide +kernel
theorem dX5_copy_26 : decode cX5_copy 26 = .ok (.aload_n 1, 1) := by decide +kernel
theorem dX5_copy_27 : decode cX5_copy 27 = .ok (.getfield 28, 3) := by decide +kernel
theorem dX5_copy_30 : decode cX5_copy 30 = .ok (.invokevirtual 43, 3) := by decide +kernel
theorem dX5_copy_33 : decode cX5_copy 33 = .ok (.aload_n 0, 1) := by decide +kernel
theorem dX5_copy_34 : decode cX5_copy 34 = .ok (.aload_n 1, 1) := by decide +kernel
theorem dX5_copy_35 : decode cX5_copy 35 = .ok (.getfield 32, 3) := by decide +kernel
theorem dX5_copy_38 : decode cX5_copy 38 = .ok (.putfield 32, 3) := by decide +kernel
theorem dX5_copy_41 : decode cX5_copy 41 = .ok (.return_, 1) := by decide +kernel
theorem dX5_isOpen_0 : decode cX5_isOpen 0 = .ok (.aload_n 0, 1) := by decide +kernel
theorem dX5_isOpen_1 : decode cX5_isOpen 1 = .ok (.getfield 32, 3) := by decide +kernel
theorem dX5_isOpen_4 : decode cX5_isOpen 4 = .ok (.iload_n 1, 1) := by decide +kernel
theorem dX5_isOpen_5 : decode cX5_isOpen 5 = .ok (.invokestatic 46, 3) := by decide +kernel
theorem dX5_isOpen_8 : decode cX5_isOpen 8 = .ok (.ireturn, 1) := by decide +kernel
theorem dX5_shutDoors_0 : decode cX5_shutDoors 0 = .ok (.sipush 1023, 3) := by decide +kernel
theorem dX5_shutDoors_3 : decode cX5_shutDoors 3 = .ok (.aload_n 0, 1) := by decide +kernel
theorem dX5_shutDoors_4 : decode cX5_shutDoors 4 = .ok (.getfield 32, 3) := by decide +kernel
theorem dX5_shutDoors_7 : decode cX5_shutDoors 7 = .ok (.iconst (-1), 1) := by decide +kernel
theorem dX5_shutDoors_8 : decode cX5_shutDoors 8 = .ok (.ixor, 1) := by decide +kernel
theorem dX5_shutDoors_9 : decode cX5_shutDoors 9 = .ok (.iand, 1) := by decide +kernel
theorem dX5_shutDoors_10 : decode cX5_shutDoors 10 = .ok (.ireturn, 1) := by decide +kernel
theorem dX5_reasonNotToOpen_0 : decode cX5_reasonNotToOpen 0 = .ok (.aload_n 0, 1) := by decide +kernel
theorem dX5_reasonNotToOpen_1 : decode cX5_reasonNotToOpen 1 = .ok (.iload_n 1, 1) := by decide +kernel
theorem dX5_reasonNotToOpen_2 : decode cX5_reasonNotToOpen 2 = .ok (.invokevirtual 50, 3) := by decide +kernel
theorem dX5_reasonNotToOpen_5 : decode cX5_reasonNotToOpen 5 = .ok (.ifCond .eq 5, 3) := by decide +kernel
theorem dX5_reasonNotToOpen_8 : decode cX5_reasonNotToOpen 8 = .ok (.iconst 1, 1) := by decide +kernel
theorem dX5_reasonNotToOpen_9 : decode cX5_reasonNotToOpen 9 = .ok (.ireturn, 1) := by decide +kernel
theorem dX5_reasonNotToOpen_10 : decode cX5_reasonNotToOpen 10 = .ok (.aload_n 0, 1) := by decide +kernel
theorem dX5_reasonNotToOpen_11 : decode cX5_reasonNotToOpen 11 = .ok (.getfield 12, 3) := by decide +kernel
theorem dX5_reasonNotToOpen_14 : decode cX5_reasonNotToOpen 14 = .ok (.aload_n 0, 1) := by decide +kernel
theorem dX5_reasonNotToOpen_15 : decode cX5_reasonNotToOpen 15 = .ok (.getfield 32, 3) := by decide +kernel
theorem dX5_reasonNotToOpen_18 : decode cX5_reasonNotToOpen 18 = .ok (.invokevirtual 54, 3) := by decide +kernel
theorem dX5_reasonNotToOpen_21 : decode cX5_reasonNotToOpen 21 = .ok (.iload_n 1, 1) := by decide +kernel
theorem dX5_reasonNotToOpen_22 : decode cX5_reasonNotToOpen 22 = .ok (.invokestatic 46, 3) := by decide +kernel
theorem dX5_reasonNotToOpen_25 : decode cX5_reasonNotToOpen 25 = .ok (.ifCond .eq 7, 3) := by decide +kernel
theorem dX5_reasonNotToOpen_28 : decode cX5_reasonNotToOpen 28 = .ok (.iconst 2, 1) := by decide +kernel
theorem dX5_reasonNotToOpen_29 : decode cX5_reasonNotToOpen 29 = .ok (.goto 4, 3) := by decide +kernel
theorem dX5_reasonNotToOpen_32 : decode cX5_reasonNotToOpen 32 = .ok (.iconst 0, 1) := by decide +kernel
theorem dX5_reasonNotToOpen_33 : decode cX5_reasonNotToOpen 33 = .ok (.ireturn, 1) := by decide +kernel
theorem dX5_reasonNotToShut_0 : decode cX5_reasonNotToShut 0 = .ok (.aload_n 0, 1) := by decide +kernel
theorem dX5_reasonNotToShut_1 : decode cX5_reasonNotToShut 1 = .ok (.iload_n 1, 1) := by decide +kernel
theorem dX5_reasonNotToShut_2 : decode cX5_reasonNotToShut 2 = .ok (.invokevirtual 50, 3) := by decide +kernel
theorem dX5_reasonNotToShut_5 : decode cX5_reasonNotToShut 5 = .ok (.ifCond .eq 7, 3) := by decide +kernel
theorem dX5_reasonNotToShut_8 : decode cX5_reasonNotToShut 8 = .ok (.iconst 0, 1) := by decide +kernel
theorem dX5_reasonNotToShut_9 : decode cX5_reasonNotToShut 9 = .ok (.goto 4, 3) := by decide +kernel
theorem dX5_reasonNotToShut_12 : decode cX5_reasonNotToShut 12 = .ok (.iconst 3, 1) := by decide +kernel
theorem dX5_reasonNotToShut_13 : decode cX5_reasonNotToShut 13 = .ok (.ireturn, 1) := by decide +kernel
theorem dX5_isAtDoor_0 : decode cX5_isAtDoor 0 = .ok (.aload_n 0, 1) := by decide +kernel
theorem dX5_isAtDoor_1 : decode cX5_isAtDoor 1 = .ok (.getfield 12, 3) := by decide +kernel
theorem dX5_isAtDoor_4 : decode cX5_isAtDoor 4 = .ok (.iload_n 2, 1) := by decide +kernel
theorem dX5_isAtDoor_5 : decode cX5_isAtDoor 5 = .ok (.aload_n 0, 1) := by decide +kernel
theorem dX5_isAtDoor_6 : decode cX5_isAtDoor 6 = .ok (.getfield 21, 3) := by decide +kernel
theorem dX5_isAtDoor_9 : decode cX5_isAtDoor 9 = .ok (.getfield 58, 3) := by decide +kernel
theorem dX5_isAtDoor_12 : decode cX5_isAtDoor 12 = .ok (.iload_n 1, 1) := by decide +kernel
theorem dX5_isAtDoor_13 : decode cX5_isAtDoor 13 = .ok (.iaload, 1) := by decide +kernel
theorem dX5_isAtDoor_14 : decode cX5_isAtDoor 14 = .ok (.invokevirtual 62, 3) := by decide +kernel
theorem dX5_isAtDoor_17 : decode cX5_isAtDoor 17 = .ok (.ireturn, 1) := by decide +kernel
theorem dX5_reasonNotToOpenAsGuest_0 : decode cX5_reasonNotToOpenAsGuest 0 = .ok (.aload_n 0, 1) := by decide +kernel
theorem dX5_reasonNotToOpenAsGuest_1 : decode cX5_reasonNotToOpenAsGuest 1 = .ok (.iload_n 1, 1) := by decide +kernel
theorem dX5_reasonNotToOpenAsGuest_2 : decode cX5_reasonNotToOpenAsGuest 2 = .ok (.iload_n 2, 1) := by decide +kernel
theorem dX5_reasonNotToOpenAsGuest_3 : decode cX5_reasonNotToOpenAsGuest 3 = .ok (.invokevirtual 65, 3) := by decide +kernel
theorem dX5_reasonNotToOpenAsGuest_6 : decode cX5_reasonNotToOpenAsGuest 6 = .ok (.ifCond .ne 5, 3) := by decide +kernel
theorem dX5_reasonNotToOpenAsGuest_9 : decode cX5_reasonNotToOpenAsGuest 9 = .ok (.iconst 5, 1) := by decide +kernel
theorem dX5_reasonNotToOpenAsGuest_10 : decode cX5_reasonNotToOpenAsGuest 10 = .ok (.ireturn, 1) := by decide +kernel
theorem dX5_reasonNotToOpenAsGuest_11 : decode cX5_reasonNotToOpenAsGuest 11 = .ok (.aload_n 0, 1) := by decide +kernel
theorem dX5_reasonNotToOpenAsGuest_12 : decode cX5_reasonNotToOpenAsGuest 12 = .ok (.getfield 21, 3) := by decide +kernel
theorem dX5_reasonNotToOpenAsGuest_15 : decode cX5_reasonNotToOpenAsGuest 15 = .ok (.getfield 68, 3) := by decide +kernel
theorem dX5_reasonNotToOpenAsGuest_18 : decode cX5_reasonNotToOpenAsGuest 18 = .ok (.iload_n 1, 1) := by decide +kernel
theorem dX5_reasonNotToOpenAsGuest_19 : decode cX5_reasonNotToOpenAsGuest 19 = .ok (.iaload, 1) := by decide +kernel
theorem dX5_reasonNotToOpenAsGuest_20 : decode cX5_reasonNotToOpenAsGuest 20 = .ok (.iload_n 2, 1) := by decide +kernel
theorem dX5_reasonNotToOpenAsGuest_21 : decode cX5_reasonNotToOpenAsGuest 21 = .ok (.invokestatic 46, 3) := by decide +kernel
theorem dX5_reasonNotToOpenAsGuest_24 : decode cX5_reasonNotToOpenAsGuest 24 = .ok (.ifCond .eq 11, 3) := by decide +kernel
theorem dX5_reasonNotToOpenAsGuest_27 : decode cX5_reasonNotToOpenAsGuest 27 = .ok (.aload_n 0, 1) := by decide +kernel
theorem dX5_reasonNotToOpenAsGuest_28 : decode cX5_reasonNotToOpenAsGuest 28 = .ok (.iload_n 2, 1) := by decide +kernel
theorem dX5_reasonNotToOpenAsGuest_29 : decode cX5_reasonNotToOpenAsGuest 29 = .ok (.invokevirtual 71, 3) := by decide +kernel
theorem dX5_reasonNotToOpenAsGuest_32 : decode cX5_reasonNotToOpenAsGuest 32 = .ok (.goto 5, 3) := by decide +kernel
theorem dX5_reasonNotToOpenAsGuest_35 : decode cX5_reasonNotToOpenAsGuest 35 = .ok (.bipush 6, 2) := by decide +kernel
theorem dX5_reasonNotToOpenAsGuest_37 : decode cX5_reasonNotToOpenAsGuest 37 = .ok (.ireturn, 1) := by decide +kernel
theorem dX5_reasonNotToUse_0 : decode cX5_reasonNotToUse 0 = .ok (.aload_n 0, 1) := by decide +kernel
theorem dX5_reasonNotToUse_1 : decode cX5_reasonNotToUse 1 = .ok (.iload_n 1, 1) := by decide +kernel
theorem dX5_reasonNotToUse_2 : decode cX5_reasonNotToUse 2 = .ok (.iload_n 2, 1) := by decide +kernel
theorem dX5_reasonNotToUse_3 : decode cX5_reasonNotToUse 3 = .ok (.invokevirtual 65, 3) := by decide +kernel
theorem dX5_reasonNotToUse_6 : decode cX5_reasonNotToUse 6 = .ok (.ifCond .eq 11, 3) := by decide +kernel
theorem dX5_reasonNotToUse_9 : decode cX5_reasonNotToUse 9 = .ok (.aload_n 0, 1) := by decide +kernel
theorem dX5_reasonNotToUse_10 : decode cX5_reasonNotToUse 10 = .ok (.iload_n 2, 1) := by decide +kernel
theorem dX5_reasonNotToUse_11 : decode cX5_reasonNotToUse 11 = .ok (.invokevirtual 74, 3) := by decide +kernel
theorem dX5_reasonNotToUse_14 : decode cX5_reasonNotToUse 14 = .ok (.goto 4, 3) := by decide +kernel
theorem dX5_reasonNotToUse_17 : decode cX5_reasonNotToUse 17 = .ok (.iconst 5, 1) := by decide +kernel
theorem dX5_reasonNotToUse_18 : decode cX5_reasonNotToUse 18 = .ok (.ireturn, 1) := by decide +kernel
theorem dX5_howManyCouldOpen_0 : decode cX5_howManyCouldOpen 0 = .ok (.iconst 0, 1) := by decide +kernel
theorem dX5_howManyCouldOpen_1 : decode cX5_howManyCouldOpen 1 = .ok (.istore_n 2, 1) := by decide +kernel
theorem dX5_howManyCouldOpen_2 : decode cX5_howManyCouldOpen 2 = .ok (.iconst 0, 1) := by decide +kernel
theorem dX5_howManyCouldOpen_3 : decode cX5_howManyCouldOpen 3 = .ok (.istore_n 3, 1) := by decide +kernel
theorem dX5_howManyCouldOpen_4 : decode cX5_howManyCouldOpen 4 = .ok (.iload_n 3, 1) := by decide +kernel
theorem dX5_howManyCouldOpen_5 : decode cX5_howManyCouldOpen 5 = .ok (.bipush 10, 2) := by decide +kernel
theorem dX5_howManyCouldOpen_7 : decode cX5_howManyCouldOpen 7 = .ok (.if_icmp .ge 21, 3) := by decide +kernel
theorem dX5_howManyCouldOpen_10 : decode cX5_howManyCouldOpen 10 = .ok (.aload_n 0, 1) := by decide +kernel
theorem dX5_howManyCouldOpen_11 : decode cX5_howManyCouldOpen 11 = .ok (.iload_n 1, 1) := by decide +kernel
theorem dX5_howManyCouldOpen_12 : decode cX5_howManyCouldOpen 12 = .ok (.iload_n 3, 1) := by decide +kernel
theorem dX5_howManyCouldOpen_13 : decode cX5_howManyCouldOpen 13 = .ok (.invokevirtual 77, 3) := by decide +kernel
theorem dX5_howManyCouldOpen_16 : decode cX5_howManyCouldOpen 16 = .ok (.ifCond .ne 6, 3) := by decide +kernel
theorem dX5_howManyCouldOpen_19 : decode cX5_howManyCouldOpen 19 = .ok (.iinc 2 1, 3) := by decide +kernel
theorem dX5_howManyCouldOpen_22 : decode cX5_howManyCouldOpen 22 = .ok (.iinc 3 1, 3) := by decide +kernel
theorem dX5_howManyCouldOpen_25 : decode cX5_howManyCouldOpen 25 = .ok (.goto (-21), 3) := by decide +kernel
theorem dX5_howManyCouldOpen_28 : decode cX5_howManyCouldOpen 28 = .ok (.iload_n 2, 1) := by decide +kernel
theorem dX5_howManyCouldOpen_29 : decode cX5_howManyCouldOpen 29 = .ok (.ireturn, 1) := by decide +kernel
theorem dX5_servantOpens_0 : decode cX5_servantOpens 0 = .ok (.aload_n 0, 1) := by decide +kernel
theorem dX5_servantOpens_1 : decode cX5_servantOpens 1 = .ok (.aload_n 0, 1) := by decide +kernel
theorem dX5_servantOpens_2 : decode cX5_servantOpens 2 = .ok (.iload_n 1, 1) := by decide +kernel
theorem dX5_servantOpens_3 : decode cX5_servantOpens 3 = .ok (.invokevirtual 71, 3) := by decide +kernel
theorem dX5_servantOpens_6 : decode cX5_servantOpens 6 = .ok (.iload_n 1, 1) := by decide +kernel
theorem dX5_servantOpens_7 : decode cX5_servantOpens 7 = .ok (.invokevirtual 81, 3) := by decide +kernel
theorem dX5_servantOpens_10 : decode cX5_servantOpens 10 = .ok (.ireturn, 1) := by decide +kernel
theorem dX5_servantShuts_0 : decode cX5_servantShuts 0 = .ok (.aload_n 0, 1) := by decide +kernel
theorem dX5_servantShuts_1 : decode cX5_servantShuts 1 = .ok (.aload_n 0, 1) := by decide +kernel
theorem dX5_servantShuts_2 : decode cX5_servantShuts 2 = .ok (.iload_n 1, 1) := by decide +kernel
theorem dX5_servantShuts_3 : decode cX5_servantShuts 3 = .ok (.invokevirtual 74, 3) := by decide +kernel
theorem dX5_servantShuts_6 : decode cX5_servantShuts 6 = .ok (.iload_n 1, 1) := by decide +kernel
theorem dX5_servantShuts_7 : decode cX5_servantShuts 7 = .ok (.invokevirtual 84, 3) := by decide +kernel
theorem dX5_servantShuts_10 : decode cX5_servantShuts 10 = .ok (.ireturn, 1) := by decide +kernel
theorem dX5_opensAsGuest_0 : decode cX5_opensAsGuest 0 = .ok (.aload_n 0, 1) := by decide +kernel
theorem dX5_opensAsGuest_1 : decode cX5_opensAsGuest 1 = .ok (.aload_n 0, 1) := by decide +kernel
theorem dX5_opensAsGuest_2 : decode cX5_opensAsGuest 2 = .ok (.iload_n 1, 1) := by decide +kernel
theorem dX5_opensAsGuest_3 : decode cX5_opensAsGuest 3 = .ok (.iload_n 2, 1) := by decide +kernel
theorem dX5_opensAsGuest_4 : decode cX5_opensAsGuest 4 = .ok (.invokevirtual 77, 3) := by decide +kernel
theorem dX5_opensAsGuest_7 : decode cX5_opensAsGuest 7 = .ok (.iload_n 2, 1) := by decide +kernel
theorem dX5_opensAsGuest_8 : decode cX5_opensAsGuest 8 = .ok (.invokevirtual 81, 3) := by decide +kernel
theorem dX5_opensAsGuest_11 : decode cX5_opensAsGuest 11 = .ok (.ireturn, 1) := by decide +kernel
theorem dX5_shutsAsGuest_0 : decode cX5_shutsAsGuest 0 = .ok (.aload_n 0, 1) := by decide +kernel
theorem dX5_shutsAsGuest_1 : decode cX5_shutsAsGuest 1 = .ok (.aload_n 0, 1) := by decide +kernel
theorem dX5_shutsAsGuest_2 : decode cX5_shutsAsGuest 2 = .ok (.iload_n 1, 1) := by decide +kernel
theorem dX5_shutsAsGuest_3 : decode cX5_shutsAsGuest 3 = .ok (.iload_n 2, 1) := by decide +kernel
theorem dX5_shutsAsGuest_4 : decode cX5_shutsAsGuest 4 = .ok (.invokevirtual 87, 3) := by decide +kernel
theorem dX5_shutsAsGuest_7 : decode cX5_shutsAsGuest 7 = .ok (.iload_n 2, 1) := by decide +kernel
theorem dX5_shutsAsGuest_8 : decode cX5_shutsAsGuest 8 = .ok (.invokevirtual 84, 3) := by decide +kernel
theorem dX5_shutsAsGuest_11 : decode cX5_shutsAsGuest 11 = .ok (.ireturn, 1) := by decide +kernel
theorem dX5_walksThrough_0 : decode cX5_walksThrough 0 = .ok (.aload_n 0, 1) := by decide +kernel
theorem dX5_walksThrough_1 : decode cX5_walksThrough 1 = .ok (.iload_n 1, 1) := by decide +kernel
theorem dX5_walksThrough_2 : decode cX5_walksThrough 2 = .ok (.iload_n 2, 1) := by decide +kernel
theorem dX5_walksThrough_3 : decode cX5_walksThrough 3 = .ok (.invokevirtual 87, 3) := by decide +kernel
theorem dX5_walksThrough_6 : decode cX5_walksThrough 6 = .ok (.istore_n 3, 1) := by decide +kernel
theorem dX5_walksThrough_7 : decode cX5_walksThrough 7 = .ok (.iload_n 3, 1) := by decide +kernel
theorem dX5_walksThrough_8 : decode cX5_walksThrough 8 = .ok (.ifCond .eq 12, 3) := by decide +kernel
theorem dX5_walksThrough_11 : decode cX5_walksThrough 11 = .ok (.aload_n 0, 1) := by decide +kernel
theorem dX5_walksThrough_12 : decode cX5_walksThrough 12 = .ok (.getfield 28, 3) := by decide +kernel
theorem dX5_walksThrough_15 : decode cX5_walksThrough 15 = .ok (.iload_n 3, 1) := by decide +kernel
theorem dX5_walksThrough_16 : decode cX5_walksThrough 16 = .ok (.invokevirtual 90, 3) := by decide +kernel
theorem dX5_walksThrough_19 : decode cX5_walksThrough 19 = .ok (.ireturn, 1) := by decide +kernel
theorem dX5_walksThrough_20 : decode cX5_walksThrough 20 = .ok (.aload_n 0, 1) := by decide +kernel
theorem dX5_walksThrough_21 : decode cX5_walksThrough 21 = .ok (.getfield 21, 3) := by decide +kernel
theorem dX5_walksThrough_24 : decode cX5_walksThrough 24 = .ok (.getfield 58, 3) := by decide +kernel
theorem dX5_walksThrough_27 : decode cX5_walksThrough 27 = .ok (.iload_n 1, 1) := by decide +kernel
theorem dX5_walksThrough_28 : decode cX5_walksThrough 28 = .ok (.aload_n 0, 1) := by decide +kernel
theorem dX5_walksThrough_29 : decode cX5_walksThrough 29 = .ok (.getfield 12, 3) := by decide +kernel
theorem dX5_walksThrough_32 : decode cX5_walksThrough 32 = .ok (.iload_n 2, 1) := by decide +kernel
theorem dX5_walksThrough_33 : decode cX5_walksThrough 33 = .ok (.aload_n 0, 1) := by decide +kernel
theorem dX5_walksThrough_34 : decode cX5_walksThrough 34 = .ok (.getfield 21, 3) := by decide +kernel
theorem dX5_walksThrough_37 : decode cX5_walksThrough 37 = .ok (.getfield 58, 3) := by decide +kernel
theorem dX5_walksThrough_40 : decode cX5_walksThrough 40 = .ok (.iload_n 1, 1) := by decide +kernel
theorem dX5_walksThrough_41 : decode cX5_walksThrough 41 = .ok (.iaload, 1) := by decide +kernel
theorem dX5_walksThrough_42 : decode cX5_walksThrough 42 = .ok (.invokevirtual 93, 3) := by decide +kernel
theorem dX5_walksThrough_45 : decode cX5_walksThrough 45 = .ok (.iastore, 1) := by decide +kernel
theorem dX5_walksThrough_46 : decode cX5_walksThrough 46 = .ok (.aload_n 0, 1) := by decide +kernel
theorem dX5_walksThrough_47 : decode cX5_walksThrough 47 = .ok (.getfield 21, 3) := by decide +kernel
theorem dX5_walksThrough_50 : decode cX5_walksThrough 50 = .ok (.getfield 96, 3) := by decide +kernel
theorem dX5_walksThrough_53 : decode cX5_walksThrough 53 = .ok (.iload_n 1, 1) := by decide +kernel
theorem dX5_walksThrough_54 : decode cX5_walksThrough 54 = .ok (.dup2, 1) := by decide +kernel
theorem dX5_walksThrough_55 : decode cX5_walksThrough 55 = .ok (.iaload, 1) := by decide +kernel
theorem dX5_walksThrough_56 : decode cX5_walksThrough 56 = .ok (.iconst 1, 1) := by decide +kernel
theorem dX5_walksThrough_57 : decode cX5_walksThrough 57 = .ok (.iadd, 1) := by decide +kernel
theorem dX5_walksThrough_58 : decode cX5_walksThrough 58 = .ok (.iastore, 1) := by decide +kernel
theorem dX5_walksThrough_59 : decode cX5_walksThrough 59 = .ok (.bipush 10, 2) := by decide +kernel
theorem dX5_walksThrough_61 : decode cX5_walksThrough 61 = .ok (.aload_n 0, 1) := by decide +kernel
theorem dX5_walksThrough_62 : decode cX5_walksThrough 62 = .ok (.getfield 21, 3) := by decide +kernel
theorem dX5_walksThrough_65 : decode cX5_walksThrough 65 = .ok (.getfield 58, 3) := by decide +kernel
theorem dX5_walksThrough_68 : decode cX5_walksThrough 68 = .ok (.iload_n 1, 1) := by decide +kernel
theorem dX5_walksThrough_69 : decode cX5_walksThrough 69 = .ok (.iaload, 1) := by decide +kernel
theorem dX5_walksThrough_70 : decode cX5_walksThrough 70 = .ok (.iadd, 1) := by decide +kernel
theorem dX5_walksThrough_71 : decode cX5_walksThrough 71 = .ok (.ireturn, 1) := by decide +kernel
theorem dX5_laysCord_0 : decode cX5_laysCord 0 = .ok (.aload_n 0, 1) := by decide +kernel
theorem dX5_laysCord_1 : decode cX5_laysCord 1 = .ok (.iload_n 1, 1) := by decide +kernel
theorem dX5_laysCord_2 : decode cX5_laysCord 2 = .ok (.invokevirtual 50, 3) := by decide +kernel
theorem dX5_laysCord_5 : decode cX5_laysCord 5 = .ok (.ifCond .eq 26, 3) := by decide +kernel
theorem dX5_laysCord_8 : decode cX5_laysCord 8 = .ok (.iload_n 3, 1) := by decide +kernel
theorem dX5_laysCord_9 : decode cX5_laysCord 9 = .ok (.bipush 10, 2) := by decide +kernel
theorem dX5_laysCord_11 : decode cX5_laysCord 11 = .ok (.if_icmp .eq 20, 3) := by decide +kernel
theorem dX5_laysCord_14 : decode cX5_laysCord 14 = .ok (.aload_n 0, 1) := by decide +kernel
theorem dX5_laysCord_15 : decode cX5_laysCord 15 = .ok (.iload_n 3, 1) := by decide +kernel
theorem dX5_laysCord_16 : decode cX5_laysCord 16 = .ok (.invokevirtual 50, 3) := by decide +kernel
theorem dX5_laysCord_19 : decode cX5_laysCord 19 = .ok (.ifCond .eq 12, 3) := by decide +kernel
theorem dX5_laysCord_22 : decode cX5_laysCord 22 = .ok (.aload_n 0, 1) := by decide +kernel
theorem dX5_laysCord_23 : decode cX5_laysCord 23 = .ok (.getfield 28, 3) := by decide +kernel
theorem dX5_laysCord_26 : decode cX5_laysCord 26 = .ok (.iconst 4, 1) := by decide +kernel
theorem dX5_laysCord_27 : decode cX5_laysCord 27 = .ok (.invokevirtual 90, 3) := by decide +kernel
theorem dX5_laysCord_30 : decode cX5_laysCord 30 = .ok (.ireturn, 1) := by decide +kernel
theorem dX5_laysCord_31 : decode cX5_laysCord 31 = .ok (.aload_n 0, 1) := by decide +kernel
theorem dX5_laysCord_32 : decode cX5_laysCord 32 = .ok (.getfield 12, 3) := by decide +kernel
theorem dX5_laysCord_35 : decode cX5_laysCord 35 = .ok (.iload_n 1, 1) := by decide +kernel
theorem dX5_laysCord_36 : decode cX5_laysCord 36 = .ok (.iload_n 2, 1) := by decide +kernel
theorem dX5_laysCord_37 : decode cX5_laysCord 37 = .ok (.iload_n 3, 1) := by decide +kernel
theorem dX5_laysCord_38 : decode cX5_laysCord 38 = .ok (.invokevirtual 99, 3) := by decide +kernel
theorem dX5_laysCord_41 : decode cX5_laysCord 41 = .ok (.bipush 10, 2) := by decide +kernel
theorem dX5_laysCord_43 : decode cX5_laysCord 43 = .ok (.ireturn, 1) := by decide +kernel
theorem dX5_opensUnless_0 : decode cX5_opensUnless 0 = .ok (.iload_n 1, 1) := by decide +kernel
theorem dX5_opensUnless_1 : decode cX5_opensUnless 1 = .ok (.ifCond .eq 12, 3) := by decide +kernel
theorem dX5_opensUnless_4 : decode cX5_opensUnless 4 = .ok (.aload_n 0, 1) := by decide +kernel
theorem dX5_opensUnless_5 : decode cX5_opensUnless 5 = .ok (.getfield 28, 3) := by decide +kernel
theorem dX5_opensUnless_8 : decode cX5_opensUnless 8 = .ok (.iload_n 1, 1) := by decide +kernel
theorem dX5_opensUnless_9 : decode cX5_opensUnless 9 = .ok (.invokevirtual 90, 3) := by decide +kernel
theorem dX5_opensUnless_12 : decode cX5_opensUnless 12 = .ok (.ireturn, 1) := by decide +kernel
theorem dX5_opensUnless_13 : decode cX5_opensUnless 13 = .ok (.aload_n 0, 1) := by decide +kernel
theorem dX5_opensUnless_14 : decode cX5_opensUnless 14 = .ok (.getfield 12, 3) := by decide +kernel
theorem dX5_opensUnless_17 : decode cX5_opensUnless 17 = .ok (.aload_n 0, 1) := by decide +kernel
theorem dX5_opensUnless_18 : decode cX5_opensUnless 18 = .ok (.getfield 32, 3) := by decide +kernel
theorem dX5_opensUnless_21 : decode cX5_opensUnless 21 = .ok (.iload_n 2, 1) := by decide +kernel
theorem dX5_opensUnless_22 : decode cX5_opensUnless 22 = .ok (.invokevirtual 103, 3) := by decide +kernel
theorem dX5_opensUnless_25 : decode cX5_opensUnless 25 = .ok (.istore_n 3, 1) := by decide +kernel
theorem dX5_opensUnless_26 : decode cX5_opensUnless 26 = .ok (.aload_n 0, 1) := by decide +kernel
theorem dX5_opensUnless_27 : decode cX5_opensUnless 27 = .ok (.getfield 12, 3) := by decide +kernel
theorem dX5_opensUnless_30 : decode cX5_opensUnless 30 = .ok (.iload_n 3, 1) := by decide +kernel
theorem dX5_opensUnless_31 : decode cX5_opensUnless 31 = .ok (.iload_n 2, 1) := by decide +kernel
theorem dX5_opensUnless_32 : decode cX5_opensUnless 32 = .ok (.invokevirtual 106, 3) := by decide +kernel
theorem dX5_opensUnless_35 : decode cX5_opensUnless 35 = .ok (.istore 4, 2) := by decide +kernel
theorem dX5_opensUnless_37 : decode cX5_opensUnless 37 = .ok (.aload_n 0, 1) := by decide +kernel
theorem dX5_opensUnless_38 : decode cX5_opensUnless 38 = .ok (.getfield 32, 3) := by decide +kernel
theorem dX5_opensUnless_41 : decode cX5_opensUnless 41 = .ok (.iload_n 3, 1) := by decide +kernel
theorem dX5_opensUnless_42 : decode cX5_opensUnless 42 = .ok (.iconst (-1), 1) := by decide +kernel
theorem dX5_opensUnless_43 : decode cX5_opensUnless 43 = .ok (.ixor, 1) := by decide +kernel
theorem dX5_opensUnless_44 : decode cX5_opensUnless 44 = .ok (.iand, 1) := by decide +kernel
theorem dX5_opensUnless_45 : decode cX5_opensUnless 45 = .ok (.istore 5, 2) := by decide +kernel
theorem dX5_opensUnless_47 : decode cX5_opensUnless 47 = .ok (.iload_n 3, 1) := by decide +kernel
theorem dX5_opensUnless_48 : decode cX5_opensUnless 48 = .ok (.iload 4, 2) := by decide +kernel
theorem dX5_opensUnless_50 : decode cX5_opensUnless 50 = .ok (.iconst (-1), 1) := by decide +kernel
theorem dX5_opensUnless_51 : decode cX5_opensUnless 51 = .ok (.ixor, 1) := by decide +kernel
theorem dX5_opensUnless_52 : decode cX5_opensUnless 52 = .ok (.iand, 1) := by decide +kernel
theorem dX5_opensUnless_53 : decode cX5_opensUnless 53 = .ok (.istore 6, 2) := by decide +kernel
theorem dX5_opensUnless_55 : decode cX5_opensUnless 55 = .ok (.aload_n 0, 1) := by decide +kernel
theorem dX5_opensUnless_56 : decode cX5_opensUnless 56 = .ok (.getfield 28, 3) := by decide +kernel
theorem dX5_opensUnless_59 : decode cX5_opensUnless 59 = .ok (.iload_n 2, 1) := by decide +kernel
theorem dX5_opensUnless_60 : decode cX5_opensUnless 60 = .ok (.invokevirtual 109, 3) := by decide +kernel
theorem dX5_opensUnless_63 : decode cX5_opensUnless 63 = .ok (.aload_n 0, 1) := by decide +kernel
theorem dX5_opensUnless_64 : decode cX5_opensUnless 64 = .ok (.getfield 28, 3) := by decide +kernel
theorem dX5_opensUnless_67 : decode cX5_opensUnless 67 = .ok (.iload 5, 2) := by decide +kernel
theorem dX5_opensUnless_69 : decode cX5_opensUnless 69 = .ok (.iload 6, 2) := by decide +kernel
theorem dX5_opensUnless_71 : decode cX5_opensUnless 71 = .ok (.invokevirtual 113, 3) := by decide +kernel
theorem dX5_opensUnless_74 : decode cX5_opensUnless 74 = .ok (.aload_n 0, 1) := by decide +kernel
theorem dX5_opensUnless_75 : decode cX5_opensUnless 75 = .ok (.iload 4, 2) := by decide +kernel
theorem dX5_opensUnless_77 : decode cX5_opensUnless 77 = .ok (.putfield 32, 3) := by decide +kernel
theorem dX5_opensUnless_80 : decode cX5_opensUnless 80 = .ok (.bipush 10, 2) := by decide +kernel
theorem dX5_opensUnless_82 : decode cX5_opensUnless 82 = .ok (.iload 5, 2) := by decide +kernel
theorem dX5_opensUnless_84 : decode cX5_opensUnless 84 = .ok (.iload 6, 2) := by decide +kernel
theorem dX5_opensUnless_86 : decode cX5_opensUnless 86 = .ok (.ior, 1) := by decide +kernel
theorem dX5_opensUnless_87 : decode cX5_opensUnless 87 = .ok (.invokestatic 117, 3) := by decide +kernel
theorem dX5_opensUnless_90 : decode cX5_opensUnless 90 = .ok (.iadd, 1) := by decide +kernel
theorem dX5_opensUnless_91 : decode cX5_opensUnless 91 = .ok (.ireturn, 1) := by decide +kernel
theorem dX5_shutsUnless_0 : decode cX5_shutsUnless 0 = .ok (.iload_n 1, 1) := by decide +kernel
theorem dX5_shutsUnless_1 : decode cX5_shutsUnless 1 = .ok (.ifCond .eq 12, 3) := by decide +kernel
theorem dX5_shutsUnless_4 : decode cX5_shutsUnless 4 = .ok (.aload_n 0, 1) := by decide +kernel
theorem dX5_shutsUnless_5 : decode cX5_shutsUnless 5 = .ok (.getfield 28, 3) := by decide +kernel
theorem dX5_shutsUnless_8 : decode cX5_shutsUnless 8 = .ok (.iload_n 1, 1) := by decide +kernel
theorem dX5_shutsUnless_9 : decode cX5_shutsUnless 9 = .ok (.invokevirtual 90, 3) := by decide +kernel
theorem dX5_shutsUnless_12 : decode cX5_shutsUnless 12 = .ok (.ireturn, 1) := by decide +kernel
theorem dX5_shutsUnless_13 : decode cX5_shutsUnless 13 = .ok (.aload_n 0, 1) := by decide +kernel
theorem dX5_shutsUnless_14 : decode cX5_shutsUnless 14 = .ok (.getfield 28, 3) := by decide +kernel
theorem dX5_shutsUnless_17 : decode cX5_shutsUnless 17 = .ok (.iload_n 2, 1) := by decide +kernel
theorem dX5_shutsUnless_18 : decode cX5_shutsUnless 18 = .ok (.invokevirtual 122, 3) := by decide +kernel
theorem dX5_shutsUnless_21 : decode cX5_shutsUnless 21 = .ok (.aload_n 0, 1) := by decide +kernel
theorem dX5_shutsUnless_22 : decode cX5_shutsUnless 22 = .ok (.aload_n 0, 1) := by decide +kernel
theorem dX5_shutsUnless_23 : decode cX5_shutsUnless 23 = .ok (.getfield 32, 3) := by decide +kernel
theorem dX5_shutsUnless_26 : decode cX5_shutsUnless 26 = .ok (.iload_n 2, 1) := by decide +kernel
theorem dX5_shutsUnless_27 : decode cX5_shutsUnless 27 = .ok (.invokestatic 125, 3) := by decide +kernel
theorem dX5_shutsUnless_30 : decode cX5_shutsUnless 30 = .ok (.putfield 32, 3) := by decide +kernel
theorem dX5_shutsUnless_33 : decode cX5_shutsUnless 33 = .ok (.bipush 10, 2) := by decide +kernel
theorem dX5_shutsUnless_35 : decode cX5_shutsUnless 35 = .ok (.ireturn, 1) := by decide +kernel
theorem dX6_init_0 : decode cX6_init 0 = .ok (.aload_n 0, 1) := by decide +kernel
theorem dX6_init_1 : decode cX6_init 1 = .ok (.invokespecial 3, 3) := by decide +kernel
theorem dX6_init_4 : decode cX6_init 4 = .ok (.aload_n 0, 1) := by decide +kernel
theorem dX6_init_5 : decode cX6_init 5 = .ok (.iconst 0, 1) := by decide +kernel
theorem dX6_init_6 : decode cX6_init 6 = .ok (.putfield 9, 3) := by decide +kernel
theorem dX6_init_9 : decode cX6_init 9 = .ok (.aload_n 0, 1) := by decide +kernel
theorem dX6_init_10 : decode cX6_init 10 = .ok (.iconst 0, 1) := by decide +kernel
theorem dX6_init_11 : decode cX6_init 11 = .ok (.putfield 15, 3) := by decide +kernel
theorem dX6_init_14 : decode cX6_init 14 = .ok (.aload_n 0, 1) := by decide +kernel
theorem dX6_init_15 : decode cX6_init 15 = .ok (.iconst 0, 1) := by decide +kernel
theorem dX6_init_16 : decode cX6_init 16 = .ok (.putfield 18, 3) := by decide +kernel
theorem dX6_init_19 : decode cX6_init 19 = .ok (.return_, 1) := by decide +kernel
theorem dX6_forget_0 : decode cX6_forget 0 = .ok (.aload_n 0, 1) := by decide +kernel
theorem dX6_forget_1 : decode cX6_forget 1 = .ok (.iconst 0, 1) := by decide +kernel
theorem dX6_forget_2 : decode cX6_forget 2 = .ok (.putfield 9, 3) := by decide +kernel
theorem dX6_forget_5 : decode cX6_forget 5 = .ok (.return_, 1) := by decide +kernel
theorem dX6_remember_0 : decode cX6_remember 0 = .ok (.aload_n 0, 1) := by decide +kernel
theorem dX6_remember_1 : decode cX6_remember 1 = .ok (.iload_n 1, 1) := by decide +kernel
theorem dX6_remember_2 : decode cX6_remember 2 = .ok (.putfield 9, 3) := by decide +kernel
theorem dX6_remember_5 : decode cX6_remember 5 = .ok (.aload_n 0, 1) := by decide +kernel
theorem dX6_remember_6 : decode cX6_remember 6 = .ok (.iload_n 2, 1) := by decide +kernel
theorem dX6_remember_7 : decode cX6_remember 7 = .ok (.putfield 15, 3) := by decide +kernel
theorem dX6_remember_10 : decode cX6_remember 10 = .ok (.aload_n 0, 1) := by decide +kernel
theorem dX6_remember_11 : decode cX6_remember 11 = .ok (.iload_n 3, 1) := by decide +kernel
theorem dX6_remember_12 : decode cX6_remember 12 = .ok (.putfield 18, 3) := by decide +kernel
theorem dX6_remember_15 : decode cX6_remember 15 = .ok (.return_, 1) := by decide +kernel
theorem dX6_happened_0 : decode cX6_happened 0 = .ok (.aload_n 0, 1) := by decide +kernel
theorem dX6_happened_1 : decode cX6_happened 1 = .ok (.getfield 9, 3) := by decide +kernel
theorem dX6_happened_4 : decode cX6_happened 4 = .ok (.ifCond .eq 7, 3) := by decide +kernel
theorem dX6_happened_7 : decode cX6_happened 7 = .ok (.iconst 1, 1) := by decide +kernel
theorem dX6_happened_8 : decode cX6_happened 8 = .ok (.goto 4, 3) := by decide +kernel
theorem dX6_happened_11 : decode cX6_happened 11 = .ok (.iconst 0, 1) := by decide +kernel
theorem dX6_happened_12 : decode cX6_happened 12 = .ok (.ireturn, 1) := by decide +kernel
theorem dX7_init_0 : decode cX7_init 0 = .ok (.aload_n 0, 1) := by decide +kernel
theorem dX7_init_1 : decode cX7_init 1 = .ok (.invokespecial 3, 3) := by decide +kernel
theorem dX7_init_4 : decode cX7_init 4 = .ok (.aload_n 0, 1) := by decide +kernel
theorem dX7_init_5 : decode cX7_init 5 = .ok (.sipush 6144, 3) := by decide +kernel
theorem dX7_init_8 : decode cX7_init 8 = .ok (.newarray .int, 2) := by decide +kernel
theorem dX7_init_10 : decode cX7_init 10 = .ok (.putfield 9, 3) := by decide +kernel
theorem dX7_init_13 : decode cX7_init 13 = .ok (.aload_n 0, 1) := by decide +kernel
theorem dX7_init_14 : decode cX7_init 14 = .ok (.sipush 6144, 3) := by decide +kernel
theorem dX7_init_17 : decode cX7_init 17 = .ok (.newarray .int, 2) := by decide +kernel
theorem dX7_init_19 : decode cX7_init 19 = .ok (.putfield 15, 3) := by decide +kernel
theorem dX7_init_22 : decode cX7_init 22 = .ok (.aload_n 0, 1) := by decide +kernel
theorem dX7_init_23 : decode cX7_init 23 = .ok (.iconst 0, 1) := by decide +kernel
theorem dX7_init_24 : decode cX7_init 24 = .ok (.putfield 18, 3) := by decide +kernel
theorem dX7_init_27 : decode cX7_init 27 = .ok (.return_, 1) := by decide +kernel
theorem dX7_fromNowOn_0 : decode cX7_fromNowOn 0 = .ok (.aload_n 0, 1) := by decide +kernel
theorem dX7_fromNowOn_1 : decode cX7_fromNowOn 1 = .ok (.getfield 9, 3) := by decide +kernel
theorem dX7_fromNowOn_4 : decode cX7_fromNowOn 4 = .ok (.sipush 6144, 3) := by decide +kernel
theorem dX7_fromNowOn_7 : decode cX7_fromNowOn 7 = .ok (.invokestatic 22, 3) := by decide +kernel
theorem dX7_fromNowOn_10 : decode cX7_fromNowOn 10 = .ok (.aload_n 0, 1) := by decide +kernel
theorem dX7_fromNowOn_11 : decode cX7_fromNowOn 11 = .ok (.iconst 0, 1) := by decide +kernel
theorem dX7_fromNowOn_12 : decode cX7_fromNowOn 12 = .ok (.putfield 18, 3) := by decide +kernel
theorem dX7_fromNowOn_15 : decode cX7_fromNowOn 15 = .ok (.aload_n 0, 1) := by decide +kernel
theorem dX7_fromNowOn_16 : decode cX7_fromNowOn 16 = .ok (.iload_n 2, 1) := by decide +kernel
theorem dX7_fromNowOn_17 : decode cX7_fromNowOn 17 = .ok (.iconst 0, 1) := by decide +kernel
theorem dX7_fromNowOn_18 : decode cX7_fromNowOn 18 = .ok (.invokevirtual 28, 3) := by decide +kernel
theorem dX7_fromNowOn_21 : decode cX7_fromNowOn 21 = .ok (.iconst 0, 1) := by decide +kernel
theorem dX7_fromNowOn_22 : decode cX7_fromNowOn 22 = .ok (.istore 5, 2) := by decide +kernel
theorem dX7_fromNowOn_24 : decode cX7_fromNowOn 24 = .ok (.iload 5, 2) := by decide +kernel
theorem dX7_fromNowOn_26 : decode cX7_fromNowOn 26 = .ok (.aload_n 0, 1) := by decide +kernel
theorem dX7_fromNowOn_27 : decode cX7_fromNowOn 27 = .ok (.getfield 18, 3) := by decide +kernel
theorem dX7_fromNowOn_30 : decode cX7_fromNowOn 30 = .ok (.if_icmp .ge 59, 3) := by decide +kernel
theorem dX7_fromNowOn_33 : decode cX7_fromNowOn 33 = .ok (.iload 5, 2) := by decide +kernel
theorem dX7_fromNowOn_35 : decode cX7_fromNowOn 35 = .ok (.sipush 6144, 3) := by decide +kernel
theorem dX7_fromNowOn_38 : decode cX7_fromNowOn 38 = .ok (.if_icmp .ge 51, 3) := by decide +kernel
theorem dX7_fromNowOn_41 : decode cX7_fromNowOn 41 = .ok (.aload_n 0, 1) := by decide +kernel
theorem dX7_fromNowOn_42 : decode cX7_fromNowOn 42 = .ok (.getfield 15, 3) := by decide +kernel
theorem dX7_fromNowOn_45 : decode cX7_fromNowOn 45 = .ok (.iload 5, 2) := by decide +kernel
theorem dX7_fromNowOn_47 : decode cX7_fromNowOn 47 = .ok (.iaload, 1) := by decide +kernel
theorem dX7_fromNowOn_48 : decode cX7_fromNowOn 48 = .ok (.istore 6, 2) := by decide +kernel
theorem dX7_fromNowOn_50 : decode cX7_fromNowOn 50 = .ok (.aload_n 0, 1) := by decide +kernel
theorem dX7_fromNowOn_51 : decode cX7_fromNowOn 51 = .ok (.iload 6, 2) := by decide +kernel
theorem dX7_fromNowOn_53 : decode cX7_fromNowOn 53 = .ok (.invokevirtual 32, 3) := by decide +kernel
theorem dX7_fromNowOn_56 : decode cX7_fromNowOn 56 = .ok (.istore 7, 2) := by decide +kernel
theorem dX7_fromNowOn_58 : decode cX7_fromNowOn 58 = .ok (.iload 6, 2) := by decide +kernel
theorem dX7_fromNowOn_60 : decode cX7_fromNowOn 60 = .ok (.bipush 6, 2) := by decide +kernel
theorem dX7_fromNowOn_62 : decode cX7_fromNowOn 62 = .ok (.irem, 1) := by decide +kernel
theorem dX7_fromNowOn_63 : decode cX7_fromNowOn 63 = .ok (.iload 4, 2) := by decide +kernel
theorem dX7_fromNowOn_65 : decode cX7_fromNowOn 65 = .ok (.if_icmp .ne 6, 3) := by decide +kernel
theorem dX7_fromNowOn_68 : decode cX7_fromNowOn 68 = .ok (.iload 7, 2) := by decide +kernel
theorem dX7_fromNowOn_70 : decode cX7_fromNowOn 70 = .ok (.ireturn, 1) := by decide +kernel
theorem dX7_fromNowOn_71 : decode cX7_fromNowOn 71 = .ok (.aload_n 0, 1) := by decide +kernel
theorem dX7_fromNowOn_72 : decode cX7_fromNowOn 72 = .ok (.aload_n 1, 1) := by decide +kernel
theorem dX7_fromNowOn_73 : decode cX7_fromNowOn 73 = .ok (.iload 6, 2) := by decide +kernel
theorem dX7_fromNowOn_75 : decode cX7_fromNowOn 75 = .ok (.iload_n 3, 1) := by decide +kernel
theorem dX7_fromNowOn_76 : decode cX7_fromNowOn 76 = .ok (.iload 7, 2) := by decide +kernel
theorem dX7_fromNowOn_78 : decode cX7_fromNowOn 78 = .ok (.iconst 1, 1) := by decide +kernel
theorem dX7_fromNowOn_79 : decode cX7_fromNowOn 79 = .ok (.iadd, 1) := by decide +kernel
theorem dX7_fromNowOn_80 : decode cX7_fromNowOn 80 = .ok (.invokevirtual 36, 3) := by decide +kernel
theorem dX7_fromNowOn_83 : decode cX7_fromNowOn 83 = .ok (.iinc 5 1, 3) := by decide +kernel
theorem dX7_fromNowOn_86 : decode cX7_fromNowOn 86 = .ok (.goto (-62), 3) := by decide +kernel
theorem dX7_fromNowOn_89 : decode cX7_fromNowOn 89 = .ok (.bipush (-4), 2) := by decide +kernel
theorem dX7_fromNowOn_91 : decode cX7_fromNowOn 91 = .ok (.ireturn, 1) := by decide +kernel
theorem dX7_goOnFrom_0 : decode cX7_goOnFrom 0 = .ok (.iload_n 2, 1) := by decide +kernel
theorem dX7_goOnFrom_1 : decode cX7_goOnFrom 1 = .ok (.bipush 6, 2) := by decide +kernel
theorem dX7_goOnFrom_3 : decode cX7_goOnFrom 3 = .ok (.idiv, 1) := by decide +kernel
theorem dX7_goOnFrom_4 : decode cX7_goOnFrom 4 = .ok (.istore 5, 2) := by decide +kernel
theorem dX7_goOnFrom_6 : decode cX7_goOnFrom 6 = .ok (.iload_n 2, 1) := by decide +kernel
theorem dX7_goOnFrom_7 : decode cX7_goOnFrom 7 = .ok (.bipush 6, 2) := by decide +kernel
theorem dX7_goOnFrom_9 : decode cX7_goOnFrom 9 = .ok (.irem, 1) := by decide +kernel
theorem dX7_goOnFrom_10 : decode cX7_goOnFrom 10 = .ok (.istore 6, 2) := by decide +kernel
theorem dX7_goOnFrom_12 : decode cX7_goOnFrom 12 = .ok (.iload_n 3, 1) := by decide +kernel
theorem dX7_goOnFrom_13 : decode cX7_goOnFrom 13 = .ok (.iload 5, 2) := by decide +kernel
theorem dX7_goOnFrom_15 : decode cX7_goOnFrom 15 = .ok (.iconst (-1), 1) := by decide +kernel
theorem dX7_goOnFrom_16 : decode cX7_goOnFrom 16 = .ok (.ixor, 1) := by decide +kernel
theorem dX7_goOnFrom_17 : decode cX7_goOnFrom 17 = .ok (.iand, 1) := by decide +kernel
theorem dX7_goOnFrom_18 : decode cX7_goOnFrom 18 = .ok (.aload_n 1, 1) := by decide +kernel
theorem dX7_goOnFrom_19 : decode cX7_goOnFrom 19 = .ok (.iload 5, 2) := by decide +kernel
theorem dX7_goOnFrom_21 : decode cX7_goOnFrom 21 = .ok (.invokevirtual 40, 3) := by decide +kernel
theorem dX7_goOnFrom_24 : decode cX7_goOnFrom 24 = .ok (.iconst (-1), 1) := by decide +kernel
theorem dX7_goOnFrom_25 : decode cX7_goOnFrom 25 = .ok (.ixor, 1) := by decide +kernel
theorem dX7_goOnFrom_26 : decode cX7_goOnFrom 26 = .ok (.iand, 1) := by decide +kernel
theorem dX7_goOnFrom_27 : decode cX7_goOnFrom 27 = .ok (.istore 7, 2) := by decide +kernel
theorem dX7_goOnFrom_29 : decode cX7_goOnFrom 29 = .ok (.iconst 0, 1) := by decide +kernel
theorem dX7_goOnFrom_30 : decode cX7_goOnFrom 30 = .ok (.istore 8, 2) := by decide +kernel
theorem dX7_goOnFrom_32 : decode cX7_goOnFrom 32 = .ok (.iload 8, 2) := by decide +kernel
theorem dX7_goOnFrom_34 : decode cX7_goOnFrom 34 = .ok (.bipush 10, 2) := by decide +kernel
theorem dX7_goOnFrom_36 : decode cX7_goOnFrom 36 = .ok (.if_icmp .ge 102, 3) := by decide +kernel
theorem dX7_goOnFrom_39 : decode cX7_goOnFrom 39 = .ok (.aload_n 1, 1) := by decide +kernel
theorem dX7_goOnFrom_40 : decode cX7_goOnFrom 40 = .ok (.iload 8, 2) := by decide +kernel
theorem dX7_goOnFrom_42 : decode cX7_goOnFrom 42 = .ok (.iload 6, 2) := by decide +kernel
theorem dX7_goOnFrom_44 : decode cX7_goOnFrom 44 = .ok (.invokevirtual 45, 3) := by decide +kernel
theorem dX7_goOnFrom_47 : decode cX7_goOnFrom 47 = .ok (.ifCond .ne 6, 3) := by decide +kernel
theorem dX7_goOnFrom_50 : decode cX7_goOnFrom 50 = .ok (.goto 82, 3) := by decide +kernel
theorem dX7_goOnFrom_53 : decode cX7_goOnFrom 53 = .ok (.iload 5, 2) := by decide +kernel
theorem dX7_goOnFrom_55 : decode cX7_goOnFrom 55 = .ok (.iload 8, 2) := by decide +kernel
theorem dX7_goOnFrom_57 : decode cX7_goOnFrom 57 = .ok (.invokestatic 49, 3) := by decide +kernel
theorem dX7_goOnFrom_60 : decode cX7_goOnFrom 60 = .ok (.ifCond .eq 43, 3) := by decide +kernel
theorem dX7_goOnFrom_63 : decode cX7_goOnFrom 63 = .ok (.aload_n 0, 1) := by decide +kernel
theorem dX7_goOnFrom_64 : decode cX7_goOnFrom 64 = .ok (.iload 5, 2) := by decide +kernel
theorem dX7_goOnFrom_66 : decode cX7_goOnFrom 66 = .ok (.aload_n 1, 1) := by decide +kernel
theorem dX7_goOnFrom_67 : decode cX7_goOnFrom 67 = .ok (.iload 8, 2) := by decide +kernel
theorem dX7_goOnFrom_69 : decode cX7_goOnFrom 69 = .ok (.iload 6, 2) := by decide +kernel
theorem dX7_goOnFrom_71 : decode cX7_goOnFrom 71 = .ok (.invokevirtual 52, 3) := by decide +kernel
theorem dX7_goOnFrom_74 : decode cX7_goOnFrom 74 = .ok (.invokestatic 56, 3) := by decide +kernel
theorem dX7_goOnFrom_77 : decode cX7_goOnFrom 77 = .ok (.iload 4, 2) := by decide +kernel
theorem dX7_goOnFrom_79 : decode cX7_goOnFrom 79 = .ok (.invokevirtual 28, 3) := by decide +kernel
theorem dX7_goOnFrom_82 : decode cX7_goOnFrom 82 = .ok (.aload_n 0, 1) := by decide +kernel
theorem dX7_goOnFrom_83 : decode cX7_goOnFrom 83 = .ok (.iload 5, 2) := by decide +kernel
theorem dX7_goOnFrom_85 : decode cX7_goOnFrom 85 = .ok (.iload 8, 2) := by decide +kernel
theorem dX7_goOnFrom_87 : decode cX7_goOnFrom 87 = .ok (.invokestatic 59, 3) := by decide +kernel
theorem dX7_goOnFrom_90 : decode cX7_goOnFrom 90 = .ok (.iload 6, 2) := by decide +kernel
theorem dX7_goOnFrom_92 : decode cX7_goOnFrom 92 = .ok (.invokestatic 56, 3) := by decide +kernel
theorem dX7_goOnFrom_95 : decode cX7_goOnFrom 95 = .ok (.iload 4, 2) := by decide +kernel
theorem dX7_goOnFrom_97 : decode cX7_goOnFrom 97 = .ok (.invokevirtual 28, 3) := by decide +kernel
theorem dX7_goOnFrom_100 : decode cX7_goOnFrom 100 = .ok (.goto 32, 3) := by decide +kernel
theorem dX7_goOnFrom_103 : decode cX7_goOnFrom 103 = .ok (.iload 7, 2) := by decide +kernel
theorem dX7_goOnFrom_105 : decode cX7_goOnFrom 105 = .ok (.iload 8, 2) := by decide +kernel
theorem dX7_goOnFrom_107 : decode cX7_goOnFrom 107 = .ok (.invokestatic 49, 3) := by decide +kernel
theorem dX7_goOnFrom_110 : decode cX7_goOnFrom 110 = .ok (.ifCond .eq 22, 3) := by decide +kernel
theorem dX7_goOnFrom_113 : decode cX7_goOnFrom 113 = .ok (.aload_n 0, 1) := by decide +kernel
theorem dX7_goOnFrom_114 : decode cX7_goOnFrom 114 = .ok (.aload_n 1, 1) := by decide +kernel
theorem dX7_goOnFrom_115 : decode cX7_goOnFrom 115 = .ok (.iload 5, 2) := by decide +kernel
theorem dX7_goOnFrom_117 : decode cX7_goOnFrom 117 = .ok (.iload 8, 2) := by decide +kernel
theorem dX7_goOnFrom_119 : decode cX7_goOnFrom 119 = .ok (.invokevirtual 62, 3) := by decide +kernel
theorem dX7_goOnFrom_122 : decode cX7_goOnFrom 122 = .ok (.iload 6, 2) := by decide +kernel
theorem dX7_goOnFrom_124 : decode cX7_goOnFrom 124 = .ok (.invokestatic 56, 3) := by decide +kernel
theorem dX7_goOnFrom_127 : decode cX7_goOnFrom 127 = .ok (.iload 4, 2) := by decide +kernel
theorem dX7_goOnFrom_129 : decode cX7_goOnFrom 129 = .ok (.invokevirtual 28, 3) := by decide +kernel
theorem dX7_goOnFrom_132 : decode cX7_goOnFrom 132 = .ok (.iinc 8 1, 3) := by decide +kernel
theorem dX7_goOnFrom_135 : decode cX7_goOnFrom 135 = .ok (.goto (-103), 3) := by decide +kernel
theorem dX7_goOnFrom_138 : decode cX7_goOnFrom 138 = .ok (.return_, 1) := by decide +kernel
theorem dX7_isSpot_0 : decode cX7_isSpot 0 = .ok (.iload_n 0, 1) := by decide +kernel
theorem dX7_isSpot_1 : decode cX7_isSpot 1 = .ok (.ifCond .lt 14, 3) := by decide +kernel
theorem dX7_isSpot_4 : decode cX7_isSpot 4 = .ok (.iload_n 0, 1) := by decide +kernel
theorem dX7_isSpot_5 : decode cX7_isSpot 5 = .ok (.sipush 6144, 3) := by decide +kernel
theorem dX7_isSpot_8 : decode cX7_isSpot 8 = .ok (.if_icmp .ge 7, 3) := by decide +kernel
theorem dX7_isSpot_11 : decode cX7_isSpot 11 = .ok (.iconst 1, 1) := by decide +kernel
theorem dX7_isSpot_12 : decode cX7_isSpot 12 = .ok (.goto 4, 3) := by decide +kernel
theorem dX7_isSpot_15 : decode cX7_isSpot 15 = .ok (.iconst 0, 1) := by decide +kernel
theorem dX7_isSpot_16 : decode cX7_isSpot 16 = .ok (.ireturn, 1) := by decide +kernel
theorem dX7_fewestOf_0 : decode cX7_fewestOf 0 = .ok (.iload_n 1, 1) := by decide +kernel
theorem dX7_fewestOf_1 : decode cX7_fewestOf 1 = .ok (.invokestatic 65, 3) := by decide +kernel
theorem dX7_fewestOf_4 : decode cX7_fewestOf 4 = .ok (.ifCond .eq 12, 3) := by decide +kernel
theorem dX7_fewestOf_7 : decode cX7_fewestOf 7 = .ok (.aload_n 0, 1) := by decide +kernel
theorem dX7_fewestOf_8 : decode cX7_fewestOf 8 = .ok (.getfield 9, 3) := by decide +kernel
theorem dX7_fewestOf_11 : decode cX7_fewestOf 11 = .ok (.iload_n 1, 1) := by decide +kernel
theorem dX7_fewestOf_12 : decode cX7_fewestOf 12 = .ok (.iaload, 1) := by decide +kernel
theorem dX7_fewestOf_13 : decode cX7_fewestOf 13 = .ok (.goto 6, 3) := by decide +kernel
theorem dX7_fewestOf_16 : decode cX7_fewestOf 16 = .ok (.sipush 6144, 3) := by decide +kernel
theorem dX7_fewestOf_19 : decode cX7_fewestOf 19 = .ok (.ireturn, 1) := by decide +kernel
theorem dX7_reach_0 : decode cX7_reach 0 = .ok (.iload_n 1, 1) := by decide +kernel
theorem dX7_reach_1 : decode cX7_reach 1 = .ok (.invokestatic 65, 3) := by decide +kernel
theorem dX7_reach_4 : decode cX7_reach 4 = .ok (.ifCond .eq 52, 3) := by decide +kernel
theorem dX7_reach_7 : decode cX7_reach 7 = .ok (.aload_n 0, 1) := by decide +kernel
theorem dX7_reach_8 : decode cX7_reach 8 = .ok (.getfield 9, 3) := by decide +kernel
theorem dX7_reach_11 : decode cX7_reach 11 = .ok (.iload_n 1, 1) := by decide +kernel
theorem dX7_reach_12 : decode cX7_reach 12 = .ok (.iaload, 1) := by decide +kernel
theorem dX7_reach_13 : decode cX7_reach 13 = .ok (.sipush 6144, 3) := by decide +kernel
theorem dX7_reach_16 : decode cX7_reach 16 = .ok (.if_icmp .ne 40, 3) := by decide +kernel
theorem dX7_reach_19 : decode cX7_reach 19 = .ok (.aload_n 0, 1) := by decide +kernel
theorem dX7_reach_20 : decode cX7_reach 20 = .ok (.getfield 18, 3) := by decide +kernel
theorem dX7_reach_23 : decode cX7_reach 23 = .ok (.sipush 6144, 3) := by decide +kernel
theorem dX7_reach_26 : decode cX7_reach 26 = .ok (.if_icmp .ge 30, 3) := by decide +kernel
theorem dX7_reach_29 : decode cX7_reach 29 = .ok (.aload_n 0, 1) := by decide +kernel
theorem dX7_reach_30 : decode cX7_reach 30 = .ok (.getfield 9, 3) := by decide +kernel
theorem dX7_reach_33 : decode cX7_reach 33 = .ok (.iload_n 1, 1) := by decide +kernel
theorem dX7_reach_34 : decode cX7_reach 34 = .ok (.iload_n 2, 1) := by decide +kernel
theorem dX7_reach_35 : decode cX7_reach 35 = .ok (.iastore, 1) := by decide +kernel
theorem dX7_reach_36 : decode cX7_reach 36 = .ok (.aload_n 0, 1) := by decide +kernel
theorem dX7_reach_37 : decode cX7_reach 37 = .ok (.getfield 15, 3) := by decide +kernel
theorem dX7_reach_40 : decode cX7_reach 40 = .ok (.aload_n 0, 1) := by decide +kernel
theorem dX7_reach_41 : decode cX7_reach 41 = .ok (.getfield 18, 3) := by decide +kernel
theorem dX7_reach_44 : decode cX7_reach 44 = .ok (.iload_n 1, 1) := by decide +kernel
theorem dX7_reach_45 : decode cX7_reach 45 = .ok (.iastore, 1) := by decide +kernel
theorem dX7_reach_46 : decode cX7_reach 46 = .ok (.aload_n 0, 1) := by decide +kernel
theorem dX7_reach_47 : decode cX7_reach 47 = .ok (.dup, 1) := by decide +kernel
theorem dX7_reach_48 : decode cX7_reach 48 = .ok (.getfield 18, 3) := by decide +kernel
theorem dX7_reach_51 : decode cX7_reach 51 = .ok (.iconst 1, 1) := by decide +kernel
theorem dX7_reach_52 : decode cX7_reach 52 = .ok (.iadd, 1) := by decide +kernel
theorem dX7_reach_53 : decode cX7_reach 53 = .ok (.putfield 18, 3) := by decide +kernel
theorem dX7_reach_56 : decode cX7_reach 56 = .ok (.return_, 1) := by decide +kernel
theorem dX7_fromHallBack_0 : decode cX7_fromHallBack 0 = .ok (.aload_n 0, 1) := by decide +kernel
theorem dX7_fromHallBack_1 : decode cX7_fromHallBack 1 = .ok (.getfield 9, 3) := by decide +kernel
theorem dX7_fromHallBack_4 : decode cX7_fromHallBack 4 = .ok (.sipush 6144, 3) := by decide +kernel
theorem dX7_fromHallBack_7 : decode cX7_fromHallBack 7 = .ok (.invokestatic 22, 3) := by decide +kernel
theorem dX7_fromHallBack_10 : decode cX7_fromHallBack 10 = .ok (.aload_n 0, 1) := by decide +kernel
theorem dX7_fromHallBack_11 : decode cX7_fromHallBack 11 = .ok (.aload_n 1, 1) := by decide +kernel
theorem dX7_fromHallBack_12 : decode cX7_fromHallBack 12 = .ok (.iload_n 2, 1) := by decide +kernel
theorem dX7_fromHallBack_13 : decode cX7_fromHallBack 13 = .ok (.bipush 6, 2) := by decide +kernel
theorem dX7_fromHallBack_15 : decode cX7_fromHallBack 15 = .ok (.idiv, 1) := by decide +kernel
theorem dX7_fromHallBack_16 : decode cX7_fromHallBack 16 = .ok (.iload_n 3, 1) := by decide +kernel
theorem dX7_fromHallBack_17 : decode cX7_fromHallBack 17 = .ok (.ior, 1) := by decide +kernel
theorem dX7_fromHallBack_18 : decode cX7_fromHallBack 18 = .ok (.invokevirtual 69, 3) := by decide +kernel
theorem dX7_fromHallBack_21 : decode cX7_fromHallBack 21 = .ok (.iconst 0, 1) := by decide +kernel
theorem dX7_fromHallBack_22 : decode cX7_fromHallBack 22 = .ok (.istore 5, 2) := by decide +kernel
theorem dX7_fromHallBack_24 : decode cX7_fromHallBack 24 = .ok (.iload 5, 2) := by decide +kernel
theorem dX7_fromHallBack_26 : decode cX7_fromHallBack 26 = .ok (.aload_n 0, 1) := by decide +kernel
theorem dX7_fromHallBack_27 : decode cX7_fromHallBack 27 = .ok (.getfield 18, 3) := by decide +kernel
theorem dX7_fromHallBack_30 : decode cX7_fromHallBack 30 = .ok (.if_icmp .ge 33, 3) := by decide +kernel
theorem dX7_fromHallBack_33 : decode cX7_fromHallBack 33 = .ok (.iload 5, 2) := by decide +kernel
theorem dX7_fromHallBack_35 : decode cX7_fromHallBack 35 = .ok (.sipush 6144, 3) := by decide +kernel
theorem dX7_fromHallBack_38 : decode cX7_fromHallBack 38 = .ok (.if_icmp .ge 25, 3) := by decide +kernel
theorem dX7_fromHallBack_41 : decode cX7_fromHallBack 41 = .ok (.aload_n 0, 1) := by decide +kernel
theorem dX7_fromHallBack_42 : decode cX7_fromHallBack 42 = .ok (.aload_n 0, 1) := by decide +kernel
theorem dX7_fromHallBack_43 : decode cX7_fromHallBack 43 = .ok (.getfield 15, 3) := by decide +kernel
theorem dX7_fromHallBack_46 : decode cX7_fromHallBack 46 = .ok (.iload 5, 2) := by decide +kernel
theorem dX7_fromHallBack_48 : decode cX7_fromHallBack 48 = .ok (.iaload, 1) := by decide +kernel
theorem dX7_fromHallBack_49 : decode cX7_fromHallBack 49 = .ok (.iload 4, 2) := by decide +kernel
theorem dX7_fromHallBack_51 : decode cX7_fromHallBack 51 = .ok (.invokestatic 56, 3) := by decide +kernel
theorem dX7_fromHallBack_54 : decode cX7_fromHallBack 54 = .ok (.invokevirtual 73, 3) := by decide +kernel
theorem dX7_fromHallBack_57 : decode cX7_fromHallBack 57 = .ok (.iinc 5 1, 3) := by decide +kernel
theorem dX7_fromHallBack_60 : decode cX7_fromHallBack 60 = .ok (.goto (-36), 3) := by decide +kernel
theorem dX7_fromHallBack_63 : decode cX7_fromHallBack 63 = .ok (.iconst 1, 1) := by decide +kernel
theorem dX7_fromHallBack_64 : decode cX7_fromHallBack 64 = .ok (.istore 5, 2) := by decide +kernel
theorem dX7_fromHallBack_66 : decode cX7_fromHallBack 66 = .ok (.iconst 0, 1) := by decide +kernel
theorem dX7_fromHallBack_67 : decode cX7_fromHallBack 67 = .ok (.istore 6, 2) := by decide +kernel
theorem dX7_fromHallBack_69 : decode cX7_fromHallBack 69 = .ok (.iload 6, 2) := by decide +kernel
theorem dX7_fromHallBack_71 : decode cX7_fromHallBack 71 = .ok (.sipush 6144, 3) := by decide +kernel
theorem dX7_fromHallBack_74 : decode cX7_fromHallBack 74 = .ok (.if_icmp .ge 61, 3) := by decide +kernel
theorem dX7_fromHallBack_77 : decode cX7_fromHallBack 77 = .ok (.iload 5, 2) := by decide +kernel
theorem dX7_fromHallBack_79 : decode cX7_fromHallBack 79 = .ok (.ifCond .le 56, 3) := by decide +kernel
theorem dX7_fromHallBack_82 : decode cX7_fromHallBack 82 = .ok (.iconst 0, 1) := by decide +kernel
theorem dX7_fromHallBack_83 : decode cX7_fromHallBack 83 = .ok (.istore 5, 2) := by decide +kernel
theorem dX7_fromHallBack_85 : decode cX7_fromHallBack 85 = .ok (.iconst 0, 1) := by decide +kernel
theorem dX7_fromHallBack_86 : decode cX7_fromHallBack 86 = .ok (.istore 7, 2) := by decide +kernel
theorem dX7_fromHallBack_88 : decode cX7_fromHallBack 88 = .ok (.iload 7, 2) := by decide +kernel
theorem dX7_fromHallBack_90 : decode cX7_fromHallBack 90 = .ok (.aload_n 0, 1) := by decide +kernel
theorem dX7_fromHallBack_91 : decode cX7_fromHallBack 91 = .ok (.getfield 18, 3) := by decide +kernel
theorem dX7_fromHallBack_94 : decode cX7_fromHallBack 94 = .ok (.if_icmp .ge 35, 3) := by decide +kernel
theorem dX7_fromHallBack_97 : decode cX7_fromHallBack 97 = .ok (.iload 7, 2) := by decide +kernel
theorem dX7_fromHallBack_99 : decode cX7_fromHallBack 99 = .ok (.sipush 6144, 3) := by decide +kernel
theorem dX7_fromHallBack_102 : decode cX7_fromHallBack 102 = .ok (.if_icmp .ge 27, 3) := by decide +kernel
theorem dX7_fromHallBack_105 : decode cX7_fromHallBack 105 = .ok (.iload 5, 2) := by decide +kernel
theorem dX7_fromHallBack_107 : decode cX7_fromHallBack 107 = .ok (.aload_n 0, 1) := by decide +kernel
theorem dX7_fromHallBack_108 : decode cX7_fromHallBack 108 = .ok (.aload_n 1, 1) := by decide +kernel
theorem dX7_fromHallBack_109 : decode cX7_fromHallBack 109 = .ok (.aload_n 0, 1) := by decide +kernel
theorem dX7_fromHallBack_110 : decode cX7_fromHallBack 110 = .ok (.getfield 15, 3) := by decide +kernel
theorem dX7_fromHallBack_113 : decode cX7_fromHallBack 113 = .ok (.iload 7, 2) := by decide +kernel
theorem dX7_fromHallBack_115 : decode cX7_fromHallBack 115 = .ok (.iaload, 1) := by decide +kernel
theorem dX7_fromHallBack_116 : decode cX7_fromHallBack 116 = .ok (.iload_n 3, 1) := by decide +kernel
theorem dX7_fromHallBack_117 : decode cX7_fromHallBack 117 = .ok (.invokevirtual 77, 3) := by decide +kernel
theorem dX7_fromHallBack_120 : decode cX7_fromHallBack 120 = .ok (.iadd, 1) := by decide +kernel
theorem dX7_fromHallBack_121 : decode cX7_fromHallBack 121 = .ok (.istore 5, 2) := by decide +kernel
theorem dX7_fromHallBack_123 : decode cX7_fromHallBack 123 = .ok (.iinc 7 1, 3) := by decide +kernel
theorem dX7_fromHallBack_126 : decode cX7_fromHallBack 126 = .ok (.goto (-38), 3) := by decide +kernel
theorem dX7_fromHallBack_129 : decode cX7_fromHallBack 129 = .ok (.iinc 6 1, 3) := by decide +kernel
theorem dX7_fromHallBack_132 : decode cX7_fromHallBack 132 = .ok (.goto (-63), 3) := by decide +kernel
theorem dX7_fromHallBack_135 : decode cX7_fromHallBack 135 = .ok (.aload_n 0, 1) := by decide +kernel
theorem dX7_fromHallBack_136 : decode cX7_fromHallBack 136 = .ok (.iload_n 2, 1) := by decide +kernel
theorem dX7_fromHallBack_137 : decode cX7_fromHallBack 137 = .ok (.invokevirtual 32, 3) := by decide +kernel
theorem dX7_fromHallBack_140 : decode cX7_fromHallBack 140 = .ok (.sipush 6144, 3) := by decide +kernel
theorem dX7_fromHallBack_143 : decode cX7_fromHallBack 143 = .ok (.if_icmp .ne 8, 3) := by decide +kernel
theorem dX7_fromHallBack_146 : decode cX7_fromHallBack 146 = .ok (.bipush (-4), 2) := by decide +kernel
theorem dX7_fromHallBack_148 : decode cX7_fromHallBack 148 = .ok (.goto 8, 3) := by decide +kernel
theorem dX7_fromHallBack_151 : decode cX7_fromHallBack 151 = .ok (.aload_n 0, 1) := by decide +kernel
theorem dX7_fromHallBack_152 : decode cX7_fromHallBack 152 = .ok (.iload_n 2, 1) := by decide +kernel
theorem dX7_fromHallBack_153 : decode cX7_fromHallBack 153 = .ok (.invokevirtual 32, 3) := by decide +kernel
theorem dX7_fromHallBack_156 : decode cX7_fromHallBack 156 = .ok (.ireturn, 1) := by decide +kernel
theorem dX7_begin_0 : decode cX7_begin 0 = .ok (.iload_n 1, 1) := by decide +kernel
theorem dX7_begin_1 : decode cX7_begin 1 = .ok (.invokestatic 65, 3) := by decide +kernel
theorem dX7_begin_4 : decode cX7_begin 4 = .ok (.ifCond .eq 10, 3) := by decide +kernel
theorem dX7_begin_7 : decode cX7_begin 7 = .ok (.aload_n 0, 1) := by decide +kernel
theorem dX7_begin_8 : decode cX7_begin 8 = .ok (.getfield 9, 3) := by decide +kernel
theorem dX7_begin_11 : decode cX7_begin 11 = .ok (.iload_n 1, 1) := by decide +kernel
theorem dX7_begin_12 : decode cX7_begin 12 = .ok (.iconst 0, 1) := by decide +kernel
theorem dX7_begin_13 : decode cX7_begin 13 = .ok (.iastore, 1) := by decide +kernel
theorem dX7_begin_14 : decode cX7_begin 14 = .ok (.return_, 1) := by decide +kernel
theorem dX7_lineUpSets_0 : decode cX7_lineUpSets 0 = .ok (.aload_n 0, 1) := by decide +kernel
theorem dX7_lineUpSets_1 : decode cX7_lineUpSets 1 = .ok (.iconst 0, 1) := by decide +kernel
theorem dX7_lineUpSets_2 : decode cX7_lineUpSets 2 = .ok (.putfield 18, 3) := by decide +kernel
theorem dX7_lineUpSets_5 : decode cX7_lineUpSets 5 = .ok (.iconst 0, 1) := by decide +kernel
theorem dX7_lineUpSets_6 : decode cX7_lineUpSets 6 = .ok (.istore_n 3, 1) := by decide +kernel
theorem dX7_lineUpSets_7 : decode cX7_lineUpSets 7 = .ok (.iload_n 3, 1) := by decide +kernel
theorem dX7_lineUpSets_8 : decode cX7_lineUpSets 8 = .ok (.sipush 1023, 3) := by decide +kernel
theorem dX7_lineUpSets_11 : decode cX7_lineUpSets 11 = .ok (.if_icmp .gt 69, 3) := by decide +kernel
theorem dX7_lineUpSets_14 : decode cX7_lineUpSets 14 = .ok (.aload_n 0, 1) := by decide +kernel
theorem dX7_lineUpSets_15 : decode cX7_lineUpSets 15 = .ok (.getfield 18, 3) := by decide +kernel
theorem dX7_lineUpSets_18 : decode cX7_lineUpSets 18 = .ok (.sipush 6144, 3) := by decide +kernel
theorem dX7_lineUpSets_21 : decode cX7_lineUpSets 21 = .ok (.if_icmp .ge 59, 3) := by decide +kernel
theorem dX7_lineUpSets_24 : decode cX7_lineUpSets 24 = .ok (.iload_n 3, 1) := by decide +kernel
theorem dX7_lineUpSets_25 : decode cX7_lineUpSets 25 = .ok (.iload_n 2, 1) := by decide +kernel
theorem dX7_lineUpSets_26 : decode cX7_lineUpSets 26 = .ok (.iconst (-1), 1) := by decide +kernel
theorem dX7_lineUpSets_27 : decode cX7_lineUpSets 27 = .ok (.ixor, 1) := by decide +kernel
theorem dX7_lineUpSets_28 : decode cX7_lineUpSets 28 = .ok (.iand, 1) := by decide +kernel
theorem dX7_lineUpSets_29 : decode cX7_lineUpSets 29 = .ok (.ifCond .ne 7, 3) := by decide +kernel
theorem dX7_lineUpSets_32 : decode cX7_lineUpSets 32 = .ok (.iconst 1, 1) := by decide +kernel
theorem dX7_lineUpSets_33 : decode cX7_lineUpSets 33 = .ok (.goto 4, 3) := by decide +kernel
theorem dX7_lineUpSets_36 : decode cX7_lineUpSets 36 = .ok (.iconst 0, 1) := by decide +kernel
theorem dX7_lineUpSets_37 : decode cX7_lineUpSets 37 = .ok (.istore 4, 2) := by decide +kernel
theorem dX7_lineUpSets_39 : decode cX7_lineUpSets 39 = .ok (.iload 4, 2) := by decide +kernel
theorem dX7_lineUpSets_41 : decode cX7_lineUpSets 41 = .ok (.ifCond .eq 33, 3) := by decide +kernel
theorem dX7_lineUpSets_44 : decode cX7_lineUpSets 44 = .ok (.aload_n 1, 1) := by decide +kernel
theorem dX7_lineUpSets_45 : decode cX7_lineUpSets 45 = .ok (.iload_n 3, 1) := by decide +kernel
theorem dX7_lineUpSets_46 : decode cX7_lineUpSets 46 = .ok (.invokevirtual 40, 3) := by decide +kernel
theorem dX7_lineUpSets_49 : decode cX7_lineUpSets 49 = .ok (.iload_n 3, 1) := by decide +kernel
theorem dX7_lineUpSets_50 : decode cX7_lineUpSets 50 = .ok (.iand, 1) := by decide +kernel
theorem dX7_lineUpSets_51 : decode cX7_lineUpSets 51 = .ok (.ifCond .ne 23, 3) := by decide +kernel
theorem dX7_lineUpSets_54 : decode cX7_lineUpSets 54 = .ok (.aload_n 0, 1) := by decide +kernel
theorem dX7_lineUpSets_55 : decode cX7_lineUpSets 55 = .ok (.getfield 15, 3) := by decide +kernel
theorem dX7_lineUpSets_58 : decode cX7_lineUpSets 58 = .ok (.aload_n 0, 1) := by decide +kernel
theorem dX7_lineUpSets_59 : decode cX7_lineUpSets 59 = .ok (.getfield 18, 3) := by decide +kernel
theorem dX7_lineUpSets_62 : decode cX7_lineUpSets 62 = .ok (.iload_n 3, 1) := by decide +kernel
theorem dX7_lineUpSets_63 : decode cX7_lineUpSets 63 = .ok (.iastore, 1) := by decide +kernel
theorem dX7_lineUpSets_64 : decode cX7_lineUpSets 64 = .ok (.aload_n 0, 1) := by decide +kernel
theorem dX7_lineUpSets_65 : decode cX7_lineUpSets 65 = .ok (.dup, 1) := by decide +kernel
theorem dX7_lineUpSets_66 : decode cX7_lineUpSets 66 = .ok (.getfield 18, 3) := by decide +kernel
theorem dX7_lineUpSets_69 : decode cX7_lineUpSets 69 = .ok (.iconst 1, 1) := by decide +kernel
theorem dX7_lineUpSets_70 : decode cX7_lineUpSets 70 = .ok (.iadd, 1) := by decide +kernel
theorem dX7_lineUpSets_71 : decode cX7_lineUpSets 71 = .ok (.putfield 18, 3) := by decide +kernel
theorem dX7_lineUpSets_74 : decode cX7_lineUpSets 74 = .ok (.iinc 3 1, 3) := by decide +kernel
theorem dX7_lineUpSets_77 : decode cX7_lineUpSets 77 = .ok (.goto (-70), 3) := by decide +kernel
theorem dX7_lineUpSets_80 : decode cX7_lineUpSets 80 = .ok (.return_, 1) := by decide +kernel
theorem dX7_lessenAll_0 : decode cX7_lessenAll 0 = .ok (.iload_n 3, 1) := by decide +kernel
theorem dX7_lessenAll_1 : decode cX7_lessenAll 1 = .ok (.iload_n 2, 1) := by decide +kernel
theorem dX7_lessenAll_2 : decode cX7_lessenAll 2 = .ok (.iconst (-1), 1) := by decide +kernel
theorem dX7_lessenAll_3 : decode cX7_lessenAll 3 = .ok (.ixor, 1) := by decide +kernel
theorem dX7_lessenAll_4 : decode cX7_lessenAll 4 = .ok (.iand, 1) := by decide +kernel
theorem dX7_lessenAll_5 : decode cX7_lessenAll 5 = .ok (.aload_n 1, 1) := by decide +kernel
theorem dX7_lessenAll_6 : decode cX7_lessenAll 6 = .ok (.iload_n 2, 1) := by decide +kernel
theorem dX7_lessenAll_7 : decode cX7_lessenAll 7 = .ok (.invokevirtual 40, 3) := by decide +kernel
theorem dX7_lessenAll_10 : decode cX7_lessenAll 10 = .ok (.iconst (-1), 1) := by decide +kernel
theorem dX7_lessenAll_11 : decode cX7_lessenAll 11 = .ok (.ixor, 1) := by decide +kernel
theorem dX7_lessenAll_12 : decode cX7_lessenAll 12 = .ok (.iand, 1) := by decide +kernel
theorem dX7_lessenAll_13 : decode cX7_lessenAll 13 = .ok (.istore 4, 2) := by decide +kernel
theorem dX7_lessenAll_15 : decode cX7_lessenAll 15 = .ok (.iconst 0, 1) := by decide +kernel
theorem dX7_lessenAll_16 : decode cX7_lessenAll 16 = .ok (.istore 5, 2) := by decide +kernel
theorem dX7_lessenAll_18 : decode cX7_lessenAll 18 = .ok (.iconst 0, 1) := by decide +kernel
theorem dX7_lessenAll_19 : decode cX7_lessenAll 19 = .ok (.istore 6, 2) := by decide +kernel
theorem dX7_lessenAll_21 : decode cX7_lessenAll 21 = .ok (.iload 6, 2) := by decide +kernel
theorem dX7_lessenAll_23 : decode cX7_lessenAll 23 = .ok (.bipush 10, 2) := by decide +kernel
theorem dX7_lessenAll_25 : decode cX7_lessenAll 25 = .ok (.if_icmp .ge 150, 3) := by decide +kernel
theorem dX7_lessenAll_28 : decode cX7_lessenAll 28 = .ok (.aload_n 1, 1) := by decide +kernel
theorem dX7_lessenAll_29 : decode cX7_lessenAll 29 = .ok (.iload 6, 2) := by decide +kernel
theorem dX7_lessenAll_31 : decode cX7_lessenAll 31 = .ok (.invokevirtual 81, 3) := by decide +kernel
theorem dX7_lessenAll_34 : decode cX7_lessenAll 34 = .ok (.istore 7, 2) := by decide +kernel
theorem dX7_lessenAll_36 : decode cX7_lessenAll 36 = .ok (.aload_n 1, 1) := by decide +kernel
theorem dX7_lessenAll_37 : decode cX7_lessenAll 37 = .ok (.iload 6, 2) := by decide +kernel
theorem dX7_lessenAll_39 : decode cX7_lessenAll 39 = .ok (.invokevirtual 84, 3) := by decide +kernel
theorem dX7_lessenAll_42 : decode cX7_lessenAll 42 = .ok (.istore 8, 2) := by decide +kernel
theorem dX7_lessenAll_44 : decode cX7_lessenAll 44 = .ok (.iload_n 2, 1) := by decide +kernel
theorem dX7_lessenAll_45 : decode cX7_lessenAll 45 = .ok (.iload 6, 2) := by decide +kernel
theorem dX7_lessenAll_47 : decode cX7_lessenAll 47 = .ok (.invokestatic 49, 3) := by decide +kernel
theorem dX7_lessenAll_50 : decode cX7_lessenAll 50 = .ok (.ifCond .eq 56, 3) := by decide +kernel
theorem dX7_lessenAll_53 : decode cX7_lessenAll 53 = .ok (.iload 5, 2) := by decide +kernel
theorem dX7_lessenAll_55 : decode cX7_lessenAll 55 = .ok (.aload_n 0, 1) := by decide +kernel
theorem dX7_lessenAll_56 : decode cX7_lessenAll 56 = .ok (.iload_n 2, 1) := by decide +kernel
theorem dX7_lessenAll_57 : decode cX7_lessenAll 57 = .ok (.iload 7, 2) := by decide +kernel
theorem dX7_lessenAll_59 : decode cX7_lessenAll 59 = .ok (.invokestatic 56, 3) := by decide +kernel
theorem dX7_lessenAll_62 : decode cX7_lessenAll 62 = .ok (.iload_n 2, 1) := by decide +kernel
theorem dX7_lessenAll_63 : decode cX7_lessenAll 63 = .ok (.iload 8, 2) := by decide +kernel
theorem dX7_lessenAll_65 : decode cX7_lessenAll 65 = .ok (.invokestatic 56, 3) := by decide +kernel
theorem dX7_lessenAll_68 : decode cX7_lessenAll 68 = .ok (.invokevirtual 87, 3) := by decide +kernel
theorem dX7_lessenAll_71 : decode cX7_lessenAll 71 = .ok (.iadd, 1) := by decide +kernel
theorem dX7_lessenAll_72 : decode cX7_lessenAll 72 = .ok (.istore 5, 2) := by decide +kernel
theorem dX7_lessenAll_74 : decode cX7_lessenAll 74 = .ok (.iload 5, 2) := by decide +kernel
theorem dX7_lessenAll_76 : decode cX7_lessenAll 76 = .ok (.aload_n 0, 1) := by decide +kernel
theorem dX7_lessenAll_77 : decode cX7_lessenAll 77 = .ok (.iload_n 2, 1) := by decide +kernel
theorem dX7_lessenAll_78 : decode cX7_lessenAll 78 = .ok (.iload 8, 2) := by decide +kernel
theorem dX7_lessenAll_80 : decode cX7_lessenAll 80 = .ok (.invokestatic 56, 3) := by decide +kernel
theorem dX7_lessenAll_83 : decode cX7_lessenAll 83 = .ok (.iload_n 2, 1) := by decide +kernel
theorem dX7_lessenAll_84 : decode cX7_lessenAll 84 = .ok (.iload 7, 2) := by decide +kernel
theorem dX7_lessenAll_86 : decode cX7_lessenAll 86 = .ok (.invokestatic 56, 3) := by decide +kernel
theorem dX7_lessenAll_89 : decode cX7_lessenAll 89 = .ok (.invokevirtual 87, 3) := by decide +kernel
theorem dX7_lessenAll_92 : decode cX7_lessenAll 92 = .ok (.iadd, 1) := by decide +kernel
theorem dX7_lessenAll_93 : decode cX7_lessenAll 93 = .ok (.istore 5, 2) := by decide +kernel
theorem dX7_lessenAll_95 : decode cX7_lessenAll 95 = .ok (.iload_n 2, 1) := by decide +kernel
theorem dX7_lessenAll_96 : decode cX7_lessenAll 96 = .ok (.iload 6, 2) := by decide +kernel
theorem dX7_lessenAll_98 : decode cX7_lessenAll 98 = .ok (.invokestatic 59, 3) := by decide +kernel
theorem dX7_lessenAll_101 : decode cX7_lessenAll 101 = .ok (.istore 9, 2) := by decide +kernel
theorem dX7_lessenAll_103 : decode cX7_lessenAll 103 = .ok (.goto 22, 3) := by decide +kernel
theorem dX7_lessenAll_106 : decode cX7_lessenAll 106 = .ok (.iload 4, 2) := by decide +kernel
theorem dX7_lessenAll_108 : decode cX7_lessenAll 108 = .ok (.iload 6, 2) := by decide +kernel
theorem dX7_lessenAll_110 : decode cX7_lessenAll 110 = .ok (.invokestatic 49, 3) := by decide +kernel
theorem dX7_lessenAll_113 : decode cX7_lessenAll 113 = .ok (.ifCond .eq 56, 3) := by decide +kernel
theorem dX7_lessenAll_116 : decode cX7_lessenAll 116 = .ok (.aload_n 1, 1) := by decide +kernel
theorem dX7_lessenAll_117 : decode cX7_lessenAll 117 = .ok (.iload_n 2, 1) := by decide +kernel
theorem dX7_lessenAll_118 : decode cX7_lessenAll 118 = .ok (.iload 6, 2) := by decide +kernel
theorem dX7_lessenAll_120 : decode cX7_lessenAll 120 = .ok (.invokevirtual 62, 3) := by decide +kernel
theorem dX7_lessenAll_123 : decode cX7_lessenAll 123 = .ok (.istore 9, 2) := by decide +kernel
theorem dX7_lessenAll_125 : decode cX7_lessenAll 125 = .ok (.iload 5, 2) := by decide +kernel
theorem dX7_lessenAll_127 : decode cX7_lessenAll 127 = .ok (.aload_n 0, 1) := by decide +kernel
theorem dX7_lessenAll_128 : decode cX7_lessenAll 128 = .ok (.iload_n 2, 1) := by decide +kernel
theorem dX7_lessenAll_129 : decode cX7_lessenAll 129 = .ok (.iload 7, 2) := by decide +kernel
theorem dX7_lessenAll_131 : decode cX7_lessenAll 131 = .ok (.invokestatic 56, 3) := by decide +kernel
theorem dX7_lessenAll_134 : decode cX7_lessenAll 134 = .ok (.iload 9, 2) := by decide +kernel
theorem dX7_lessenAll_136 : decode cX7_lessenAll 136 = .ok (.iload 7, 2) := by decide +kernel
theorem dX7_lessenAll_138 : decode cX7_lessenAll 138 = .ok (.invokestatic 56, 3) := by decide +kernel
theorem dX7_lessenAll_141 : decode cX7_lessenAll 141 = .ok (.invokevirtual 87, 3) := by decide +kernel
theorem dX7_lessenAll_144 : decode cX7_lessenAll 144 = .ok (.iadd, 1) := by decide +kernel
theorem dX7_lessenAll_145 : decode cX7_lessenAll 145 = .ok (.istore 5, 2) := by decide +kernel
theorem dX7_lessenAll_147 : decode cX7_lessenAll 147 = .ok (.iload 5, 2) := by decide +kernel
theorem dX7_lessenAll_149 : decode cX7_lessenAll 149 = .ok (.aload_n 0, 1) := by decide +kernel
theorem dX7_lessenAll_150 : decode cX7_lessenAll 150 = .ok (.iload_n 2, 1) := by decide +kernel
theorem dX7_lessenAll_151 : decode cX7_lessenAll 151 = .ok (.iload 8, 2) := by decide +kernel
theorem dX7_lessenAll_153 : decode cX7_lessenAll 153 = .ok (.invokestatic 56, 3) := by decide +kernel
theorem dX7_lessenAll_156 : decode cX7_lessenAll 156 = .ok (.iload 9, 2) := by decide +kernel
theorem dX7_lessenAll_158 : decode cX7_lessenAll 158 = .ok (.iload 8, 2) := by decide +kernel
theorem dX7_lessenAll_160 : decode cX7_lessenAll 160 = .ok (.invokestatic 56, 3) := by decide +kernel
theorem dX7_lessenAll_163 : decode cX7_lessenAll 163 = .ok (.invokevirtual 87, 3) := by decide +kernel
theorem dX7_lessenAll_166 : decode cX7_lessenAll 166 = .ok (.iadd, 1) := by decide +kernel
theorem dX7_lessenAll_167 : decode cX7_lessenAll 167 = .ok (.istore 5, 2) := by decide +kernel
theorem dX7_lessenAll_169 : decode cX7_lessenAll 169 = .ok (.iinc 6 1, 3) := by decide +kernel
theorem dX7_lessenAll_172 : decode cX7_lessenAll 172 = .ok (.goto (-151), 3) := by decide +kernel
theorem dX7_lessenAll_175 : decode cX7_lessenAll 175 = .ok (.iload 5, 2) := by decide +kernel
theorem dX7_lessenAll_177 : decode cX7_lessenAll 177 = .ok (.ireturn, 1) := by decide +kernel
theorem dX7_lessen_0 : decode cX7_lessen 0 = .ok (.iload_n 1, 1) := by decide +kernel
theorem dX7_lessen_1 : decode cX7_lessen 1 = .ok (.invokestatic 65, 3) := by decide +kernel
theorem dX7_lessen_4 : decode cX7_lessen 4 = .ok (.ifCond .eq 27, 3) := by decide +kernel
theorem dX7_lessen_7 : decode cX7_lessen 7 = .ok (.iload_n 2, 1) := by decide +kernel
theorem dX7_lessen_8 : decode cX7_lessen 8 = .ok (.invokestatic 65, 3) := by decide +kernel
theorem dX7_lessen_11 : decode cX7_lessen 11 = .ok (.ifCond .eq 20, 3) := by decide +kernel
theorem dX7_lessen_14 : decode cX7_lessen 14 = .ok (.aload_n 0, 1) := by decide +kernel
theorem dX7_lessen_15 : decode cX7_lessen 15 = .ok (.getfield 9, 3) := by decide +kernel
theorem dX7_lessen_18 : decode cX7_lessen 18 = .ok (.iload_n 2, 1) := by decide +kernel
theorem dX7_lessen_19 : decode cX7_lessen 19 = .ok (.iaload, 1) := by decide +kernel
theorem dX7_lessen_20 : decode cX7_lessen 20 = .ok (.iconst 1, 1) := by decide +kernel
theorem dX7_lessen_21 : decode cX7_lessen 21 = .ok (.iadd, 1) := by decide +kernel
theorem dX7_lessen_22 : decode cX7_lessen 22 = .ok (.aload_n 0, 1) := by decide +kernel
theorem dX7_lessen_23 : decode cX7_lessen 23 = .ok (.getfield 9, 3) := by decide +kernel
theorem dX7_lessen_26 : decode cX7_lessen 26 = .ok (.iload_n 1, 1) := by decide +kernel
theorem dX7_lessen_27 : decode cX7_lessen 27 = .ok (.iaload, 1) := by decide +kernel
theorem dX7_lessen_28 : decode cX7_lessen 28 = .ok (.if_icmp .lt 5, 3) := by decide +kernel
theorem dX7_lessen_31 : decode cX7_lessen 31 = .ok (.iconst 0, 1) := by decide +kernel
theorem dX7_lessen_32 : decode cX7_lessen 32 = .ok (.ireturn, 1) := by decide +kernel
theorem dX7_lessen_33 : decode cX7_lessen 33 = .ok (.aload_n 0, 1) := by decide +kernel
theorem dX7_lessen_34 : decode cX7_lessen 34 = .ok (.getfield 9, 3) := by decide +kernel
theorem dX7_lessen_37 : decode cX7_lessen 37 = .ok (.iload_n 1, 1) := by decide +kernel
theorem dX7_lessen_38 : decode cX7_lessen 38 = .ok (.aload_n 0, 1) := by decide +kernel
theorem dX7_lessen_39 : decode cX7_lessen 39 = .ok (.getfield 9, 3) := by decide +kernel
theorem dX7_lessen_42 : decode cX7_lessen 42 = .ok (.iload_n 2, 1) := by decide +kernel
theorem dX7_lessen_43 : decode cX7_lessen 43 = .ok (.iaload, 1) := by decide +kernel
theorem dX7_lessen_44 : decode cX7_lessen 44 = .ok (.iconst 1, 1) := by decide +kernel
theorem dX7_lessen_45 : decode cX7_lessen 45 = .ok (.iadd, 1) := by decide +kernel
theorem dX7_lessen_46 : decode cX7_lessen 46 = .ok (.iastore, 1) := by decide +kernel
theorem dX7_lessen_47 : decode cX7_lessen 47 = .ok (.iconst 1, 1) := by decide +kernel
theorem dX7_lessen_48 : decode cX7_lessen 48 = .ok (.ireturn, 1) := by decide +kernel
theorem dX8_init_0 : decode cX8_init 0 = .ok (.aload_n 0, 1) := by decide +kernel
theorem dX8_init_1 : decode cX8_init 1 = .ok (.invokespecial 3, 3) := by decide +kernel
theorem dX8_init_4 : decode cX8_init 4 = .ok (.aload_n 0, 1) := by decide +kernel
theorem dX8_init_5 : decode cX8_init 5 = .ok (.new 9, 3) := by decide +kernel
theorem dX8_init_8 : decode cX8_init 8 = .ok (.dup, 1) := by decide +kernel
theorem dX8_init_9 : decode cX8_init 9 = .ok (.invokespecial 11, 3) := by decide +kernel
theorem dX8_init_12 : decode cX8_init 12 = .ok (.putfield 12, 3) := by decide +kernel
theorem dX8_init_15 : decode cX8_init 15 = .ok (.aload_n 0, 1) := by decide +kernel
theorem dX8_init_16 : decode cX8_init 16 = .ok (.new 16, 3) := by decide +kernel
theorem dX8_init_19 : decode cX8_init 19 = .ok (.dup, 1) := by decide +kernel
theorem dX8_init_20 : decode cX8_init 20 = .ok (.invokespecial 18, 3) := by decide +kernel
theorem dX8_init_23 : decode cX8_init 23 = .ok (.putfield 19, 3) := by decide +kernel
theorem dX8_init_26 : decode cX8_init 26 = .ok (.aload_n 0, 1) := by decide +kernel
theorem dX8_init_27 : decode cX8_init 27 = .ok (.new 9, 3) := by decide +kernel
theorem dX8_init_30 : decode cX8_init 30 = .ok (.dup, 1) := by decide +kernel
theorem dX8_init_31 : decode cX8_init 31 = .ok (.invokespecial 11, 3) := by decide +kernel
theorem dX8_init_34 : decode cX8_init 34 = .ok (.putfield 23, 3) := by decide +kernel
theorem dX8_init_37 : decode cX8_init 37 = .ok (.aload_n 0, 1) := by decide +kernel
theorem dX8_init_38 : decode cX8_init 38 = .ok (.iconst 0, 1) := by decide +kernel
theorem dX8_init_39 : decode cX8_init 39 = .ok (.putfield 26, 3) := by decide +kernel
theorem dX8_init_42 : decode cX8_init 42 = .ok (.aload_n 0, 1) := by decide +kernel
theorem dX8_init_43 : decode cX8_init 43 = .ok (.new 30, 3) := by decide +kernel
theorem dX8_init_46 : decode cX8_init 46 = .ok (.dup, 1) := by decide +kernel
theorem dX8_init_47 : decode cX8_init 47 = .ok (.invokespecial 32, 3) := by decide +kernel
theorem dX8_init_50 : decode cX8_init 50 = .ok (.putfield 33, 3) := by decide +kernel
theorem dX8_init_53 : decode cX8_init 53 = .ok (.aload_n 0, 1) := by decide +kernel
theorem dX8_init_54 : decode cX8_init 54 = .ok (.new 37, 3) := by decide +kernel
theorem dX8_init_57 : decode cX8_init 57 = .ok (.dup, 1) := by decide +kernel
theorem dX8_init_58 : decode cX8_init 58 = .ok (.invokespecial 39, 3) := by decide +kernel
theorem dX8_init_61 : decode cX8_init 61 = .ok (.putfield 40, 3) := by decide +kernel
theorem dX8_init_64 : decode cX8_init 64 = .ok (.aload_n 0, 1) := by decide +kernel
theorem dX8_init_65 : decode cX8_init 65 = .ok (.new 44, 3) := by decide +kernel
theorem dX8_init_68 : decode cX8_init 68 = .ok (.dup, 1) := by decide +kernel
theorem dX8_init_69 : decode cX8_init 69 = .ok (.invokespecial 46, 3) := by decide +kernel
theorem dX8_init_72 : decode cX8_init 72 = .ok (.putfield 47, 3) := by decide +kernel
theorem dX8_init_75 : decode cX8_init 75 = .ok (.return_, 1) := by decide +kernel
theorem dX8_open_0 : decode cX8_open 0 = .ok (.iload_n 1, 1) := by decide +kernel
theorem dX8_open_1 : decode cX8_open 1 = .ok (.invokestatic 51, 3) := by decide +kernel
theorem dX8_open_4 : decode cX8_open 4 = .ok (.ifCond .ne 5, 3) := by decide +kernel
theorem dX8_open_7 : decode cX8_open 7 = .ok (.iconst (-1), 1) := by decide +kernel
theorem dX8_open_8 : decode cX8_open 8 = .ok (.ireturn, 1) := by decide +kernel
theorem dX8_open_9 : decode cX8_open 9 = .ok (.aload_n 0, 1) := by decide +kernel
theorem dX8_open_10 : decode cX8_open 10 = .ok (.getfield 19, 3) := by decide +kernel
theorem dX8_open_13 : decode cX8_open 13 = .ok (.aload_n 0, 1) := by decide +kernel
theorem dX8_open_14 : decode cX8_open 14 = .ok (.getfield 12, 3) := by decide +kernel
theorem dX8_open_17 : decode cX8_open 17 = .ok (.invokevirtual 55, 3) := by decide +kernel
theorem dX8_open_20 : decode cX8_open 20 = .ok (.aload_n 0, 1) := by decide +kernel
theorem dX8_open_21 : decode cX8_open 21 = .ok (.getfield 12, 3) := by decide +kernel
theorem dX8_open_24 : decode cX8_open 24 = .ok (.iload_n 1, 1) := by decide +kernel
theorem dX8_open_25 : decode cX8_open 25 = .ok (.invokevirtual 59, 3) := by decide +kernel
theorem dX8_open_28 : decode cX8_open 28 = .ok (.ireturn, 1) := by decide +kernel
theorem dX8_shut_0 : decode cX8_shut 0 = .ok (.iload_n 1, 1) := by decide +kernel
theorem dX8_shut_1 : decode cX8_shut 1 = .ok (.invokestatic 51, 3) := by decide +kernel
theorem dX8_shut_4 : decode cX8_shut 4 = .ok (.ifCond .ne 5, 3) := by decide +kernel
theorem dX8_shut_7 : decode cX8_shut 7 = .ok (.iconst (-1), 1) := by decide +kernel
theorem dX8_shut_8 : decode cX8_shut 8 = .ok (.ireturn, 1) := by decide +kernel
theorem dX8_shut_9 : decode cX8_shut 9 = .ok (.aload_n 0, 1) := by decide +kernel
theorem dX8_shut_10 : decode cX8_shut 10 = .ok (.getfield 19, 3) := by decide +kernel
theorem dX8_shut_13 : decode cX8_shut 13 = .ok (.aload_n 0, 1) := by decide +kernel
theorem dX8_shut_14 : decode cX8_shut 14 = .ok (.getfield 12, 3) := by decide +kernel
theorem dX8_shut_17 : decode cX8_shut 17 = .ok (.invokevirtual 55, 3) := by decide +kernel
theorem dX8_shut_20 : decode cX8_shut 20 = .ok (.aload_n 0, 1) := by decide +kernel
theorem dX8_shut_21 : decode cX8_shut 21 = .ok (.getfield 12, 3) := by decide +kernel
theorem dX8_shut_24 : decode cX8_shut 24 = .ok (.iload_n 1, 1) := by decide +kernel
theorem dX8_shut_25 : decode cX8_shut 25 = .ok (.invokevirtual 63, 3) := by decide +kernel
theorem dX8_shut_28 : decode cX8_shut 28 = .ok (.ireturn, 1) := by decide +kernel
theorem dX8_cord_0 : decode cX8_cord 0 = .ok (.iload_n 1, 1) := by decide +kernel
theorem dX8_cord_1 : decode cX8_cord 1 = .ok (.invokestatic 51, 3) := by decide +kernel
theorem dX8_cord_4 : decode cX8_cord 4 = .ok (.ifCond .eq 21, 3) := by decide +kernel
theorem dX8_cord_7 : decode cX8_cord 7 = .ok (.iload_n 3, 1) := by decide +kernel
theorem dX8_cord_8 : decode cX8_cord 8 = .ok (.invokestatic 51, 3) := by decide +kernel
theorem dX8_cord_11 : decode cX8_cord 11 = .ok (.ifCond .ne 9, 3) := by decide +kernel
theorem dX8_cord_14 : decode cX8_cord 14 = .ok (.iload_n 3, 1) := by decide +kernel
theorem dX8_cord_15 : decode cX8_cord 15 = .ok (.bipush 10, 2) := by decide +kernel
theorem dX8_cord_17 : decode cX8_cord 17 = .ok (.if_icmp .ne 8, 3) := by decide +kernel
theorem dX8_cord_20 : decode cX8_cord 20 = .ok (.iload_n 3, 1) := by decide +kernel
theorem dX8_cord_21 : decode cX8_cord 21 = .ok (.iload_n 1, 1) := by decide +kernel
theorem dX8_cord_22 : decode cX8_cord 22 = .ok (.if_icmp .ne 5, 3) := by decide +kernel
theorem dX8_cord_25 : decode cX8_cord 25 = .ok (.iconst (-1), 1) := by decide +kernel
theorem dX8_cord_26 : decode cX8_cord 26 = .ok (.ireturn, 1) := by decide +kernel
theorem dX8_cord_27 : decode cX8_cord 27 = .ok (.iload_n 3, 1) := by decide +kernel
theorem dX8_cord_28 : decode cX8_cord 28 = .ok (.bipush 10, 2) := by decide +kernel
theorem dX8_cord_30 : decode cX8_cord 30 = .ok (.if_icmp .eq 29, 3) := by decide +kernel
theorem dX8_cord_33 : decode cX8_cord 33 = .ok (.iload_n 3, 1) := by decide +kernel
theorem dX8_cord_34 : decode cX8_cord 34 = .ok (.aload_n 0, 1) := by decide +kernel
theorem dX8_cord_35 : decode cX8_cord 35 = .ok (.getfield 12, 3) := by decide +kernel
theorem dX8_cord_38 : decode cX8_cord 38 = .ok (.getfield 66, 3) := by decide +kernel
theorem dX8_cord_41 : decode cX8_cord 41 = .ok (.iload_n 1, 1) := by decide +kernel
theorem dX8_cord_42 : decode cX8_cord 42 = .ok (.iload_n 2, 1) := by decide +kernel
theorem dX8_cord_43 : decode cX8_cord 43 = .ok (.ifCond .ne 7, 3) := by decide +kernel
theorem dX8_cord_46 : decode cX8_cord 46 = .ok (.iconst 1, 1) := by decide +kernel
theorem dX8_cord_47 : decode cX8_cord 47 = .ok (.goto 4, 3) := by decide +kernel
theorem dX8_cord_50 : decode cX8_cord 50 = .ok (.iconst 0, 1) := by decide +kernel
theorem dX8_cord_51 : decode cX8_cord 51 = .ok (.invokevirtual 70, 3) := by decide +kernel
theorem dX8_cord_54 : decode cX8_cord 54 = .ok (.if_icmp .ne 5, 3) := by decide +kernel
theorem dX8_cord_57 : decode cX8_cord 57 = .ok (.iconst (-1), 1) := by decide +kernel
theorem dX8_cord_58 : decode cX8_cord 58 = .ok (.ireturn, 1) := by decide +kernel
theorem dX8_cord_59 : decode cX8_cord 59 = .ok (.aload_n 0, 1) := by decide +kernel
theorem dX8_cord_60 : decode cX8_cord 60 = .ok (.getfield 19, 3) := by decide +kernel
theorem dX8_cord_63 : decode cX8_cord 63 = .ok (.aload_n 0, 1) := by decide +kernel
theorem dX8_cord_64 : decode cX8_cord 64 = .ok (.getfield 12, 3) := by decide +kernel
theorem dX8_cord_67 : decode cX8_cord 67 = .ok (.invokevirtual 55, 3) := by decide +kernel
theorem dX8_cord_70 : decode cX8_cord 70 = .ok (.aload_n 0, 1) := by decide +kernel
theorem dX8_cord_71 : decode cX8_cord 71 = .ok (.getfield 12, 3) := by decide +kernel
theorem dX8_cord_74 : decode cX8_cord 74 = .ok (.iload_n 1, 1) := by decide +kernel
theorem dX8_cord_75 : decode cX8_cord 75 = .ok (.iload_n 2, 1) := by decide +kernel
theorem dX8_cord_76 : decode cX8_cord 76 = .ok (.iload_n 3, 1) := by decide +kernel
theorem dX8_cord_77 : decode cX8_cord 77 = .ok (.invokevirtual 76, 3) := by decide +kernel
theorem dX8_cord_80 : decode cX8_cord 80 = .ok (.ireturn, 1) := by decide +kernel
theorem dX8_join_0 : decode cX8_join 0 = .ok (.iload_n 1, 1) := by decide +kernel
theorem dX8_join_1 : decode cX8_join 1 = .ok (.invokestatic 51, 3) := by decide +kernel
theorem dX8_join_4 : decode cX8_join 4 = .ok (.ifCond .eq 22, 3) := by decide +kernel
theorem dX8_join_7 : decode cX8_join 7 = .ok (.iload_n 2, 1) := by decide +kernel
theorem dX8_join_8 : decode cX8_join 8 = .ok (.invokestatic 80, 3) := by decide +kernel
theorem dX8_join_11 : decode cX8_join 11 = .ok (.ifCond .eq 15, 3) := by decide +kernel
theorem dX8_join_14 : decode cX8_join 14 = .ok (.iload_n 3, 1) := by decide +kernel
theorem dX8_join_15 : decode cX8_join 15 = .ok (.invokestatic 80, 3) := by decide +kernel
theorem dX8_join_18 : decode cX8_join 18 = .ok (.ifCond .eq 8, 3) := by decide +kernel
theorem dX8_join_21 : decode cX8_join 21 = .ok (.iload_n 2, 1) := by decide +kernel
theorem dX8_join_22 : decode cX8_join 22 = .ok (.iload_n 3, 1) := by decide +kernel
theorem dX8_join_23 : decode cX8_join 23 = .ok (.if_icmp .ne 5, 3) := by decide +kernel
theorem dX8_join_26 : decode cX8_join 26 = .ok (.iconst (-1), 1) := by decide +kernel
theorem dX8_join_27 : decode cX8_join 27 = .ok (.ireturn, 1) := by decide +kernel
theorem dX8_join_28 : decode cX8_join 28 = .ok (.aload_n 0, 1) := by decide +kernel
theorem dX8_join_29 : decode cX8_join 29 = .ok (.getfield 12, 3) := by decide +kernel
theorem dX8_join_32 : decode cX8_join 32 = .ok (.iload_n 1, 1) := by decide +kernel
theorem dX8_join_33 : decode cX8_join 33 = .ok (.invokevirtual 83, 3) := by decide +kernel
theorem dX8_join_36 : decode cX8_join 36 = .ok (.ifCond .eq 6, 3) := by decide +kernel
theorem dX8_join_39 : decode cX8_join 39 = .ok (.bipush (-2), 2) := by decide +kernel
theorem dX8_join_41 : decode cX8_join 41 = .ok (.ireturn, 1) := by decide +kernel
theorem dX8_join_42 : decode cX8_join 42 = .ok (.aload_n 0, 1) := by decide +kernel
theorem dX8_join_43 : decode cX8_join 43 = .ok (.getfield 19, 3) := by decide +kernel
theorem dX8_join_46 : decode cX8_join 46 = .ok (.aload_n 0, 1) := by decide +kernel
theorem dX8_join_47 : decode cX8_join 47 = .ok (.getfield 12, 3) := by decide +kernel
theorem dX8_join_50 : decode cX8_join 50 = .ok (.invokevirtual 55, 3) := by decide +kernel
theorem dX8_join_53 : decode cX8_join 53 = .ok (.bipush 10, 2) := by decide +kernel
theorem dX8_join_55 : decode cX8_join 55 = .ok (.aload_n 0, 1) := by decide +kernel
theorem dX8_join_56 : decode cX8_join 56 = .ok (.getfield 12, 3) := by decide +kernel
theorem dX8_join_59 : decode cX8_join 59 = .ok (.getfield 66, 3) := by decide +kernel
theorem dX8_join_62 : decode cX8_join 62 = .ok (.iload_n 1, 1) := by decide +kernel
theorem dX8_join_63 : decode cX8_join 63 = .ok (.invokevirtual 86, 3) := by decide +kernel
theorem dX8_join_66 : decode cX8_join 66 = .ok (.imul, 1) := by decide +kernel
theorem dX8_join_67 : decode cX8_join 67 = .ok (.aload_n 0, 1) := by decide +kernel
theorem dX8_join_68 : decode cX8_join 68 = .ok (.getfield 12, 3) := by decide +kernel
theorem dX8_join_71 : decode cX8_join 71 = .ok (.getfield 66, 3) := by decide +kernel
theorem dX8_join_74 : decode cX8_join 74 = .ok (.iload_n 1, 1) := by decide +kernel
theorem dX8_join_75 : decode cX8_join 75 = .ok (.invokevirtual 89, 3) := by decide +kernel
theorem dX8_join_78 : decode cX8_join 78 = .ok (.iadd, 1) := by decide +kernel
theorem dX8_join_79 : decode cX8_join 79 = .ok (.istore 4, 2) := by decide +kernel
theorem dX8_join_81 : decode cX8_join 81 = .ok (.aload_n 0, 1) := by decide +kernel
theorem dX8_join_82 : decode cX8_join 82 = .ok (.getfield 12, 3) := by decide +kernel
theorem dX8_join_85 : decode cX8_join 85 = .ok (.getfield 66, 3) := by decide +kernel
theorem dX8_join_88 : decode cX8_join 88 = .ok (.iload_n 1, 1) := by decide +kernel
theorem dX8_join_89 : decode cX8_join 89 = .ok (.iload_n 2, 1) := by decide +kernel
theorem dX8_join_90 : decode cX8_join 90 = .ok (.iload_n 3, 1) := by decide +kernel
theorem dX8_join_91 : decode cX8_join 91 = .ok (.invokevirtual 92, 3) := by decide +kernel
theorem dX8_join_94 : decode cX8_join 94 = .ok (.iload 4, 2) := by decide +kernel
theorem dX8_join_96 : decode cX8_join 96 = .ok (.ireturn, 1) := by decide +kernel
theorem dX8_keys_0 : decode cX8_keys 0 = .ok (.iload_n 1, 1) := by decide +kernel
theorem dX8_keys_1 : decode cX8_keys 1 = .ok (.invokestatic 96, 3) := by decide +kernel
theorem dX8_keys_4 : decode cX8_keys 4 = .ok (.ifCond .eq 10, 3) := by decide +kernel
theorem dX8_keys_7 : decode cX8_keys 7 = .ok (.iload_n 2, 1) := by decide +kernel
theorem dX8_keys_8 : decode cX8_keys 8 = .ok (.invokestatic 99, 3) := by decide +kernel
theorem dX8_keys_11 : decode cX8_keys 11 = .ok (.ifCond .ne 5, 3) := by decide +kernel
theorem dX8_keys_14 : decode cX8_keys 14 = .ok (.iconst (-1), 1) := by decide +kernel
theorem dX8_keys_15 : decode cX8_keys 15 = .ok (.ireturn, 1) := by decide +kernel
theorem dX8_keys_16 : decode cX8_keys 16 = .ok (.aload_n 0, 1) := by decide +kernel
theorem dX8_keys_17 : decode cX8_keys 17 = .ok (.getfield 19, 3) := by decide +kernel
theorem dX8_keys_20 : decode cX8_keys 20 = .ok (.aload_n 0, 1) := by decide +kernel
theorem dX8_keys_21 : decode cX8_keys 21 = .ok (.getfield 12, 3) := by decide +kernel
theorem dX8_keys_24 : decode cX8_keys 24 = .ok (.invokevirtual 55, 3) := by decide +kernel
theorem dX8_keys_27 : decode cX8_keys 27 = .ok (.aload_n 0, 1) := by decide +kernel
theorem dX8_keys_28 : decode cX8_keys 28 = .ok (.getfield 12, 3) := by decide +kernel
theorem dX8_keys_31 : decode cX8_keys 31 = .ok (.getfield 102, 3) := by decide +kernel
theorem dX8_keys_34 : decode cX8_keys 34 = .ok (.getfield 106, 3) := by decide +kernel
theorem dX8_keys_37 : decode cX8_keys 37 = .ok (.iload_n 1, 1) := by decide +kernel
theorem dX8_keys_38 : decode cX8_keys 38 = .ok (.iaload, 1) := by decide +kernel
theorem dX8_keys_39 : decode cX8_keys 39 = .ok (.istore_n 3, 1) := by decide +kernel
theorem dX8_keys_40 : decode cX8_keys 40 = .ok (.aload_n 0, 1) := by decide +kernel
theorem dX8_keys_41 : decode cX8_keys 41 = .ok (.getfield 12, 3) := by decide +kernel
theorem dX8_keys_44 : decode cX8_keys 44 = .ok (.getfield 102, 3) := by decide +kernel
theorem dX8_keys_47 : decode cX8_keys 47 = .ok (.getfield 106, 3) := by decide +kernel
theorem dX8_keys_50 : decode cX8_keys 50 = .ok (.iload_n 1, 1) := by decide +kernel
theorem dX8_keys_51 : decode cX8_keys 51 = .ok (.iload_n 2, 1) := by decide +kernel
theorem dX8_keys_52 : decode cX8_keys 52 = .ok (.iastore, 1) := by decide +kernel
theorem dX8_keys_53 : decode cX8_keys 53 = .ok (.iload_n 3, 1) := by decide +kernel
theorem dX8_keys_54 : decode cX8_keys 54 = .ok (.ireturn, 1) := by decide +kernel
theorem dX8_draft_0 : decode cX8_draft 0 = .ok (.iload_n 1, 1) := by decide +kernel
theorem dX8_draft_1 : decode cX8_draft 1 = .ok (.iconst 1, 1) := by decide +kernel
theorem dX8_draft_2 : decode cX8_draft 2 = .ok (.if_icmp .lt 9, 3) := by decide +kernel
theorem dX8_draft_5 : decode cX8_draft 5 = .ok (.iload_n 1, 1) := by decide +kernel
theorem dX8_draft_6 : decode cX8_draft 6 = .ok (.bipush 10, 2) := by decide +kernel
theorem dX8_draft_8 : decode cX8_draft 8 = .ok (.if_icmp .le 5, 3) := by decide +kernel
theorem dX8_draft_11 : decode cX8_draft 11 = .ok (.iconst (-1), 1) := by decide +kernel
theorem dX8_draft_12 : decode cX8_draft 12 = .ok (.ireturn, 1) := by decide +kernel
theorem dX8_draft_13 : decode cX8_draft 13 = .ok (.aload_n 0, 1) := by decide +kernel
theorem dX8_draft_14 : decode cX8_draft 14 = .ok (.getfield 19, 3) := by decide +kernel
theorem dX8_draft_17 : decode cX8_draft 17 = .ok (.aload_n 0, 1) := by decide +kernel
theorem dX8_draft_18 : decode cX8_draft 18 = .ok (.getfield 12, 3) := by decide +kernel
theorem dX8_draft_21 : decode cX8_draft 21 = .ok (.invokevirtual 55, 3) := by decide +kernel
theorem dX8_draft_24 : decode cX8_draft 24 = .ok (.aload_n 0, 1) := by decide +kernel
theorem dX8_draft_25 : decode cX8_draft 25 = .ok (.getfield 12, 3) := by decide +kernel
theorem dX8_draft_28 : decode cX8_draft 28 = .ok (.getfield 66, 3) := by decide +kernel
theorem dX8_draft_31 : decode cX8_draft 31 = .ok (.getfield 112, 3) := by decide +kernel
theorem dX8_draft_34 : decode cX8_draft 34 = .ok (.istore_n 2, 1) := by decide +kernel
theorem dX8_draft_35 : decode cX8_draft 35 = .ok (.aload_n 0, 1) := by decide +kernel
theorem dX8_draft_36 : decode cX8_draft 36 = .ok (.getfield 12, 3) := by decide +kernel
theorem dX8_draft_39 : decode cX8_draft 39 = .ok (.getfield 66, 3) := by decide +kernel
theorem dX8_draft_42 : decode cX8_draft 42 = .ok (.iload_n 1, 1) := by decide +kernel
theorem dX8_draft_43 : decode cX8_draft 43 = .ok (.putfield 112, 3) := by decide +kernel
theorem dX8_draft_46 : decode cX8_draft 46 = .ok (.iload_n 2, 1) := by decide +kernel
theorem dX8_draft_47 : decode cX8_draft 47 = .ok (.ireturn, 1) := by decide +kernel
theorem dX8_guestOpens_0 : decode cX8_guestOpens 0 = .ok (.iload_n 1, 1) := by decide +kernel
theorem dX8_guestOpens_1 : decode cX8_guestOpens 1 = .ok (.invokestatic 96, 3) := by decide +kernel
theorem dX8_guestOpens_4 : decode cX8_guestOpens 4 = .ok (.ifCond .eq 10, 3) := by decide +kernel
theorem dX8_guestOpens_7 : decode cX8_guestOpens 7 = .ok (.iload_n 2, 1) := by decide +kernel
theorem dX8_guestOpens_8 : decode cX8_guestOpens 8 = .ok (.invokestatic 51, 3) := by decide +kernel
theorem dX8_guestOpens_11 : decode cX8_guestOpens 11 = .ok (.ifCond .ne 5, 3) := by decide +kernel
theorem dX8_guestOpens_14 : decode cX8_guestOpens 14 = .ok (.iconst (-1), 1) := by decide +kernel
theorem dX8_guestOpens_15 : decode cX8_guestOpens 15 = .ok (.ireturn, 1) := by decide +kernel
theorem dX8_guestOpens_16 : decode cX8_guestOpens 16 = .ok (.aload_n 0, 1) := by decide +kernel
theorem dX8_guestOpens_17 : decode cX8_guestOpens 17 = .ok (.getfield 19, 3) := by decide +kernel
theorem dX8_guestOpens_20 : decode cX8_guestOpens 20 = .ok (.aload_n 0, 1) := by decide +kernel
theorem dX8_guestOpens_21 : decode cX8_guestOpens 21 = .ok (.getfield 12, 3) := by decide +kernel
theorem dX8_guestOpens_24 : decode cX8_guestOpens 24 = .ok (.invokevirtual 55, 3) := by decide +kernel
theorem dX8_guestOpens_27 : decode cX8_guestOpens 27 = .ok (.aload_n 0, 1) := by decide +kernel
theorem dX8_guestOpens_28 : decode cX8_guestOpens 28 = .ok (.getfield 12, 3) := by decide +kernel
theorem dX8_guestOpens_31 : decode cX8_guestOpens 31 = .ok (.iload_n 1, 1) := by decide +kernel
theorem dX8_guestOpens_32 : decode cX8_guestOpens 32 = .ok (.iload_n 2, 1) := by decide +kernel
theorem dX8_guestOpens_33 : decode cX8_guestOpens 33 = .ok (.invokevirtual 116, 3) := by decide +kernel
theorem dX8_guestOpens_36 : decode cX8_guestOpens 36 = .ok (.ireturn, 1) := by decide +kernel
theorem dX8_guestShuts_0 : decode cX8_guestShuts 0 = .ok (.iload_n 1, 1) := by decide +kernel
theorem dX8_guestShuts_1 : decode cX8_guestShuts 1 = .ok (.invokestatic 96, 3) := by decide +kernel
theorem dX8_guestShuts_4 : decode cX8_guestShuts 4 = .ok (.ifCond .eq 10, 3) := by decide +kernel
theorem dX8_guestShuts_7 : decode cX8_guestShuts 7 = .ok (.iload_n 2, 1) := by decide +kernel
theorem dX8_guestShuts_8 : decode cX8_guestShuts 8 = .ok (.invokestatic 51, 3) := by decide +kernel
theorem dX8_guestShuts_11 : decode cX8_guestShuts 11 = .ok (.ifCond .ne 5, 3) := by decide +kernel
theorem dX8_guestShuts_14 : decode cX8_guestShuts 14 = .ok (.iconst (-1), 1) := by decide +kernel
theorem dX8_guestShuts_15 : decode cX8_guestShuts 15 = .ok (.ireturn, 1) := by decide +kernel
theorem dX8_guestShuts_16 : decode cX8_guestShuts 16 = .ok (.aload_n 0, 1) := by decide +kernel
theorem dX8_guestShuts_17 : decode cX8_guestShuts 17 = .ok (.getfield 19, 3) := by decide +kernel
theorem dX8_guestShuts_20 : decode cX8_guestShuts 20 = .ok (.aload_n 0, 1) := by decide +kernel
theorem dX8_guestShuts_21 : decode cX8_guestShuts 21 = .ok (.getfield 12, 3) := by decide +kernel
theorem dX8_guestShuts_24 : decode cX8_guestShuts 24 = .ok (.invokevirtual 55, 3) := by decide +kernel
theorem dX8_guestShuts_27 : decode cX8_guestShuts 27 = .ok (.aload_n 0, 1) := by decide +kernel
theorem dX8_guestShuts_28 : decode cX8_guestShuts 28 = .ok (.getfield 12, 3) := by decide +kernel
theorem dX8_guestShuts_31 : decode cX8_guestShuts 31 = .ok (.iload_n 1, 1) := by decide +kernel
theorem dX8_guestShuts_32 : decode cX8_guestShuts 32 = .ok (.iload_n 2, 1) := by decide +kernel
theorem dX8_guestShuts_33 : decode cX8_guestShuts 33 = .ok (.invokevirtual 120, 3) := by decide +kernel
theorem dX8_guestShuts_36 : decode cX8_guestShuts 36 = .ok (.ireturn, 1) := by decide +kernel
theorem dX8_walk_0 : decode cX8_walk 0 = .ok (.iload_n 1, 1) := by decide +kernel
theorem dX8_walk_1 : decode cX8_walk 1 = .ok (.invokestatic 96, 3) := by decide +kernel
theorem dX8_walk_4 : decode cX8_walk 4 = .ok (.ifCond .eq 10, 3) := by decide +kernel
theorem dX8_walk_7 : decode cX8_walk 7 = .ok (.iload_n 2, 1) := by decide +kernel
theorem dX8_walk_8 : decode cX8_walk 8 = .ok (.invokestatic 51, 3) := by decide +kernel
theorem dX8_walk_11 : decode cX8_walk 11 = .ok (.ifCond .ne 5, 3) := by decide +kernel
theorem dX8_walk_14 : decode cX8_walk 14 = .ok (.iconst (-1), 1) := by decide +kernel
theorem dX8_walk_15 : decode cX8_walk 15 = .ok (.ireturn, 1) := by decide +kernel
theorem dX8_walk_16 : decode cX8_walk 16 = .ok (.aload_n 0, 1) := by decide +kernel
theorem dX8_walk_17 : decode cX8_walk 17 = .ok (.getfield 19, 3) := by decide +kernel
theorem dX8_walk_20 : decode cX8_walk 20 = .ok (.aload_n 0, 1) := by decide +kernel
theorem dX8_walk_21 : decode cX8_walk 21 = .ok (.getfield 12, 3) := by decide +kernel
theorem dX8_walk_24 : decode cX8_walk 24 = .ok (.invokevirtual 55, 3) := by decide +kernel
theorem dX8_walk_27 : decode cX8_walk 27 = .ok (.aload_n 0, 1) := by decide +kernel
theorem dX8_walk_28 : decode cX8_walk 28 = .ok (.getfield 12, 3) := by decide +kernel
theorem dX8_walk_31 : decode cX8_walk 31 = .ok (.iload_n 1, 1) := by decide +kernel
theorem dX8_walk_32 : decode cX8_walk 32 = .ok (.iload_n 2, 1) := by decide +kernel
theorem dX8_walk_33 : decode cX8_walk 33 = .ok (.invokevirtual 123, 3) := by decide +kernel
theorem dX8_walk_36 : decode cX8_walk 36 = .ok (.ireturn, 1) := by decide +kernel
theorem dX8_append_0 : decode cX8_append 0 = .ok (.iload_n 1, 1) := by decide +kernel
theorem dX8_append_1 : decode cX8_append 1 = .ok (.bipush 33, 2) := by decide +kernel
theorem dX8_append_3 : decode cX8_append 3 = .ok (.if_icmp .lt 9, 3) := by decide +kernel
theorem dX8_append_6 : decode cX8_append 6 = .ok (.iload_n 1, 1) := by decide +kernel
theorem dX8_append_7 : decode cX8_append 7 = .ok (.bipush 126, 2) := by decide +kernel
theorem dX8_append_9 : decode cX8_append 9 = .ok (.if_icmp .le 5, 3) := by decide +kernel
theorem dX8_append_12 : decode cX8_append 12 = .ok (.iconst (-1), 1) := by decide +kernel
theorem dX8_append_13 : decode cX8_append 13 = .ok (.ireturn, 1) := by decide +kernel
theorem dX8_append_14 : decode cX8_append 14 = .ok (.aload_n 0, 1) := by decide +kernel
theorem dX8_append_15 : decode cX8_append 15 = .ok (.getfield 33, 3) := by decide +kernel
theorem dX8_append_18 : decode cX8_append 18 = .ok (.getfield 126, 3) := by decide +kernel
theorem dX8_append_21 : decode cX8_append 21 = .ok (.bipush 60, 2) := by decide +kernel
theorem dX8_append_23 : decode cX8_append 23 = .ok (.if_icmp .lt 6, 3) := by decide +kernel
theorem dX8_append_26 : decode cX8_append 26 = .ok (.bipush (-3), 2) := by decide +kernel
theorem dX8_append_28 : decode cX8_append 28 = .ok (.ireturn, 1) := by decide +kernel
theorem dX8_append_29 : decode cX8_append 29 = .ok (.aload_n 0, 1) := by decide +kernel
theorem dX8_append_30 : decode cX8_append 30 = .ok (.getfield 33, 3) := by decide +kernel
theorem dX8_append_33 : decode cX8_append 33 = .ok (.iload_n 1, 1) := by decide +kernel
theorem dX8_append_34 : decode cX8_append 34 = .ok (.invokevirtual 129, 3) := by decide +kernel
theorem dX8_append_37 : decode cX8_append 37 = .ok (.ireturn, 1) := by decide +kernel
theorem dX8_clear_0 : decode cX8_clear 0 = .ok (.aload_n 0, 1) := by decide +kernel
theorem dX8_clear_1 : decode cX8_clear 1 = .ok (.getfield 33, 3) := by decide +kernel
theorem dX8_clear_4 : decode cX8_clear 4 = .ok (.invokevirtual 132, 3) := by decide +kernel
theorem dX8_clear_7 : decode cX8_clear 7 = .ok (.ireturn, 1) := by decide +kernel
theorem dX8_fault_0 : decode cX8_fault 0 = .ok (.aload_n 0, 1) := by decide +kernel
theorem dX8_fault_1 : decode cX8_fault 1 = .ok (.getfield 33, 3) := by decide +kernel
theorem dX8_fault_4 : decode cX8_fault 4 = .ok (.invokevirtual 136, 3) := by decide +kernel
theorem dX8_fault_7 : decode cX8_fault 7 = .ok (.ireturn, 1) := by decide +kernel
theorem dX8_run_0 : decode cX8_run 0 = .ok (.aload_n 0, 1) := by decide +kernel
theorem dX8_run_1 : decode cX8_run 1 = .ok (.getfield 33, 3) := by decide +kernel
theorem dX8_run_4 : decode cX8_run 4 = .ok (.invokevirtual 136, 3) := by decide +kernel
theorem dX8_run_7 : decode cX8_run 7 = .ok (.bipush (-4), 2) := by decide +kernel
theorem dX8_run_9 : decode cX8_run 9 = .ok (.if_icmp .eq 6, 3) := by decide +kernel
theorem dX8_run_12 : decode cX8_run 12 = .ok (.bipush (-2), 2) := by decide +kernel
theorem dX8_run_14 : decode cX8_run 14 = .ok (.ireturn, 1) := by decide +kernel
theorem dX8_run_15 : decode cX8_run 15 = .ok (.aload_n 0, 1) := by decide +kernel
theorem dX8_run_16 : decode cX8_run 16 = .ok (.getfield 19, 3) := by decide +kernel
theorem dX8_run_19 : decode cX8_run 19 = .ok (.aload_n 0, 1) := by decide +kernel
theorem dX8_run_20 : decode cX8_run 20 = .ok (.getfield 12, 3) := by decide +kernel
theorem dX8_run_23 : decode cX8_run 23 = .ok (.invokevirtual 55, 3) := by decide +kernel
theorem dX8_run_26 : decode cX8_run 26 = .ok (.aload_n 0, 1) := by decide +kernel
theorem dX8_run_27 : decode cX8_run 27 = .ok (.getfield 40, 3) := by decide +kernel
theorem dX8_run_30 : decode cX8_run 30 = .ok (.invokevirtual 139, 3) := by decide +kernel
theorem dX8_run_33 : decode cX8_run 33 = .ok (.iconst 0, 1) := by decide +kernel
theorem dX8_run_34 : decode cX8_run 34 = .ok (.istore_n 1, 1) := by decide +kernel
theorem dX8_run_35 : decode cX8_run 35 = .ok (.iconst 0, 1) := by decide +kernel
theorem dX8_run_36 : decode cX8_run 36 = .ok (.istore_n 2, 1) := by decide +kernel
theorem dX8_run_37 : decode cX8_run 37 = .ok (.iconst 0, 1) := by decide +kernel
theorem dX8_run_38 : decode cX8_run 38 = .ok (.istore_n 3, 1) := by decide +kernel
theorem dX8_run_39 : decode cX8_run 39 = .ok (.iload_n 3, 1) := by decide +kernel
theorem dX8_run_40 : decode cX8_run 40 = .ok (.bipush 60, 2) := by decide +kernel
theorem dX8_run_42 : decode cX8_run 42 = .ok (.if_icmp .ge 70, 3) := by decide +kernel
theorem dX8_run_45 : decode cX8_run 45 = .ok (.iload_n 1, 1) := by decide +kernel
theorem dX8_run_46 : decode cX8_run 46 = .ok (.aload_n 0, 1) := by decide +kernel
theorem dX8_run_47 : decode cX8_run 47 = .ok (.getfield 33, 3) := by decide +kernel
theorem dX8_run_50 : decode cX8_run 50 = .ok (.getfield 126, 3) := by decide +kernel
theorem dX8_run_53 : decode cX8_run 53 = .ok (.if_icmp .ge 59, 3) := by decide +kernel
theorem dX8_run_56 : decode cX8_run 56 = .ok (.aload_n 0, 1) := by decide +kernel
theorem dX8_run_57 : decode cX8_run 57 = .ok (.getfield 40, 3) := by decide +kernel
theorem dX8_run_60 : decode cX8_run 60 = .ok (.invokevirtual 142, 3) := by decide +kernel
theorem dX8_run_63 : decode cX8_run 63 = .ok (.ifCond .ne 49, 3) := by decide +kernel
theorem dX8_run_66 : decode cX8_run 66 = .ok (.aload_n 0, 1) := by decide +kernel
theorem dX8_run_67 : decode cX8_run 67 = .ok (.iload_n 1, 1) := by decide +kernel
theorem dX8_run_68 : decode cX8_run 68 = .ok (.invokevirtual 146, 3) := by decide +kernel
theorem dX8_run_71 : decode cX8_run 71 = .ok (.istore 4, 2) := by decide +kernel
theorem dX8_run_73 : decode cX8_run 73 = .ok (.iload 4, 2) := by decide +kernel
theorem dX8_run_75 : decode cX8_run 75 = .ok (.bipush 10, 2) := by decide +kernel
theorem dX8_run_77 : decode cX8_run 77 = .ok (.if_icmp .ge 17, 3) := by decide +kernel
theorem dX8_run_80 : decode cX8_run 80 = .ok (.aload_n 0, 1) := by decide +kernel
theorem dX8_run_81 : decode cX8_run 81 = .ok (.getfield 40, 3) := by decide +kernel
theorem dX8_run_84 : decode cX8_run 84 = .ok (.iload 4, 2) := by decide +kernel
theorem dX8_run_86 : decode cX8_run 86 = .ok (.iload_n 3, 1) := by decide +kernel
theorem dX8_run_87 : decode cX8_run 87 = .ok (.iload_n 1, 1) := by decide +kernel
theorem dX8_run_88 : decode cX8_run 88 = .ok (.invokevirtual 149, 3) := by decide +kernel
theorem dX8_run_91 : decode cX8_run 91 = .ok (.goto 15, 3) := by decide +kernel
theorem dX8_run_94 : decode cX8_run 94 = .ok (.iinc 2 1, 3) := by decide +kernel
theorem dX8_run_97 : decode cX8_run 97 = .ok (.aload_n 0, 1) := by decide +kernel
theorem dX8_run_98 : decode cX8_run 98 = .ok (.getfield 33, 3) := by decide +kernel
theorem dX8_run_101 : decode cX8_run 101 = .ok (.iload_n 1, 1) := by decide +kernel
theorem dX8_run_102 : decode cX8_run 102 = .ok (.invokevirtual 152, 3) := by decide +kernel
theorem dX8_run_105 : decode cX8_run 105 = .ok (.istore_n 1, 1) := by decide +kernel
theorem dX8_run_106 : decode cX8_run 106 = .ok (.iinc 3 1, 3) := by decide +kernel
theorem dX8_run_109 : decode cX8_run 109 = .ok (.goto (-70), 3) := by decide +kernel
theorem dX8_run_112 : decode cX8_run 112 = .ok (.aload_n 0, 1) := by decide +kernel
theorem dX8_run_113 : decode cX8_run 113 = .ok (.getfield 33, 3) := by decide +kernel
theorem dX8_run_116 : decode cX8_run 116 = .ok (.invokevirtual 132, 3) := by decide +kernel
theorem dX8_run_119 : decode cX8_run 119 = .ok (.pop, 1) := by decide +kernel
theorem dX8_run_120 : decode cX8_run 120 = .ok (.iload_n 2, 1) := by decide +kernel
theorem dX8_run_121 : decode cX8_run 121 = .ok (.ireturn, 1) := by decide +kernel
theorem dX8_why_0 : decode cX8_why 0 = .ok (.iload_n 1, 1) := by decide +kernel
theorem dX8_why_1 : decode cX8_why 1 = .ok (.tableswitch 96 0 2 #[27, 50, 73], 27) := by decide +kernel
theorem dX8_why_28 : decode cX8_why 28 = .ok (.aload_n 0, 1) := by decide +kernel
theorem dX8_why_29 : decode cX8_why 29 = .ok (.getfield 40, 3) := by decide +kernel
theorem dX8_why_32 : decode cX8_why 32 = .ok (.invokevirtual 142, 3) := by decide +kernel
theorem dX8_why_35 : decode cX8_why 35 = .ok (.ifCond .eq 13, 3) := by decide +kernel
theorem dX8_why_38 : decode cX8_why 38 = .ok (.aload_n 0, 1) := by decide +kernel
theorem dX8_why_39 : decode cX8_why 39 = .ok (.getfield 40, 3) := by decide +kernel
theorem dX8_why_42 : decode cX8_why 42 = .ok (.getfield 155, 3) := by decide +kernel
theorem dX8_why_45 : decode cX8_why 45 = .ok (.goto 5, 3) := by decide +kernel
theorem dX8_why_48 : decode cX8_why 48 = .ok (.bipush (-4), 2) := by decide +kernel
theorem dX8_why_50 : decode cX8_why 50 = .ok (.ireturn, 1) := by decide +kernel
theorem dX8_why_51 : decode cX8_why 51 = .ok (.aload_n 0, 1) := by decide +kernel
theorem dX8_why_52 : decode cX8_why 52 = .ok (.getfield 40, 3) := by decide +kernel
theorem dX8_why_55 : decode cX8_why 55 = .ok (.invokevirtual 142, 3) := by decide +kernel
theorem dX8_why_58 : decode cX8_why 58 = .ok (.ifCond .eq 13, 3) := by decide +kernel
theorem dX8_why_61 : decode cX8_why 61 = .ok (.aload_n 0, 1) := by decide +kernel
theorem dX8_why_62 : decode cX8_why 62 = .ok (.getfield 40, 3) := by decide +kernel
theorem dX8_why_65 : decode cX8_why 65 = .ok (.getfield 158, 3) := by decide +kernel
theorem dX8_why_68 : decode cX8_why 68 = .ok (.goto 5, 3) := by decide +kernel
theorem dX8_why_71 : decode cX8_why 71 = .ok (.bipush (-4), 2) := by decide +kernel
theorem dX8_why_73 : decode cX8_why 73 = .ok (.ireturn, 1) := by decide +kernel
theorem dX8_why_74 : decode cX8_why 74 = .ok (.aload_n 0, 1) := by decide +kernel
theorem dX8_why_75 : decode cX8_why 75 = .ok (.getfield 40, 3) := by decide +kernel
theorem dX8_why_78 : decode cX8_why 78 = .ok (.invokevirtual 142, 3) := by decide +kernel
theorem dX8_why_81 : decode cX8_why 81 = .ok (.ifCond .eq 13, 3) := by decide +kernel
theorem dX8_why_84 : decode cX8_why 84 = .ok (.aload_n 0, 1) := by decide +kernel
theorem dX8_why_85 : decode cX8_why 85 = .ok (.getfield 40, 3) := by decide +kernel
theorem dX8_why_88 : decode cX8_why 88 = .ok (.getfield 161, 3) := by decide +kernel
theorem dX8_why_91 : decode cX8_why 91 = .ok (.goto 5, 3) := by decide +kernel
theorem dX8_why_94 : decode cX8_why 94 = .ok (.bipush (-4), 2) := by decide +kernel
theorem dX8_why_96 : decode cX8_why 96 = .ok (.ireturn, 1) := by decide +kernel
theorem dX8_why_97 : decode cX8_why 97 = .ok (.iconst (-1), 1) := by decide +kernel
theorem dX8_why_98 : decode cX8_why 98 = .ok (.ireturn, 1) := by decide +kernel
theorem dX8_door_0 : decode cX8_door 0 = .ok (.iload_n 1, 1) := by decide +kernel
theorem dX8_door_1 : decode cX8_door 1 = .ok (.invokestatic 51, 3) := by decide +kernel
theorem dX8_door_4 : decode cX8_door 4 = .ok (.ifCond .ne 5, 3) := by decide +kernel
theorem dX8_door_7 : decode cX8_door 7 = .ok (.iconst (-1), 1) := by decide +kernel
theorem dX8_door_8 : decode cX8_door 8 = .ok (.ireturn, 1) := by decide +kernel
theorem dX8_door_9 : decode cX8_door 9 = .ok (.aload_n 0, 1) := by decide +kernel
theorem dX8_door_10 : decode cX8_door 10 = .ok (.getfield 12, 3) := by decide +kernel
theorem dX8_door_13 : decode cX8_door 13 = .ok (.getfield 66, 3) := by decide +kernel
theorem dX8_door_16 : decode cX8_door 16 = .ok (.astore_n 3, 1) := by decide +kernel
theorem dX8_door_17 : decode cX8_door 17 = .ok (.iload_n 2, 1) := by decide +kernel
theorem dX8_door_18 : decode cX8_door 18 = .ok (.tableswitch 175 0 9 #[54, 71, 77, 83, 93, 103, 127, 136, 149, 162], 54) := by decide +kernel
theorem dX8_door_72 : decode cX8_door 72 = .ok (.aload_n 0, 1) := by decide +kernel
theorem dX8_door_73 : decode cX8_door 73 = .ok (.getfield 12, 3) := by decide +kernel
theorem dX8_door_76 : decode cX8_door 76 = .ok (.iload_n 1, 1) := by decide +kernel
theorem dX8_door_77 : decode cX8_door 77 = .ok (.invokevirtual 83, 3) := by decide +kernel
theorem dX8_door_80 : decode cX8_door 80 = .ok (.ifCond .eq 7, 3) := by decide +kernel
theorem dX8_door_83 : decode cX8_door 83 = .ok (.iconst 1, 1) := by decide +kernel
theorem dX8_door_84 : decode cX8_door 84 = .ok (.goto 4, 3) := by decide +kernel
theorem dX8_door_87 : decode cX8_door 87 = .ok (.iconst 0, 1) := by decide +kernel
theorem dX8_door_88 : decode cX8_door 88 = .ok (.ireturn, 1) := by decide +kernel
theorem dX8_door_89 : decode cX8_door 89 = .ok (.aload_n 3, 1) := by decide +kernel
theorem dX8_door_90 : decode cX8_door 90 = .ok (.iload_n 1, 1) := by decide +kernel
theorem dX8_door_91 : decode cX8_door 91 = .ok (.invokevirtual 86, 3) := by decide +kernel
theorem dX8_door_94 : decode cX8_door 94 = .ok (.ireturn, 1) := by decide +kernel
theorem dX8_door_95 : decode cX8_door 95 = .ok (.aload_n 3, 1) := by decide +kernel
theorem dX8_door_96 : decode cX8_door 96 = .ok (.iload_n 1, 1) := by decide +kernel
theorem dX8_door_97 : decode cX8_door 97 = .ok (.invokevirtual 89, 3) := by decide +kernel
theorem dX8_door_100 : decode cX8_door 100 = .ok (.ireturn, 1) := by decide +kernel
theorem dX8_door_101 : decode cX8_door 101 = .ok (.aload_n 3, 1) := by decide +kernel
theorem dX8_door_102 : decode cX8_door 102 = .ok (.iload_n 1, 1) := by decide +kernel
theorem dX8_door_103 : decode cX8_door 103 = .ok (.iconst 0, 1) := by decide +kernel
theorem dX8_door_104 : decode cX8_door 104 = .ok (.invokevirtual 70, 3) := by decide +kernel
theorem dX8_door_107 : decode cX8_door 107 = .ok (.invokestatic 164, 3) := by decide +kernel
theorem dX8_door_110 : decode cX8_door 110 = .ok (.ireturn, 1) := by decide +kernel
theorem dX8_door_111 : decode cX8_door 111 = .ok (.aload_n 3, 1) := by decide +kernel
theorem dX8_door_112 : decode cX8_door 112 = .ok (.iload_n 1, 1) := by decide +kernel
theorem dX8_door_113 : decode cX8_door 113 = .ok (.iconst 1, 1) := by decide +kernel
theorem dX8_door_114 : decode cX8_door 114 = .ok (.invokevirtual 70, 3) := by decide +kernel
theorem dX8_door_117 : decode cX8_door 117 = .ok (.invokestatic 164, 3) := by decide +kernel
theorem dX8_door_120 : decode cX8_door 120 = .ok (.ireturn, 1) := by decide +kernel
theorem dX8_door_121 : decode cX8_door 121 = .ok (.aload_n 3, 1) := by decide +kernel
theorem dX8_door_122 : decode cX8_door 122 = .ok (.aload_n 0, 1) := by decide +kernel
theorem dX8_door_123 : decode cX8_door 123 = .ok (.getfield 12, 3) := by decide +kernel
theorem dX8_door_126 : decode cX8_door 126 = .ok (.getfield 167, 3) := by decide +kernel
theorem dX8_door_129 : decode cX8_door 129 = .ok (.invokevirtual 170, 3) := by decide +kernel
theorem dX8_door_132 : decode cX8_door 132 = .ok (.iload_n 1, 1) := by decide +kernel
theorem dX8_door_133 : decode cX8_door 133 = .ok (.invokestatic 173, 3) := by decide +kernel
theorem dX8_door_136 : decode cX8_door 136 = .ok (.ifCond .eq 7, 3) := by decide +kernel
theorem dX8_door_139 : decode cX8_door 139 = .ok (.iconst 1, 1) := by decide +kernel
theorem dX8_door_140 : decode cX8_door 140 = .ok (.goto 4, 3) := by decide +kernel
theorem dX8_door_143 : decode cX8_door 143 = .ok (.iconst 0, 1) := by decide +kernel
theorem dX8_door_144 : decode cX8_door 144 = .ok (.ireturn, 1) := by decide +kernel
theorem dX8_door_145 : decode cX8_door 145 = .ok (.aload_n 3, 1) := by decide +kernel
theorem dX8_door_146 : decode cX8_door 146 = .ok (.iload_n 1, 1) := by decide +kernel
theorem dX8_door_147 : decode cX8_door 147 = .ok (.sipush 1023, 3) := by decide +kernel
theorem dX8_door_150 : decode cX8_door 150 = .ok (.invokevirtual 177, 3) := by decide +kernel
theorem dX8_door_153 : decode cX8_door 153 = .ok (.ireturn, 1) := by decide +kernel
theorem dX8_door_154 : decode cX8_door 154 = .ok (.aload_n 3, 1) := by decide +kernel
theorem dX8_door_155 : decode cX8_door 155 = .ok (.iload_n 1, 1) := by decide +kernel
theorem dX8_door_156 : decode cX8_door 156 = .ok (.aload_n 0, 1) := by decide +kernel
theorem dX8_door_157 : decode cX8_door 157 = .ok (.getfield 12, 3) := by decide +kernel
theorem dX8_door_160 : decode cX8_door 160 = .ok (.getfield 167, 3) := by decide +kernel
theorem dX8_door_163 : decode cX8_door 163 = .ok (.invokevirtual 177, 3) := by decide +kernel
theorem dX8_door_166 : decode cX8_door 166 = .ok (.ireturn, 1) := by decide +kernel
theorem dX8_door_167 : decode cX8_door 167 = .ok (.aload_n 0, 1) := by decide +kernel
theorem dX8_door_168 : decode cX8_door 168 = .ok (.getfield 12, 3) := by decide +kernel
theorem dX8_door_171 : decode cX8_door 171 = .ok (.getfield 180, 3) := by decide +kernel
theorem dX8_door_174 : decode cX8_door 174 = .ok (.getfield 184, 3) := by decide +kernel
theorem dX8_door_177 : decode cX8_door 177 = .ok (.iload_n 1, 1) := by decide +kernel
theorem dX8_door_178 : decode cX8_door 178 = .ok (.iaload, 1) := by decide +kernel
theorem dX8_door_179 : decode cX8_door 179 = .ok (.ireturn, 1) := by decide +kernel
theorem dX8_door_180 : decode cX8_door 180 = .ok (.aload_n 0, 1) := by decide +kernel
theorem dX8_door_181 : decode cX8_door 181 = .ok (.getfield 12, 3) := by decide +kernel
theorem dX8_door_184 : decode cX8_door 184 = .ok (.getfield 180, 3) := by decide +kernel
theorem dX8_door_187 : decode cX8_door 187 = .ok (.getfield 189, 3) := by decide +kernel
theorem dX8_door_190 : decode cX8_door 190 = .ok (.iload_n 1, 1) := by decide +kernel
theorem dX8_door_191 : decode cX8_door 191 = .ok (.iaload, 1) := by decide +kernel
theorem dX8_door_192 : decode cX8_door 192 = .ok (.ireturn, 1) := by decide +kernel
theorem dX8_door_193 : decode cX8_door 193 = .ok (.iconst (-1), 1) := by decide +kernel
theorem dX8_door_194 : decode cX8_door 194 = .ok (.ireturn, 1) := by decide +kernel
theorem dX8_hall_0 : decode cX8_hall 0 = .ok (.iload_n 1, 1) := by decide +kernel
theorem dX8_hall_1 : decode cX8_hall 1 = .ok (.invokestatic 80, 3) := by decide +kernel
theorem dX8_hall_4 : decode cX8_hall 4 = .ok (.ifCond .ne 5, 3) := by decide +kernel
theorem dX8_hall_7 : decode cX8_hall 7 = .ok (.iconst (-1), 1) := by decide +kernel
theorem dX8_hall_8 : decode cX8_hall 8 = .ok (.ireturn, 1) := by decide +kernel
theorem dX8_hall_9 : decode cX8_hall 9 = .ok (.iload_n 2, 1) := by decide +kernel
theorem dX8_hall_10 : decode cX8_hall 10 = .ok (.tableswitch 102 0 3 #[30, 45, 68, 80], 30) := by decide +kernel
theorem dX8_hall_40 : decode cX8_hall 40 = .ok (.aload_n 0, 1) := by decide +kernel
theorem dX8_hall_41 : decode cX8_hall 41 = .ok (.getfield 12, 3) := by decide +kernel
theorem dX8_hall_44 : decode cX8_hall 44 = .ok (.getfield 66, 3) := by decide +kernel
theorem dX8_hall_47 : decode cX8_hall 47 = .ok (.iload_n 1, 1) := by decide +kernel
theorem dX8_hall_48 : decode cX8_hall 48 = .ok (.invokevirtual 192, 3) := by decide +kernel
theorem dX8_hall_51 : decode cX8_hall 51 = .ok (.invokestatic 195, 3) := by decide +kernel
theorem dX8_hall_54 : decode cX8_hall 54 = .ok (.ireturn, 1) := by decide +kernel
theorem dX8_hall_55 : decode cX8_hall 55 = .ok (.aload_n 0, 1) := by decide +kernel
theorem dX8_hall_56 : decode cX8_hall 56 = .ok (.getfield 12, 3) := by decide +kernel
theorem dX8_hall_59 : decode cX8_hall 59 = .ok (.getfield 66, 3) := by decide +kernel
theorem dX8_hall_62 : decode cX8_hall 62 = .ok (.iload_n 1, 1) := by decide +kernel
theorem dX8_hall_63 : decode cX8_hall 63 = .ok (.invokevirtual 192, 3) := by decide +kernel
theorem dX8_hall_66 : decode cX8_hall 66 = .ok (.aload_n 0, 1) := by decide +kernel
theorem dX8_hall_67 : decode cX8_hall 67 = .ok (.getfield 12, 3) := by decide +kernel
theorem dX8_hall_70 : decode cX8_hall 70 = .ok (.getfield 167, 3) := by decide +kernel
theorem dX8_hall_73 : decode cX8_hall 73 = .ok (.iand, 1) := by decide +kernel
theorem dX8_hall_74 : decode cX8_hall 74 = .ok (.invokestatic 195, 3) := by decide +kernel
theorem dX8_hall_77 : decode cX8_hall 77 = .ok (.ireturn, 1) := by decide +kernel
theorem dX8_hall_78 : decode cX8_hall 78 = .ok (.aload_n 0, 1) := by decide +kernel
theorem dX8_hall_79 : decode cX8_hall 79 = .ok (.getfield 12, 3) := by decide +kernel
theorem dX8_hall_82 : decode cX8_hall 82 = .ok (.getfield 102, 3) := by decide +kernel
theorem dX8_hall_85 : decode cX8_hall 85 = .ok (.iload_n 1, 1) := by decide +kernel
theorem dX8_hall_86 : decode cX8_hall 86 = .ok (.invokevirtual 200, 3) := by decide +kernel
theorem dX8_hall_89 : decode cX8_hall 89 = .ok (.ireturn, 1) := by decide +kernel
theorem dX8_hall_90 : decode cX8_hall 90 = .ok (.aload_n 0, 1) := by decide +kernel
theorem dX8_hall_91 : decode cX8_hall 91 = .ok (.getfield 12, 3) := by decide +kernel
theorem dX8_hall_94 : decode cX8_hall 94 = .ok (.getfield 66, 3) := by decide +kernel
theorem dX8_hall_97 : decode cX8_hall 97 = .ok (.iload_n 1, 1) := by decide +kernel
theorem dX8_hall_98 : decode cX8_hall 98 = .ok (.aload_n 0, 1) := by decide +kernel
theorem dX8_hall_99 : decode cX8_hall 99 = .ok (.getfield 12, 3) := by decide +kernel
theorem dX8_hall_102 : decode cX8_hall 102 = .ok (.getfield 167, 3) := by decide +kernel
theorem dX8_hall_105 : decode cX8_hall 105 = .ok (.invokevirtual 203, 3) := by decide +kernel
theorem dX8_hall_108 : decode cX8_hall 108 = .ok (.invokestatic 195, 3) := by decide +kernel
theorem dX8_hall_111 : decode cX8_hall 111 = .ok (.ireturn, 1) := by decide +kernel
theorem dX8_hall_112 : decode cX8_hall 112 = .ok (.iconst (-1), 1) := by decide +kernel
theorem dX8_hall_113 : decode cX8_hall 113 = .ok (.ireturn, 1) := by decide +kernel
theorem dX8_guest_0 : decode cX8_guest 0 = .ok (.iload_n 1, 1) := by decide +kernel
theorem dX8_guest_1 : decode cX8_guest 1 = .ok (.invokestatic 96, 3) := by decide +kernel
theorem dX8_guest_4 : decode cX8_guest 4 = .ok (.ifCond .ne 5, 3) := by decide +kernel
theorem dX8_guest_7 : decode cX8_guest 7 = .ok (.iconst (-1), 1) := by decide +kernel
theorem dX8_guest_8 : decode cX8_guest 8 = .ok (.ireturn, 1) := by decide +kernel
theorem dX8_guest_9 : decode cX8_guest 9 = .ok (.iload_n 2, 1) := by decide +kernel
theorem dX8_guest_10 : decode cX8_guest 10 = .ok (.tableswitch 78 0 3 #[30, 43, 56, 65], 30) := by decide +kernel
theorem dX8_guest_40 : decode cX8_guest 40 = .ok (.aload_n 0, 1) := by decide +kernel
theorem dX8_guest_41 : decode cX8_guest 41 = .ok (.getfield 12, 3) := by decide +kernel
theorem dX8_guest_44 : decode cX8_guest 44 = .ok (.getfield 102, 3) := by decide +kernel
theorem dX8_guest_47 : decode cX8_guest 47 = .ok (.getfield 206, 3) := by decide +kernel
theorem dX8_guest_50 : decode cX8_guest 50 = .ok (.iload_n 1, 1) := by decide +kernel
theorem dX8_guest_51 : decode cX8_guest 51 = .ok (.iaload, 1) := by decide +kernel
theorem dX8_guest_52 : decode cX8_guest 52 = .ok (.ireturn, 1) := by decide +kernel
theorem dX8_guest_53 : decode cX8_guest 53 = .ok (.aload_n 0, 1) := by decide +kernel
theorem dX8_guest_54 : decode cX8_guest 54 = .ok (.getfield 12, 3) := by decide +kernel
theorem dX8_guest_57 : decode cX8_guest 57 = .ok (.getfield 102, 3) := by decide +kernel
theorem dX8_guest_60 : decode cX8_guest 60 = .ok (.getfield 106, 3) := by decide +kernel
theorem dX8_guest_63 : decode cX8_guest 63 = .ok (.iload_n 1, 1) := by decide +kernel
theorem dX8_guest_64 : decode cX8_guest 64 = .ok (.iaload, 1) := by decide +kernel
theorem dX8_guest_65 : decode cX8_guest 65 = .ok (.ireturn, 1) := by decide +kernel
theorem dX8_guest_66 : decode cX8_guest 66 = .ok (.aload_n 0, 1) := by decide +kernel
theorem dX8_guest_67 : decode cX8_guest 67 = .ok (.getfield 12, 3) := by decide +kernel
theorem dX8_guest_70 : decode cX8_guest 70 = .ok (.iload_n 1, 1) := by decide +kernel
theorem dX8_guest_71 : decode cX8_guest 71 = .ok (.invokevirtual 209, 3) := by decide +kernel
theorem dX8_guest_74 : decode cX8_guest 74 = .ok (.ireturn, 1) := by decide +kernel
theorem dX8_guest_75 : decode cX8_guest 75 = .ok (.aload_n 0, 1) := by decide +kernel
theorem dX8_guest_76 : decode cX8_guest 76 = .ok (.getfield 12, 3) := by decide +kernel
theorem dX8_guest_79 : decode cX8_guest 79 = .ok (.getfield 102, 3) := by decide +kernel
theorem dX8_guest_82 : decode cX8_guest 82 = .ok (.getfield 212, 3) := by decide +kernel
theorem dX8_guest_85 : decode cX8_guest 85 = .ok (.iload_n 1, 1) := by decide +kernel
theorem dX8_guest_86 : decode cX8_guest 86 = .ok (.iaload, 1) := by decide +kernel
theorem dX8_guest_87 : decode cX8_guest 87 = .ok (.ireturn, 1) := by decide +kernel
theorem dX8_guest_88 : decode cX8_guest 88 = .ok (.iconst (-1), 1) := by decide +kernel
theorem dX8_guest_89 : decode cX8_guest 89 = .ok (.ireturn, 1) := by decide +kernel
theorem dX8_whyNot_0 : decode cX8_whyNot 0 = .ok (.iload_n 1, 1) := by decide +kernel
theorem dX8_whyNot_1 : decode cX8_whyNot 1 = .ok (.invokestatic 51, 3) := by decide +kernel
theorem dX8_whyNot_4 : decode cX8_whyNot 4 = .ok (.ifCond .eq 14, 3) := by decide +kernel
theorem dX8_whyNot_7 : decode cX8_whyNot 7 = .ok (.aload_n 0, 1) := by decide +kernel
theorem dX8_whyNot_8 : decode cX8_whyNot 8 = .ok (.getfield 12, 3) := by decide +kernel
theorem dX8_whyNot_11 : decode cX8_whyNot 11 = .ok (.iload_n 1, 1) := by decide +kernel
theorem dX8_whyNot_12 : decode cX8_whyNot 12 = .ok (.invokevirtual 215, 3) := by decide +kernel
theorem dX8_whyNot_15 : decode cX8_whyNot 15 = .ok (.goto 4, 3) := by decide +kernel
theorem dX8_whyNot_18 : decode cX8_whyNot 18 = .ok (.iconst (-1), 1) := by decide +kernel
theorem dX8_whyNot_19 : decode cX8_whyNot 19 = .ok (.ireturn, 1) := by decide +kernel
theorem dX8_together_0 : decode cX8_together 0 = .ok (.iload_n 1, 1) := by decide +kernel
theorem dX8_together_1 : decode cX8_together 1 = .ok (.lookupswitch 45 #[(0, 27), (1, 32)], 27) := by decide +kernel
theorem dX8_together_28 : decode cX8_together 28 = .ok (.aload_n 0, 1) := by decide +kernel
theorem dX8_together_29 : decode cX8_together 29 = .ok (.invokevirtual 218, 3) := by decide +kernel
theorem dX8_together_32 : decode cX8_together 32 = .ok (.ireturn, 1) := by decide +kernel
theorem dX8_together_33 : decode cX8_together 33 = .ok (.aload_n 0, 1) := by decide +kernel
theorem dX8_together_34 : decode cX8_together 34 = .ok (.getfield 12, 3) := by decide +kernel
theorem dX8_together_37 : decode cX8_together 37 = .ok (.getfield 66, 3) := by decide +kernel
theorem dX8_together_40 : decode cX8_together 40 = .ok (.iconst 0, 1) := by decide +kernel
theorem dX8_together_41 : decode cX8_together 41 = .ok (.iconst 0, 1) := by decide +kernel
theorem dX8_together_42 : decode cX8_together 42 = .ok (.invokestatic 221, 3) := by decide +kernel
theorem dX8_together_45 : decode cX8_together 45 = .ok (.ireturn, 1) := by decide +kernel
theorem dX8_together_46 : decode cX8_together 46 = .ok (.iconst (-1), 1) := by decide +kernel
theorem dX8_together_47 : decode cX8_together 47 = .ok (.ireturn, 1) := by decide +kernel
theorem dX8_can_0 : decode cX8_can 0 = .ok (.iload_n 1, 1) := by decide +kernel
theorem dX8_can_1 : decode cX8_can 1 = .ok (.invokestatic 99, 3) := by decide +kernel
theorem dX8_can_4 : decode cX8_can 4 = .ok (.ifCond .ne 5, 3) := by decide +kernel
theorem dX8_can_7 : decode cX8_can 7 = .ok (.iconst (-1), 1) := by decide +kernel
theorem dX8_can_8 : decode cX8_can 8 = .ok (.ireturn, 1) := by decide +kernel
theorem dX8_can_9 : decode cX8_can 9 = .ok (.aload_n 0, 1) := by decide +kernel
theorem dX8_can_10 : decode cX8_can 10 = .ok (.getfield 12, 3) := by decide +kernel
theorem dX8_can_13 : decode cX8_can 13 = .ok (.getfield 66, 3) := by decide +kernel
theorem dX8_can_16 : decode cX8_can 16 = .ok (.iload_n 1, 1) := by decide +kernel
theorem dX8_can_17 : decode cX8_can 17 = .ok (.invokevirtual 225, 3) := by decide +kernel
theorem dX8_can_20 : decode cX8_can 20 = .ok (.ifCond .eq 7, 3) := by decide +kernel
theorem dX8_can_23 : decode cX8_can 23 = .ok (.iconst 1, 1) := by decide +kernel
theorem dX8_can_24 : decode cX8_can 24 = .ok (.goto 4, 3) := by decide +kernel
theorem dX8_can_27 : decode cX8_can 27 = .ok (.iconst 0, 1) := by decide +kernel
theorem dX8_can_28 : decode cX8_can 28 = .ok (.ireturn, 1) := by decide +kernel
theorem dX8_deeds_0 : decode cX8_deeds 0 = .ok (.iload_n 1, 1) := by decide +kernel
theorem dX8_deeds_1 : decode cX8_deeds 1 = .ok (.invokestatic 96, 3) := by decide +kernel
theorem dX8_deeds_4 : decode cX8_deeds 4 = .ok (.ifCond .eq 10, 3) := by decide +kernel
theorem dX8_deeds_7 : decode cX8_deeds 7 = .ok (.iload_n 2, 1) := by decide +kernel
theorem dX8_deeds_8 : decode cX8_deeds 8 = .ok (.invokestatic 80, 3) := by decide +kernel
theorem dX8_deeds_11 : decode cX8_deeds 11 = .ok (.ifCond .ne 5, 3) := by decide +kernel
theorem dX8_deeds_14 : decode cX8_deeds 14 = .ok (.iconst (-1), 1) := by decide +kernel
theorem dX8_deeds_15 : decode cX8_deeds 15 = .ok (.ireturn, 1) := by decide +kernel
theorem dX8_deeds_16 : decode cX8_deeds 16 = .ok (.aload_n 0, 1) := by decide +kernel
theorem dX8_deeds_17 : decode cX8_deeds 17 = .ok (.getfield 12, 3) := by decide +kernel
theorem dX8_deeds_20 : decode cX8_deeds 20 = .ok (.getfield 167, 3) := by decide +kernel
theorem dX8_deeds_23 : decode cX8_deeds 23 = .ok (.aload_n 0, 1) := by decide +kernel
theorem dX8_deeds_24 : decode cX8_deeds 24 = .ok (.getfield 12, 3) := by decide +kernel
theorem dX8_deeds_27 : decode cX8_deeds 27 = .ok (.getfield 102, 3) := by decide +kernel
theorem dX8_deeds_30 : decode cX8_deeds 30 = .ok (.getfield 206, 3) := by decide +kernel
theorem dX8_deeds_33 : decode cX8_deeds 33 = .ok (.iload_n 1, 1) := by decide +kernel
theorem dX8_deeds_34 : decode cX8_deeds 34 = .ok (.iaload, 1) := by decide +kernel
theorem dX8_deeds_35 : decode cX8_deeds 35 = .ok (.invokestatic 228, 3) := by decide +kernel
theorem dX8_deeds_38 : decode cX8_deeds 38 = .ok (.istore 4, 2) := by decide +kernel
theorem dX8_deeds_40 : decode cX8_deeds 40 = .ok (.aload_n 0, 1) := by decide +kernel
theorem dX8_deeds_41 : decode cX8_deeds 41 = .ok (.getfield 12, 3) := by decide +kernel
theorem dX8_deeds_44 : decode cX8_deeds 44 = .ok (.getfield 102, 3) := by decide +kernel
theorem dX8_deeds_47 : decode cX8_deeds 47 = .ok (.getfield 106, 3) := by decide +kernel
theorem dX8_deeds_50 : decode cX8_deeds 50 = .ok (.iload_n 1, 1) := by decide +kernel
theorem dX8_deeds_51 : decode cX8_deeds 51 = .ok (.iaload, 1) := by decide +kernel
theorem dX8_deeds_52 : decode cX8_deeds 52 = .ok (.istore 5, 2) := by decide +kernel
theorem dX8_deeds_54 : decode cX8_deeds 54 = .ok (.iload_n 3, 1) := by decide +kernel
theorem dX8_deeds_55 : decode cX8_deeds 55 = .ok (.lookupswitch 65 #[(0, 25), (1, 45)], 25) := by decide +kernel
theorem dX8_deeds_80 : decode cX8_deeds 80 = .ok (.aload_n 0, 1) := by decide +kernel
theorem dX8_deeds_81 : decode cX8_deeds 81 = .ok (.getfield 47, 3) := by decide +kernel
theorem dX8_deeds_84 : decode cX8_deeds 84 = .ok (.aload_n 0, 1) := by decide +kernel
theorem dX8_deeds_85 : decode cX8_deeds 85 = .ok (.getfield 12, 3) := by decide +kernel
theorem dX8_deeds_88 : decode cX8_deeds 88 = .ok (.getfield 66, 3) := by decide +kernel
theorem dX8_deeds_91 : decode cX8_deeds 91 = .ok (.iload 4, 2) := by decide +kernel
theorem dX8_deeds_93 : decode cX8_deeds 93 = .ok (.iload 5, 2) := by decide +kernel
theorem dX8_deeds_95 : decode cX8_deeds 95 = .ok (.iload_n 2, 1) := by decide +kernel
theorem dX8_deeds_96 : decode cX8_deeds 96 = .ok (.invokevirtual 231, 3) := by decide +kernel
theorem dX8_deeds_99 : decode cX8_deeds 99 = .ok (.ireturn, 1) := by decide +kernel
theorem dX8_deeds_100 : decode cX8_deeds 100 = .ok (.aload_n 0, 1) := by decide +kernel
theorem dX8_deeds_101 : decode cX8_deeds 101 = .ok (.getfield 47, 3) := by decide +kernel
theorem dX8_deeds_104 : decode cX8_deeds 104 = .ok (.aload_n 0, 1) := by decide +kernel
theorem dX8_deeds_105 : decode cX8_deeds 105 = .ok (.getfield 12, 3) := by decide +kernel
theorem dX8_deeds_108 : decode cX8_deeds 108 = .ok (.getfield 66, 3) := by decide +kernel
theorem dX8_deeds_111 : decode cX8_deeds 111 = .ok (.iload 4, 2) := by decide +kernel
theorem dX8_deeds_113 : decode cX8_deeds 113 = .ok (.iload 5, 2) := by decide +kernel
theorem dX8_deeds_115 : decode cX8_deeds 115 = .ok (.iload_n 2, 1) := by decide +kernel
theorem dX8_deeds_116 : decode cX8_deeds 116 = .ok (.invokevirtual 235, 3) := by decide +kernel
theorem dX8_deeds_119 : decode cX8_deeds 119 = .ok (.ireturn, 1) := by decide +kernel
theorem dX8_deeds_120 : decode cX8_deeds 120 = .ok (.iconst (-1), 1) := by decide +kernel
theorem dX8_deeds_121 : decode cX8_deeds 121 = .ok (.ireturn, 1) := by decide +kernel
theorem dX8_count_0 : decode cX8_count 0 = .ok (.aload_n 0, 1) := by decide +kernel
theorem dX8_count_1 : decode cX8_count 1 = .ok (.getfield 12, 3) := by decide +kernel
theorem dX8_count_4 : decode cX8_count 4 = .ok (.getfield 66, 3) := by decide +kernel
theorem dX8_count_7 : decode cX8_count 7 = .ok (.astore_n 2, 1) := by decide +kernel
theorem dX8_count_8 : decode cX8_count 8 = .ok (.aload_n 0, 1) := by decide +kernel
theorem dX8_count_9 : decode cX8_count 9 = .ok (.getfield 12, 3) := by decide +kernel
theorem dX8_count_12 : decode cX8_count 12 = .ok (.getfield 180, 3) := by decide +kernel
theorem dX8_count_15 : decode cX8_count 15 = .ok (.astore_n 3, 1) := by decide +kernel
theorem dX8_count_16 : decode cX8_count 16 = .ok (.iload_n 1, 1) := by decide +kernel
theorem dX8_count_17 : decode cX8_count 17 = .ok (.tableswitch 196 0 14 #[75, 83, 94, 106, 118, 133, 145, 150, 155, 160, 165, 170, 175, 180, 188], 75) := by decide +kernel
theorem dX8_count_92 : decode cX8_count 92 = .ok (.aload_n 0, 1) := by decide +kernel
theorem dX8_count_93 : decode cX8_count 93 = .ok (.getfield 12, 3) := by decide +kernel
theorem dX8_count_96 : decode cX8_count 96 = .ok (.getfield 167, 3) := by decide +kernel
theorem dX8_count_99 : decode cX8_count 99 = .ok (.ireturn, 1) := by decide +kernel
theorem dX8_count_100 : decode cX8_count 100 = .ok (.aload_n 0, 1) := by decide +kernel
theorem dX8_count_101 : decode cX8_count 101 = .ok (.getfield 12, 3) := by decide +kernel
theorem dX8_count_104 : decode cX8_count 104 = .ok (.getfield 167, 3) := by decide +kernel
theorem dX8_count_107 : decode cX8_count 107 = .ok (.invokestatic 195, 3) := by decide +kernel
theorem dX8_count_110 : decode cX8_count 110 = .ok (.ireturn, 1) := by decide +kernel
theorem dX8_count_111 : decode cX8_count 111 = .ok (.aload_n 2, 1) := by decide +kernel
theorem dX8_count_112 : decode cX8_count 112 = .ok (.aload_n 0, 1) := by decide +kernel
theorem dX8_count_113 : decode cX8_count 113 = .ok (.getfield 12, 3) := by decide +kernel
theorem dX8_count_116 : decode cX8_count 116 = .ok (.getfield 167, 3) := by decide +kernel
theorem dX8_count_119 : decode cX8_count 119 = .ok (.invokevirtual 238, 3) := by decide +kernel
theorem dX8_count_122 : decode cX8_count 122 = .ok (.ireturn, 1) := by decide +kernel
theorem dX8_count_123 : decode cX8_count 123 = .ok (.aload_n 2, 1) := by decide +kernel
theorem dX8_count_124 : decode cX8_count 124 = .ok (.aload_n 0, 1) := by decide +kernel
theorem dX8_count_125 : decode cX8_count 125 = .ok (.getfield 12, 3) := by decide +kernel
theorem dX8_count_128 : decode cX8_count 128 = .ok (.invokevirtual 241, 3) := by decide +kernel
theorem dX8_count_131 : decode cX8_count 131 = .ok (.invokevirtual 238, 3) := by decide +kernel
theorem dX8_count_134 : decode cX8_count 134 = .ok (.ireturn, 1) := by decide +kernel
theorem dX8_count_135 : decode cX8_count 135 = .ok (.aload_n 2, 1) := by decide +kernel
theorem dX8_count_136 : decode cX8_count 136 = .ok (.aload_n 0, 1) := by decide +kernel
theorem dX8_count_137 : decode cX8_count 137 = .ok (.getfield 12, 3) := by decide +kernel
theorem dX8_count_140 : decode cX8_count 140 = .ok (.getfield 167, 3) := by decide +kernel
theorem dX8_count_143 : decode cX8_count 143 = .ok (.invokevirtual 170, 3) := by decide +kernel
theorem dX8_count_146 : decode cX8_count 146 = .ok (.invokestatic 195, 3) := by decide +kernel
theorem dX8_count_149 : decode cX8_count 149 = .ok (.ireturn, 1) := by decide +kernel
theorem dX8_count_150 : decode cX8_count 150 = .ok (.aload_n 2, 1) := by decide +kernel
theorem dX8_count_151 : decode cX8_count 151 = .ok (.aload_n 0, 1) := by decide +kernel
theorem dX8_count_152 : decode cX8_count 152 = .ok (.getfield 12, 3) := by decide +kernel
theorem dX8_count_155 : decode cX8_count 155 = .ok (.getfield 167, 3) := by decide +kernel
theorem dX8_count_158 : decode cX8_count 158 = .ok (.invokevirtual 244, 3) := by decide +kernel
theorem dX8_count_161 : decode cX8_count 161 = .ok (.ireturn, 1) := by decide +kernel
theorem dX8_count_162 : decode cX8_count 162 = .ok (.aload_n 2, 1) := by decide +kernel
theorem dX8_count_163 : decode cX8_count 163 = .ok (.invokevirtual 247, 3) := by decide +kernel
theorem dX8_count_166 : decode cX8_count 166 = .ok (.ireturn, 1) := by decide +kernel
theorem dX8_count_167 : decode cX8_count 167 = .ok (.aload_n 3, 1) := by decide +kernel
theorem dX8_count_168 : decode cX8_count 168 = .ok (.getfield 250, 3) := by decide +kernel
theorem dX8_count_171 : decode cX8_count 171 = .ok (.ireturn, 1) := by decide +kernel
theorem dX8_count_172 : decode cX8_count 172 = .ok (.aload_n 3, 1) := by decide +kernel
theorem dX8_count_173 : decode cX8_count 173 = .ok (.getfield 253, 3) := by decide +kernel
theorem dX8_count_176 : decode cX8_count 176 = .ok (.ireturn, 1) := by decide +kernel
theorem dX8_count_177 : decode cX8_count 177 = .ok (.aload_n 3, 1) := by decide +kernel
theorem dX8_count_178 : decode cX8_count 178 = .ok (.getfield 256, 3) := by decide +kernel
theorem dX8_count_181 : decode cX8_count 181 = .ok (.ireturn, 1) := by decide +kernel
theorem dX8_count_182 : decode cX8_count 182 = .ok (.aload_n 3, 1) := by decide +kernel
theorem dX8_count_183 : decode cX8_count 183 = .ok (.getfield 259, 3) := by decide +kernel
theorem dX8_count_186 : decode cX8_count 186 = .ok (.ireturn, 1) := by decide +kernel
theorem dX8_count_187 : decode cX8_count 187 = .ok (.aload_n 3, 1) := by decide +kernel
theorem dX8_count_188 : decode cX8_count 188 = .ok (.getfield 262, 3) := by decide +kernel
theorem dX8_count_191 : decode cX8_count 191 = .ok (.ireturn, 1) := by decide +kernel
theorem dX8_count_192 : decode cX8_count 192 = .ok (.aload_n 2, 1) := by decide +kernel
theorem dX8_count_193 : decode cX8_count 193 = .ok (.getfield 112, 3) := by decide +kernel
theorem dX8_count_196 : decode cX8_count 196 = .ok (.ireturn, 1) := by decide +kernel
theorem dX8_count_197 : decode cX8_count 197 = .ok (.aload_n 0, 1) := by decide +kernel
theorem dX8_count_198 : decode cX8_count 198 = .ok (.getfield 33, 3) := by decide +kernel
theorem dX8_count_201 : decode cX8_count 201 = .ok (.getfield 126, 3) := by decide +kernel
theorem dX8_count_204 : decode cX8_count 204 = .ok (.ireturn, 1) := by decide +kernel
theorem dX8_count_205 : decode cX8_count 205 = .ok (.aload_n 0, 1) := by decide +kernel
theorem dX8_count_206 : decode cX8_count 206 = .ok (.getfield 19, 3) := by decide +kernel
theorem dX8_count_209 : decode cX8_count 209 = .ok (.getfield 265, 3) := by decide +kernel
theorem dX8_count_212 : decode cX8_count 212 = .ok (.ireturn, 1) := by decide +kernel
theorem dX8_count_213 : decode cX8_count 213 = .ok (.iconst (-1), 1) := by decide +kernel
theorem dX8_count_214 : decode cX8_count 214 = .ok (.ireturn, 1) := by decide +kernel
theorem dX8_tightness_0 : decode cX8_tightness 0 = .ok (.aload_n 0, 1) := by decide +kernel
theorem dX8_tightness_1 : decode cX8_tightness 1 = .ok (.getfield 12, 3) := by decide +kernel
theorem dX8_tightness_4 : decode cX8_tightness 4 = .ok (.getfield 66, 3) := by decide +kernel
theorem dX8_tightness_7 : decode cX8_tightness 7 = .ok (.sipush 1023, 3) := by decide +kernel
theorem dX8_tightness_10 : decode cX8_tightness 10 = .ok (.invokevirtual 238, 3) := by decide +kernel
theorem dX8_tightness_13 : decode cX8_tightness 13 = .ok (.istore_n 1, 1) := by decide +kernel
theorem dX8_tightness_14 : decode cX8_tightness 14 = .ok (.iload_n 1, 1) := by decide +kernel
theorem dX8_tightness_15 : decode cX8_tightness 15 = .ok (.ifCond .ne 7, 3) := by decide +kernel
theorem dX8_tightness_18 : decode cX8_tightness 18 = .ok (.dconst 0, 1) := by decide +kernel
theorem dX8_tightness_19 : decode cX8_tightness 19 = .ok (.goto 24, 3) := by decide +kernel
theorem dX8_tightness_22 : decode cX8_tightness 22 = .ok (.aload_n 0, 1) := by decide +kernel
theorem dX8_tightness_23 : decode cX8_tightness 23 = .ok (.getfield 12, 3) := by decide +kernel
theorem dX8_tightness_26 : decode cX8_tightness 26 = .ok (.getfield 66, 3) := by decide +kernel
theorem dX8_tightness_29 : decode cX8_tightness 29 = .ok (.aload_n 0, 1) := by decide +kernel
theorem dX8_tightness_30 : decode cX8_tightness 30 = .ok (.getfield 12, 3) := by decide +kernel
theorem dX8_tightness_33 : decode cX8_tightness 33 = .ok (.getfield 167, 3) := by decide +kernel
theorem dX8_tightness_36 : decode cX8_tightness 36 = .ok (.invokevirtual 238, 3) := by decide +kernel
theorem dX8_tightness_39 : decode cX8_tightness 39 = .ok (.i2d, 1) := by decide +kernel
theorem dX8_tightness_40 : decode cX8_tightness 40 = .ok (.iload_n 1, 1) := by decide +kernel
theorem dX8_tightness_41 : decode cX8_tightness 41 = .ok (.i2d, 1) := by decide +kernel
theorem dX8_tightness_42 : decode cX8_tightness 42 = .ok (.ddiv, 1) := by decide +kernel
theorem dX8_tightness_43 : decode cX8_tightness 43 = .ok (.dreturn, 1) := by decide +kernel
theorem dX8_ifOpened_0 : decode cX8_ifOpened 0 = .ok (.iload_n 1, 1) := by decide +kernel
theorem dX8_ifOpened_1 : decode cX8_ifOpened 1 = .ok (.invokestatic 51, 3) := by decide +kernel
theorem dX8_ifOpened_4 : decode cX8_ifOpened 4 = .ok (.ifCond .ne 5, 3) := by decide +kernel
theorem dX8_ifOpened_7 : decode cX8_ifOpened 7 = .ok (.iconst (-1), 1) := by decide +kernel
theorem dX8_ifOpened_8 : decode cX8_ifOpened 8 = .ok (.ireturn, 1) := by decide +kernel
theorem dX8_ifOpened_9 : decode cX8_ifOpened 9 = .ok (.aload_n 0, 1) := by decide +kernel
theorem dX8_ifOpened_10 : decode cX8_ifOpened 10 = .ok (.getfield 12, 3) := by decide +kernel
theorem dX8_ifOpened_13 : decode cX8_ifOpened 13 = .ok (.getfield 167, 3) := by decide +kernel
theorem dX8_ifOpened_16 : decode cX8_ifOpened 16 = .ok (.istore_n 3, 1) := by decide +kernel
theorem dX8_ifOpened_17 : decode cX8_ifOpened 17 = .ok (.aload_n 0, 1) := by decide +kernel
theorem dX8_ifOpened_18 : decode cX8_ifOpened 18 = .ok (.getfield 12, 3) := by decide +kernel
theorem dX8_ifOpened_21 : decode cX8_ifOpened 21 = .ok (.iload_n 1, 1) := by decide +kernel
theorem dX8_ifOpened_22 : decode cX8_ifOpened 22 = .ok (.invokevirtual 215, 3) := by decide +kernel
theorem dX8_ifOpened_25 : decode cX8_ifOpened 25 = .ok (.ifCond .eq 7, 3) := by decide +kernel
theorem dX8_ifOpened_28 : decode cX8_ifOpened 28 = .ok (.iconst 1, 1) := by decide +kernel
theorem dX8_ifOpened_29 : decode cX8_ifOpened 29 = .ok (.goto 4, 3) := by decide +kernel
theorem dX8_ifOpened_32 : decode cX8_ifOpened 32 = .ok (.iconst 0, 1) := by decide +kernel
theorem dX8_ifOpened_33 : decode cX8_ifOpened 33 = .ok (.istore 4, 2) := by decide +kernel
theorem dX8_ifOpened_35 : decode cX8_ifOpened 35 = .ok (.iload 4, 2) := by decide +kernel
theorem dX8_ifOpened_37 : decode cX8_ifOpened 37 = .ok (.ifCond .eq 7, 3) := by decide +kernel
theorem dX8_ifOpened_40 : decode cX8_ifOpened 40 = .ok (.iload_n 3, 1) := by decide +kernel
theorem dX8_ifOpened_41 : decode cX8_ifOpened 41 = .ok (.goto 15, 3) := by decide +kernel
theorem dX8_ifOpened_44 : decode cX8_ifOpened 44 = .ok (.aload_n 0, 1) := by decide +kernel
theorem dX8_ifOpened_45 : decode cX8_ifOpened 45 = .ok (.getfield 12, 3) := by decide +kernel
theorem dX8_ifOpened_48 : decode cX8_ifOpened 48 = .ok (.getfield 66, 3) := by decide +kernel
theorem dX8_ifOpened_51 : decode cX8_ifOpened 51 = .ok (.iload_n 3, 1) := by decide +kernel
theorem dX8_ifOpened_52 : decode cX8_ifOpened 52 = .ok (.iload_n 1, 1) := by decide +kernel
theorem dX8_ifOpened_53 : decode cX8_ifOpened 53 = .ok (.invokevirtual 268, 3) := by decide +kernel
theorem dX8_ifOpened_56 : decode cX8_ifOpened 56 = .ok (.istore 5, 2) := by decide +kernel
theorem dX8_ifOpened_58 : decode cX8_ifOpened 58 = .ok (.iload 4, 2) := by decide +kernel
theorem dX8_ifOpened_60 : decode cX8_ifOpened 60 = .ok (.ifCond .eq 7, 3) := by decide +kernel
theorem dX8_ifOpened_63 : decode cX8_ifOpened 63 = .ok (.iload_n 3, 1) := by decide +kernel
theorem dX8_ifOpened_64 : decode cX8_ifOpened 64 = .ok (.goto 16, 3) := by decide +kernel
theorem dX8_ifOpened_67 : decode cX8_ifOpened 67 = .ok (.aload_n 0, 1) := by decide +kernel
theorem dX8_ifOpened_68 : decode cX8_ifOpened 68 = .ok (.getfield 12, 3) := by decide +kernel
theorem dX8_ifOpened_71 : decode cX8_ifOpened 71 = .ok (.getfield 66, 3) := by decide +kernel
theorem dX8_ifOpened_74 : decode cX8_ifOpened 74 = .ok (.iload 5, 2) := by decide +kernel
theorem dX8_ifOpened_76 : decode cX8_ifOpened 76 = .ok (.iload_n 1, 1) := by decide +kernel
theorem dX8_ifOpened_77 : decode cX8_ifOpened 77 = .ok (.invokevirtual 271, 3) := by decide +kernel
theorem dX8_ifOpened_80 : decode cX8_ifOpened 80 = .ok (.istore 6, 2) := by decide +kernel
theorem dX8_ifOpened_82 : decode cX8_ifOpened 82 = .ok (.iload_n 2, 1) := by decide +kernel
theorem dX8_ifOpened_83 : decode cX8_ifOpened 83 = .ok (.tableswitch 49 0 2 #[25, 28, 38], 25) := by decide +kernel
theorem dX8_ifOpened_108 : decode cX8_ifOpened 108 = .ok (.iload 6, 2) := by decide +kernel
theorem dX8_ifOpened_110 : decode cX8_ifOpened 110 = .ok (.ireturn, 1) := by decide +kernel
theorem dX8_ifOpened_111 : decode cX8_ifOpened 111 = .ok (.iload_n 3, 1) := by decide +kernel
theorem dX8_ifOpened_112 : decode cX8_ifOpened 112 = .ok (.iload 5, 2) := by decide +kernel
theorem dX8_ifOpened_114 : decode cX8_ifOpened 114 = .ok (.iconst (-1), 1) := by decide +kernel
theorem dX8_ifOpened_115 : decode cX8_ifOpened 115 = .ok (.ixor, 1) := by decide +kernel
theorem dX8_ifOpened_116 : decode cX8_ifOpened 116 = .ok (.iand, 1) := by decide +kernel
theorem dX8_ifOpened_117 : decode cX8_ifOpened 117 = .ok (.invokestatic 195, 3) := by decide +kernel
theorem dX8_ifOpened_120 : decode cX8_ifOpened 120 = .ok (.ireturn, 1) := by decide +kernel
theorem dX8_ifOpened_121 : decode cX8_ifOpened 121 = .ok (.iload 5, 2) := by decide +kernel
theorem dX8_ifOpened_123 : decode cX8_ifOpened 123 = .ok (.iload 6, 2) := by decide +kernel
theorem dX8_ifOpened_125 : decode cX8_ifOpened 125 = .ok (.iconst (-1), 1) := by decide +kernel
theorem dX8_ifOpened_126 : decode cX8_ifOpened 126 = .ok (.ixor, 1) := by decide +kernel
theorem dX8_ifOpened_127 : decode cX8_ifOpened 127 = .ok (.iand, 1) := by decide +kernel
theorem dX8_ifOpened_128 : decode cX8_ifOpened 128 = .ok (.invokestatic 195, 3) := by decide +kernel
theorem dX8_ifOpened_131 : decode cX8_ifOpened 131 = .ok (.ireturn, 1) := by decide +kernel
theorem dX8_ifOpened_132 : decode cX8_ifOpened 132 = .ok (.iconst (-1), 1) := by decide +kernel
theorem dX8_ifOpened_133 : decode cX8_ifOpened 133 = .ok (.ireturn, 1) := by decide +kernel
theorem dX8_undo_0 : decode cX8_undo 0 = .ok (.aload_n 0, 1) := by decide +kernel
theorem dX8_undo_1 : decode cX8_undo 1 = .ok (.getfield 19, 3) := by decide +kernel
theorem dX8_undo_4 : decode cX8_undo 4 = .ok (.getfield 265, 3) := by decide +kernel
theorem dX8_undo_7 : decode cX8_undo 7 = .ok (.ifCond .ne 6, 3) := by decide +kernel
theorem dX8_undo_10 : decode cX8_undo 10 = .ok (.bipush (-2), 2) := by decide +kernel
theorem dX8_undo_12 : decode cX8_undo 12 = .ok (.ireturn, 1) := by decide +kernel
theorem dX8_undo_13 : decode cX8_undo 13 = .ok (.aload_n 0, 1) := by decide +kernel
theorem dX8_undo_14 : decode cX8_undo 14 = .ok (.getfield 19, 3) := by decide +kernel
theorem dX8_undo_17 : decode cX8_undo 17 = .ok (.aload_n 0, 1) := by decide +kernel
theorem dX8_undo_18 : decode cX8_undo 18 = .ok (.getfield 12, 3) := by decide +kernel
theorem dX8_undo_21 : decode cX8_undo 21 = .ok (.invokevirtual 274, 3) := by decide +kernel
theorem dX8_undo_24 : decode cX8_undo 24 = .ok (.aload_n 0, 1) := by decide +kernel
theorem dX8_undo_25 : decode cX8_undo 25 = .ok (.getfield 19, 3) := by decide +kernel
theorem dX8_undo_28 : decode cX8_undo 28 = .ok (.getfield 265, 3) := by decide +kernel
theorem dX8_undo_31 : decode cX8_undo 31 = .ok (.ireturn, 1) := by decide +kernel
theorem dX8_save_0 : decode cX8_save 0 = .ok (.aload_n 0, 1) := by decide +kernel
theorem dX8_save_1 : decode cX8_save 1 = .ok (.getfield 23, 3) := by decide +kernel
theorem dX8_save_4 : decode cX8_save 4 = .ok (.aload_n 0, 1) := by decide +kernel
theorem dX8_save_5 : decode cX8_save 5 = .ok (.getfield 12, 3) := by decide +kernel
theorem dX8_save_8 : decode cX8_save 8 = .ok (.invokevirtual 277, 3) := by decide +kernel
theorem dX8_save_11 : decode cX8_save 11 = .ok (.aload_n 0, 1) := by decide +kernel
theorem dX8_save_12 : decode cX8_save 12 = .ok (.iconst 1, 1) := by decide +kernel
theorem dX8_save_13 : decode cX8_save 13 = .ok (.putfield 26, 3) := by decide +kernel
theorem dX8_save_16 : decode cX8_save 16 = .ok (.aload_n 0, 1) := by decide +kernel
theorem dX8_save_17 : decode cX8_save 17 = .ok (.getfield 12, 3) := by decide +kernel
theorem dX8_save_20 : decode cX8_save 20 = .ok (.getfield 167, 3) := by decide +kernel
theorem dX8_save_23 : decode cX8_save 23 = .ok (.ireturn, 1) := by decide +kernel
theorem dX8_restore_0 : decode cX8_restore 0 = .ok (.aload_n 0, 1) := by decide +kernel
theorem dX8_restore_1 : decode cX8_restore 1 = .ok (.getfield 26, 3) := by decide +kernel
theorem dX8_restore_4 : decode cX8_restore 4 = .ok (.ifCond .ne 6, 3) := by decide +kernel
theorem dX8_restore_7 : decode cX8_restore 7 = .ok (.bipush (-2), 2) := by decide +kernel
theorem dX8_restore_9 : decode cX8_restore 9 = .ok (.ireturn, 1) := by decide +kernel
theorem dX8_restore_10 : decode cX8_restore 10 = .ok (.aload_n 0, 1) := by decide +kernel
theorem dX8_restore_11 : decode cX8_restore 11 = .ok (.getfield 19, 3) := by decide +kernel
theorem dX8_restore_14 : decode cX8_restore 14 = .ok (.aload_n 0, 1) := by decide +kernel
theorem dX8_restore_15 : decode cX8_restore 15 = .ok (.getfield 12, 3) := by decide +kernel
theorem dX8_restore_18 : decode cX8_restore 18 = .ok (.invokevirtual 55, 3) := by decide +kernel
theorem dX8_restore_21 : decode cX8_restore 21 = .ok (.aload_n 0, 1) := by decide +kernel
theorem dX8_restore_22 : decode cX8_restore 22 = .ok (.getfield 12, 3) := by decide +kernel
theorem dX8_restore_25 : decode cX8_restore 25 = .ok (.aload_n 0, 1) := by decide +kernel
theorem dX8_restore_26 : decode cX8_restore 26 = .ok (.getfield 23, 3) := by decide +kernel
theorem dX8_restore_29 : decode cX8_restore 29 = .ok (.invokevirtual 277, 3) := by decide +kernel
theorem dX8_restore_32 : decode cX8_restore 32 = .ok (.aload_n 0, 1) := by decide +kernel
theorem dX8_restore_33 : decode cX8_restore 33 = .ok (.getfield 12, 3) := by decide +kernel
theorem dX8_restore_36 : decode cX8_restore 36 = .ok (.getfield 167, 3) := by decide +kernel
theorem dX8_restore_39 : decode cX8_restore 39 = .ok (.ireturn, 1) := by decide +kernel
theorem dX8_isDoor_0 : decode cX8_isDoor 0 = .ok (.iload_n 0, 1) := by decide +kernel
theorem dX8_isDoor_1 : decode cX8_isDoor 1 = .ok (.ifCond .lt 13, 3) := by decide +kernel
theorem dX8_isDoor_4 : decode cX8_isDoor 4 = .ok (.iload_n 0, 1) := by decide +kernel
theorem dX8_isDoor_5 : decode cX8_isDoor 5 = .ok (.bipush 10, 2) := by decide +kernel
theorem dX8_isDoor_7 : decode cX8_isDoor 7 = .ok (.if_icmp .ge 7, 3) := by decide +kernel
theorem dX8_isDoor_10 : decode cX8_isDoor 10 = .ok (.iconst 1, 1) := by decide +kernel
theorem dX8_isDoor_11 : decode cX8_isDoor 11 = .ok (.goto 4, 3) := by decide +kernel
theorem dX8_isDoor_14 : decode cX8_isDoor 14 = .ok (.iconst 0, 1) := by decide +kernel
theorem dX8_isDoor_15 : decode cX8_isDoor 15 = .ok (.ireturn, 1) := by decide +kernel
theorem dX8_isHall_0 : decode cX8_isHall 0 = .ok (.iload_n 0, 1) := by decide +kernel
theorem dX8_isHall_1 : decode cX8_isHall 1 = .ok (.ifCond .lt 13, 3) := by decide +kernel
theorem dX8_isHall_4 : decode cX8_isHall 4 = .ok (.iload_n 0, 1) := by decide +kernel
theorem dX8_isHall_5 : decode cX8_isHall 5 = .ok (.bipush 6, 2) := by decide +kernel
theorem dX8_isHall_7 : decode cX8_isHall 7 = .ok (.if_icmp .ge 7, 3) := by decide +kernel
theorem dX8_isHall_10 : decode cX8_isHall 10 = .ok (.iconst 1, 1) := by decide +kernel
theorem dX8_isHall_11 : decode cX8_isHall 11 = .ok (.goto 4, 3) := by decide +kernel
theorem dX8_isHall_14 : decode cX8_isHall 14 = .ok (.iconst 0, 1) := by decide +kernel
theorem dX8_isHall_15 : decode cX8_isHall 15 = .ok (.ireturn, 1) := by decide +kernel
theorem dX8_isGuest_0 : decode cX8_isGuest 0 = .ok (.iload_n 0, 1) := by decide +kernel
theorem dX8_isGuest_1 : decode cX8_isGuest 1 = .ok (.ifCond .lt 12, 3) := by decide +kernel
theorem dX8_isGuest_4 : decode cX8_isGuest 4 = .ok (.iload_n 0, 1) := by decide +kernel
theorem dX8_isGuest_5 : decode cX8_isGuest 5 = .ok (.iconst 3, 1) := by decide +kernel
theorem dX8_isGuest_6 : decode cX8_isGuest 6 = .ok (.if_icmp .ge 7, 3) := by decide +kernel
theorem dX8_isGuest_9 : decode cX8_isGuest 9 = .ok (.iconst 1, 1) := by decide +kernel
theorem dX8_isGuest_10 : decode cX8_isGuest 10 = .ok (.goto 4, 3) := by decide +kernel
theorem dX8_isGuest_13 : decode cX8_isGuest 13 = .ok (.iconst 0, 1) := by decide +kernel
theorem dX8_isGuest_14 : decode cX8_isGuest 14 = .ok (.ireturn, 1) := by decide +kernel
theorem dX8_isSetOfDoors_0 : decode cX8_isSetOfDoors 0 = .ok (.iload_n 0, 1) := by decide +kernel
theorem dX8_isSetOfDoors_1 : decode cX8_isSetOfDoors 1 = .ok (.ifCond .lt 14, 3) := by decide +kernel
theorem dX8_isSetOfDoors_4 : decode cX8_isSetOfDoors 4 = .ok (.iload_n 0, 1) := by decide +kernel
theorem dX8_isSetOfDoors_5 : decode cX8_isSetOfDoors 5 = .ok (.sipush 1023, 3) := by decide +kernel
theorem dX8_isSetOfDoors_8 : decode cX8_isSetOfDoors 8 = .ok (.if_icmp .gt 7, 3) := by decide +kernel
theorem dX8_isSetOfDoors_11 : decode cX8_isSetOfDoors 11 = .ok (.iconst 1, 1) := by decide +kernel
theorem dX8_isSetOfDoors_12 : decode cX8_isSetOfDoors 12 = .ok (.goto 4, 3) := by decide +kernel
theorem dX8_isSetOfDoors_15 : decode cX8_isSetOfDoors 15 = .ok (.iconst 0, 1) := by decide +kernel
theorem dX8_isSetOfDoors_16 : decode cX8_isSetOfDoors 16 = .ok (.ireturn, 1) := by decide +kernel
theorem dX8_has_0 : decode cX8_has 0 = .ok (.iload_n 0, 1) := by decide +kernel
theorem dX8_has_1 : decode cX8_has 1 = .ok (.iload_n 1, 1) := by decide +kernel
theorem dX8_has_2 : decode cX8_has 2 = .ok (.ishr, 1) := by decide +kernel
theorem dX8_has_3 : decode cX8_has 3 = .ok (.iconst 1, 1) := by decide +kernel
theorem dX8_has_4 : decode cX8_has 4 = .ok (.iand, 1) := by decide +kernel
theorem dX8_has_5 : decode cX8_has 5 = .ok (.ifCond .eq 7, 3) := by decide +kernel
theorem dX8_has_8 : decode cX8_has 8 = .ok (.iconst 1, 1) := by decide +kernel
theorem dX8_has_9 : decode cX8_has 9 = .ok (.goto 4, 3) := by decide +kernel
theorem dX8_has_12 : decode cX8_has 12 = .ok (.iconst 0, 1) := by decide +kernel
theorem dX8_has_13 : decode cX8_has 13 = .ok (.ireturn, 1) := by decide +kernel
theorem dX8_without_0 : decode cX8_without 0 = .ok (.iload_n 0, 1) := by decide +kernel
theorem dX8_without_1 : decode cX8_without 1 = .ok (.iconst 1, 1) := by decide +kernel
theorem dX8_without_2 : decode cX8_without 2 = .ok (.iload_n 1, 1) := by decide +kernel
theorem dX8_without_3 : decode cX8_without 3 = .ok (.ishl, 1) := by decide +kernel
theorem dX8_without_4 : decode cX8_without 4 = .ok (.iconst (-1), 1) := by decide +kernel
theorem dX8_without_5 : decode cX8_without 5 = .ok (.ixor, 1) := by decide +kernel
theorem dX8_without_6 : decode cX8_without 6 = .ok (.iand, 1) := by decide +kernel
theorem dX8_without_7 : decode cX8_without 7 = .ok (.ireturn, 1) := by decide +kernel
theorem dX8_spot_0 : decode cX8_spot 0 = .ok (.iload_n 0, 1) := by decide +kernel
theorem dX8_spot_1 : decode cX8_spot 1 = .ok (.bipush 6, 2) := by decide +kernel
theorem dX8_spot_3 : decode cX8_spot 3 = .ok (.imul, 1) := by decide +kernel
theorem dX8_spot_4 : decode cX8_spot 4 = .ok (.iload_n 1, 1) := by decide +kernel
theorem dX8_spot_5 : decode cX8_spot 5 = .ok (.iadd, 1) := by decide +kernel
theorem dX8_spot_6 : decode cX8_spot 6 = .ok (.ireturn, 1) := by decide +kernel
theorem dX8_doorOrNotFound_0 : decode cX8_doorOrNotFound 0 = .ok (.iload_n 0, 1) := by decide +kernel
theorem dX8_doorOrNotFound_1 : decode cX8_doorOrNotFound 1 = .ok (.bipush 10, 2) := by decide +kernel
theorem dX8_doorOrNotFound_3 : decode cX8_doorOrNotFound 3 = .ok (.if_icmp .ne 8, 3) := by decide +kernel
theorem dX8_doorOrNotFound_6 : decode cX8_doorOrNotFound 6 = .ok (.bipush (-4), 2) := by decide +kernel
theorem dX8_doorOrNotFound_8 : decode cX8_doorOrNotFound 8 = .ok (.goto 4, 3) := by decide +kernel
theorem dX8_doorOrNotFound_11 : decode cX8_doorOrNotFound 11 = .ok (.iload_n 0, 1) := by decide +kernel
theorem dX8_doorOrNotFound_12 : decode cX8_doorOrNotFound 12 = .ok (.ireturn, 1) := by decide +kernel
theorem dX8_runDeedAt_0 : decode cX8_runDeedAt 0 = .ok (.aload_n 0, 1) := by decide +kernel
theorem dX8_runDeedAt_1 : decode cX8_runDeedAt 1 = .ok (.getfield 33, 3) := by decide +kernel
theorem dX8_runDeedAt_4 : decode cX8_runDeedAt 4 = .ok (.iload_n 1, 1) := by decide +kernel
theorem dX8_runDeedAt_5 : decode cX8_runDeedAt 5 = .ok (.invokevirtual 280, 3) := by decide +kernel
theorem dX8_runDeedAt_8 : decode cX8_runDeedAt 8 = .ok (.istore_n 2, 1) := by decide +kernel
theorem dX8_runDeedAt_9 : decode cX8_runDeedAt 9 = .ok (.aload_n 0, 1) := by decide +kernel
theorem dX8_runDeedAt_10 : decode cX8_runDeedAt 10 = .ok (.getfield 33, 3) := by decide +kernel
theorem dX8_runDeedAt_13 : decode cX8_runDeedAt 13 = .ok (.iload_n 1, 1) := by decide +kernel
theorem dX8_runDeedAt_14 : decode cX8_runDeedAt 14 = .ok (.invokevirtual 283, 3) := by decide +kernel
theorem dX8_runDeedAt_17 : decode cX8_runDeedAt 17 = .ok (.istore_n 3, 1) := by decide +kernel
theorem dX8_runDeedAt_18 : decode cX8_runDeedAt 18 = .ok (.aload_n 0, 1) := by decide +kernel
theorem dX8_runDeedAt_19 : decode cX8_runDeedAt 19 = .ok (.getfield 33, 3) := by decide +kernel
theorem dX8_runDeedAt_22 : decode cX8_runDeedAt 22 = .ok (.iload_n 1, 1) := by decide +kernel
theorem dX8_runDeedAt_23 : decode cX8_runDeedAt 23 = .ok (.invokevirtual 286, 3) := by decide +kernel
theorem dX8_runDeedAt_26 : decode cX8_runDeedAt 26 = .ok (.ifCond .ne 29, 3) := by decide +kernel
theorem dX8_runDeedAt_29 : decode cX8_runDeedAt 29 = .ok (.iload_n 3, 1) := by decide +kernel
theorem dX8_runDeedAt_30 : decode cX8_runDeedAt 30 = .ok (.bipush 111, 2) := by decide +kernel
theorem dX8_runDeedAt_32 : decode cX8_runDeedAt 32 = .ok (.if_icmp .ne 14, 3) := by decide +kernel
theorem dX8_runDeedAt_35 : decode cX8_runDeedAt 35 = .ok (.aload_n 0, 1) := by decide +kernel
theorem dX8_runDeedAt_36 : decode cX8_runDeedAt 36 = .ok (.getfield 12, 3) := by decide +kernel
theorem dX8_runDeedAt_39 : decode cX8_runDeedAt 39 = .ok (.iload_n 2, 1) := by decide +kernel
theorem dX8_runDeedAt_40 : decode cX8_runDeedAt 40 = .ok (.invokevirtual 59, 3) := by decide +kernel
theorem dX8_runDeedAt_43 : decode cX8_runDeedAt 43 = .ok (.goto 11, 3) := by decide +kernel
theorem dX8_runDeedAt_46 : decode cX8_runDeedAt 46 = .ok (.aload_n 0, 1) := by decide +kernel
theorem dX8_runDeedAt_47 : decode cX8_runDeedAt 47 = .ok (.getfield 12, 3) := by decide +kernel
theorem dX8_runDeedAt_50 : decode cX8_runDeedAt 50 = .ok (.iload_n 2, 1) := by decide +kernel
theorem dX8_runDeedAt_51 : decode cX8_runDeedAt 51 = .ok (.invokevirtual 63, 3) := by decide +kernel
theorem dX8_runDeedAt_54 : decode cX8_runDeedAt 54 = .ok (.ireturn, 1) := by decide +kernel
theorem dX8_runDeedAt_55 : decode cX8_runDeedAt 55 = .ok (.aload_n 0, 1) := by decide +kernel
theorem dX8_runDeedAt_56 : decode cX8_runDeedAt 56 = .ok (.getfield 33, 3) := by decide +kernel
theorem dX8_runDeedAt_59 : decode cX8_runDeedAt 59 = .ok (.iload_n 1, 1) := by decide +kernel
theorem dX8_runDeedAt_60 : decode cX8_runDeedAt 60 = .ok (.invokevirtual 289, 3) := by decide +kernel
theorem dX8_runDeedAt_63 : decode cX8_runDeedAt 63 = .ok (.istore 4, 2) := by decide +kernel
theorem dX8_runDeedAt_65 : decode cX8_runDeedAt 65 = .ok (.iload_n 3, 1) := by decide +kernel
theorem dX8_runDeedAt_66 : decode cX8_runDeedAt 66 = .ok (.bipush 119, 2) := by decide +kernel
theorem dX8_runDeedAt_68 : decode cX8_runDeedAt 68 = .ok (.if_icmp .ne 14, 3) := by decide +kernel
theorem dX8_runDeedAt_71 : decode cX8_runDeedAt 71 = .ok (.aload_n 0, 1) := by decide +kernel
theorem dX8_runDeedAt_72 : decode cX8_runDeedAt 72 = .ok (.getfield 12, 3) := by decide +kernel
theorem dX8_runDeedAt_75 : decode cX8_runDeedAt 75 = .ok (.iload 4, 2) := by decide +kernel
theorem dX8_runDeedAt_77 : decode cX8_runDeedAt 77 = .ok (.iload_n 2, 1) := by decide +kernel
theorem dX8_runDeedAt_78 : decode cX8_runDeedAt 78 = .ok (.invokevirtual 123, 3) := by decide +kernel
theorem dX8_runDeedAt_81 : decode cX8_runDeedAt 81 = .ok (.ireturn, 1) := by decide +kernel
theorem dX8_runDeedAt_82 : decode cX8_runDeedAt 82 = .ok (.iload_n 3, 1) := by decide +kernel
theorem dX8_runDeedAt_83 : decode cX8_runDeedAt 83 = .ok (.bipush 111, 2) := by decide +kernel
theorem dX8_runDeedAt_85 : decode cX8_runDeedAt 85 = .ok (.if_icmp .ne 16, 3) := by decide +kernel
theorem dX8_runDeedAt_88 : decode cX8_runDeedAt 88 = .ok (.aload_n 0, 1) := by decide +kernel
theorem dX8_runDeedAt_89 : decode cX8_runDeedAt 89 = .ok (.getfield 12, 3) := by decide +kernel
theorem dX8_runDeedAt_92 : decode cX8_runDeedAt 92 = .ok (.iload 4, 2) := by decide +kernel
theorem dX8_runDeedAt_94 : decode cX8_runDeedAt 94 = .ok (.iload_n 2, 1) := by decide +kernel
theorem dX8_runDeedAt_95 : decode cX8_runDeedAt 95 = .ok (.invokevirtual 116, 3) := by decide +kernel
theorem dX8_runDeedAt_98 : decode cX8_runDeedAt 98 = .ok (.goto 13, 3) := by decide +kernel
theorem dX8_runDeedAt_101 : decode cX8_runDeedAt 101 = .ok (.aload_n 0, 1) := by decide +kernel
theorem dX8_runDeedAt_102 : decode cX8_runDeedAt 102 = .ok (.getfield 12, 3) := by decide +kernel
theorem dX8_runDeedAt_105 : decode cX8_runDeedAt 105 = .ok (.iload 4, 2) := by decide +kernel
theorem dX8_runDeedAt_107 : decode cX8_runDeedAt 107 = .ok (.iload_n 2, 1) := by decide +kernel
theorem dX8_runDeedAt_108 : decode cX8_runDeedAt 108 = .ok (.invokevirtual 120, 3) := by decide +kernel
theorem dX8_runDeedAt_111 : decode cX8_runDeedAt 111 = .ok (.ireturn, 1) := by decide +kernel
theorem dX8_mostOfAllSets_0 : decode cX8_mostOfAllSets 0 = .ok (.iconst 0, 1) := by decide +kernel
theorem dX8_mostOfAllSets_1 : decode cX8_mostOfAllSets 1 = .ok (.istore_n 1, 1) := by decide +kernel
theorem dX8_mostOfAllSets_2 : decode cX8_mostOfAllSets 2 = .ok (.iconst 0, 1) := by decide +kernel
theorem dX8_mostOfAllSets_3 : decode cX8_mostOfAllSets 3 = .ok (.istore_n 2, 1) := by decide +kernel
theorem dX8_mostOfAllSets_4 : decode cX8_mostOfAllSets 4 = .ok (.iload_n 2, 1) := by decide +kernel
theorem dX8_mostOfAllSets_5 : decode cX8_mostOfAllSets 5 = .ok (.sipush 1023, 3) := by decide +kernel
theorem dX8_mostOfAllSets_8 : decode cX8_mostOfAllSets 8 = .ok (.if_icmp .gt 32, 3) := by decide +kernel
theorem dX8_mostOfAllSets_11 : decode cX8_mostOfAllSets 11 = .ok (.aload_n 0, 1) := by decide +kernel
theorem dX8_mostOfAllSets_12 : decode cX8_mostOfAllSets 12 = .ok (.getfield 12, 3) := by decide +kernel
theorem dX8_mostOfAllSets_15 : decode cX8_mostOfAllSets 15 = .ok (.getfield 66, 3) := by decide +kernel
theorem dX8_mostOfAllSets_18 : decode cX8_mostOfAllSets 18 = .ok (.iload_n 2, 1) := by decide +kernel
theorem dX8_mostOfAllSets_19 : decode cX8_mostOfAllSets 19 = .ok (.invokevirtual 225, 3) := by decide +kernel
theorem dX8_mostOfAllSets_22 : decode cX8_mostOfAllSets 22 = .ok (.ifCond .eq 12, 3) := by decide +kernel
theorem dX8_mostOfAllSets_25 : decode cX8_mostOfAllSets 25 = .ok (.iload_n 1, 1) := by decide +kernel
theorem dX8_mostOfAllSets_26 : decode cX8_mostOfAllSets 26 = .ok (.iload_n 2, 1) := by decide +kernel
theorem dX8_mostOfAllSets_27 : decode cX8_mostOfAllSets 27 = .ok (.invokestatic 195, 3) := by decide +kernel
theorem dX8_mostOfAllSets_30 : decode cX8_mostOfAllSets 30 = .ok (.invokestatic 292, 3) := by decide +kernel
theorem dX8_mostOfAllSets_33 : decode cX8_mostOfAllSets 33 = .ok (.istore_n 1, 1) := by decide +kernel
theorem dX8_mostOfAllSets_34 : decode cX8_mostOfAllSets 34 = .ok (.iinc 2 1, 3) := by decide +kernel
theorem dX8_mostOfAllSets_37 : decode cX8_mostOfAllSets 37 = .ok (.goto (-33), 3) := by decide +kernel
theorem dX8_mostOfAllSets_40 : decode cX8_mostOfAllSets 40 = .ok (.iload_n 1, 1) := by decide +kernel
theorem dX8_mostOfAllSets_41 : decode cX8_mostOfAllSets 41 = .ok (.ireturn, 1) := by decide +kernel
theorem dX8_mostDoorByDoor_0 : decode cX8_mostDoorByDoor 0 = .ok (.iload_n 1, 1) := by decide +kernel
theorem dX8_mostDoorByDoor_1 : decode cX8_mostDoorByDoor 1 = .ok (.bipush 10, 2) := by decide +kernel
theorem dX8_mostDoorByDoor_3 : decode cX8_mostDoorByDoor 3 = .ok (.if_icmp .lt 8, 3) := by decide +kernel
theorem dX8_mostDoorByDoor_6 : decode cX8_mostDoorByDoor 6 = .ok (.iload_n 2, 1) := by decide +kernel
theorem dX8_mostDoorByDoor_7 : decode cX8_mostDoorByDoor 7 = .ok (.invokestatic 195, 3) := by decide +kernel
theorem dX8_mostDoorByDoor_10 : decode cX8_mostDoorByDoor 10 = .ok (.ireturn, 1) := by decide +kernel
theorem dX8_mostDoorByDoor_11 : decode cX8_mostDoorByDoor 11 = .ok (.aload_n 0, 1) := by decide +kernel
theorem dX8_mostDoorByDoor_12 : decode cX8_mostDoorByDoor 12 = .ok (.iload_n 1, 1) := by decide +kernel
theorem dX8_mostDoorByDoor_13 : decode cX8_mostDoorByDoor 13 = .ok (.iconst 1, 1) := by decide +kernel
theorem dX8_mostDoorByDoor_14 : decode cX8_mostDoorByDoor 14 = .ok (.iadd, 1) := by decide +kernel
theorem dX8_mostDoorByDoor_15 : decode cX8_mostDoorByDoor 15 = .ok (.iload_n 2, 1) := by decide +kernel
theorem dX8_mostDoorByDoor_16 : decode cX8_mostDoorByDoor 16 = .ok (.invokestatic 221, 3) := by decide +kernel
theorem dX8_mostDoorByDoor_19 : decode cX8_mostDoorByDoor 19 = .ok (.istore_n 3, 1) := by decide +kernel
theorem dX8_mostDoorByDoor_20 : decode cX8_mostDoorByDoor 20 = .ok (.iload_n 2, 1) := by decide +kernel
theorem dX8_mostDoorByDoor_21 : decode cX8_mostDoorByDoor 21 = .ok (.iconst 1, 1) := by decide +kernel
theorem dX8_mostDoorByDoor_22 : decode cX8_mostDoorByDoor 22 = .ok (.iload_n 1, 1) := by decide +kernel
theorem dX8_mostDoorByDoor_23 : decode cX8_mostDoorByDoor 23 = .ok (.ishl, 1) := by decide +kernel
theorem dX8_mostDoorByDoor_24 : decode cX8_mostDoorByDoor 24 = .ok (.ior, 1) := by decide +kernel
theorem dX8_mostDoorByDoor_25 : decode cX8_mostDoorByDoor 25 = .ok (.istore 4, 2) := by decide +kernel
theorem dX8_mostDoorByDoor_27 : decode cX8_mostDoorByDoor 27 = .ok (.aload_n 0, 1) := by decide +kernel
theorem dX8_mostDoorByDoor_28 : decode cX8_mostDoorByDoor 28 = .ok (.iload 4, 2) := by decide +kernel
theorem dX8_mostDoorByDoor_30 : decode cX8_mostDoorByDoor 30 = .ok (.invokevirtual 225, 3) := by decide +kernel
theorem dX8_mostDoorByDoor_33 : decode cX8_mostDoorByDoor 33 = .ok (.ifCond .ne 5, 3) := by decide +kernel
theorem dX8_mostDoorByDoor_36 : decode cX8_mostDoorByDoor 36 = .ok (.iload_n 3, 1) := by decide +kernel
theorem dX8_mostDoorByDoor_37 : decode cX8_mostDoorByDoor 37 = .ok (.ireturn, 1) := by decide +kernel
theorem dX8_mostDoorByDoor_38 : decode cX8_mostDoorByDoor 38 = .ok (.iload_n 3, 1) := by decide +kernel
theorem dX8_mostDoorByDoor_39 : decode cX8_mostDoorByDoor 39 = .ok (.aload_n 0, 1) := by decide +kernel
theorem dX8_mostDoorByDoor_40 : decode cX8_mostDoorByDoor 40 = .ok (.iload_n 1, 1) := by decide +kernel
theorem dX8_mostDoorByDoor_41 : decode cX8_mostDoorByDoor 41 = .ok (.iconst 1, 1) := by decide +kernel
theorem dX8_mostDoorByDoor_42 : decode cX8_mostDoorByDoor 42 = .ok (.iadd, 1) := by decide +kernel
theorem dX8_mostDoorByDoor_43 : decode cX8_mostDoorByDoor 43 = .ok (.iload 4, 2) := by decide +kernel
theorem dX8_mostDoorByDoor_45 : decode cX8_mostDoorByDoor 45 = .ok (.invokestatic 221, 3) := by decide +kernel
theorem dX8_mostDoorByDoor_48 : decode cX8_mostDoorByDoor 48 = .ok (.invokestatic 292, 3) := by decide +kernel
theorem dX8_mostDoorByDoor_51 : decode cX8_mostDoorByDoor 51 = .ok (.ireturn, 1) := by decide +kernel
theorem dX9_init_0 : decode cX9_init 0 = .ok (.aload_n 0, 1) := by decide +kernel
theorem dX9_init_1 : decode cX9_init 1 = .ok (.invokespecial 1, 3) := by decide +kernel
theorem dX9_init_4 : decode cX9_init 4 = .ok (.aload_n 0, 1) := by decide +kernel
theorem dX9_init_5 : decode cX9_init 5 = .ok (.bipush 85, 2) := by decide +kernel
theorem dX9_init_7 : decode cX9_init 7 = .ok (.newarray .int, 2) := by decide +kernel
theorem dX9_init_9 : decode cX9_init 9 = .ok (.putfield 7, 3) := by decide +kernel
theorem dX9_init_12 : decode cX9_init 12 = .ok (.aload_n 0, 1) := by decide +kernel
theorem dX9_init_13 : decode cX9_init 13 = .ok (.bipush 85, 2) := by decide +kernel
theorem dX9_init_15 : decode cX9_init 15 = .ok (.newarray .int, 2) := by decide +kernel
theorem dX9_init_17 : decode cX9_init 17 = .ok (.putfield 13, 3) := by decide +kernel
theorem dX9_init_20 : decode cX9_init 20 = .ok (.aload_n 0, 1) := by decide +kernel
theorem dX9_init_21 : decode cX9_init 21 = .ok (.sipush 340, 3) := by decide +kernel
theorem dX9_init_24 : decode cX9_init 24 = .ok (.newarray .int, 2) := by decide +kernel
theorem dX9_init_26 : decode cX9_init 26 = .ok (.putfield 16, 3) := by decide +kernel
theorem dX9_init_29 : decode cX9_init 29 = .ok (.aload_n 0, 1) := by decide +kernel
theorem dX9_init_30 : decode cX9_init 30 = .ok (.bipush 85, 2) := by decide +kernel
theorem dX9_init_32 : decode cX9_init 32 = .ok (.newarray .int, 2) := by decide +kernel
theorem dX9_init_34 : decode cX9_init 34 = .ok (.putfield 19, 3) := by decide +kernel
theorem dX9_init_37 : decode cX9_init 37 = .ok (.aload_n 0, 1) := by decide +kernel
theorem dX9_init_38 : decode cX9_init 38 = .ok (.bipush 60, 2) := by decide +kernel
theorem dX9_init_40 : decode cX9_init 40 = .ok (.newarray .int, 2) := by decide +kernel
theorem dX9_init_42 : decode cX9_init 42 = .ok (.putfield 22, 3) := by decide +kernel
theorem dX9_init_45 : decode cX9_init 45 = .ok (.aload_n 0, 1) := by decide +kernel
theorem dX9_init_46 : decode cX9_init 46 = .ok (.bipush (-4), 2) := by decide +kernel
theorem dX9_init_48 : decode cX9_init 48 = .ok (.putfield 25, 3) := by decide +kernel
theorem dX9_init_51 : decode cX9_init 51 = .ok (.aload_n 0, 1) := by decide +kernel
theorem dX9_init_52 : decode cX9_init 52 = .ok (.bipush (-4), 2) := by decide +kernel
theorem dX9_init_54 : decode cX9_init 54 = .ok (.putfield 29, 3) := by decide +kernel
theorem dX9_init_57 : decode cX9_init 57 = .ok (.aload_n 0, 1) := by decide +kernel
theorem dX9_init_58 : decode cX9_init 58 = .ok (.bipush (-4), 2) := by decide +kernel
theorem dX9_init_60 : decode cX9_init 60 = .ok (.putfield 32, 3) := by decide +kernel
theorem dX9_init_63 : decode cX9_init 63 = .ok (.aload_n 0, 1) := by decide +kernel
theorem dX9_init_64 : decode cX9_init 64 = .ok (.bipush 124, 2) := by decide +kernel
theorem dX9_init_66 : decode cX9_init 66 = .ok (.newarray .int, 2) := by decide +kernel
theorem dX9_init_68 : decode cX9_init 68 = .ok (.putfield 35, 3) := by decide +kernel
theorem dX9_init_71 : decode cX9_init 71 = .ok (.aload_n 0, 1) := by decide +kernel
theorem dX9_init_72 : decode cX9_init 72 = .ok (.sipush 6144, 3) := by decide +kernel
theorem dX9_init_75 : decode cX9_init 75 = .ok (.newarray .int, 2) := by decide +kernel
theorem dX9_init_77 : decode cX9_init 77 = .ok (.putfield 38, 3) := by decide +kernel
theorem dX9_init_80 : decode cX9_init 80 = .ok (.aload_n 0, 1) := by decide +kernel
theorem dX9_init_81 : decode cX9_init 81 = .ok (.sipush 6144, 3) := by decide +kernel
theorem dX9_init_84 : decode cX9_init 84 = .ok (.newarray .int, 2) := by decide +kernel
theorem dX9_init_86 : decode cX9_init 86 = .ok (.putfield 41, 3) := by decide +kernel
theorem dX9_init_89 : decode cX9_init 89 = .ok (.aload_n 0, 1) := by decide +kernel
theorem dX9_init_90 : decode cX9_init 90 = .ok (.getfield 7, 3) := by decide +kernel
theorem dX9_init_93 : decode cX9_init 93 = .ok (.iconst 0, 1) := by decide +kernel
theorem dX9_init_94 : decode cX9_init 94 = .ok (.iconst 3, 1) := by decide +kernel
theorem dX9_init_95 : decode cX9_init 95 = .ok (.iastore, 1) := by decide +kernel
theorem dX9_init_96 : decode cX9_init 96 = .ok (.iconst 0, 1) := by decide +kernel
theorem dX9_init_97 : decode cX9_init 97 = .ok (.istore_n 1, 1) := by decide +kernel
theorem dX9_init_98 : decode cX9_init 98 = .ok (.iload_n 1, 1) := by decide +kernel
theorem dX9_init_99 : decode cX9_init 99 = .ok (.bipush 10, 2) := by decide +kernel
theorem dX9_init_101 : decode cX9_init 101 = .ok (.if_icmp .ge 55, 3) := by decide +kernel
theorem dX9_init_104 : decode cX9_init 104 = .ok (.aload_n 0, 1) := by decide +kernel
theorem dX9_init_105 : decode cX9_init 105 = .ok (.iload_n 1, 1) := by decide +kernel
theorem dX9_init_106 : decode cX9_init 106 = .ok (.iconst 1, 1) := by decide +kernel
theorem dX9_init_107 : decode cX9_init 107 = .ok (.iload_n 1, 1) := by decide +kernel
theorem dX9_init_108 : decode cX9_init 108 = .ok (.bipush 6, 2) := by decide +kernel
theorem dX9_init_110 : decode cX9_init 110 = .ok (.irem, 1) := by decide +kernel
theorem dX9_init_111 : decode cX9_init 111 = .ok (.invokevirtual 44, 3) := by decide +kernel
theorem dX9_init_114 : decode cX9_init 114 = .ok (.aload_n 0, 1) := by decide +kernel
theorem dX9_init_115 : decode cX9_init 115 = .ok (.iload_n 1, 1) := by decide +kernel
theorem dX9_init_116 : decode cX9_init 116 = .ok (.iconst 2, 1) := by decide +kernel
theorem dX9_init_117 : decode cX9_init 117 = .ok (.iload_n 1, 1) := by decide +kernel
theorem dX9_init_118 : decode cX9_init 118 = .ok (.iconst 1, 1) := by decide +kernel
theorem dX9_init_119 : decode cX9_init 119 = .ok (.iadd, 1) := by decide +kernel
theorem dX9_init_120 : decode cX9_init 120 = .ok (.bipush 6, 2) := by decide +kernel
theorem dX9_init_122 : decode cX9_init 122 = .ok (.irem, 1) := by decide +kernel
theorem dX9_init_123 : decode cX9_init 123 = .ok (.invokevirtual 44, 3) := by decide +kernel
theorem dX9_init_126 : decode cX9_init 126 = .ok (.aload_n 0, 1) := by decide +kernel
theorem dX9_init_127 : decode cX9_init 127 = .ok (.iload_n 1, 1) := by decide +kernel
theorem dX9_init_128 : decode cX9_init 128 = .ok (.iconst 3, 1) := by decide +kernel
theorem dX9_init_129 : decode cX9_init 129 = .ok (.iload_n 1, 1) := by decide +kernel
theorem dX9_init_130 : decode cX9_init 130 = .ok (.iconst 1, 1) := by decide +kernel
theorem dX9_init_131 : decode cX9_init 131 = .ok (.iadd, 1) := by decide +kernel
theorem dX9_init_132 : decode cX9_init 132 = .ok (.bipush 10, 2) := by decide +kernel
theorem dX9_init_134 : decode cX9_init 134 = .ok (.irem, 1) := by decide +kernel
theorem dX9_init_135 : decode cX9_init 135 = .ok (.invokevirtual 44, 3) := by decide +kernel
theorem dX9_init_138 : decode cX9_init 138 = .ok (.aload_n 0, 1) := by decide +kernel
theorem dX9_init_139 : decode cX9_init 139 = .ok (.iload_n 1, 1) := by decide +kernel
theorem dX9_init_140 : decode cX9_init 140 = .ok (.iconst 4, 1) := by decide +kernel
theorem dX9_init_141 : decode cX9_init 141 = .ok (.iload_n 1, 1) := by decide +kernel
theorem dX9_init_142 : decode cX9_init 142 = .ok (.iconst 3, 1) := by decide +kernel
theorem dX9_init_143 : decode cX9_init 143 = .ok (.iadd, 1) := by decide +kernel
theorem dX9_init_144 : decode cX9_init 144 = .ok (.bipush 10, 2) := by decide +kernel
theorem dX9_init_146 : decode cX9_init 146 = .ok (.irem, 1) := by decide +kernel
theorem dX9_init_147 : decode cX9_init 147 = .ok (.invokevirtual 44, 3) := by decide +kernel
theorem dX9_init_150 : decode cX9_init 150 = .ok (.iinc 1 1, 3) := by decide +kernel
theorem dX9_init_153 : decode cX9_init 153 = .ok (.goto (-55), 3) := by decide +kernel
theorem dX9_init_156 : decode cX9_init 156 = .ok (.return_, 1) := by decide +kernel
theorem dX9_in_0 : decode cX9_in 0 = .ok (.iload_n 0, 1) := by decide +kernel
theorem dX9_in_1 : decode cX9_in 1 = .ok (.iload_n 1, 1) := by decide +kernel
theorem dX9_in_2 : decode cX9_in 2 = .ok (.if_icmp .lt 12, 3) := by decide +kernel
theorem dX9_in_5 : decode cX9_in 5 = .ok (.iload_n 0, 1) := by decide +kernel
theorem dX9_in_6 : decode cX9_in 6 = .ok (.iload_n 2, 1) := by decide +kernel
theorem dX9_in_7 : decode cX9_in 7 = .ok (.if_icmp .gt 7, 3) := by decide +kernel
theorem dX9_in_10 : decode cX9_in 10 = .ok (.iconst 1, 1) := by decide +kernel
theorem dX9_in_11 : decode cX9_in 11 = .ok (.goto 4, 3) := by decide +kernel
theorem dX9_in_14 : decode cX9_in 14 = .ok (.iconst 0, 1) := by decide +kernel
theorem dX9_in_15 : decode cX9_in 15 = .ok (.ireturn, 1) := by decide +kernel
theorem dX9_isDoor_0 : decode cX9_isDoor 0 = .ok (.iload_n 0, 1) := by decide +kernel
theorem dX9_isDoor_1 : decode cX9_isDoor 1 = .ok (.iconst 0, 1) := by decide +kernel
theorem dX9_isDoor_2 : decode cX9_isDoor 2 = .ok (.bipush 9, 2) := by decide +kernel
theorem dX9_isDoor_4 : decode cX9_isDoor 4 = .ok (.invokestatic 48, 3) := by decide +kernel
theorem dX9_isDoor_7 : decode cX9_isDoor 7 = .ok (.ireturn, 1) := by decide +kernel
theorem dX9_isHall_0 : decode cX9_isHall 0 = .ok (.iload_n 0, 1) := by decide +kernel
theorem dX9_isHall_1 : decode cX9_isHall 1 = .ok (.iconst 0, 1) := by decide +kernel
theorem dX9_isHall_2 : decode cX9_isHall 2 = .ok (.iconst 5, 1) := by decide +kernel
theorem dX9_isHall_3 : decode cX9_isHall 3 = .ok (.invokestatic 48, 3) := by decide +kernel
theorem dX9_isHall_6 : decode cX9_isHall 6 = .ok (.ireturn, 1) := by decide +kernel
theorem dX9_isGuest_0 : decode cX9_isGuest 0 = .ok (.iload_n 0, 1) := by decide +kernel
theorem dX9_isGuest_1 : decode cX9_isGuest 1 = .ok (.iconst 0, 1) := by decide +kernel
theorem dX9_isGuest_2 : decode cX9_isGuest 2 = .ok (.iconst 2, 1) := by decide +kernel
theorem dX9_isGuest_3 : decode cX9_isGuest 3 = .ok (.invokestatic 48, 3) := by decide +kernel
theorem dX9_isGuest_6 : decode cX9_isGuest 6 = .ok (.ireturn, 1) := by decide +kernel
theorem dX9_of_0 : decode cX9_of 0 = .ok (.aload_n 0, 1) := by decide +kernel
theorem dX9_of_1 : decode cX9_of 1 = .ok (.getfield 7, 3) := by decide +kernel
theorem dX9_of_4 : decode cX9_of 4 = .ok (.bipush 6, 2) := by decide +kernel
theorem dX9_of_6 : decode cX9_of 6 = .ok (.bipush 7, 2) := by decide +kernel
theorem dX9_of_8 : decode cX9_of 8 = .ok (.iload_n 1, 1) := by decide +kernel
theorem dX9_of_9 : decode cX9_of 9 = .ok (.imul, 1) := by decide +kernel
theorem dX9_of_10 : decode cX9_of 10 = .ok (.iadd, 1) := by decide +kernel
theorem dX9_of_11 : decode cX9_of 11 = .ok (.iload_n 2, 1) := by decide +kernel
theorem dX9_of_12 : decode cX9_of 12 = .ok (.iadd, 1) := by decide +kernel
theorem dX9_of_13 : decode cX9_of 13 = .ok (.iaload, 1) := by decide +kernel
theorem dX9_of_14 : decode cX9_of 14 = .ok (.ireturn, 1) := by decide +kernel
theorem dX9_lay_0 : decode cX9_lay 0 = .ok (.aload_n 0, 1) := by decide +kernel
theorem dX9_lay_1 : decode cX9_lay 1 = .ok (.getfield 7, 3) := by decide +kernel
theorem dX9_lay_4 : decode cX9_lay 4 = .ok (.bipush 6, 2) := by decide +kernel
theorem dX9_lay_6 : decode cX9_lay 6 = .ok (.bipush 7, 2) := by decide +kernel
theorem dX9_lay_8 : decode cX9_lay 8 = .ok (.iload_n 1, 1) := by decide +kernel
theorem dX9_lay_9 : decode cX9_lay 9 = .ok (.imul, 1) := by decide +kernel
theorem dX9_lay_10 : decode cX9_lay 10 = .ok (.iadd, 1) := by decide +kernel
theorem dX9_lay_11 : decode cX9_lay 11 = .ok (.iload_n 2, 1) := by decide +kernel
theorem dX9_lay_12 : decode cX9_lay 12 = .ok (.iadd, 1) := by decide +kernel
theorem dX9_lay_13 : decode cX9_lay 13 = .ok (.iload_n 3, 1) := by decide +kernel
theorem dX9_lay_14 : decode cX9_lay 14 = .ok (.iastore, 1) := by decide +kernel
theorem dX9_lay_15 : decode cX9_lay 15 = .ok (.return_, 1) := by decide +kernel
theorem dX9_ofGuest_0 : decode cX9_ofGuest 0 = .ok (.aload_n 0, 1) := by decide +kernel
theorem dX9_ofGuest_1 : decode cX9_ofGuest 1 = .ok (.getfield 7, 3) := by decide +kernel
theorem dX9_ofGuest_4 : decode cX9_ofGuest 4 = .ok (.bipush 76, 2) := by decide +kernel
theorem dX9_ofGuest_6 : decode cX9_ofGuest 6 = .ok (.iconst 3, 1) := by decide +kernel
theorem dX9_ofGuest_7 : decode cX9_ofGuest 7 = .ok (.iload_n 1, 1) := by decide +kernel
theorem dX9_ofGuest_8 : decode cX9_ofGuest 8 = .ok (.imul, 1) := by decide +kernel
theorem dX9_ofGuest_9 : decode cX9_ofGuest 9 = .ok (.iadd, 1) := by decide +kernel
theorem dX9_ofGuest_10 : decode cX9_ofGuest 10 = .ok (.iload_n 2, 1) := by decide +kernel
theorem dX9_ofGuest_11 : decode cX9_ofGuest 11 = .ok (.iadd, 1) := by decide +kernel
theorem dX9_ofGuest_12 : decode cX9_ofGuest 12 = .ok (.iaload, 1) := by decide +kernel
theorem dX9_ofGuest_13 : decode cX9_ofGuest 13 = .ok (.ireturn, 1) := by decide +kernel
theorem dX9_isOpen_0 : decode cX9_isOpen 0 = .ok (.aload_n 0, 1) := by decide +kernel
theorem dX9_isOpen_1 : decode cX9_isOpen 1 = .ok (.iload_n 1, 1) := by decide +kernel
theorem dX9_isOpen_2 : decode cX9_isOpen 2 = .ok (.iconst 0, 1) := by decide +kernel
theorem dX9_isOpen_3 : decode cX9_isOpen 3 = .ok (.invokevirtual 52, 3) := by decide +kernel
theorem dX9_isOpen_6 : decode cX9_isOpen 6 = .ok (.iconst 1, 1) := by decide +kernel
theorem dX9_isOpen_7 : decode cX9_isOpen 7 = .ok (.if_icmp .ne 7, 3) := by decide +kernel
theorem dX9_isOpen_10 : decode cX9_isOpen 10 = .ok (.iconst 1, 1) := by decide +kernel
theorem dX9_isOpen_11 : decode cX9_isOpen 11 = .ok (.goto 4, 3) := by decide +kernel
theorem dX9_isOpen_14 : decode cX9_isOpen 14 = .ok (.iconst 0, 1) := by decide +kernel
theorem dX9_isOpen_15 : decode cX9_isOpen 15 = .ok (.ireturn, 1) := by decide +kernel
theorem dX9_joins_0 : decode cX9_joins 0 = .ok (.aload_n 0, 1) := by decide +kernel
theorem dX9_joins_1 : decode cX9_joins 1 = .ok (.iload_n 1, 1) := by decide +kernel
theorem dX9_joins_2 : decode cX9_joins 2 = .ok (.iconst 1, 1) := by decide +kernel
theorem dX9_joins_3 : decode cX9_joins 3 = .ok (.invokevirtual 52, 3) := by decide +kernel
theorem dX9_joins_6 : decode cX9_joins 6 = .ok (.iload_n 2, 1) := by decide +kernel
theorem dX9_joins_7 : decode cX9_joins 7 = .ok (.if_icmp .eq 13, 3) := by decide +kernel
theorem dX9_joins_10 : decode cX9_joins 10 = .ok (.aload_n 0, 1) := by decide +kernel
theorem dX9_joins_11 : decode cX9_joins 11 = .ok (.iload_n 1, 1) := by decide +kernel
theorem dX9_joins_12 : decode cX9_joins 12 = .ok (.iconst 2, 1) := by decide +kernel
theorem dX9_joins_13 : decode cX9_joins 13 = .ok (.invokevirtual 52, 3) := by decide +kernel
theorem dX9_joins_16 : decode cX9_joins 16 = .ok (.iload_n 2, 1) := by decide +kernel
theorem dX9_joins_17 : decode cX9_joins 17 = .ok (.if_icmp .ne 7, 3) := by decide +kernel
theorem dX9_joins_20 : decode cX9_joins 20 = .ok (.iconst 1, 1) := by decide +kernel
theorem dX9_joins_21 : decode cX9_joins 21 = .ok (.goto 4, 3) := by decide +kernel
theorem dX9_joins_24 : decode cX9_joins 24 = .ok (.iconst 0, 1) := by decide +kernel
theorem dX9_joins_25 : decode cX9_joins 25 = .ok (.ireturn, 1) := by decide +kernel
theorem dX9_goesTo_0 : decode cX9_goesTo 0 = .ok (.aload_n 0, 1) := by decide +kernel
theorem dX9_goesTo_1 : decode cX9_goesTo 1 = .ok (.iload_n 1, 1) := by decide +kernel
theorem dX9_goesTo_2 : decode cX9_goesTo 2 = .ok (.iconst 3, 1) := by decide +kernel
theorem dX9_goesTo_3 : decode cX9_goesTo 3 = .ok (.invokevirtual 52, 3) := by decide +kernel
theorem dX9_goesTo_6 : decode cX9_goesTo 6 = .ok (.iload_n 2, 1) := by decide +kernel
theorem dX9_goesTo_7 : decode cX9_goesTo 7 = .ok (.if_icmp .eq 13, 3) := by decide +kernel
theorem dX9_goesTo_10 : decode cX9_goesTo 10 = .ok (.aload_n 0, 1) := by decide +kernel
theorem dX9_goesTo_11 : decode cX9_goesTo 11 = .ok (.iload_n 1, 1) := by decide +kernel
theorem dX9_goesTo_12 : decode cX9_goesTo 12 = .ok (.iconst 4, 1) := by decide +kernel
theorem dX9_goesTo_13 : decode cX9_goesTo 13 = .ok (.invokevirtual 52, 3) := by decide +kernel
theorem dX9_goesTo_16 : decode cX9_goesTo 16 = .ok (.iload_n 2, 1) := by decide +kernel
theorem dX9_goesTo_17 : decode cX9_goesTo 17 = .ok (.if_icmp .ne 7, 3) := by decide +kernel
theorem dX9_goesTo_20 : decode cX9_goesTo 20 = .ok (.iconst 1, 1) := by decide +kernel
theorem dX9_goesTo_21 : decode cX9_goesTo 21 = .ok (.goto 4, 3) := by decide +kernel
theorem dX9_goesTo_24 : decode cX9_goesTo 24 = .ok (.iconst 0, 1) := by decide +kernel
theorem dX9_goesTo_25 : decode cX9_goesTo 25 = .ok (.ireturn, 1) := by decide +kernel
theorem dX9_copyState_0 : decode cX9_copyState 0 = .ok (.iconst 0, 1) := by decide +kernel
theorem dX9_copyState_1 : decode cX9_copyState 1 = .ok (.istore 4, 2) := by decide +kernel
theorem dX9_copyState_3 : decode cX9_copyState 3 = .ok (.iload 4, 2) := by decide +kernel
theorem dX9_copyState_5 : decode cX9_copyState 5 = .ok (.bipush 85, 2) := by decide +kernel
theorem dX9_copyState_7 : decode cX9_copyState 7 = .ok (.if_icmp .ge 21, 3) := by decide +kernel
theorem dX9_copyState_10 : decode cX9_copyState 10 = .ok (.aload_n 2, 1) := by decide +kernel
theorem dX9_copyState_11 : decode cX9_copyState 11 = .ok (.iload_n 3, 1) := by decide +kernel
theorem dX9_copyState_12 : decode cX9_copyState 12 = .ok (.iload 4, 2) := by decide +kernel
theorem dX9_copyState_14 : decode cX9_copyState 14 = .ok (.iadd, 1) := by decide +kernel
theorem dX9_copyState_15 : decode cX9_copyState 15 = .ok (.aload_n 0, 1) := by decide +kernel
theorem dX9_copyState_16 : decode cX9_copyState 16 = .ok (.iload_n 1, 1) := by decide +kernel
theorem dX9_copyState_17 : decode cX9_copyState 17 = .ok (.iload 4, 2) := by decide +kernel
theorem dX9_copyState_19 : decode cX9_copyState 19 = .ok (.iadd, 1) := by decide +kernel
theorem dX9_copyState_20 : decode cX9_copyState 20 = .ok (.iaload, 1) := by decide +kernel
theorem dX9_copyState_21 : decode cX9_copyState 21 = .ok (.iastore, 1) := by decide +kernel
theorem dX9_copyState_22 : decode cX9_copyState 22 = .ok (.iinc 4 1, 3) := by decide +kernel
theorem dX9_copyState_25 : decode cX9_copyState 25 = .ok (.goto (-22), 3) := by decide +kernel
theorem dX9_copyState_28 : decode cX9_copyState 28 = .ok (.return_, 1) := by decide +kernel
theorem dX9_record_0 : decode cX9_record 0 = .ok (.aload_n 0, 1) := by decide +kernel
theorem dX9_record_1 : decode cX9_record 1 = .ok (.getfield 56, 3) := by decide +kernel
theorem dX9_record_4 : decode cX9_record 4 = .ok (.iconst 4, 1) := by decide +kernel
theorem dX9_record_5 : decode cX9_record 5 = .ok (.if_icmp .ne 43, 3) := by decide +kernel
theorem dX9_record_8 : decode cX9_record 8 = .ok (.iconst 0, 1) := by decide +kernel
theorem dX9_record_9 : decode cX9_record 9 = .ok (.istore_n 1, 1) := by decide +kernel
theorem dX9_record_10 : decode cX9_record 10 = .ok (.iload_n 1, 1) := by decide +kernel
theorem dX9_record_11 : decode cX9_record 11 = .ok (.sipush 255, 3) := by decide +kernel
theorem dX9_record_14 : decode cX9_record 14 = .ok (.if_icmp .ge 24, 3) := by decide +kernel
theorem dX9_record_17 : decode cX9_record 17 = .ok (.aload_n 0, 1) := by decide +kernel
theorem dX9_record_18 : decode cX9_record 18 = .ok (.getfield 16, 3) := by decide +kernel
theorem dX9_record_21 : decode cX9_record 21 = .ok (.iload_n 1, 1) := by decide +kernel
theorem dX9_record_22 : decode cX9_record 22 = .ok (.aload_n 0, 1) := by decide +kernel
theorem dX9_record_23 : decode cX9_record 23 = .ok (.getfield 16, 3) := by decide +kernel
theorem dX9_record_26 : decode cX9_record 26 = .ok (.iload_n 1, 1) := by decide +kernel
theorem dX9_record_27 : decode cX9_record 27 = .ok (.bipush 85, 2) := by decide +kernel
theorem dX9_record_29 : decode cX9_record 29 = .ok (.iadd, 1) := by decide +kernel
theorem dX9_record_30 : decode cX9_record 30 = .ok (.iaload, 1) := by decide +kernel
theorem dX9_record_31 : decode cX9_record 31 = .ok (.iastore, 1) := by decide +kernel
theorem dX9_record_32 : decode cX9_record 32 = .ok (.iinc 1 1, 3) := by decide +kernel
theorem dX9_record_35 : decode cX9_record 35 = .ok (.goto (-25), 3) := by decide +kernel
theorem dX9_record_38 : decode cX9_record 38 = .ok (.aload_n 0, 1) := by decide +kernel
theorem dX9_record_39 : decode cX9_record 39 = .ok (.dup, 1) := by decide +kernel
theorem dX9_record_40 : decode cX9_record 40 = .ok (.getfield 56, 3) := by decide +kernel
theorem dX9_record_43 : decode cX9_record 43 = .ok (.iconst 1, 1) := by decide +kernel
theorem dX9_record_44 : decode cX9_record 44 = .ok (.isub, 1) := by decide +kernel
theorem dX9_record_45 : decode cX9_record 45 = .ok (.putfield 56, 3) := by decide +kernel
theorem dX9_record_48 : decode cX9_record 48 = .ok (.aload_n 0, 1) := by decide +kernel
theorem dX9_record_49 : decode cX9_record 49 = .ok (.getfield 7, 3) := by decide +kernel
theorem dX9_record_52 : decode cX9_record 52 = .ok (.iconst 0, 1) := by decide +kernel
theorem dX9_record_53 : decode cX9_record 53 = .ok (.aload_n 0, 1) := by decide +kernel
theorem dX9_record_54 : decode cX9_record 54 = .ok (.getfield 16, 3) := by decide +kernel
theorem dX9_record_57 : decode cX9_record 57 = .ok (.bipush 85, 2) := by decide +kernel
theorem dX9_record_59 : decode cX9_record 59 = .ok (.aload_n 0, 1) := by decide +kernel
theorem dX9_record_60 : decode cX9_record 60 = .ok (.getfield 56, 3) := by decide +kernel
theorem dX9_record_63 : decode cX9_record 63 = .ok (.imul, 1) := by decide +kernel
theorem dX9_record_64 : decode cX9_record 64 = .ok (.invokestatic 59, 3) := by decide +kernel
theorem dX9_record_67 : decode cX9_record 67 = .ok (.aload_n 0, 1) := by decide +kernel
theorem dX9_record_68 : decode cX9_record 68 = .ok (.dup, 1) := by decide +kernel
theorem dX9_record_69 : decode cX9_record 69 = .ok (.getfield 56, 3) := by decide +kernel
theorem dX9_record_72 : decode cX9_record 72 = .ok (.iconst 1, 1) := by decide +kernel
theorem dX9_record_73 : decode cX9_record 73 = .ok (.iadd, 1) := by decide +kernel
theorem dX9_record_74 : decode cX9_record 74 = .ok (.putfield 56, 3) := by decide +kernel
theorem dX9_record_77 : decode cX9_record 77 = .ok (.return_, 1) := by decide +kernel
theorem dX9_undo_0 : decode cX9_undo 0 = .ok (.aload_n 0, 1) := by decide +kernel
theorem dX9_undo_1 : decode cX9_undo 1 = .ok (.getfield 56, 3) := by decide +kernel
theorem dX9_undo_4 : decode cX9_undo 4 = .ok (.ifCond .ne 6, 3) := by decide +kernel
theorem dX9_undo_7 : decode cX9_undo 7 = .ok (.bipush (-2), 2) := by decide +kernel
theorem dX9_undo_9 : decode cX9_undo 9 = .ok (.ireturn, 1) := by decide +kernel
theorem dX9_undo_10 : decode cX9_undo 10 = .ok (.aload_n 0, 1) := by decide +kernel
theorem dX9_undo_11 : decode cX9_undo 11 = .ok (.dup, 1) := by decide +kernel
theorem dX9_undo_12 : decode cX9_undo 12 = .ok (.getfield 56, 3) := by decide +kernel
theorem dX9_undo_15 : decode cX9_undo 15 = .ok (.iconst 1, 1) := by decide +kernel
theorem dX9_undo_16 : decode cX9_undo 16 = .ok (.isub, 1) := by decide +kernel
theorem dX9_undo_17 : decode cX9_undo 17 = .ok (.putfield 56, 3) := by decide +kernel
theorem dX9_undo_20 : decode cX9_undo 20 = .ok (.aload_n 0, 1) := by decide +kernel
theorem dX9_undo_21 : decode cX9_undo 21 = .ok (.getfield 16, 3) := by decide +kernel
theorem dX9_undo_24 : decode cX9_undo 24 = .ok (.bipush 85, 2) := by decide +kernel
theorem dX9_undo_26 : decode cX9_undo 26 = .ok (.aload_n 0, 1) := by decide +kernel
theorem dX9_undo_27 : decode cX9_undo 27 = .ok (.getfield 56, 3) := by decide +kernel
theorem dX9_undo_30 : decode cX9_undo 30 = .ok (.imul, 1) := by decide +kernel
theorem dX9_undo_31 : decode cX9_undo 31 = .ok (.aload_n 0, 1) := by decide +kernel
theorem dX9_undo_32 : decode cX9_undo 32 = .ok (.getfield 7, 3) := by decide +kernel
theorem dX9_undo_35 : decode cX9_undo 35 = .ok (.iconst 0, 1) := by decide +kernel
theorem dX9_undo_36 : decode cX9_undo 36 = .ok (.invokestatic 59, 3) := by decide +kernel
theorem dX9_undo_39 : decode cX9_undo 39 = .ok (.aload_n 0, 1) := by decide +kernel
theorem dX9_undo_40 : decode cX9_undo 40 = .ok (.getfield 56, 3) := by decide +kernel
theorem dX9_undo_43 : decode cX9_undo 43 = .ok (.ireturn, 1) := by decide +kernel
theorem dX9_openSet_0 : decode cX9_openSet 0 = .ok (.iconst 0, 1) := by decide +kernel
theorem dX9_openSet_1 : decode cX9_openSet 1 = .ok (.istore_n 1, 1) := by decide +kernel
theorem dX9_openSet_2 : decode cX9_openSet 2 = .ok (.iconst 0, 1) := by decide +kernel
theorem dX9_openSet_3 : decode cX9_openSet 3 = .ok (.istore_n 2, 1) := by decide +kernel
theorem dX9_openSet_4 : decode cX9_openSet 4 = .ok (.iload_n 2, 1) := by decide +kernel
theorem dX9_openSet_5 : decode cX9_openSet 5 = .ok (.bipush 10, 2) := by decide +kernel
theorem dX9_openSet_7 : decode cX9_openSet 7 = .ok (.if_icmp .ge 20, 3) := by decide +kernel
theorem dX9_openSet_10 : decode cX9_openSet 10 = .ok (.iload_n 1, 1) := by decide +kernel
theorem dX9_openSet_11 : decode cX9_openSet 11 = .ok (.aload_n 0, 1) := by decide +kernel
theorem dX9_openSet_12 : decode cX9_openSet 12 = .ok (.iload_n 2, 1) := by decide +kernel
theorem dX9_openSet_13 : decode cX9_openSet 13 = .ok (.iconst 0, 1) := by decide +kernel
theorem dX9_openSet_14 : decode cX9_openSet 14 = .ok (.invokevirtual 52, 3) := by decide +kernel
theorem dX9_openSet_17 : decode cX9_openSet 17 = .ok (.iload_n 2, 1) := by decide +kernel
theorem dX9_openSet_18 : decode cX9_openSet 18 = .ok (.ishl, 1) := by decide +kernel
theorem dX9_openSet_19 : decode cX9_openSet 19 = .ok (.ior, 1) := by decide +kernel
theorem dX9_openSet_20 : decode cX9_openSet 20 = .ok (.istore_n 1, 1) := by decide +kernel
theorem dX9_openSet_21 : decode cX9_openSet 21 = .ok (.iinc 2 1, 3) := by decide +kernel
theorem dX9_openSet_24 : decode cX9_openSet 24 = .ok (.goto (-20), 3) := by decide +kernel
theorem dX9_openSet_27 : decode cX9_openSet 27 = .ok (.iload_n 1, 1) := by decide +kernel
theorem dX9_openSet_28 : decode cX9_openSet 28 = .ok (.ireturn, 1) := by decide +kernel
theorem dX9_save_0 : decode cX9_save 0 = .ok (.aload_n 0, 1) := by decide +kernel
theorem dX9_save_1 : decode cX9_save 1 = .ok (.getfield 7, 3) := by decide +kernel
theorem dX9_save_4 : decode cX9_save 4 = .ok (.iconst 0, 1) := by decide +kernel
theorem dX9_save_5 : decode cX9_save 5 = .ok (.aload_n 0, 1) := by decide +kernel
theorem dX9_save_6 : decode cX9_save 6 = .ok (.getfield 19, 3) := by decide +kernel
theorem dX9_save_9 : decode cX9_save 9 = .ok (.iconst 0, 1) := by decide +kernel
theorem dX9_save_10 : decode cX9_save 10 = .ok (.invokestatic 59, 3) := by decide +kernel
theorem dX9_save_13 : decode cX9_save 13 = .ok (.aload_n 0, 1) := by decide +kernel
theorem dX9_save_14 : decode cX9_save 14 = .ok (.iconst 1, 1) := by decide +kernel
theorem dX9_save_15 : decode cX9_save 15 = .ok (.putfield 63, 3) := by decide +kernel
theorem dX9_save_18 : decode cX9_save 18 = .ok (.aload_n 0, 1) := by decide +kernel
theorem dX9_save_19 : decode cX9_save 19 = .ok (.invokevirtual 67, 3) := by decide +kernel
theorem dX9_save_22 : decode cX9_save 22 = .ok (.ireturn, 1) := by decide +kernel
theorem dX9_restore_0 : decode cX9_restore 0 = .ok (.aload_n 0, 1) := by decide +kernel
theorem dX9_restore_1 : decode cX9_restore 1 = .ok (.getfield 63, 3) := by decide +kernel
theorem dX9_restore_4 : decode cX9_restore 4 = .ok (.ifCond .ne 6, 3) := by decide +kernel
theorem dX9_restore_7 : decode cX9_restore 7 = .ok (.bipush (-2), 2) := by decide +kernel
theorem dX9_restore_9 : decode cX9_restore 9 = .ok (.ireturn, 1) := by decide +kernel
theorem dX9_restore_10 : decode cX9_restore 10 = .ok (.aload_n 0, 1) := by decide +kernel
theorem dX9_restore_11 : decode cX9_restore 11 = .ok (.invokevirtual 71, 3) := by decide +kernel
theorem dX9_restore_14 : decode cX9_restore 14 = .ok (.aload_n 0, 1) := by decide +kernel
theorem dX9_restore_15 : decode cX9_restore 15 = .ok (.getfield 19, 3) := by decide +kernel
theorem dX9_restore_18 : decode cX9_restore 18 = .ok (.iconst 0, 1) := by decide +kernel
theorem dX9_restore_19 : decode cX9_restore 19 = .ok (.aload_n 0, 1) := by decide +kernel
theorem dX9_restore_20 : decode cX9_restore 20 = .ok (.getfield 7, 3) := by decide +kernel
theorem dX9_restore_23 : decode cX9_restore 23 = .ok (.iconst 0, 1) := by decide +kernel
theorem dX9_restore_24 : decode cX9_restore 24 = .ok (.invokestatic 59, 3) := by decide +kernel
theorem dX9_restore_27 : decode cX9_restore 27 = .ok (.aload_n 0, 1) := by decide +kernel
theorem dX9_restore_28 : decode cX9_restore 28 = .ok (.invokevirtual 67, 3) := by decide +kernel
theorem dX9_restore_31 : decode cX9_restore 31 = .ok (.ireturn, 1) := by decide +kernel
theorem dX9_cordsTo_0 : decode cX9_cordsTo 0 = .ok (.iconst 0, 1) := by decide +kernel
theorem dX9_cordsTo_1 : decode cX9_cordsTo 1 = .ok (.istore_n 3, 1) := by decide +kernel
theorem dX9_cordsTo_2 : decode cX9_cordsTo 2 = .ok (.iconst 0, 1) := by decide +kernel
theorem dX9_cordsTo_3 : decode cX9_cordsTo 3 = .ok (.istore 4, 2) := by decide +kernel
theorem dX9_cordsTo_5 : decode cX9_cordsTo 5 = .ok (.iload 4, 2) := by decide +kernel
theorem dX9_cordsTo_7 : decode cX9_cordsTo 7 = .ok (.bipush 10, 2) := by decide +kernel
theorem dX9_cordsTo_9 : decode cX9_cordsTo 9 = .ok (.if_icmp .ge 40, 3) := by decide +kernel
theorem dX9_cordsTo_12 : decode cX9_cordsTo 12 = .ok (.iload_n 3, 1) := by decide +kernel
theorem dX9_cordsTo_13 : decode cX9_cordsTo 13 = .ok (.aload_n 0, 1) := by decide +kernel
theorem dX9_cordsTo_14 : decode cX9_cordsTo 14 = .ok (.iload 4, 2) := by decide +kernel
theorem dX9_cordsTo_16 : decode cX9_cordsTo 16 = .ok (.iload_n 1, 1) := by decide +kernel
theorem dX9_cordsTo_17 : decode cX9_cordsTo 17 = .ok (.invokevirtual 74, 3) := by decide +kernel
theorem dX9_cordsTo_20 : decode cX9_cordsTo 20 = .ok (.ifCond .eq 20, 3) := by decide +kernel
theorem dX9_cordsTo_23 : decode cX9_cordsTo 23 = .ok (.iload_n 2, 1) := by decide +kernel
theorem dX9_cordsTo_24 : decode cX9_cordsTo 24 = .ok (.ifCond .eq 12, 3) := by decide +kernel
theorem dX9_cordsTo_27 : decode cX9_cordsTo 27 = .ok (.aload_n 0, 1) := by decide +kernel
theorem dX9_cordsTo_28 : decode cX9_cordsTo 28 = .ok (.iload 4, 2) := by decide +kernel
theorem dX9_cordsTo_30 : decode cX9_cordsTo 30 = .ok (.invokevirtual 78, 3) := by decide +kernel
theorem dX9_cordsTo_33 : decode cX9_cordsTo 33 = .ok (.ifCond .eq 7, 3) := by decide +kernel
theorem dX9_cordsTo_36 : decode cX9_cordsTo 36 = .ok (.iconst 1, 1) := by decide +kernel
theorem dX9_cordsTo_37 : decode cX9_cordsTo 37 = .ok (.goto 4, 3) := by decide +kernel
theorem dX9_cordsTo_40 : decode cX9_cordsTo 40 = .ok (.iconst 0, 1) := by decide +kernel
theorem dX9_cordsTo_41 : decode cX9_cordsTo 41 = .ok (.iadd, 1) := by decide +kernel
theorem dX9_cordsTo_42 : decode cX9_cordsTo 42 = .ok (.istore_n 3, 1) := by decide +kernel
theorem dX9_cordsTo_43 : decode cX9_cordsTo 43 = .ok (.iinc 4 1, 3) := by decide +kernel
theorem dX9_cordsTo_46 : decode cX9_cordsTo 46 = .ok (.goto (-41), 3) := by decide +kernel
theorem dX9_cordsTo_49 : decode cX9_cordsTo 49 = .ok (.iload_n 3, 1) := by decide +kernel
theorem dX9_cordsTo_50 : decode cX9_cordsTo 50 = .ok (.ireturn, 1) := by decide +kernel
theorem dX9_reason_0 : decode cX9_reason 0 = .ok (.aload_n 0, 1) := by decide +kernel
theorem dX9_reason_1 : decode cX9_reason 1 = .ok (.iload_n 1, 1) := by decide +kernel
theorem dX9_reason_2 : decode cX9_reason 2 = .ok (.invokevirtual 78, 3) := by decide +kernel
theorem dX9_reason_5 : decode cX9_reason 5 = .ok (.ifCond .eq 7, 3) := by decide +kernel
theorem dX9_reason_8 : decode cX9_reason 8 = .ok (.iconst 1, 1) := by decide +kernel
theorem dX9_reason_9 : decode cX9_reason 9 = .ok (.goto 17, 3) := by decide +kernel
theorem dX9_reason_12 : decode cX9_reason 12 = .ok (.aload_n 0, 1) := by decide +kernel
theorem dX9_reason_13 : decode cX9_reason 13 = .ok (.iload_n 1, 1) := by decide +kernel
theorem dX9_reason_14 : decode cX9_reason 14 = .ok (.iconst 1, 1) := by decide +kernel
theorem dX9_reason_15 : decode cX9_reason 15 = .ok (.invokevirtual 82, 3) := by decide +kernel
theorem dX9_reason_18 : decode cX9_reason 18 = .ok (.ifCond .le 7, 3) := by decide +kernel
theorem dX9_reason_21 : decode cX9_reason 21 = .ok (.iconst 2, 1) := by decide +kernel
theorem dX9_reason_22 : decode cX9_reason 22 = .ok (.goto 4, 3) := by decide +kernel
theorem dX9_reason_25 : decode cX9_reason 25 = .ok (.iconst 0, 1) := by decide +kernel
theorem dX9_reason_26 : decode cX9_reason 26 = .ok (.ireturn, 1) := by decide +kernel
theorem dX9_openIn_0 : decode cX9_openIn 0 = .ok (.iconst 0, 1) := by decide +kernel
theorem dX9_openIn_1 : decode cX9_openIn 1 = .ok (.istore_n 2, 1) := by decide +kernel
theorem dX9_openIn_2 : decode cX9_openIn 2 = .ok (.iconst 0, 1) := by decide +kernel
theorem dX9_openIn_3 : decode cX9_openIn 3 = .ok (.istore_n 3, 1) := by decide +kernel
theorem dX9_openIn_4 : decode cX9_openIn 4 = .ok (.iload_n 3, 1) := by decide +kernel
theorem dX9_openIn_5 : decode cX9_openIn 5 = .ok (.bipush 10, 2) := by decide +kernel
theorem dX9_openIn_7 : decode cX9_openIn 7 = .ok (.if_icmp .ge 34, 3) := by decide +kernel
theorem dX9_openIn_10 : decode cX9_openIn 10 = .ok (.iload_n 2, 1) := by decide +kernel
theorem dX9_openIn_11 : decode cX9_openIn 11 = .ok (.aload_n 0, 1) := by decide +kernel
theorem dX9_openIn_12 : decode cX9_openIn 12 = .ok (.iload_n 3, 1) := by decide +kernel
theorem dX9_openIn_13 : decode cX9_openIn 13 = .ok (.invokevirtual 78, 3) := by decide +kernel
theorem dX9_openIn_16 : decode cX9_openIn 16 = .ok (.ifCond .eq 16, 3) := by decide +kernel
theorem dX9_openIn_19 : decode cX9_openIn 19 = .ok (.aload_n 0, 1) := by decide +kernel
theorem dX9_openIn_20 : decode cX9_openIn 20 = .ok (.iload_n 3, 1) := by decide +kernel
theorem dX9_openIn_21 : decode cX9_openIn 21 = .ok (.iload_n 1, 1) := by decide +kernel
theorem dX9_openIn_22 : decode cX9_openIn 22 = .ok (.invokevirtual 86, 3) := by decide +kernel
theorem dX9_openIn_25 : decode cX9_openIn 25 = .ok (.ifCond .eq 7, 3) := by decide +kernel
theorem dX9_openIn_28 : decode cX9_openIn 28 = .ok (.iconst 1, 1) := by decide +kernel
theorem dX9_openIn_29 : decode cX9_openIn 29 = .ok (.goto 4, 3) := by decide +kernel
theorem dX9_openIn_32 : decode cX9_openIn 32 = .ok (.iconst 0, 1) := by decide +kernel
theorem dX9_openIn_33 : decode cX9_openIn 33 = .ok (.iadd, 1) := by decide +kernel
theorem dX9_openIn_34 : decode cX9_openIn 34 = .ok (.istore_n 2, 1) := by decide +kernel
theorem dX9_openIn_35 : decode cX9_openIn 35 = .ok (.iinc 3 1, 3) := by decide +kernel
theorem dX9_openIn_38 : decode cX9_openIn 38 = .ok (.goto (-34), 3) := by decide +kernel
theorem dX9_openIn_41 : decode cX9_openIn 41 = .ok (.iload_n 2, 1) := by decide +kernel
theorem dX9_openIn_42 : decode cX9_openIn 42 = .ok (.ireturn, 1) := by decide +kernel
theorem dX9_shuts_0 : decode cX9_shuts 0 = .ok (.aload_n 0, 1) := by decide +kernel
theorem dX9_shuts_1 : decode cX9_shuts 1 = .ok (.iload_n 1, 1) := by decide +kernel
theorem dX9_shuts_2 : decode cX9_shuts 2 = .ok (.iconst 0, 1) := by decide +kernel
theorem dX9_shuts_3 : decode cX9_shuts 3 = .ok (.iconst 0, 1) := by decide +kernel
theorem dX9_shuts_4 : decode cX9_shuts 4 = .ok (.invokevirtual 44, 3) := by decide +kernel
theorem dX9_shuts_7 : decode cX9_shuts 7 = .ok (.aload_n 0, 1) := by decide +kernel
theorem dX9_shuts_8 : decode cX9_shuts 8 = .ok (.iload_n 1, 1) := by decide +kernel
theorem dX9_shuts_9 : decode cX9_shuts 9 = .ok (.bipush 6, 2) := by decide +kernel
theorem dX9_shuts_11 : decode cX9_shuts 11 = .ok (.aload_n 0, 1) := by decide +kernel
theorem dX9_shuts_12 : decode cX9_shuts 12 = .ok (.iload_n 1, 1) := by decide +kernel
theorem dX9_shuts_13 : decode cX9_shuts 13 = .ok (.bipush 6, 2) := by decide +kernel
theorem dX9_shuts_15 : decode cX9_shuts 15 = .ok (.invokevirtual 52, 3) := by decide +kernel
theorem dX9_shuts_18 : decode cX9_shuts 18 = .ok (.iconst 1, 1) := by decide +kernel
theorem dX9_shuts_19 : decode cX9_shuts 19 = .ok (.iadd, 1) := by decide +kernel
theorem dX9_shuts_20 : decode cX9_shuts 20 = .ok (.invokevirtual 44, 3) := by decide +kernel
theorem dX9_shuts_23 : decode cX9_shuts 23 = .ok (.aload_n 0, 1) := by decide +kernel
theorem dX9_shuts_24 : decode cX9_shuts 24 = .ok (.getfield 7, 3) := by decide +kernel
theorem dX9_shuts_27 : decode cX9_shuts 27 = .ok (.iload_n 2, 1) := by decide +kernel
theorem dX9_shuts_28 : decode cX9_shuts 28 = .ok (.dup2, 1) := by decide +kernel
theorem dX9_shuts_29 : decode cX9_shuts 29 = .ok (.iaload, 1) := by decide +kernel
theorem dX9_shuts_30 : decode cX9_shuts 30 = .ok (.iconst 1, 1) := by decide +kernel
theorem dX9_shuts_31 : decode cX9_shuts 31 = .ok (.iadd, 1) := by decide +kernel
theorem dX9_shuts_32 : decode cX9_shuts 32 = .ok (.iastore, 1) := by decide +kernel
theorem dX9_shuts_33 : decode cX9_shuts 33 = .ok (.return_, 1) := by decide +kernel
theorem dX9_lowestIn_0 : decode cX9_lowestIn 0 = .ok (.bipush (-4), 2) := by decide +kernel
theorem dX9_lowestIn_2 : decode cX9_lowestIn 2 = .ok (.istore_n 3, 1) := by decide +kernel
theorem dX9_lowestIn_3 : decode cX9_lowestIn 3 = .ok (.bipush 9, 2) := by decide +kernel
theorem dX9_lowestIn_5 : decode cX9_lowestIn 5 = .ok (.istore 4, 2) := by decide +kernel
theorem dX9_lowestIn_7 : decode cX9_lowestIn 7 = .ok (.iload 4, 2) := by decide +kernel
theorem dX9_lowestIn_9 : decode cX9_lowestIn 9 = .ok (.ifCond .lt 41, 3) := by decide +kernel
theorem dX9_lowestIn_12 : decode cX9_lowestIn 12 = .ok (.iload 4, 2) := by decide +kernel
theorem dX9_lowestIn_14 : decode cX9_lowestIn 14 = .ok (.iload_n 2, 1) := by decide +kernel
theorem dX9_lowestIn_15 : decode cX9_lowestIn 15 = .ok (.if_icmp .eq 27, 3) := by decide +kernel
theorem dX9_lowestIn_18 : decode cX9_lowestIn 18 = .ok (.aload_n 0, 1) := by decide +kernel
theorem dX9_lowestIn_19 : decode cX9_lowestIn 19 = .ok (.iload 4, 2) := by decide +kernel
theorem dX9_lowestIn_21 : decode cX9_lowestIn 21 = .ok (.invokevirtual 78, 3) := by decide +kernel
theorem dX9_lowestIn_24 : decode cX9_lowestIn 24 = .ok (.ifCond .eq 18, 3) := by decide +kernel
theorem dX9_lowestIn_27 : decode cX9_lowestIn 27 = .ok (.aload_n 0, 1) := by decide +kernel
theorem dX9_lowestIn_28 : decode cX9_lowestIn 28 = .ok (.iload 4, 2) := by decide +kernel
theorem dX9_lowestIn_30 : decode cX9_lowestIn 30 = .ok (.iload_n 1, 1) := by decide +kernel
theorem dX9_lowestIn_31 : decode cX9_lowestIn 31 = .ok (.invokevirtual 86, 3) := by decide +kernel
theorem dX9_lowestIn_34 : decode cX9_lowestIn 34 = .ok (.ifCond .eq 8, 3) := by decide +kernel
theorem dX9_lowestIn_37 : decode cX9_lowestIn 37 = .ok (.iload 4, 2) := by decide +kernel
theorem dX9_lowestIn_39 : decode cX9_lowestIn 39 = .ok (.goto 4, 3) := by decide +kernel
theorem dX9_lowestIn_42 : decode cX9_lowestIn 42 = .ok (.iload_n 3, 1) := by decide +kernel
theorem dX9_lowestIn_43 : decode cX9_lowestIn 43 = .ok (.istore_n 3, 1) := by decide +kernel
theorem dX9_lowestIn_44 : decode cX9_lowestIn 44 = .ok (.iinc 4 (-1), 3) := by decide +kernel
theorem dX9_lowestIn_47 : decode cX9_lowestIn 47 = .ok (.goto (-40), 3) := by decide +kernel
theorem dX9_lowestIn_50 : decode cX9_lowestIn 50 = .ok (.iload_n 3, 1) := by decide +kernel
theorem dX9_lowestIn_51 : decode cX9_lowestIn 51 = .ok (.ireturn, 1) := by decide +kernel
theorem dX9_opens_0 : decode cX9_opens 0 = .ok (.iconst 0, 1) := by decide +kernel
theorem dX9_opens_1 : decode cX9_opens 1 = .ok (.istore_n 2, 1) := by decide +kernel
theorem dX9_opens_2 : decode cX9_opens 2 = .ok (.aload_n 0, 1) := by decide +kernel
theorem dX9_opens_3 : decode cX9_opens 3 = .ok (.iload_n 1, 1) := by decide +kernel
theorem dX9_opens_4 : decode cX9_opens 4 = .ok (.iconst 0, 1) := by decide +kernel
theorem dX9_opens_5 : decode cX9_opens 5 = .ok (.iconst 1, 1) := by decide +kernel
theorem dX9_opens_6 : decode cX9_opens 6 = .ok (.invokevirtual 44, 3) := by decide +kernel
theorem dX9_opens_9 : decode cX9_opens 9 = .ok (.aload_n 0, 1) := by decide +kernel
theorem dX9_opens_10 : decode cX9_opens 10 = .ok (.iload_n 1, 1) := by decide +kernel
theorem dX9_opens_11 : decode cX9_opens 11 = .ok (.iconst 5, 1) := by decide +kernel
theorem dX9_opens_12 : decode cX9_opens 12 = .ok (.aload_n 0, 1) := by decide +kernel
theorem dX9_opens_13 : decode cX9_opens 13 = .ok (.iload_n 1, 1) := by decide +kernel
theorem dX9_opens_14 : decode cX9_opens 14 = .ok (.iconst 5, 1) := by decide +kernel
theorem dX9_opens_15 : decode cX9_opens 15 = .ok (.invokevirtual 52, 3) := by decide +kernel
theorem dX9_opens_18 : decode cX9_opens 18 = .ok (.iconst 1, 1) := by decide +kernel
theorem dX9_opens_19 : decode cX9_opens 19 = .ok (.iadd, 1) := by decide +kernel
theorem dX9_opens_20 : decode cX9_opens 20 = .ok (.invokevirtual 44, 3) := by decide +kernel
theorem dX9_opens_23 : decode cX9_opens 23 = .ok (.aload_n 0, 1) := by decide +kernel
theorem dX9_opens_24 : decode cX9_opens 24 = .ok (.getfield 7, 3) := by decide +kernel
theorem dX9_opens_27 : decode cX9_opens 27 = .ok (.iconst 1, 1) := by decide +kernel
theorem dX9_opens_28 : decode cX9_opens 28 = .ok (.dup2, 1) := by decide +kernel
theorem dX9_opens_29 : decode cX9_opens 29 = .ok (.iaload, 1) := by decide +kernel
theorem dX9_opens_30 : decode cX9_opens 30 = .ok (.iconst 1, 1) := by decide +kernel
theorem dX9_opens_31 : decode cX9_opens 31 = .ok (.iadd, 1) := by decide +kernel
theorem dX9_opens_32 : decode cX9_opens 32 = .ok (.iastore, 1) := by decide +kernel
theorem dX9_opens_33 : decode cX9_opens 33 = .ok (.iconst 0, 1) := by decide +kernel
theorem dX9_opens_34 : decode cX9_opens 34 = .ok (.istore_n 3, 1) := by decide +kernel
theorem dX9_opens_35 : decode cX9_opens 35 = .ok (.iload_n 3, 1) := by decide +kernel
theorem dX9_opens_36 : decode cX9_opens 36 = .ok (.bipush 10, 2) := by decide +kernel
theorem dX9_opens_38 : decode cX9_opens 38 = .ok (.if_icmp .ge 35, 3) := by decide +kernel
theorem dX9_opens_41 : decode cX9_opens 41 = .ok (.aload_n 0, 1) := by decide +kernel
theorem dX9_opens_42 : decode cX9_opens 42 = .ok (.iload_n 1, 1) := by decide +kernel
theorem dX9_opens_43 : decode cX9_opens 43 = .ok (.iload_n 3, 1) := by decide +kernel
theorem dX9_opens_44 : decode cX9_opens 44 = .ok (.invokevirtual 74, 3) := by decide +kernel
theorem dX9_opens_47 : decode cX9_opens 47 = .ok (.ifCond .eq 20, 3) := by decide +kernel
theorem dX9_opens_50 : decode cX9_opens 50 = .ok (.aload_n 0, 1) := by decide +kernel
theorem dX9_opens_51 : decode cX9_opens 51 = .ok (.iload_n 3, 1) := by decide +kernel
theorem dX9_opens_52 : decode cX9_opens 52 = .ok (.invokevirtual 78, 3) := by decide +kernel
theorem dX9_opens_55 : decode cX9_opens 55 = .ok (.ifCond .eq 12, 3) := by decide +kernel
theorem dX9_opens_58 : decode cX9_opens 58 = .ok (.aload_n 0, 1) := by decide +kernel
theorem dX9_opens_59 : decode cX9_opens 59 = .ok (.iload_n 3, 1) := by decide +kernel
theorem dX9_opens_60 : decode cX9_opens 60 = .ok (.iconst 3, 1) := by decide +kernel
theorem dX9_opens_61 : decode cX9_opens 61 = .ok (.invokevirtual 89, 3) := by decide +kernel
theorem dX9_opens_64 : decode cX9_opens 64 = .ok (.iinc 2 1, 3) := by decide +kernel
theorem dX9_opens_67 : decode cX9_opens 67 = .ok (.iinc 3 1, 3) := by decide +kernel
theorem dX9_opens_70 : decode cX9_opens 70 = .ok (.goto (-35), 3) := by decide +kernel
theorem dX9_opens_73 : decode cX9_opens 73 = .ok (.iconst 0, 1) := by decide +kernel
theorem dX9_opens_74 : decode cX9_opens 74 = .ok (.istore_n 3, 1) := by decide +kernel
theorem dX9_opens_75 : decode cX9_opens 75 = .ok (.iload_n 3, 1) := by decide +kernel
theorem dX9_opens_76 : decode cX9_opens 76 = .ok (.bipush 6, 2) := by decide +kernel
theorem dX9_opens_78 : decode cX9_opens 78 = .ok (.if_icmp .ge 40, 3) := by decide +kernel
theorem dX9_opens_81 : decode cX9_opens 81 = .ok (.aload_n 0, 1) := by decide +kernel
theorem dX9_opens_82 : decode cX9_opens 82 = .ok (.iload_n 3, 1) := by decide +kernel
theorem dX9_opens_83 : decode cX9_opens 83 = .ok (.invokevirtual 93, 3) := by decide +kernel
theorem dX9_opens_86 : decode cX9_opens 86 = .ok (.aload_n 0, 1) := by decide +kernel
theorem dX9_opens_87 : decode cX9_opens 87 = .ok (.getfield 7, 3) := by decide +kernel
theorem dX9_opens_90 : decode cX9_opens 90 = .ok (.iconst 0, 1) := by decide +kernel
theorem dX9_opens_91 : decode cX9_opens 91 = .ok (.iaload, 1) := by decide +kernel
theorem dX9_opens_92 : decode cX9_opens 92 = .ok (.if_icmp .le 20, 3) := by decide +kernel
theorem dX9_opens_95 : decode cX9_opens 95 = .ok (.aload_n 0, 1) := by decide +kernel
theorem dX9_opens_96 : decode cX9_opens 96 = .ok (.aload_n 0, 1) := by decide +kernel
theorem dX9_opens_97 : decode cX9_opens 97 = .ok (.iload_n 3, 1) := by decide +kernel
theorem dX9_opens_98 : decode cX9_opens 98 = .ok (.iload_n 1, 1) := by decide +kernel
theorem dX9_opens_99 : decode cX9_opens 99 = .ok (.invokevirtual 97, 3) := by decide +kernel
theorem dX9_opens_102 : decode cX9_opens 102 = .ok (.iconst 4, 1) := by decide +kernel
theorem dX9_opens_103 : decode cX9_opens 103 = .ok (.invokevirtual 89, 3) := by decide +kernel
theorem dX9_opens_106 : decode cX9_opens 106 = .ok (.iinc 2 1, 3) := by decide +kernel
theorem dX9_opens_109 : decode cX9_opens 109 = .ok (.goto (-28), 3) := by decide +kernel
theorem dX9_opens_112 : decode cX9_opens 112 = .ok (.iinc 3 1, 3) := by decide +kernel
theorem dX9_opens_115 : decode cX9_opens 115 = .ok (.goto (-40), 3) := by decide +kernel
theorem dX9_opens_118 : decode cX9_opens 118 = .ok (.iload_n 2, 1) := by decide +kernel
theorem dX9_opens_119 : decode cX9_opens 119 = .ok (.ireturn, 1) := by decide +kernel
theorem dX9_refuse_0 : decode cX9_refuse 0 = .ok (.aload_n 0, 1) := by decide +kernel
theorem dX9_refuse_1 : decode cX9_refuse 1 = .ok (.getfield 7, 3) := by decide +kernel
theorem dX9_refuse_4 : decode cX9_refuse 4 = .ok (.iconst 5, 1) := by decide +kernel
theorem dX9_refuse_5 : decode cX9_refuse 5 = .ok (.dup2, 1) := by decide +kernel
theorem dX9_refuse_6 : decode cX9_refuse 6 = .ok (.iaload, 1) := by decide +kernel
theorem dX9_refuse_7 : decode cX9_refuse 7 = .ok (.iconst 1, 1) := by decide +kernel
theorem dX9_refuse_8 : decode cX9_refuse 8 = .ok (.iadd, 1) := by decide +kernel
theorem dX9_refuse_9 : decode cX9_refuse 9 = .ok (.iastore, 1) := by decide +kernel
theorem dX9_refuse_10 : decode cX9_refuse 10 = .ok (.iload_n 1, 1) := by decide +kernel
theorem dX9_refuse_11 : decode cX9_refuse 11 = .ok (.ireturn, 1) := by decide +kernel
theorem dX9_openNow_0 : decode cX9_openNow 0 = .ok (.aload_n 0, 1) := by decide +kernel
theorem dX9_openNow_1 : decode cX9_openNow 1 = .ok (.iload_n 1, 1) := by decide +kernel
theorem dX9_openNow_2 : decode cX9_openNow 2 = .ok (.invokevirtual 100, 3) := by decide +kernel
theorem dX9_openNow_5 : decode cX9_openNow 5 = .ok (.istore_n 2, 1) := by decide +kernel
theorem dX9_openNow_6 : decode cX9_openNow 6 = .ok (.iload_n 2, 1) := by decide +kernel
theorem dX9_openNow_7 : decode cX9_openNow 7 = .ok (.ifCond .le 11, 3) := by decide +kernel
theorem dX9_openNow_10 : decode cX9_openNow 10 = .ok (.aload_n 0, 1) := by decide +kernel
theorem dX9_openNow_11 : decode cX9_openNow 11 = .ok (.iload_n 2, 1) := by decide +kernel
theorem dX9_openNow_12 : decode cX9_openNow 12 = .ok (.invokevirtual 103, 3) := by decide +kernel
theorem dX9_openNow_15 : decode cX9_openNow 15 = .ok (.goto 11, 3) := by decide +kernel
theorem dX9_openNow_18 : decode cX9_openNow 18 = .ok (.bipush 10, 2) := by decide +kernel
theorem dX9_openNow_20 : decode cX9_openNow 20 = .ok (.aload_n 0, 1) := by decide +kernel
theorem dX9_openNow_21 : decode cX9_openNow 21 = .ok (.iload_n 1, 1) := by decide +kernel
theorem dX9_openNow_22 : decode cX9_openNow 22 = .ok (.invokevirtual 106, 3) := by decide +kernel
theorem dX9_openNow_25 : decode cX9_openNow 25 = .ok (.iadd, 1) := by decide +kernel
theorem dX9_openNow_26 : decode cX9_openNow 26 = .ok (.ireturn, 1) := by decide +kernel
theorem dX9_shutNow_0 : decode cX9_shutNow 0 = .ok (.aload_n 0, 1) := by decide +kernel
theorem dX9_shutNow_1 : decode cX9_shutNow 1 = .ok (.iload_n 1, 1) := by decide +kernel
theorem dX9_shutNow_2 : decode cX9_shutNow 2 = .ok (.invokevirtual 78, 3) := by decide +kernel
theorem dX9_shutNow_5 : decode cX9_shutNow 5 = .ok (.ifCond .ne 9, 3) := by decide +kernel
theorem dX9_shutNow_8 : decode cX9_shutNow 8 = .ok (.aload_n 0, 1) := by decide +kernel
theorem dX9_shutNow_9 : decode cX9_shutNow 9 = .ok (.iconst 3, 1) := by decide +kernel
theorem dX9_shutNow_10 : decode cX9_shutNow 10 = .ok (.invokevirtual 103, 3) := by decide +kernel
theorem dX9_shutNow_13 : decode cX9_shutNow 13 = .ok (.ireturn, 1) := by decide +kernel
theorem dX9_shutNow_14 : decode cX9_shutNow 14 = .ok (.aload_n 0, 1) := by decide +kernel
theorem dX9_shutNow_15 : decode cX9_shutNow 15 = .ok (.iload_n 1, 1) := by decide +kernel
theorem dX9_shutNow_16 : decode cX9_shutNow 16 = .ok (.iconst 2, 1) := by decide +kernel
theorem dX9_shutNow_17 : decode cX9_shutNow 17 = .ok (.invokevirtual 89, 3) := by decide +kernel
theorem dX9_shutNow_20 : decode cX9_shutNow 20 = .ok (.bipush 10, 2) := by decide +kernel
theorem dX9_shutNow_22 : decode cX9_shutNow 22 = .ok (.ireturn, 1) := by decide +kernel
theorem dX9_isAt_0 : decode cX9_isAt 0 = .ok (.aload_n 0, 1) := by decide +kernel
theorem dX9_isAt_1 : decode cX9_isAt 1 = .ok (.iload_n 2, 1) := by decide +kernel
theorem dX9_isAt_2 : decode cX9_isAt 2 = .ok (.aload_n 0, 1) := by decide +kernel
theorem dX9_isAt_3 : decode cX9_isAt 3 = .ok (.iload_n 1, 1) := by decide +kernel
theorem dX9_isAt_4 : decode cX9_isAt 4 = .ok (.iconst 0, 1) := by decide +kernel
theorem dX9_isAt_5 : decode cX9_isAt 5 = .ok (.invokevirtual 109, 3) := by decide +kernel
theorem dX9_isAt_8 : decode cX9_isAt 8 = .ok (.invokevirtual 86, 3) := by decide +kernel
theorem dX9_isAt_11 : decode cX9_isAt 11 = .ok (.ireturn, 1) := by decide +kernel
theorem dX9_hasKey_0 : decode cX9_hasKey 0 = .ok (.aload_n 0, 1) := by decide +kernel
theorem dX9_hasKey_1 : decode cX9_hasKey 1 = .ok (.iload_n 1, 1) := by decide +kernel
theorem dX9_hasKey_2 : decode cX9_hasKey 2 = .ok (.iconst 1, 1) := by decide +kernel
theorem dX9_hasKey_3 : decode cX9_hasKey 3 = .ok (.invokevirtual 109, 3) := by decide +kernel
theorem dX9_hasKey_6 : decode cX9_hasKey 6 = .ok (.iload_n 2, 1) := by decide +kernel
theorem dX9_hasKey_7 : decode cX9_hasKey 7 = .ok (.ishr, 1) := by decide +kernel
theorem dX9_hasKey_8 : decode cX9_hasKey 8 = .ok (.iconst 1, 1) := by decide +kernel
theorem dX9_hasKey_9 : decode cX9_hasKey 9 = .ok (.iand, 1) := by decide +kernel
theorem dX9_hasKey_10 : decode cX9_hasKey 10 = .ok (.iconst 1, 1) := by decide +kernel
theorem dX9_hasKey_11 : decode cX9_hasKey 11 = .ok (.if_icmp .ne 7, 3) := by decide +kernel
theorem dX9_hasKey_14 : decode cX9_hasKey 14 = .ok (.iconst 1, 1) := by decide +kernel
theorem dX9_hasKey_15 : decode cX9_hasKey 15 = .ok (.goto 4, 3) := by decide +kernel
theorem dX9_hasKey_18 : decode cX9_hasKey 18 = .ok (.iconst 0, 1) := by decide +kernel
theorem dX9_hasKey_19 : decode cX9_hasKey 19 = .ok (.ireturn, 1) := by decide +kernel
theorem dX9_guestOpensNow_0 : decode cX9_guestOpensNow 0 = .ok (.aload_n 0, 1) := by decide +kernel
theorem dX9_guestOpensNow_1 : decode cX9_guestOpensNow 1 = .ok (.iload_n 1, 1) := by decide +kernel
theorem dX9_guestOpensNow_2 : decode cX9_guestOpensNow 2 = .ok (.iload_n 2, 1) := by decide +kernel
theorem dX9_guestOpensNow_3 : decode cX9_guestOpensNow 3 = .ok (.invokevirtual 112, 3) := by decide +kernel
theorem dX9_guestOpensNow_6 : decode cX9_guestOpensNow 6 = .ok (.ifCond .ne 11, 3) := by decide +kernel
theorem dX9_guestOpensNow_9 : decode cX9_guestOpensNow 9 = .ok (.aload_n 0, 1) := by decide +kernel
theorem dX9_guestOpensNow_10 : decode cX9_guestOpensNow 10 = .ok (.iconst 5, 1) := by decide +kernel
theorem dX9_guestOpensNow_11 : decode cX9_guestOpensNow 11 = .ok (.invokevirtual 103, 3) := by decide +kernel
theorem dX9_guestOpensNow_14 : decode cX9_guestOpensNow 14 = .ok (.goto 26, 3) := by decide +kernel
theorem dX9_guestOpensNow_17 : decode cX9_guestOpensNow 17 = .ok (.aload_n 0, 1) := by decide +kernel
theorem dX9_guestOpensNow_18 : decode cX9_guestOpensNow 18 = .ok (.iload_n 1, 1) := by decide +kernel
theorem dX9_guestOpensNow_19 : decode cX9_guestOpensNow 19 = .ok (.iload_n 2, 1) := by decide +kernel
theorem dX9_guestOpensNow_20 : decode cX9_guestOpensNow 20 = .ok (.invokevirtual 115, 3) := by decide +kernel
theorem dX9_guestOpensNow_23 : decode cX9_guestOpensNow 23 = .ok (.ifCond .eq 11, 3) := by decide +kernel
theorem dX9_guestOpensNow_26 : decode cX9_guestOpensNow 26 = .ok (.aload_n 0, 1) := by decide +kernel
theorem dX9_guestOpensNow_27 : decode cX9_guestOpensNow 27 = .ok (.iload_n 2, 1) := by decide +kernel
theorem dX9_guestOpensNow_28 : decode cX9_guestOpensNow 28 = .ok (.invokevirtual 118, 3) := by decide +kernel
theorem dX9_guestOpensNow_31 : decode cX9_guestOpensNow 31 = .ok (.goto 9, 3) := by decide +kernel
theorem dX9_guestOpensNow_34 : decode cX9_guestOpensNow 34 = .ok (.aload_n 0, 1) := by decide +kernel
theorem dX9_guestOpensNow_35 : decode cX9_guestOpensNow 35 = .ok (.bipush 6, 2) := by decide +kernel
theorem dX9_guestOpensNow_37 : decode cX9_guestOpensNow 37 = .ok (.invokevirtual 103, 3) := by decide +kernel
theorem dX9_guestOpensNow_40 : decode cX9_guestOpensNow 40 = .ok (.ireturn, 1) := by decide +kernel
theorem dX9_guestShutsNow_0 : decode cX9_guestShutsNow 0 = .ok (.aload_n 0, 1) := by decide +kernel
theorem dX9_guestShutsNow_1 : decode cX9_guestShutsNow 1 = .ok (.iload_n 1, 1) := by decide +kernel
theorem dX9_guestShutsNow_2 : decode cX9_guestShutsNow 2 = .ok (.iload_n 2, 1) := by decide +kernel
theorem dX9_guestShutsNow_3 : decode cX9_guestShutsNow 3 = .ok (.invokevirtual 112, 3) := by decide +kernel
theorem dX9_guestShutsNow_6 : decode cX9_guestShutsNow 6 = .ok (.ifCond .eq 11, 3) := by decide +kernel
theorem dX9_guestShutsNow_9 : decode cX9_guestShutsNow 9 = .ok (.aload_n 0, 1) := by decide +kernel
theorem dX9_guestShutsNow_10 : decode cX9_guestShutsNow 10 = .ok (.iload_n 2, 1) := by decide +kernel
theorem dX9_guestShutsNow_11 : decode cX9_guestShutsNow 11 = .ok (.invokevirtual 121, 3) := by decide +kernel
theorem dX9_guestShutsNow_14 : decode cX9_guestShutsNow 14 = .ok (.goto 8, 3) := by decide +kernel
theorem dX9_guestShutsNow_17 : decode cX9_guestShutsNow 17 = .ok (.aload_n 0, 1) := by decide +kernel
theorem dX9_guestShutsNow_18 : decode cX9_guestShutsNow 18 = .ok (.iconst 5, 1) := by decide +kernel
theorem dX9_guestShutsNow_19 : decode cX9_guestShutsNow 19 = .ok (.invokevirtual 103, 3) := by decide +kernel
theorem dX9_guestShutsNow_22 : decode cX9_guestShutsNow 22 = .ok (.ireturn, 1) := by decide +kernel
theorem dX9_across_0 : decode cX9_across 0 = .ok (.aload_n 0, 1) := by decide +kernel
theorem dX9_across_1 : decode cX9_across 1 = .ok (.iload_n 1, 1) := by decide +kernel
theorem dX9_across_2 : decode cX9_across 2 = .ok (.iconst 1, 1) := by decide +kernel
theorem dX9_across_3 : decode cX9_across 3 = .ok (.invokevirtual 52, 3) := by decide +kernel
theorem dX9_across_6 : decode cX9_across 6 = .ok (.iload_n 2, 1) := by decide +kernel
theorem dX9_across_7 : decode cX9_across 7 = .ok (.if_icmp .ne 12, 3) := by decide +kernel
theorem dX9_across_10 : decode cX9_across 10 = .ok (.aload_n 0, 1) := by decide +kernel
theorem dX9_across_11 : decode cX9_across 11 = .ok (.iload_n 1, 1) := by decide +kernel
theorem dX9_across_12 : decode cX9_across 12 = .ok (.iconst 2, 1) := by decide +kernel
theorem dX9_across_13 : decode cX9_across 13 = .ok (.invokevirtual 52, 3) := by decide +kernel
theorem dX9_across_16 : decode cX9_across 16 = .ok (.goto 9, 3) := by decide +kernel
theorem dX9_across_19 : decode cX9_across 19 = .ok (.aload_n 0, 1) := by decide +kernel
theorem dX9_across_20 : decode cX9_across 20 = .ok (.iload_n 1, 1) := by decide +kernel
theorem dX9_across_21 : decode cX9_across 21 = .ok (.iconst 1, 1) := by decide +kernel
theorem dX9_across_22 : decode cX9_across 22 = .ok (.invokevirtual 52, 3) := by decide +kernel
theorem dX9_across_25 : decode cX9_across 25 = .ok (.ireturn, 1) := by decide +kernel
theorem dX9_walkNow_0 : decode cX9_walkNow 0 = .ok (.aload_n 0, 1) := by decide +kernel
theorem dX9_walkNow_1 : decode cX9_walkNow 1 = .ok (.iload_n 1, 1) := by decide +kernel
theorem dX9_walkNow_2 : decode cX9_walkNow 2 = .ok (.iload_n 2, 1) := by decide +kernel
theorem dX9_walkNow_3 : decode cX9_walkNow 3 = .ok (.invokevirtual 112, 3) := by decide +kernel
theorem dX9_walkNow_6 : decode cX9_walkNow 6 = .ok (.ifCond .eq 11, 3) := by decide +kernel
theorem dX9_walkNow_9 : decode cX9_walkNow 9 = .ok (.aload_n 0, 1) := by decide +kernel
theorem dX9_walkNow_10 : decode cX9_walkNow 10 = .ok (.iload_n 2, 1) := by decide +kernel
theorem dX9_walkNow_11 : decode cX9_walkNow 11 = .ok (.invokevirtual 78, 3) := by decide +kernel
theorem dX9_walkNow_14 : decode cX9_walkNow 14 = .ok (.ifCond .ne 22, 3) := by decide +kernel
theorem dX9_walkNow_17 : decode cX9_walkNow 17 = .ok (.aload_n 0, 1) := by decide +kernel
theorem dX9_walkNow_18 : decode cX9_walkNow 18 = .ok (.aload_n 0, 1) := by decide +kernel
theorem dX9_walkNow_19 : decode cX9_walkNow 19 = .ok (.iload_n 1, 1) := by decide +kernel
theorem dX9_walkNow_20 : decode cX9_walkNow 20 = .ok (.iload_n 2, 1) := by decide +kernel
theorem dX9_walkNow_21 : decode cX9_walkNow 21 = .ok (.invokevirtual 112, 3) := by decide +kernel
theorem dX9_walkNow_24 : decode cX9_walkNow 24 = .ok (.ifCond .eq 7, 3) := by decide +kernel
theorem dX9_walkNow_27 : decode cX9_walkNow 27 = .ok (.iconst 3, 1) := by decide +kernel
theorem dX9_walkNow_28 : decode cX9_walkNow 28 = .ok (.goto 4, 3) := by decide +kernel
theorem dX9_walkNow_31 : decode cX9_walkNow 31 = .ok (.iconst 5, 1) := by decide +kernel
theorem dX9_walkNow_32 : decode cX9_walkNow 32 = .ok (.invokevirtual 103, 3) := by decide +kernel
theorem dX9_walkNow_35 : decode cX9_walkNow 35 = .ok (.ireturn, 1) := by decide +kernel
theorem dX9_walkNow_36 : decode cX9_walkNow 36 = .ok (.aload_n 0, 1) := by decide +kernel
theorem dX9_walkNow_37 : decode cX9_walkNow 37 = .ok (.iload_n 2, 1) := by decide +kernel
theorem dX9_walkNow_38 : decode cX9_walkNow 38 = .ok (.aload_n 0, 1) := by decide +kernel
theorem dX9_walkNow_39 : decode cX9_walkNow 39 = .ok (.iload_n 1, 1) := by decide +kernel
theorem dX9_walkNow_40 : decode cX9_walkNow 40 = .ok (.iconst 0, 1) := by decide +kernel
theorem dX9_walkNow_41 : decode cX9_walkNow 41 = .ok (.invokevirtual 109, 3) := by decide +kernel
theorem dX9_walkNow_44 : decode cX9_walkNow 44 = .ok (.invokevirtual 124, 3) := by decide +kernel
theorem dX9_walkNow_47 : decode cX9_walkNow 47 = .ok (.istore_n 3, 1) := by decide +kernel
theorem dX9_walkNow_48 : decode cX9_walkNow 48 = .ok (.aload_n 0, 1) := by decide +kernel
theorem dX9_walkNow_49 : decode cX9_walkNow 49 = .ok (.getfield 7, 3) := by decide +kernel
theorem dX9_walkNow_52 : decode cX9_walkNow 52 = .ok (.bipush 76, 2) := by decide +kernel
theorem dX9_walkNow_54 : decode cX9_walkNow 54 = .ok (.iconst 3, 1) := by decide +kernel
theorem dX9_walkNow_55 : decode cX9_walkNow 55 = .ok (.iload_n 1, 1) := by decide +kernel
theorem dX9_walkNow_56 : decode cX9_walkNow 56 = .ok (.imul, 1) := by decide +kernel
theorem dX9_walkNow_57 : decode cX9_walkNow 57 = .ok (.iadd, 1) := by decide +kernel
theorem dX9_walkNow_58 : decode cX9_walkNow 58 = .ok (.iconst 0, 1) := by decide +kernel
theorem dX9_walkNow_59 : decode cX9_walkNow 59 = .ok (.iadd, 1) := by decide +kernel
theorem dX9_walkNow_60 : decode cX9_walkNow 60 = .ok (.iload_n 3, 1) := by decide +kernel
theorem dX9_walkNow_61 : decode cX9_walkNow 61 = .ok (.iastore, 1) := by decide +kernel
theorem dX9_walkNow_62 : decode cX9_walkNow 62 = .ok (.aload_n 0, 1) := by decide +kernel
theorem dX9_walkNow_63 : decode cX9_walkNow 63 = .ok (.getfield 7, 3) := by decide +kernel
theorem dX9_walkNow_66 : decode cX9_walkNow 66 = .ok (.bipush 76, 2) := by decide +kernel
theorem dX9_walkNow_68 : decode cX9_walkNow 68 = .ok (.iconst 3, 1) := by decide +kernel
theorem dX9_walkNow_69 : decode cX9_walkNow 69 = .ok (.iload_n 1, 1) := by decide +kernel
theorem dX9_walkNow_70 : decode cX9_walkNow 70 = .ok (.imul, 1) := by decide +kernel
theorem dX9_walkNow_71 : decode cX9_walkNow 71 = .ok (.iadd, 1) := by decide +kernel
theorem dX9_walkNow_72 : decode cX9_walkNow 72 = .ok (.iconst 2, 1) := by decide +kernel
theorem dX9_walkNow_73 : decode cX9_walkNow 73 = .ok (.iadd, 1) := by decide +kernel
theorem dX9_walkNow_74 : decode cX9_walkNow 74 = .ok (.dup2, 1) := by decide +kernel
theorem dX9_walkNow_75 : decode cX9_walkNow 75 = .ok (.iaload, 1) := by decide +kernel
theorem dX9_walkNow_76 : decode cX9_walkNow 76 = .ok (.iconst 1, 1) := by decide +kernel
theorem dX9_walkNow_77 : decode cX9_walkNow 77 = .ok (.iadd, 1) := by decide +kernel
theorem dX9_walkNow_78 : decode cX9_walkNow 78 = .ok (.iastore, 1) := by decide +kernel
theorem dX9_walkNow_79 : decode cX9_walkNow 79 = .ok (.bipush 10, 2) := by decide +kernel
theorem dX9_walkNow_81 : decode cX9_walkNow 81 = .ok (.iload_n 3, 1) := by decide +kernel
theorem dX9_walkNow_82 : decode cX9_walkNow 82 = .ok (.iadd, 1) := by decide +kernel
theorem dX9_walkNow_83 : decode cX9_walkNow 83 = .ok (.ireturn, 1) := by decide +kernel
theorem dX9_open_0 : decode cX9_open 0 = .ok (.iload_n 1, 1) := by decide +kernel
theorem dX9_open_1 : decode cX9_open 1 = .ok (.invokestatic 127, 3) := by decide +kernel
theorem dX9_open_4 : decode cX9_open 4 = .ok (.ifCond .ne 5, 3) := by decide +kernel
theorem dX9_open_7 : decode cX9_open 7 = .ok (.iconst (-1), 1) := by decide +kernel
theorem dX9_open_8 : decode cX9_open 8 = .ok (.ireturn, 1) := by decide +kernel
theorem dX9_open_9 : decode cX9_open 9 = .ok (.aload_n 0, 1) := by decide +kernel
theorem dX9_open_10 : decode cX9_open 10 = .ok (.invokevirtual 71, 3) := by decide +kernel
theorem dX9_open_13 : decode cX9_open 13 = .ok (.aload_n 0, 1) := by decide +kernel
theorem dX9_open_14 : decode cX9_open 14 = .ok (.iload_n 1, 1) := by decide +kernel
theorem dX9_open_15 : decode cX9_open 15 = .ok (.invokevirtual 118, 3) := by decide +kernel
theorem dX9_open_18 : decode cX9_open 18 = .ok (.ireturn, 1) := by decide +kernel
theorem dX9_shut_0 : decode cX9_shut 0 = .ok (.iload_n 1, 1) := by decide +kernel
theorem dX9_shut_1 : decode cX9_shut 1 = .ok (.invokestatic 127, 3) := by decide +kernel
theorem dX9_shut_4 : decode cX9_shut 4 = .ok (.ifCond .ne 5, 3) := by decide +kernel
theorem dX9_shut_7 : decode cX9_shut 7 = .ok (.iconst (-1), 1) := by decide +kernel
theorem dX9_shut_8 : decode cX9_shut 8 = .ok (.ireturn, 1) := by decide +kernel
theorem dX9_shut_9 : decode cX9_shut 9 = .ok (.aload_n 0, 1) := by decide +kernel
theorem dX9_shut_10 : decode cX9_shut 10 = .ok (.invokevirtual 71, 3) := by decide +kernel
theorem dX9_shut_13 : decode cX9_shut 13 = .ok (.aload_n 0, 1) := by decide +kernel
theorem dX9_shut_14 : decode cX9_shut 14 = .ok (.iload_n 1, 1) := by decide +kernel
theorem dX9_shut_15 : decode cX9_shut 15 = .ok (.invokevirtual 121, 3) := by decide +kernel
theorem dX9_shut_18 : decode cX9_shut 18 = .ok (.ireturn, 1) := by decide +kernel
theorem dX9_guestOpens_0 : decode cX9_guestOpens 0 = .ok (.iload_n 1, 1) := by decide +kernel
theorem dX9_guestOpens_1 : decode cX9_guestOpens 1 = .ok (.invokestatic 130, 3) := by decide +kernel
theorem dX9_guestOpens_4 : decode cX9_guestOpens 4 = .ok (.ifCond .eq 10, 3) := by decide +kernel
theorem dX9_guestOpens_7 : decode cX9_guestOpens 7 = .ok (.iload_n 2, 1) := by decide +kernel
theorem dX9_guestOpens_8 : decode cX9_guestOpens 8 = .ok (.invokestatic 127, 3) := by decide +kernel
theorem dX9_guestOpens_11 : decode cX9_guestOpens 11 = .ok (.ifCond .ne 5, 3) := by decide +kernel
theorem dX9_guestOpens_14 : decode cX9_guestOpens 14 = .ok (.iconst (-1), 1) := by decide +kernel
theorem dX9_guestOpens_15 : decode cX9_guestOpens 15 = .ok (.ireturn, 1) := by decide +kernel
theorem dX9_guestOpens_16 : decode cX9_guestOpens 16 = .ok (.aload_n 0, 1) := by decide +kernel
theorem dX9_guestOpens_17 : decode cX9_guestOpens 17 = .ok (.invokevirtual 71, 3) := by decide +kernel
theorem dX9_guestOpens_20 : decode cX9_guestOpens 20 = .ok (.aload_n 0, 1) := by decide +kernel
theorem dX9_guestOpens_21 : decode cX9_guestOpens 21 = .ok (.iload_n 1, 1) := by decide +kernel
theorem dX9_guestOpens_22 : decode cX9_guestOpens 22 = .ok (.iload_n 2, 1) := by decide +kernel
theorem dX9_guestOpens_23 : decode cX9_guestOpens 23 = .ok (.invokevirtual 133, 3) := by decide +kernel
theorem dX9_guestOpens_26 : decode cX9_guestOpens 26 = .ok (.ireturn, 1) := by decide +kernel
theorem dX9_guestShuts_0 : decode cX9_guestShuts 0 = .ok (.iload_n 1, 1) := by decide +kernel
theorem dX9_guestShuts_1 : decode cX9_guestShuts 1 = .ok (.invokestatic 130, 3) := by decide +kernel
theorem dX9_guestShuts_4 : decode cX9_guestShuts 4 = .ok (.ifCond .eq 10, 3) := by decide +kernel
theorem dX9_guestShuts_7 : decode cX9_guestShuts 7 = .ok (.iload_n 2, 1) := by decide +kernel
theorem dX9_guestShuts_8 : decode cX9_guestShuts 8 = .ok (.invokestatic 127, 3) := by decide +kernel
theorem dX9_guestShuts_11 : decode cX9_guestShuts 11 = .ok (.ifCond .ne 5, 3) := by decide +kernel
theorem dX9_guestShuts_14 : decode cX9_guestShuts 14 = .ok (.iconst (-1), 1) := by decide +kernel
theorem dX9_guestShuts_15 : decode cX9_guestShuts 15 = .ok (.ireturn, 1) := by decide +kernel
theorem dX9_guestShuts_16 : decode cX9_guestShuts 16 = .ok (.aload_n 0, 1) := by decide +kernel
theorem dX9_guestShuts_17 : decode cX9_guestShuts 17 = .ok (.invokevirtual 71, 3) := by decide +kernel
theorem dX9_guestShuts_20 : decode cX9_guestShuts 20 = .ok (.aload_n 0, 1) := by decide +kernel
theorem dX9_guestShuts_21 : decode cX9_guestShuts 21 = .ok (.iload_n 1, 1) := by decide +kernel
theorem dX9_guestShuts_22 : decode cX9_guestShuts 22 = .ok (.iload_n 2, 1) := by decide +kernel
theorem dX9_guestShuts_23 : decode cX9_guestShuts 23 = .ok (.invokevirtual 136, 3) := by decide +kernel
theorem dX9_guestShuts_26 : decode cX9_guestShuts 26 = .ok (.ireturn, 1) := by decide +kernel
theorem dX9_walk_0 : decode cX9_walk 0 = .ok (.iload_n 1, 1) := by decide +kernel
theorem dX9_walk_1 : decode cX9_walk 1 = .ok (.invokestatic 130, 3) := by decide +kernel
theorem dX9_walk_4 : decode cX9_walk 4 = .ok (.ifCond .eq 10, 3) := by decide +kernel
theorem dX9_walk_7 : decode cX9_walk 7 = .ok (.iload_n 2, 1) := by decide +kernel
theorem dX9_walk_8 : decode cX9_walk 8 = .ok (.invokestatic 127, 3) := by decide +kernel
theorem dX9_walk_11 : decode cX9_walk 11 = .ok (.ifCond .ne 5, 3) := by decide +kernel
theorem dX9_walk_14 : decode cX9_walk 14 = .ok (.iconst (-1), 1) := by decide +kernel
theorem dX9_walk_15 : decode cX9_walk 15 = .ok (.ireturn, 1) := by decide +kernel
theorem dX9_walk_16 : decode cX9_walk 16 = .ok (.aload_n 0, 1) := by decide +kernel
theorem dX9_walk_17 : decode cX9_walk 17 = .ok (.invokevirtual 71, 3) := by decide +kernel
theorem dX9_walk_20 : decode cX9_walk 20 = .ok (.aload_n 0, 1) := by decide +kernel
theorem dX9_walk_21 : decode cX9_walk 21 = .ok (.iload_n 1, 1) := by decide +kernel
theorem dX9_walk_22 : decode cX9_walk 22 = .ok (.iload_n 2, 1) := by decide +kernel
theorem dX9_walk_23 : decode cX9_walk 23 = .ok (.invokevirtual 139, 3) := by decide +kernel
theorem dX9_walk_26 : decode cX9_walk 26 = .ok (.ireturn, 1) := by decide +kernel
theorem dX9_cord_0 : decode cX9_cord 0 = .ok (.iload_n 1, 1) := by decide +kernel
theorem dX9_cord_1 : decode cX9_cord 1 = .ok (.invokestatic 127, 3) := by decide +kernel
theorem dX9_cord_4 : decode cX9_cord 4 = .ok (.ifCond .eq 18, 3) := by decide +kernel
theorem dX9_cord_7 : decode cX9_cord 7 = .ok (.iload_n 3, 1) := by decide +kernel
theorem dX9_cord_8 : decode cX9_cord 8 = .ok (.iconst 0, 1) := by decide +kernel
theorem dX9_cord_9 : decode cX9_cord 9 = .ok (.bipush 10, 2) := by decide +kernel
theorem dX9_cord_11 : decode cX9_cord 11 = .ok (.invokestatic 48, 3) := by decide +kernel
theorem dX9_cord_14 : decode cX9_cord 14 = .ok (.ifCond .eq 8, 3) := by decide +kernel
theorem dX9_cord_17 : decode cX9_cord 17 = .ok (.iload_n 3, 1) := by decide +kernel
theorem dX9_cord_18 : decode cX9_cord 18 = .ok (.iload_n 1, 1) := by decide +kernel
theorem dX9_cord_19 : decode cX9_cord 19 = .ok (.if_icmp .ne 5, 3) := by decide +kernel
theorem dX9_cord_22 : decode cX9_cord 22 = .ok (.iconst (-1), 1) := by decide +kernel
theorem dX9_cord_23 : decode cX9_cord 23 = .ok (.ireturn, 1) := by decide +kernel
theorem dX9_cord_24 : decode cX9_cord 24 = .ok (.iload_n 3, 1) := by decide +kernel
theorem dX9_cord_25 : decode cX9_cord 25 = .ok (.bipush 10, 2) := by decide +kernel
theorem dX9_cord_27 : decode cX9_cord 27 = .ok (.if_icmp .ge 23, 3) := by decide +kernel
theorem dX9_cord_30 : decode cX9_cord 30 = .ok (.aload_n 0, 1) := by decide +kernel
theorem dX9_cord_31 : decode cX9_cord 31 = .ok (.iload_n 1, 1) := by decide +kernel
theorem dX9_cord_32 : decode cX9_cord 32 = .ok (.iload_n 2, 1) := by decide +kernel
theorem dX9_cord_33 : decode cX9_cord 33 = .ok (.ifCond .eq 7, 3) := by decide +kernel
theorem dX9_cord_36 : decode cX9_cord 36 = .ok (.iconst 3, 1) := by decide +kernel
theorem dX9_cord_37 : decode cX9_cord 37 = .ok (.goto 4, 3) := by decide +kernel
theorem dX9_cord_40 : decode cX9_cord 40 = .ok (.iconst 4, 1) := by decide +kernel
theorem dX9_cord_41 : decode cX9_cord 41 = .ok (.invokevirtual 52, 3) := by decide +kernel
theorem dX9_cord_44 : decode cX9_cord 44 = .ok (.iload_n 3, 1) := by decide +kernel
theorem dX9_cord_45 : decode cX9_cord 45 = .ok (.if_icmp .ne 5, 3) := by decide +kernel
theorem dX9_cord_48 : decode cX9_cord 48 = .ok (.iconst (-1), 1) := by decide +kernel
theorem dX9_cord_49 : decode cX9_cord 49 = .ok (.ireturn, 1) := by decide +kernel
theorem dX9_cord_50 : decode cX9_cord 50 = .ok (.aload_n 0, 1) := by decide +kernel
theorem dX9_cord_51 : decode cX9_cord 51 = .ok (.invokevirtual 71, 3) := by decide +kernel
theorem dX9_cord_54 : decode cX9_cord 54 = .ok (.iload_n 3, 1) := by decide +kernel
theorem dX9_cord_55 : decode cX9_cord 55 = .ok (.bipush 10, 2) := by decide +kernel
theorem dX9_cord_57 : decode cX9_cord 57 = .ok (.if_icmp .ge 25, 3) := by decide +kernel
theorem dX9_cord_60 : decode cX9_cord 60 = .ok (.aload_n 0, 1) := by decide +kernel
theorem dX9_cord_61 : decode cX9_cord 61 = .ok (.iload_n 1, 1) := by decide +kernel
theorem dX9_cord_62 : decode cX9_cord 62 = .ok (.invokevirtual 78, 3) := by decide +kernel
theorem dX9_cord_65 : decode cX9_cord 65 = .ok (.ifCond .eq 17, 3) := by decide +kernel
theorem dX9_cord_68 : decode cX9_cord 68 = .ok (.aload_n 0, 1) := by decide +kernel
theorem dX9_cord_69 : decode cX9_cord 69 = .ok (.iload_n 3, 1) := by decide +kernel
theorem dX9_cord_70 : decode cX9_cord 70 = .ok (.invokevirtual 78, 3) := by decide +kernel
theorem dX9_cord_73 : decode cX9_cord 73 = .ok (.ifCond .eq 9, 3) := by decide +kernel
theorem dX9_cord_76 : decode cX9_cord 76 = .ok (.aload_n 0, 1) := by decide +kernel
theorem dX9_cord_77 : decode cX9_cord 77 = .ok (.iconst 4, 1) := by decide +kernel
theorem dX9_cord_78 : decode cX9_cord 78 = .ok (.invokevirtual 103, 3) := by decide +kernel
theorem dX9_cord_81 : decode cX9_cord 81 = .ok (.ireturn, 1) := by decide +kernel
theorem dX9_cord_82 : decode cX9_cord 82 = .ok (.aload_n 0, 1) := by decide +kernel
theorem dX9_cord_83 : decode cX9_cord 83 = .ok (.iload_n 1, 1) := by decide +kernel
theorem dX9_cord_84 : decode cX9_cord 84 = .ok (.iload_n 2, 1) := by decide +kernel
theorem dX9_cord_85 : decode cX9_cord 85 = .ok (.ifCond .eq 7, 3) := by decide +kernel
theorem dX9_cord_88 : decode cX9_cord 88 = .ok (.iconst 4, 1) := by decide +kernel
theorem dX9_cord_89 : decode cX9_cord 89 = .ok (.goto 4, 3) := by decide +kernel
theorem dX9_cord_92 : decode cX9_cord 92 = .ok (.iconst 3, 1) := by decide +kernel
theorem dX9_cord_93 : decode cX9_cord 93 = .ok (.iload_n 3, 1) := by decide +kernel
theorem dX9_cord_94 : decode cX9_cord 94 = .ok (.bipush 10, 2) := by decide +kernel
theorem dX9_cord_96 : decode cX9_cord 96 = .ok (.if_icmp .ne 8, 3) := by decide +kernel
theorem dX9_cord_99 : decode cX9_cord 99 = .ok (.bipush (-4), 2) := by decide +kernel
theorem dX9_cord_101 : decode cX9_cord 101 = .ok (.goto 4, 3) := by decide +kernel
theorem dX9_cord_104 : decode cX9_cord 104 = .ok (.iload_n 3, 1) := by decide +kernel
theorem dX9_cord_105 : decode cX9_cord 105 = .ok (.invokevirtual 44, 3) := by decide +kernel
theorem dX9_cord_108 : decode cX9_cord 108 = .ok (.bipush 10, 2) := by decide +kernel
theorem dX9_cord_110 : decode cX9_cord 110 = .ok (.ireturn, 1) := by decide +kernel
theorem dX9_lesserHall_0 : decode cX9_lesserHall 0 = .ok (.aload_n 0, 1) := by decide +kernel
theorem dX9_lesserHall_1 : decode cX9_lesserHall 1 = .ok (.iload_n 1, 1) := by decide +kernel
theorem dX9_lesserHall_2 : decode cX9_lesserHall 2 = .ok (.iconst 1, 1) := by decide +kernel
theorem dX9_lesserHall_3 : decode cX9_lesserHall 3 = .ok (.invokevirtual 52, 3) := by decide +kernel
theorem dX9_lesserHall_6 : decode cX9_lesserHall 6 = .ok (.aload_n 0, 1) := by decide +kernel
theorem dX9_lesserHall_7 : decode cX9_lesserHall 7 = .ok (.iload_n 1, 1) := by decide +kernel
theorem dX9_lesserHall_8 : decode cX9_lesserHall 8 = .ok (.iconst 2, 1) := by decide +kernel
theorem dX9_lesserHall_9 : decode cX9_lesserHall 9 = .ok (.invokevirtual 52, 3) := by decide +kernel
theorem dX9_lesserHall_12 : decode cX9_lesserHall 12 = .ok (.if_icmp .ge 12, 3) := by decide +kernel
theorem dX9_lesserHall_15 : decode cX9_lesserHall 15 = .ok (.aload_n 0, 1) := by decide +kernel
theorem dX9_lesserHall_16 : decode cX9_lesserHall 16 = .ok (.iload_n 1, 1) := by decide +kernel
theorem dX9_lesserHall_17 : decode cX9_lesserHall 17 = .ok (.iconst 1, 1) := by decide +kernel
theorem dX9_lesserHall_18 : decode cX9_lesserHall 18 = .ok (.invokevirtual 52, 3) := by decide +kernel
theorem dX9_lesserHall_21 : decode cX9_lesserHall 21 = .ok (.goto 9, 3) := by decide +kernel
theorem dX9_lesserHall_24 : decode cX9_lesserHall 24 = .ok (.aload_n 0, 1) := by decide +kernel
theorem dX9_lesserHall_25 : decode cX9_lesserHall 25 = .ok (.iload_n 1, 1) := by decide +kernel
theorem dX9_lesserHall_26 : decode cX9_lesserHall 26 = .ok (.iconst 2, 1) := by decide +kernel
theorem dX9_lesserHall_27 : decode cX9_lesserHall 27 = .ok (.invokevirtual 52, 3) := by decide +kernel
theorem dX9_lesserHall_30 : decode cX9_lesserHall 30 = .ok (.ireturn, 1) := by decide +kernel
theorem dX9_greaterHall_0 : decode cX9_greaterHall 0 = .ok (.aload_n 0, 1) := by decide +kernel
theorem dX9_greaterHall_1 : decode cX9_greaterHall 1 = .ok (.iload_n 1, 1) := by decide +kernel
theorem dX9_greaterHall_2 : decode cX9_greaterHall 2 = .ok (.iconst 1, 1) := by decide +kernel
theorem dX9_greaterHall_3 : decode cX9_greaterHall 3 = .ok (.invokevirtual 52, 3) := by decide +kernel
theorem dX9_greaterHall_6 : decode cX9_greaterHall 6 = .ok (.aload_n 0, 1) := by decide +kernel
theorem dX9_greaterHall_7 : decode cX9_greaterHall 7 = .ok (.iload_n 1, 1) := by decide +kernel
theorem dX9_greaterHall_8 : decode cX9_greaterHall 8 = .ok (.iconst 2, 1) := by decide +kernel
theorem dX9_greaterHall_9 : decode cX9_greaterHall 9 = .ok (.invokevirtual 52, 3) := by decide +kernel
theorem dX9_greaterHall_12 : decode cX9_greaterHall 12 = .ok (.iadd, 1) := by decide +kernel
theorem dX9_greaterHall_13 : decode cX9_greaterHall 13 = .ok (.aload_n 0, 1) := by decide +kernel
theorem dX9_greaterHall_14 : decode cX9_greaterHall 14 = .ok (.iload_n 1, 1) := by decide +kernel
theorem dX9_greaterHall_15 : decode cX9_greaterHall 15 = .ok (.invokevirtual 142, 3) := by decide +kernel
theorem dX9_greaterHall_18 : decode cX9_greaterHall 18 = .ok (.isub, 1) := by decide +kernel
theorem dX9_greaterHall_19 : decode cX9_greaterHall 19 = .ok (.ireturn, 1) := by decide +kernel
theorem dX9_join_0 : decode cX9_join 0 = .ok (.iload_n 1, 1) := by decide +kernel
theorem dX9_join_1 : decode cX9_join 1 = .ok (.invokestatic 127, 3) := by decide +kernel
theorem dX9_join_4 : decode cX9_join 4 = .ok (.ifCond .eq 22, 3) := by decide +kernel
theorem dX9_join_7 : decode cX9_join 7 = .ok (.iload_n 2, 1) := by decide +kernel
theorem dX9_join_8 : decode cX9_join 8 = .ok (.invokestatic 145, 3) := by decide +kernel
theorem dX9_join_11 : decode cX9_join 11 = .ok (.ifCond .eq 15, 3) := by decide +kernel
theorem dX9_join_14 : decode cX9_join 14 = .ok (.iload_n 3, 1) := by decide +kernel
theorem dX9_join_15 : decode cX9_join 15 = .ok (.invokestatic 145, 3) := by decide +kernel
theorem dX9_join_18 : decode cX9_join 18 = .ok (.ifCond .eq 8, 3) := by decide +kernel
theorem dX9_join_21 : decode cX9_join 21 = .ok (.iload_n 2, 1) := by decide +kernel
theorem dX9_join_22 : decode cX9_join 22 = .ok (.iload_n 3, 1) := by decide +kernel
theorem dX9_join_23 : decode cX9_join 23 = .ok (.if_icmp .ne 5, 3) := by decide +kernel
theorem dX9_join_26 : decode cX9_join 26 = .ok (.iconst (-1), 1) := by decide +kernel
theorem dX9_join_27 : decode cX9_join 27 = .ok (.ireturn, 1) := by decide +kernel
theorem dX9_join_28 : decode cX9_join 28 = .ok (.aload_n 0, 1) := by decide +kernel
theorem dX9_join_29 : decode cX9_join 29 = .ok (.iload_n 1, 1) := by decide +kernel
theorem dX9_join_30 : decode cX9_join 30 = .ok (.invokevirtual 78, 3) := by decide +kernel
theorem dX9_join_33 : decode cX9_join 33 = .ok (.ifCond .eq 6, 3) := by decide +kernel
theorem dX9_join_36 : decode cX9_join 36 = .ok (.bipush (-2), 2) := by decide +kernel
theorem dX9_join_38 : decode cX9_join 38 = .ok (.ireturn, 1) := by decide +kernel
theorem dX9_join_39 : decode cX9_join 39 = .ok (.aload_n 0, 1) := by decide +kernel
theorem dX9_join_40 : decode cX9_join 40 = .ok (.invokevirtual 71, 3) := by decide +kernel
theorem dX9_join_43 : decode cX9_join 43 = .ok (.bipush 10, 2) := by decide +kernel
theorem dX9_join_45 : decode cX9_join 45 = .ok (.aload_n 0, 1) := by decide +kernel
theorem dX9_join_46 : decode cX9_join 46 = .ok (.iload_n 1, 1) := by decide +kernel
theorem dX9_join_47 : decode cX9_join 47 = .ok (.invokevirtual 142, 3) := by decide +kernel
theorem dX9_join_50 : decode cX9_join 50 = .ok (.imul, 1) := by decide +kernel
theorem dX9_join_51 : decode cX9_join 51 = .ok (.aload_n 0, 1) := by decide +kernel
theorem dX9_join_52 : decode cX9_join 52 = .ok (.iload_n 1, 1) := by decide +kernel
theorem dX9_join_53 : decode cX9_join 53 = .ok (.invokevirtual 148, 3) := by decide +kernel
theorem dX9_join_56 : decode cX9_join 56 = .ok (.iadd, 1) := by decide +kernel
theorem dX9_join_57 : decode cX9_join 57 = .ok (.istore 4, 2) := by decide +kernel
theorem dX9_join_59 : decode cX9_join 59 = .ok (.aload_n 0, 1) := by decide +kernel
theorem dX9_join_60 : decode cX9_join 60 = .ok (.iload_n 1, 1) := by decide +kernel
theorem dX9_join_61 : decode cX9_join 61 = .ok (.iconst 1, 1) := by decide +kernel
theorem dX9_join_62 : decode cX9_join 62 = .ok (.iload_n 2, 1) := by decide +kernel
theorem dX9_join_63 : decode cX9_join 63 = .ok (.invokevirtual 44, 3) := by decide +kernel
theorem dX9_join_66 : decode cX9_join 66 = .ok (.aload_n 0, 1) := by decide +kernel
theorem dX9_join_67 : decode cX9_join 67 = .ok (.iload_n 1, 1) := by decide +kernel
theorem dX9_join_68 : decode cX9_join 68 = .ok (.iconst 2, 1) := by decide +kernel
theorem dX9_join_69 : decode cX9_join 69 = .ok (.iload_n 3, 1) := by decide +kernel
theorem dX9_join_70 : decode cX9_join 70 = .ok (.invokevirtual 44, 3) := by decide +kernel
theorem dX9_join_73 : decode cX9_join 73 = .ok (.iload 4, 2) := by decide +kernel
theorem dX9_join_75 : decode cX9_join 75 = .ok (.ireturn, 1) := by decide +kernel
theorem dX9_keys_0 : decode cX9_keys 0 = .ok (.iload_n 1, 1) := by decide +kernel
theorem dX9_keys_1 : decode cX9_keys 1 = .ok (.invokestatic 130, 3) := by decide +kernel
theorem dX9_keys_4 : decode cX9_keys 4 = .ok (.ifCond .eq 14, 3) := by decide +kernel
theorem dX9_keys_7 : decode cX9_keys 7 = .ok (.iload_n 2, 1) := by decide +kernel
theorem dX9_keys_8 : decode cX9_keys 8 = .ok (.iconst 0, 1) := by decide +kernel
theorem dX9_keys_9 : decode cX9_keys 9 = .ok (.sipush 1023, 3) := by decide +kernel
theorem dX9_keys_12 : decode cX9_keys 12 = .ok (.invokestatic 48, 3) := by decide +kernel
theorem dX9_keys_15 : decode cX9_keys 15 = .ok (.ifCond .ne 5, 3) := by decide +kernel
theorem dX9_keys_18 : decode cX9_keys 18 = .ok (.iconst (-1), 1) := by decide +kernel
theorem dX9_keys_19 : decode cX9_keys 19 = .ok (.ireturn, 1) := by decide +kernel
theorem dX9_keys_20 : decode cX9_keys 20 = .ok (.aload_n 0, 1) := by decide +kernel
theorem dX9_keys_21 : decode cX9_keys 21 = .ok (.invokevirtual 71, 3) := by decide +kernel
theorem dX9_keys_24 : decode cX9_keys 24 = .ok (.aload_n 0, 1) := by decide +kernel
theorem dX9_keys_25 : decode cX9_keys 25 = .ok (.iload_n 1, 1) := by decide +kernel
theorem dX9_keys_26 : decode cX9_keys 26 = .ok (.iconst 1, 1) := by decide +kernel
theorem dX9_keys_27 : decode cX9_keys 27 = .ok (.invokevirtual 109, 3) := by decide +kernel
theorem dX9_keys_30 : decode cX9_keys 30 = .ok (.istore_n 3, 1) := by decide +kernel
theorem dX9_keys_31 : decode cX9_keys 31 = .ok (.aload_n 0, 1) := by decide +kernel
theorem dX9_keys_32 : decode cX9_keys 32 = .ok (.getfield 7, 3) := by decide +kernel
theorem dX9_keys_35 : decode cX9_keys 35 = .ok (.bipush 76, 2) := by decide +kernel
theorem dX9_keys_37 : decode cX9_keys 37 = .ok (.iconst 3, 1) := by decide +kernel
theorem dX9_keys_38 : decode cX9_keys 38 = .ok (.iload_n 1, 1) := by decide +kernel
theorem dX9_keys_39 : decode cX9_keys 39 = .ok (.imul, 1) := by decide +kernel
theorem dX9_keys_40 : decode cX9_keys 40 = .ok (.iadd, 1) := by decide +kernel
theorem dX9_keys_41 : decode cX9_keys 41 = .ok (.iconst 1, 1) := by decide +kernel
theorem dX9_keys_42 : decode cX9_keys 42 = .ok (.iadd, 1) := by decide +kernel
theorem dX9_keys_43 : decode cX9_keys 43 = .ok (.iload_n 2, 1) := by decide +kernel
theorem dX9_keys_44 : decode cX9_keys 44 = .ok (.iastore, 1) := by decide +kernel
theorem dX9_keys_45 : decode cX9_keys 45 = .ok (.iload_n 3, 1) := by decide +kernel
theorem dX9_keys_46 : decode cX9_keys 46 = .ok (.ireturn, 1) := by decide +kernel
theorem dX9_draft_0 : decode cX9_draft 0 = .ok (.iload_n 1, 1) := by decide +kernel
theorem dX9_draft_1 : decode cX9_draft 1 = .ok (.iconst 1, 1) := by decide +kernel
theorem dX9_draft_2 : decode cX9_draft 2 = .ok (.bipush 10, 2) := by decide +kernel
theorem dX9_draft_4 : decode cX9_draft 4 = .ok (.invokestatic 48, 3) := by decide +kernel
theorem dX9_draft_7 : decode cX9_draft 7 = .ok (.ifCond .ne 5, 3) := by decide +kernel
theorem dX9_draft_10 : decode cX9_draft 10 = .ok (.iconst (-1), 1) := by decide +kernel
theorem dX9_draft_11 : decode cX9_draft 11 = .ok (.ireturn, 1) := by decide +kernel
theorem dX9_draft_12 : decode cX9_draft 12 = .ok (.aload_n 0, 1) := by decide +kernel
theorem dX9_draft_13 : decode cX9_draft 13 = .ok (.invokevirtual 71, 3) := by decide +kernel
theorem dX9_draft_16 : decode cX9_draft 16 = .ok (.aload_n 0, 1) := by decide +kernel
theorem dX9_draft_17 : decode cX9_draft 17 = .ok (.getfield 7, 3) := by decide +kernel
theorem dX9_draft_20 : decode cX9_draft 20 = .ok (.iconst 0, 1) := by decide +kernel
theorem dX9_draft_21 : decode cX9_draft 21 = .ok (.iaload, 1) := by decide +kernel
theorem dX9_draft_22 : decode cX9_draft 22 = .ok (.istore_n 2, 1) := by decide +kernel
theorem dX9_draft_23 : decode cX9_draft 23 = .ok (.aload_n 0, 1) := by decide +kernel
theorem dX9_draft_24 : decode cX9_draft 24 = .ok (.getfield 7, 3) := by decide +kernel
theorem dX9_draft_27 : decode cX9_draft 27 = .ok (.iconst 0, 1) := by decide +kernel
theorem dX9_draft_28 : decode cX9_draft 28 = .ok (.iload_n 1, 1) := by decide +kernel
theorem dX9_draft_29 : decode cX9_draft 29 = .ok (.iastore, 1) := by decide +kernel
theorem dX9_draft_30 : decode cX9_draft 30 = .ok (.iload_n 2, 1) := by decide +kernel
theorem dX9_draft_31 : decode cX9_draft 31 = .ok (.ireturn, 1) := by decide +kernel
theorem dX9_append_0 : decode cX9_append 0 = .ok (.iload_n 1, 1) := by decide +kernel
theorem dX9_append_1 : decode cX9_append 1 = .ok (.bipush 33, 2) := by decide +kernel
theorem dX9_append_3 : decode cX9_append 3 = .ok (.bipush 126, 2) := by decide +kernel
theorem dX9_append_5 : decode cX9_append 5 = .ok (.invokestatic 48, 3) := by decide +kernel
theorem dX9_append_8 : decode cX9_append 8 = .ok (.ifCond .ne 5, 3) := by decide +kernel
theorem dX9_append_11 : decode cX9_append 11 = .ok (.iconst (-1), 1) := by decide +kernel
theorem dX9_append_12 : decode cX9_append 12 = .ok (.ireturn, 1) := by decide +kernel
theorem dX9_append_13 : decode cX9_append 13 = .ok (.aload_n 0, 1) := by decide +kernel
theorem dX9_append_14 : decode cX9_append 14 = .ok (.getfield 151, 3) := by decide +kernel
theorem dX9_append_17 : decode cX9_append 17 = .ok (.bipush 60, 2) := by decide +kernel
theorem dX9_append_19 : decode cX9_append 19 = .ok (.if_icmp .ne 6, 3) := by decide +kernel
theorem dX9_append_22 : decode cX9_append 22 = .ok (.bipush (-3), 2) := by decide +kernel
theorem dX9_append_24 : decode cX9_append 24 = .ok (.ireturn, 1) := by decide +kernel
theorem dX9_append_25 : decode cX9_append 25 = .ok (.aload_n 0, 1) := by decide +kernel
theorem dX9_append_26 : decode cX9_append 26 = .ok (.getfield 22, 3) := by decide +kernel
theorem dX9_append_29 : decode cX9_append 29 = .ok (.aload_n 0, 1) := by decide +kernel
theorem dX9_append_30 : decode cX9_append 30 = .ok (.getfield 151, 3) := by decide +kernel
theorem dX9_append_33 : decode cX9_append 33 = .ok (.iload_n 1, 1) := by decide +kernel
theorem dX9_append_34 : decode cX9_append 34 = .ok (.iastore, 1) := by decide +kernel
theorem dX9_append_35 : decode cX9_append 35 = .ok (.aload_n 0, 1) := by decide +kernel
theorem dX9_append_36 : decode cX9_append 36 = .ok (.dup, 1) := by decide +kernel
theorem dX9_append_37 : decode cX9_append 37 = .ok (.getfield 151, 3) := by decide +kernel
theorem dX9_append_40 : decode cX9_append 40 = .ok (.iconst 1, 1) := by decide +kernel
theorem dX9_append_41 : decode cX9_append 41 = .ok (.iadd, 1) := by decide +kernel
theorem dX9_append_42 : decode cX9_append 42 = .ok (.putfield 151, 3) := by decide +kernel
theorem dX9_append_45 : decode cX9_append 45 = .ok (.aload_n 0, 1) := by decide +kernel
theorem dX9_append_46 : decode cX9_append 46 = .ok (.getfield 151, 3) := by decide +kernel
theorem dX9_append_49 : decode cX9_append 49 = .ok (.ireturn, 1) := by decide +kernel
theorem dX9_clear_0 : decode cX9_clear 0 = .ok (.aload_n 0, 1) := by decide +kernel
theorem dX9_clear_1 : decode cX9_clear 1 = .ok (.getfield 151, 3) := by decide +kernel
theorem dX9_clear_4 : decode cX9_clear 4 = .ok (.istore_n 1, 1) := by decide +kernel
theorem dX9_clear_5 : decode cX9_clear 5 = .ok (.aload_n 0, 1) := by decide +kernel
theorem dX9_clear_6 : decode cX9_clear 6 = .ok (.iconst 0, 1) := by decide +kernel
theorem dX9_clear_7 : decode cX9_clear 7 = .ok (.putfield 151, 3) := by decide +kernel
theorem dX9_clear_10 : decode cX9_clear 10 = .ok (.iload_n 1, 1) := by decide +kernel
theorem dX9_clear_11 : decode cX9_clear 11 = .ok (.ireturn, 1) := by decide +kernel
theorem dX9_sees_0 : decode cX9_sees 0 = .ok (.aload_n 0, 1) := by decide +kernel
theorem dX9_sees_1 : decode cX9_sees 1 = .ok (.getfield 154, 3) := by decide +kernel
theorem dX9_sees_4 : decode cX9_sees 4 = .ok (.aload_n 0, 1) := by decide +kernel
theorem dX9_sees_5 : decode cX9_sees 5 = .ok (.getfield 151, 3) := by decide +kernel
theorem dX9_sees_8 : decode cX9_sees 8 = .ok (.if_icmp .ge 24, 3) := by decide +kernel
theorem dX9_sees_11 : decode cX9_sees 11 = .ok (.aload_n 0, 1) := by decide +kernel
theorem dX9_sees_12 : decode cX9_sees 12 = .ok (.getfield 22, 3) := by decide +kernel
theorem dX9_sees_15 : decode cX9_sees 15 = .ok (.aload_n 0, 1) := by decide +kernel
theorem dX9_sees_16 : decode cX9_sees 16 = .ok (.getfield 154, 3) := by decide +kernel
theorem dX9_sees_19 : decode cX9_sees 19 = .ok (.iaload, 1) := by decide +kernel
theorem dX9_sees_20 : decode cX9_sees 20 = .ok (.iload_n 1, 1) := by decide +kernel
theorem dX9_sees_21 : decode cX9_sees 21 = .ok (.iload_n 2, 1) := by decide +kernel
theorem dX9_sees_22 : decode cX9_sees 22 = .ok (.invokestatic 48, 3) := by decide +kernel
theorem dX9_sees_25 : decode cX9_sees 25 = .ok (.ifCond .eq 7, 3) := by decide +kernel
theorem dX9_sees_28 : decode cX9_sees 28 = .ok (.iconst 1, 1) := by decide +kernel
theorem dX9_sees_29 : decode cX9_sees 29 = .ok (.goto 4, 3) := by decide +kernel
theorem dX9_sees_32 : decode cX9_sees 32 = .ok (.iconst 0, 1) := by decide +kernel
theorem dX9_sees_33 : decode cX9_sees 33 = .ok (.ireturn, 1) := by decide +kernel
theorem dX9_takes_0 : decode cX9_takes 0 = .ok (.aload_n 0, 1) := by decide +kernel
theorem dX9_takes_1 : decode cX9_takes 1 = .ok (.iload_n 1, 1) := by decide +kernel
theorem dX9_takes_2 : decode cX9_takes 2 = .ok (.iload_n 1, 1) := by decide +kernel
theorem dX9_takes_3 : decode cX9_takes 3 = .ok (.invokevirtual 157, 3) := by decide +kernel
theorem dX9_takes_6 : decode cX9_takes 6 = .ok (.istore_n 2, 1) := by decide +kernel
theorem dX9_takes_7 : decode cX9_takes 7 = .ok (.aload_n 0, 1) := by decide +kernel
theorem dX9_takes_8 : decode cX9_takes 8 = .ok (.dup, 1) := by decide +kernel
theorem dX9_takes_9 : decode cX9_takes 9 = .ok (.getfield 154, 3) := by decide +kernel
theorem dX9_takes_12 : decode cX9_takes 12 = .ok (.iload_n 2, 1) := by decide +kernel
theorem dX9_takes_13 : decode cX9_takes 13 = .ok (.ifCond .eq 7, 3) := by decide +kernel
theorem dX9_takes_16 : decode cX9_takes 16 = .ok (.iconst 1, 1) := by decide +kernel
theorem dX9_takes_17 : decode cX9_takes 17 = .ok (.goto 4, 3) := by decide +kernel
theorem dX9_takes_20 : decode cX9_takes 20 = .ok (.iconst 0, 1) := by decide +kernel
theorem dX9_takes_21 : decode cX9_takes 21 = .ok (.iadd, 1) := by decide +kernel
theorem dX9_takes_22 : decode cX9_takes 22 = .ok (.putfield 154, 3) := by decide +kernel
theorem dX9_takes_25 : decode cX9_takes 25 = .ok (.iload_n 2, 1) := by decide +kernel
theorem dX9_takes_26 : decode cX9_takes 26 = .ok (.ireturn, 1) := by decide +kernel
theorem dX9_takesOne_0 : decode cX9_takesOne 0 = .ok (.aload_n 0, 1) := by decide +kernel
theorem dX9_takesOne_1 : decode cX9_takesOne 1 = .ok (.iload_n 1, 1) := by decide +kernel
theorem dX9_takesOne_2 : decode cX9_takesOne 2 = .ok (.iload_n 2, 1) := by decide +kernel
theorem dX9_takesOne_3 : decode cX9_takesOne 3 = .ok (.invokevirtual 157, 3) := by decide +kernel
theorem dX9_takesOne_6 : decode cX9_takesOne 6 = .ok (.ifCond .ne 6, 3) := by decide +kernel
theorem dX9_takesOne_9 : decode cX9_takesOne 9 = .ok (.bipush (-4), 2) := by decide +kernel
theorem dX9_takesOne_11 : decode cX9_takesOne 11 = .ok (.ireturn, 1) := by decide +kernel
theorem dX9_takesOne_12 : decode cX9_takesOne 12 = .ok (.aload_n 0, 1) := by decide +kernel
theorem dX9_takesOne_13 : decode cX9_takesOne 13 = .ok (.dup, 1) := by decide +kernel
theorem dX9_takesOne_14 : decode cX9_takesOne 14 = .ok (.getfield 154, 3) := by decide +kernel
theorem dX9_takesOne_17 : decode cX9_takesOne 17 = .ok (.iconst 1, 1) := by decide +kernel
theorem dX9_takesOne_18 : decode cX9_takesOne 18 = .ok (.iadd, 1) := by decide +kernel
theorem dX9_takesOne_19 : decode cX9_takesOne 19 = .ok (.putfield 154, 3) := by decide +kernel
theorem dX9_takesOne_22 : decode cX9_takesOne 22 = .ok (.aload_n 0, 1) := by decide +kernel
theorem dX9_takesOne_23 : decode cX9_takesOne 23 = .ok (.getfield 22, 3) := by decide +kernel
theorem dX9_takesOne_26 : decode cX9_takesOne 26 = .ok (.aload_n 0, 1) := by decide +kernel
theorem dX9_takesOne_27 : decode cX9_takesOne 27 = .ok (.getfield 154, 3) := by decide +kernel
theorem dX9_takesOne_30 : decode cX9_takesOne 30 = .ok (.iconst 1, 1) := by decide +kernel
theorem dX9_takesOne_31 : decode cX9_takesOne 31 = .ok (.isub, 1) := by decide +kernel
theorem dX9_takesOne_32 : decode cX9_takesOne 32 = .ok (.iaload, 1) := by decide +kernel
theorem dX9_takesOne_33 : decode cX9_takesOne 33 = .ok (.ireturn, 1) := by decide +kernel
theorem dX9_readDeed_0 : decode cX9_readDeed 0 = .ok (.iconst 4, 1) := by decide +kernel
theorem dX9_readDeed_1 : decode cX9_readDeed 1 = .ok (.aload_n 0, 1) := by decide +kernel
theorem dX9_readDeed_2 : decode cX9_readDeed 2 = .ok (.getfield 160, 3) := by decide +kernel
theorem dX9_readDeed_5 : decode cX9_readDeed 5 = .ok (.imul, 1) := by decide +kernel
theorem dX9_readDeed_6 : decode cX9_readDeed 6 = .ok (.istore_n 1, 1) := by decide +kernel
theorem dX9_readDeed_7 : decode cX9_readDeed 7 = .ok (.aload_n 0, 1) := by decide +kernel
theorem dX9_readDeed_8 : decode cX9_readDeed 8 = .ok (.getfield 35, 3) := by decide +kernel
theorem dX9_readDeed_11 : decode cX9_readDeed 11 = .ok (.iload_n 1, 1) := by decide +kernel
theorem dX9_readDeed_12 : decode cX9_readDeed 12 = .ok (.aload_n 0, 1) := by decide +kernel
theorem dX9_readDeed_13 : decode cX9_readDeed 13 = .ok (.getfield 154, 3) := by decide +kernel
theorem dX9_readDeed_16 : decode cX9_readDeed 16 = .ok (.iastore, 1) := by decide +kernel
theorem dX9_readDeed_17 : decode cX9_readDeed 17 = .ok (.aload_n 0, 1) := by decide +kernel
theorem dX9_readDeed_18 : decode cX9_readDeed 18 = .ok (.getfield 35, 3) := by decide +kernel
theorem dX9_readDeed_21 : decode cX9_readDeed 21 = .ok (.iload_n 1, 1) := by decide +kernel
theorem dX9_readDeed_22 : decode cX9_readDeed 22 = .ok (.iconst 2, 1) := by decide +kernel
theorem dX9_readDeed_23 : decode cX9_readDeed 23 = .ok (.iadd, 1) := by decide +kernel
theorem dX9_readDeed_24 : decode cX9_readDeed 24 = .ok (.bipush (-4), 2) := by decide +kernel
theorem dX9_readDeed_26 : decode cX9_readDeed 26 = .ok (.iastore, 1) := by decide +kernel
theorem dX9_readDeed_27 : decode cX9_readDeed 27 = .ok (.aload_n 0, 1) := by decide +kernel
theorem dX9_readDeed_28 : decode cX9_readDeed 28 = .ok (.bipush 103, 2) := by decide +kernel
theorem dX9_readDeed_30 : decode cX9_readDeed 30 = .ok (.invokevirtual 163, 3) := by decide +kernel
theorem dX9_readDeed_33 : decode cX9_readDeed 33 = .ok (.istore_n 2, 1) := by decide +kernel
theorem dX9_readDeed_34 : decode cX9_readDeed 34 = .ok (.iload_n 2, 1) := by decide +kernel
theorem dX9_readDeed_35 : decode cX9_readDeed 35 = .ok (.ifCond .eq 32, 3) := by decide +kernel
theorem dX9_readDeed_38 : decode cX9_readDeed 38 = .ok (.aload_n 0, 1) := by decide +kernel
theorem dX9_readDeed_39 : decode cX9_readDeed 39 = .ok (.bipush 48, 2) := by decide +kernel
theorem dX9_readDeed_41 : decode cX9_readDeed 41 = .ok (.bipush 50, 2) := by decide +kernel
theorem dX9_readDeed_43 : decode cX9_readDeed 43 = .ok (.invokevirtual 166, 3) := by decide +kernel
theorem dX9_readDeed_46 : decode cX9_readDeed 46 = .ok (.istore_n 3, 1) := by decide +kernel
theorem dX9_readDeed_47 : decode cX9_readDeed 47 = .ok (.iload_n 3, 1) := by decide +kernel
theorem dX9_readDeed_48 : decode cX9_readDeed 48 = .ok (.bipush (-4), 2) := by decide +kernel
theorem dX9_readDeed_50 : decode cX9_readDeed 50 = .ok (.if_icmp .ne 5, 3) := by decide +kernel
theorem dX9_readDeed_53 : decode cX9_readDeed 53 = .ok (.iconst 0, 1) := by decide +kernel
theorem dX9_readDeed_54 : decode cX9_readDeed 54 = .ok (.ireturn, 1) := by decide +kernel
theorem dX9_readDeed_55 : decode cX9_readDeed 55 = .ok (.aload_n 0, 1) := by decide +kernel
theorem dX9_readDeed_56 : decode cX9_readDeed 56 = .ok (.getfield 35, 3) := by decide +kernel
theorem dX9_readDeed_59 : decode cX9_readDeed 59 = .ok (.iload_n 1, 1) := by decide +kernel
theorem dX9_readDeed_60 : decode cX9_readDeed 60 = .ok (.iconst 2, 1) := by decide +kernel
theorem dX9_readDeed_61 : decode cX9_readDeed 61 = .ok (.iadd, 1) := by decide +kernel
theorem dX9_readDeed_62 : decode cX9_readDeed 62 = .ok (.iload_n 3, 1) := by decide +kernel
theorem dX9_readDeed_63 : decode cX9_readDeed 63 = .ok (.bipush 48, 2) := by decide +kernel
theorem dX9_readDeed_65 : decode cX9_readDeed 65 = .ok (.isub, 1) := by decide +kernel
theorem dX9_readDeed_66 : decode cX9_readDeed 66 = .ok (.iastore, 1) := by decide +kernel
theorem dX9_readDeed_67 : decode cX9_readDeed 67 = .ok (.aload_n 0, 1) := by decide +kernel
theorem dX9_readDeed_68 : decode cX9_readDeed 68 = .ok (.bipush 111, 2) := by decide +kernel
theorem dX9_readDeed_70 : decode cX9_readDeed 70 = .ok (.bipush 111, 2) := by decide +kernel
theorem dX9_readDeed_72 : decode cX9_readDeed 72 = .ok (.invokevirtual 157, 3) := by decide +kernel
theorem dX9_readDeed_75 : decode cX9_readDeed 75 = .ok (.ifCond .ne 29, 3) := by decide +kernel
theorem dX9_readDeed_78 : decode cX9_readDeed 78 = .ok (.aload_n 0, 1) := by decide +kernel
theorem dX9_readDeed_79 : decode cX9_readDeed 79 = .ok (.bipush 99, 2) := by decide +kernel
theorem dX9_readDeed_81 : decode cX9_readDeed 81 = .ok (.bipush 99, 2) := by decide +kernel
theorem dX9_readDeed_83 : decode cX9_readDeed 83 = .ok (.invokevirtual 157, 3) := by decide +kernel
theorem dX9_readDeed_86 : decode cX9_readDeed 86 = .ok (.ifCond .ne 18, 3) := by decide +kernel
theorem dX9_readDeed_89 : decode cX9_readDeed 89 = .ok (.iload_n 2, 1) := by decide +kernel
theorem dX9_readDeed_90 : decode cX9_readDeed 90 = .ok (.ifCond .eq 18, 3) := by decide +kernel
theorem dX9_readDeed_93 : decode cX9_readDeed 93 = .ok (.aload_n 0, 1) := by decide +kernel
theorem dX9_readDeed_94 : decode cX9_readDeed 94 = .ok (.bipush 119, 2) := by decide +kernel
theorem dX9_readDeed_96 : decode cX9_readDeed 96 = .ok (.bipush 119, 2) := by decide +kernel
theorem dX9_readDeed_98 : decode cX9_readDeed 98 = .ok (.invokevirtual 157, 3) := by decide +kernel
theorem dX9_readDeed_101 : decode cX9_readDeed 101 = .ok (.ifCond .eq 7, 3) := by decide +kernel
theorem dX9_readDeed_104 : decode cX9_readDeed 104 = .ok (.iconst 1, 1) := by decide +kernel
theorem dX9_readDeed_105 : decode cX9_readDeed 105 = .ok (.goto 4, 3) := by decide +kernel
theorem dX9_readDeed_108 : decode cX9_readDeed 108 = .ok (.iconst 0, 1) := by decide +kernel
theorem dX9_readDeed_109 : decode cX9_readDeed 109 = .ok (.istore_n 3, 1) := by decide +kernel
theorem dX9_readDeed_110 : decode cX9_readDeed 110 = .ok (.iload_n 3, 1) := by decide +kernel
theorem dX9_readDeed_111 : decode cX9_readDeed 111 = .ok (.ifCond .ne 5, 3) := by decide +kernel
theorem dX9_readDeed_114 : decode cX9_readDeed 114 = .ok (.iconst 0, 1) := by decide +kernel
theorem dX9_readDeed_115 : decode cX9_readDeed 115 = .ok (.ireturn, 1) := by decide +kernel
theorem dX9_readDeed_116 : decode cX9_readDeed 116 = .ok (.aload_n 0, 1) := by decide +kernel
theorem dX9_readDeed_117 : decode cX9_readDeed 117 = .ok (.getfield 35, 3) := by decide +kernel
theorem dX9_readDeed_120 : decode cX9_readDeed 120 = .ok (.iload_n 1, 1) := by decide +kernel
theorem dX9_readDeed_121 : decode cX9_readDeed 121 = .ok (.iconst 1, 1) := by decide +kernel
theorem dX9_readDeed_122 : decode cX9_readDeed 122 = .ok (.iadd, 1) := by decide +kernel
theorem dX9_readDeed_123 : decode cX9_readDeed 123 = .ok (.aload_n 0, 1) := by decide +kernel
theorem dX9_readDeed_124 : decode cX9_readDeed 124 = .ok (.getfield 22, 3) := by decide +kernel
theorem dX9_readDeed_127 : decode cX9_readDeed 127 = .ok (.aload_n 0, 1) := by decide +kernel
theorem dX9_readDeed_128 : decode cX9_readDeed 128 = .ok (.getfield 154, 3) := by decide +kernel
theorem dX9_readDeed_131 : decode cX9_readDeed 131 = .ok (.iaload, 1) := by decide +kernel
theorem dX9_readDeed_132 : decode cX9_readDeed 132 = .ok (.iastore, 1) := by decide +kernel
theorem dX9_readDeed_133 : decode cX9_readDeed 133 = .ok (.aload_n 0, 1) := by decide +kernel
theorem dX9_readDeed_134 : decode cX9_readDeed 134 = .ok (.dup, 1) := by decide +kernel
theorem dX9_readDeed_135 : decode cX9_readDeed 135 = .ok (.getfield 154, 3) := by decide +kernel
theorem dX9_readDeed_138 : decode cX9_readDeed 138 = .ok (.iconst 1, 1) := by decide +kernel
theorem dX9_readDeed_139 : decode cX9_readDeed 139 = .ok (.iadd, 1) := by decide +kernel
theorem dX9_readDeed_140 : decode cX9_readDeed 140 = .ok (.putfield 154, 3) := by decide +kernel
theorem dX9_readDeed_143 : decode cX9_readDeed 143 = .ok (.aload_n 0, 1) := by decide +kernel
theorem dX9_readDeed_144 : decode cX9_readDeed 144 = .ok (.bipush 48, 2) := by decide +kernel
theorem dX9_readDeed_146 : decode cX9_readDeed 146 = .ok (.bipush 57, 2) := by decide +kernel
theorem dX9_readDeed_148 : decode cX9_readDeed 148 = .ok (.invokevirtual 166, 3) := by decide +kernel
theorem dX9_readDeed_151 : decode cX9_readDeed 151 = .ok (.istore 4, 2) := by decide +kernel
theorem dX9_readDeed_153 : decode cX9_readDeed 153 = .ok (.aload_n 0, 1) := by decide +kernel
theorem dX9_readDeed_154 : decode cX9_readDeed 154 = .ok (.getfield 35, 3) := by decide +kernel
theorem dX9_readDeed_157 : decode cX9_readDeed 157 = .ok (.iload_n 1, 1) := by decide +kernel
theorem dX9_readDeed_158 : decode cX9_readDeed 158 = .ok (.iconst 3, 1) := by decide +kernel
theorem dX9_readDeed_159 : decode cX9_readDeed 159 = .ok (.iadd, 1) := by decide +kernel
theorem dX9_readDeed_160 : decode cX9_readDeed 160 = .ok (.iload 4, 2) := by decide +kernel
theorem dX9_readDeed_162 : decode cX9_readDeed 162 = .ok (.bipush 48, 2) := by decide +kernel
theorem dX9_readDeed_164 : decode cX9_readDeed 164 = .ok (.isub, 1) := by decide +kernel
theorem dX9_readDeed_165 : decode cX9_readDeed 165 = .ok (.iastore, 1) := by decide +kernel
theorem dX9_readDeed_166 : decode cX9_readDeed 166 = .ok (.aload_n 0, 1) := by decide +kernel
theorem dX9_readDeed_167 : decode cX9_readDeed 167 = .ok (.dup, 1) := by decide +kernel
theorem dX9_readDeed_168 : decode cX9_readDeed 168 = .ok (.getfield 160, 3) := by decide +kernel
theorem dX9_readDeed_171 : decode cX9_readDeed 171 = .ok (.iconst 1, 1) := by decide +kernel
theorem dX9_readDeed_172 : decode cX9_readDeed 172 = .ok (.iadd, 1) := by decide +kernel
theorem dX9_readDeed_173 : decode cX9_readDeed 173 = .ok (.putfield 160, 3) := by decide +kernel
theorem dX9_readDeed_176 : decode cX9_readDeed 176 = .ok (.iload 4, 2) := by decide +kernel
theorem dX9_readDeed_178 : decode cX9_readDeed 178 = .ok (.bipush (-4), 2) := by decide +kernel
theorem dX9_readDeed_180 : decode cX9_readDeed 180 = .ok (.if_icmp .eq 7, 3) := by decide +kernel
theorem dX9_readDeed_183 : decode cX9_readDeed 183 = .ok (.iconst 1, 1) := by decide +kernel
theorem dX9_readDeed_184 : decode cX9_readDeed 184 = .ok (.goto 4, 3) := by decide +kernel
theorem dX9_readDeed_187 : decode cX9_readDeed 187 = .ok (.iconst 0, 1) := by decide +kernel
theorem dX9_readDeed_188 : decode cX9_readDeed 188 = .ok (.ireturn, 1) := by decide +kernel
theorem dX9_readPad_0 : decode cX9_readPad 0 = .ok (.aload_n 0, 1) := by decide +kernel
theorem dX9_readPad_1 : decode cX9_readPad 1 = .ok (.iconst 0, 1) := by decide +kernel
theorem dX9_readPad_2 : decode cX9_readPad 2 = .ok (.putfield 154, 3) := by decide +kernel
theorem dX9_readPad_5 : decode cX9_readPad 5 = .ok (.aload_n 0, 1) := by decide +kernel
theorem dX9_readPad_6 : decode cX9_readPad 6 = .ok (.iconst 0, 1) := by decide +kernel
theorem dX9_readPad_7 : decode cX9_readPad 7 = .ok (.putfield 160, 3) := by decide +kernel
theorem dX9_readPad_10 : decode cX9_readPad 10 = .ok (.aload_n 0, 1) := by decide +kernel
theorem dX9_readPad_11 : decode cX9_readPad 11 = .ok (.invokevirtual 169, 3) := by decide +kernel
theorem dX9_readPad_14 : decode cX9_readPad 14 = .ok (.istore_n 1, 1) := by decide +kernel
theorem dX9_readPad_15 : decode cX9_readPad 15 = .ok (.iload_n 1, 1) := by decide +kernel
theorem dX9_readPad_16 : decode cX9_readPad 16 = .ok (.ifCond .eq 39, 3) := by decide +kernel
theorem dX9_readPad_19 : decode cX9_readPad 19 = .ok (.aload_n 0, 1) := by decide +kernel
theorem dX9_readPad_20 : decode cX9_readPad 20 = .ok (.getfield 154, 3) := by decide +kernel
theorem dX9_readPad_23 : decode cX9_readPad 23 = .ok (.aload_n 0, 1) := by decide +kernel
theorem dX9_readPad_24 : decode cX9_readPad 24 = .ok (.getfield 151, 3) := by decide +kernel
theorem dX9_readPad_27 : decode cX9_readPad 27 = .ok (.if_icmp .ge 28, 3) := by decide +kernel
theorem dX9_readPad_30 : decode cX9_readPad 30 = .ok (.aload_n 0, 1) := by decide +kernel
theorem dX9_readPad_31 : decode cX9_readPad 31 = .ok (.bipush 59, 2) := by decide +kernel
theorem dX9_readPad_33 : decode cX9_readPad 33 = .ok (.invokevirtual 163, 3) := by decide +kernel
theorem dX9_readPad_36 : decode cX9_readPad 36 = .ok (.ifCond .eq 14, 3) := by decide +kernel
theorem dX9_readPad_39 : decode cX9_readPad 39 = .ok (.aload_n 0, 1) := by decide +kernel
theorem dX9_readPad_40 : decode cX9_readPad 40 = .ok (.invokevirtual 169, 3) := by decide +kernel
theorem dX9_readPad_43 : decode cX9_readPad 43 = .ok (.ifCond .eq 7, 3) := by decide +kernel
theorem dX9_readPad_46 : decode cX9_readPad 46 = .ok (.iconst 1, 1) := by decide +kernel
theorem dX9_readPad_47 : decode cX9_readPad 47 = .ok (.goto 4, 3) := by decide +kernel
theorem dX9_readPad_50 : decode cX9_readPad 50 = .ok (.iconst 0, 1) := by decide +kernel
theorem dX9_readPad_51 : decode cX9_readPad 51 = .ok (.istore_n 1, 1) := by decide +kernel
theorem dX9_readPad_52 : decode cX9_readPad 52 = .ok (.goto (-37), 3) := by decide +kernel
theorem dX9_readPad_55 : decode cX9_readPad 55 = .ok (.iload_n 1, 1) := by decide +kernel
theorem dX9_readPad_56 : decode cX9_readPad 56 = .ok (.ireturn, 1) := by decide +kernel
theorem dX9_fault_0 : decode cX9_fault 0 = .ok (.aload_n 0, 1) := by decide +kernel
theorem dX9_fault_1 : decode cX9_fault 1 = .ok (.invokevirtual 173, 3) := by decide +kernel
theorem dX9_fault_4 : decode cX9_fault 4 = .ok (.ifCond .eq 8, 3) := by decide +kernel
theorem dX9_fault_7 : decode cX9_fault 7 = .ok (.bipush (-4), 2) := by decide +kernel
theorem dX9_fault_9 : decode cX9_fault 9 = .ok (.goto 7, 3) := by decide +kernel
theorem dX9_fault_12 : decode cX9_fault 12 = .ok (.aload_n 0, 1) := by decide +kernel
theorem dX9_fault_13 : decode cX9_fault 13 = .ok (.getfield 154, 3) := by decide +kernel
theorem dX9_fault_16 : decode cX9_fault 16 = .ok (.ireturn, 1) := by decide +kernel
theorem dX9_doDeed_0 : decode cX9_doDeed 0 = .ok (.aload_n 0, 1) := by decide +kernel
theorem dX9_doDeed_1 : decode cX9_doDeed 1 = .ok (.getfield 35, 3) := by decide +kernel
theorem dX9_doDeed_4 : decode cX9_doDeed 4 = .ok (.iconst 4, 1) := by decide +kernel
theorem dX9_doDeed_5 : decode cX9_doDeed 5 = .ok (.iload_n 1, 1) := by decide +kernel
theorem dX9_doDeed_6 : decode cX9_doDeed 6 = .ok (.imul, 1) := by decide +kernel
theorem dX9_doDeed_7 : decode cX9_doDeed 7 = .ok (.iconst 2, 1) := by decide +kernel
theorem dX9_doDeed_8 : decode cX9_doDeed 8 = .ok (.iadd, 1) := by decide +kernel
theorem dX9_doDeed_9 : decode cX9_doDeed 9 = .ok (.iaload, 1) := by decide +kernel
theorem dX9_doDeed_10 : decode cX9_doDeed 10 = .ok (.istore_n 2, 1) := by decide +kernel
theorem dX9_doDeed_11 : decode cX9_doDeed 11 = .ok (.aload_n 0, 1) := by decide +kernel
theorem dX9_doDeed_12 : decode cX9_doDeed 12 = .ok (.getfield 35, 3) := by decide +kernel
theorem dX9_doDeed_15 : decode cX9_doDeed 15 = .ok (.iconst 4, 1) := by decide +kernel
theorem dX9_doDeed_16 : decode cX9_doDeed 16 = .ok (.iload_n 1, 1) := by decide +kernel
theorem dX9_doDeed_17 : decode cX9_doDeed 17 = .ok (.imul, 1) := by decide +kernel
theorem dX9_doDeed_18 : decode cX9_doDeed 18 = .ok (.iconst 3, 1) := by decide +kernel
theorem dX9_doDeed_19 : decode cX9_doDeed 19 = .ok (.iadd, 1) := by decide +kernel
theorem dX9_doDeed_20 : decode cX9_doDeed 20 = .ok (.iaload, 1) := by decide +kernel
theorem dX9_doDeed_21 : decode cX9_doDeed 21 = .ok (.istore_n 3, 1) := by decide +kernel
theorem dX9_doDeed_22 : decode cX9_doDeed 22 = .ok (.aload_n 0, 1) := by decide +kernel
theorem dX9_doDeed_23 : decode cX9_doDeed 23 = .ok (.getfield 35, 3) := by decide +kernel
theorem dX9_doDeed_26 : decode cX9_doDeed 26 = .ok (.iconst 4, 1) := by decide +kernel
theorem dX9_doDeed_27 : decode cX9_doDeed 27 = .ok (.iload_n 1, 1) := by decide +kernel
theorem dX9_doDeed_28 : decode cX9_doDeed 28 = .ok (.imul, 1) := by decide +kernel
theorem dX9_doDeed_29 : decode cX9_doDeed 29 = .ok (.iconst 1, 1) := by decide +kernel
theorem dX9_doDeed_30 : decode cX9_doDeed 30 = .ok (.iadd, 1) := by decide +kernel
theorem dX9_doDeed_31 : decode cX9_doDeed 31 = .ok (.iaload, 1) := by decide +kernel
theorem dX9_doDeed_32 : decode cX9_doDeed 32 = .ok (.lookupswitch 70 #[(99, 49), (111, 28)], 28) := by decide +kernel
theorem dX9_doDeed_60 : decode cX9_doDeed 60 = .ok (.iload_n 2, 1) := by decide +kernel
theorem dX9_doDeed_61 : decode cX9_doDeed 61 = .ok (.bipush (-4), 2) := by decide +kernel
theorem dX9_doDeed_63 : decode cX9_doDeed 63 = .ok (.if_icmp .ne 11, 3) := by decide +kernel
theorem dX9_doDeed_66 : decode cX9_doDeed 66 = .ok (.aload_n 0, 1) := by decide +kernel
theorem dX9_doDeed_67 : decode cX9_doDeed 67 = .ok (.iload_n 3, 1) := by decide +kernel
theorem dX9_doDeed_68 : decode cX9_doDeed 68 = .ok (.invokevirtual 118, 3) := by decide +kernel
theorem dX9_doDeed_71 : decode cX9_doDeed 71 = .ok (.goto 9, 3) := by decide +kernel
theorem dX9_doDeed_74 : decode cX9_doDeed 74 = .ok (.aload_n 0, 1) := by decide +kernel
theorem dX9_doDeed_75 : decode cX9_doDeed 75 = .ok (.iload_n 2, 1) := by decide +kernel
theorem dX9_doDeed_76 : decode cX9_doDeed 76 = .ok (.iload_n 3, 1) := by decide +kernel
theorem dX9_doDeed_77 : decode cX9_doDeed 77 = .ok (.invokevirtual 133, 3) := by decide +kernel
theorem dX9_doDeed_80 : decode cX9_doDeed 80 = .ok (.ireturn, 1) := by decide +kernel
theorem dX9_doDeed_81 : decode cX9_doDeed 81 = .ok (.iload_n 2, 1) := by decide +kernel
theorem dX9_doDeed_82 : decode cX9_doDeed 82 = .ok (.bipush (-4), 2) := by decide +kernel
theorem dX9_doDeed_84 : decode cX9_doDeed 84 = .ok (.if_icmp .ne 11, 3) := by decide +kernel
theorem dX9_doDeed_87 : decode cX9_doDeed 87 = .ok (.aload_n 0, 1) := by decide +kernel
theorem dX9_doDeed_88 : decode cX9_doDeed 88 = .ok (.iload_n 3, 1) := by decide +kernel
theorem dX9_doDeed_89 : decode cX9_doDeed 89 = .ok (.invokevirtual 121, 3) := by decide +kernel
theorem dX9_doDeed_92 : decode cX9_doDeed 92 = .ok (.goto 9, 3) := by decide +kernel
theorem dX9_doDeed_95 : decode cX9_doDeed 95 = .ok (.aload_n 0, 1) := by decide +kernel
theorem dX9_doDeed_96 : decode cX9_doDeed 96 = .ok (.iload_n 2, 1) := by decide +kernel
theorem dX9_doDeed_97 : decode cX9_doDeed 97 = .ok (.iload_n 3, 1) := by decide +kernel
theorem dX9_doDeed_98 : decode cX9_doDeed 98 = .ok (.invokevirtual 136, 3) := by decide +kernel
theorem dX9_doDeed_101 : decode cX9_doDeed 101 = .ok (.ireturn, 1) := by decide +kernel
theorem dX9_doDeed_102 : decode cX9_doDeed 102 = .ok (.aload_n 0, 1) := by decide +kernel
theorem dX9_doDeed_103 : decode cX9_doDeed 103 = .ok (.iload_n 2, 1) := by decide +kernel
theorem dX9_doDeed_104 : decode cX9_doDeed 104 = .ok (.iload_n 3, 1) := by decide +kernel
theorem dX9_doDeed_105 : decode cX9_doDeed 105 = .ok (.invokevirtual 139, 3) := by decide +kernel
theorem dX9_doDeed_108 : decode cX9_doDeed 108 = .ok (.ireturn, 1) := by decide +kernel
theorem dX9_run_0 : decode cX9_run 0 = .ok (.aload_n 0, 1) := by decide +kernel
theorem dX9_run_1 : decode cX9_run 1 = .ok (.invokevirtual 173, 3) := by decide +kernel
theorem dX9_run_4 : decode cX9_run 4 = .ok (.ifCond .ne 6, 3) := by decide +kernel
theorem dX9_run_7 : decode cX9_run 7 = .ok (.bipush (-2), 2) := by decide +kernel
theorem dX9_run_9 : decode cX9_run 9 = .ok (.ireturn, 1) := by decide +kernel
theorem dX9_run_10 : decode cX9_run 10 = .ok (.aload_n 0, 1) := by decide +kernel
theorem dX9_run_11 : decode cX9_run 11 = .ok (.invokevirtual 71, 3) := by decide +kernel
theorem dX9_run_14 : decode cX9_run 14 = .ok (.aload_n 0, 1) := by decide +kernel
theorem dX9_run_15 : decode cX9_run 15 = .ok (.bipush (-4), 2) := by decide +kernel
theorem dX9_run_17 : decode cX9_run 17 = .ok (.putfield 25, 3) := by decide +kernel
theorem dX9_run_20 : decode cX9_run 20 = .ok (.aload_n 0, 1) := by decide +kernel
theorem dX9_run_21 : decode cX9_run 21 = .ok (.bipush (-4), 2) := by decide +kernel
theorem dX9_run_23 : decode cX9_run 23 = .ok (.putfield 29, 3) := by decide +kernel
theorem dX9_run_26 : decode cX9_run 26 = .ok (.aload_n 0, 1) := by decide +kernel
theorem dX9_run_27 : decode cX9_run 27 = .ok (.bipush (-4), 2) := by decide +kernel
theorem dX9_run_29 : decode cX9_run 29 = .ok (.putfield 32, 3) := by decide +kernel
theorem dX9_run_32 : decode cX9_run 32 = .ok (.aload_n 0, 1) := by decide +kernel
theorem dX9_run_33 : decode cX9_run 33 = .ok (.iconst 0, 1) := by decide +kernel
theorem dX9_run_34 : decode cX9_run 34 = .ok (.putfield 151, 3) := by decide +kernel
theorem dX9_run_37 : decode cX9_run 37 = .ok (.iconst 0, 1) := by decide +kernel
theorem dX9_run_38 : decode cX9_run 38 = .ok (.istore_n 1, 1) := by decide +kernel
theorem dX9_run_39 : decode cX9_run 39 = .ok (.iload_n 1, 1) := by decide +kernel
theorem dX9_run_40 : decode cX9_run 40 = .ok (.aload_n 0, 1) := by decide +kernel
theorem dX9_run_41 : decode cX9_run 41 = .ok (.getfield 160, 3) := by decide +kernel
theorem dX9_run_44 : decode cX9_run 44 = .ok (.if_icmp .ge 45, 3) := by decide +kernel
theorem dX9_run_47 : decode cX9_run 47 = .ok (.aload_n 0, 1) := by decide +kernel
theorem dX9_run_48 : decode cX9_run 48 = .ok (.iload_n 1, 1) := by decide +kernel
theorem dX9_run_49 : decode cX9_run 49 = .ok (.invokevirtual 176, 3) := by decide +kernel
theorem dX9_run_52 : decode cX9_run 52 = .ok (.istore_n 2, 1) := by decide +kernel
theorem dX9_run_53 : decode cX9_run 53 = .ok (.iload_n 2, 1) := by decide +kernel
theorem dX9_run_54 : decode cX9_run 54 = .ok (.bipush 10, 2) := by decide +kernel
theorem dX9_run_56 : decode cX9_run 56 = .ok (.if_icmp .ge 27, 3) := by decide +kernel
theorem dX9_run_59 : decode cX9_run 59 = .ok (.aload_n 0, 1) := by decide +kernel
theorem dX9_run_60 : decode cX9_run 60 = .ok (.iload_n 2, 1) := by decide +kernel
theorem dX9_run_61 : decode cX9_run 61 = .ok (.putfield 25, 3) := by decide +kernel
theorem dX9_run_64 : decode cX9_run 64 = .ok (.aload_n 0, 1) := by decide +kernel
theorem dX9_run_65 : decode cX9_run 65 = .ok (.iload_n 1, 1) := by decide +kernel
theorem dX9_run_66 : decode cX9_run 66 = .ok (.putfield 29, 3) := by decide +kernel
theorem dX9_run_69 : decode cX9_run 69 = .ok (.aload_n 0, 1) := by decide +kernel
theorem dX9_run_70 : decode cX9_run 70 = .ok (.aload_n 0, 1) := by decide +kernel
theorem dX9_run_71 : decode cX9_run 71 = .ok (.getfield 35, 3) := by decide +kernel
theorem dX9_run_74 : decode cX9_run 74 = .ok (.iconst 4, 1) := by decide +kernel
theorem dX9_run_75 : decode cX9_run 75 = .ok (.iload_n 1, 1) := by decide +kernel
theorem dX9_run_76 : decode cX9_run 76 = .ok (.imul, 1) := by decide +kernel
theorem dX9_run_77 : decode cX9_run 77 = .ok (.iaload, 1) := by decide +kernel
theorem dX9_run_78 : decode cX9_run 78 = .ok (.putfield 32, 3) := by decide +kernel
theorem dX9_run_81 : decode cX9_run 81 = .ok (.iload_n 1, 1) := by decide +kernel
theorem dX9_run_82 : decode cX9_run 82 = .ok (.ireturn, 1) := by decide +kernel
theorem dX9_run_83 : decode cX9_run 83 = .ok (.iinc 1 1, 3) := by decide +kernel
theorem dX9_run_86 : decode cX9_run 86 = .ok (.goto (-47), 3) := by decide +kernel
theorem dX9_run_89 : decode cX9_run 89 = .ok (.aload_n 0, 1) := by decide +kernel
theorem dX9_run_90 : decode cX9_run 90 = .ok (.getfield 160, 3) := by decide +kernel
theorem dX9_run_93 : decode cX9_run 93 = .ok (.ireturn, 1) := by decide +kernel
theorem dX9_why_0 : decode cX9_why 0 = .ok (.iload_n 1, 1) := by decide +kernel
theorem dX9_why_1 : decode cX9_why 1 = .ok (.ifCond .ne 10, 3) := by decide +kernel
theorem dX9_why_4 : decode cX9_why 4 = .ok (.aload_n 0, 1) := by decide +kernel
theorem dX9_why_5 : decode cX9_why 5 = .ok (.getfield 25, 3) := by decide +kernel
theorem dX9_why_8 : decode cX9_why 8 = .ok (.goto 28, 3) := by decide +kernel
theorem dX9_why_11 : decode cX9_why 11 = .ok (.iload_n 1, 1) := by decide +kernel
theorem dX9_why_12 : decode cX9_why 12 = .ok (.iconst 1, 1) := by decide +kernel
theorem dX9_why_13 : decode cX9_why 13 = .ok (.if_icmp .ne 10, 3) := by decide +kernel
theorem dX9_why_16 : decode cX9_why 16 = .ok (.aload_n 0, 1) := by decide +kernel
theorem dX9_why_17 : decode cX9_why 17 = .ok (.getfield 29, 3) := by decide +kernel
theorem dX9_why_20 : decode cX9_why 20 = .ok (.goto 16, 3) := by decide +kernel
theorem dX9_why_23 : decode cX9_why 23 = .ok (.iload_n 1, 1) := by decide +kernel
theorem dX9_why_24 : decode cX9_why 24 = .ok (.iconst 2, 1) := by decide +kernel
theorem dX9_why_25 : decode cX9_why 25 = .ok (.if_icmp .ne 10, 3) := by decide +kernel
theorem dX9_why_28 : decode cX9_why 28 = .ok (.aload_n 0, 1) := by decide +kernel
theorem dX9_why_29 : decode cX9_why 29 = .ok (.getfield 32, 3) := by decide +kernel
theorem dX9_why_32 : decode cX9_why 32 = .ok (.goto 4, 3) := by decide +kernel
theorem dX9_why_35 : decode cX9_why 35 = .ok (.iconst (-1), 1) := by decide +kernel
theorem dX9_why_36 : decode cX9_why 36 = .ok (.ireturn, 1) := by decide +kernel
theorem dX9_door_0 : decode cX9_door 0 = .ok (.iload_n 1, 1) := by decide +kernel
theorem dX9_door_1 : decode cX9_door 1 = .ok (.invokestatic 127, 3) := by decide +kernel
theorem dX9_door_4 : decode cX9_door 4 = .ok (.ifCond .ne 5, 3) := by decide +kernel
theorem dX9_door_7 : decode cX9_door 7 = .ok (.iconst (-1), 1) := by decide +kernel
theorem dX9_door_8 : decode cX9_door 8 = .ok (.ireturn, 1) := by decide +kernel
theorem dX9_door_9 : decode cX9_door 9 = .ok (.iload_n 2, 1) := by decide +kernel
theorem dX9_door_10 : decode cX9_door 10 = .ok (.tableswitch 134 0 9 #[54, 61, 67, 73, 80, 87, 102, 102, 119, 126], 54) := by decide +kernel
theorem dX9_door_64 : decode cX9_door 64 = .ok (.aload_n 0, 1) := by decide +kernel
theorem dX9_door_65 : decode cX9_door 65 = .ok (.iload_n 1, 1) := by decide +kernel
theorem dX9_door_66 : decode cX9_door 66 = .ok (.iconst 0, 1) := by decide +kernel
theorem dX9_door_67 : decode cX9_door 67 = .ok (.invokevirtual 52, 3) := by decide +kernel
theorem dX9_door_70 : decode cX9_door 70 = .ok (.ireturn, 1) := by decide +kernel
theorem dX9_door_71 : decode cX9_door 71 = .ok (.aload_n 0, 1) := by decide +kernel
theorem dX9_door_72 : decode cX9_door 72 = .ok (.iload_n 1, 1) := by decide +kernel
theorem dX9_door_73 : decode cX9_door 73 = .ok (.invokevirtual 142, 3) := by decide +kernel
theorem dX9_door_76 : decode cX9_door 76 = .ok (.ireturn, 1) := by decide +kernel
theorem dX9_door_77 : decode cX9_door 77 = .ok (.aload_n 0, 1) := by decide +kernel
theorem dX9_door_78 : decode cX9_door 78 = .ok (.iload_n 1, 1) := by decide +kernel
theorem dX9_door_79 : decode cX9_door 79 = .ok (.invokevirtual 148, 3) := by decide +kernel
theorem dX9_door_82 : decode cX9_door 82 = .ok (.ireturn, 1) := by decide +kernel
theorem dX9_door_83 : decode cX9_door 83 = .ok (.aload_n 0, 1) := by decide +kernel
theorem dX9_door_84 : decode cX9_door 84 = .ok (.iload_n 1, 1) := by decide +kernel
theorem dX9_door_85 : decode cX9_door 85 = .ok (.iconst 3, 1) := by decide +kernel
theorem dX9_door_86 : decode cX9_door 86 = .ok (.invokevirtual 52, 3) := by decide +kernel
theorem dX9_door_89 : decode cX9_door 89 = .ok (.ireturn, 1) := by decide +kernel
theorem dX9_door_90 : decode cX9_door 90 = .ok (.aload_n 0, 1) := by decide +kernel
theorem dX9_door_91 : decode cX9_door 91 = .ok (.iload_n 1, 1) := by decide +kernel
theorem dX9_door_92 : decode cX9_door 92 = .ok (.iconst 4, 1) := by decide +kernel
theorem dX9_door_93 : decode cX9_door 93 = .ok (.invokevirtual 52, 3) := by decide +kernel
theorem dX9_door_96 : decode cX9_door 96 = .ok (.ireturn, 1) := by decide +kernel
theorem dX9_door_97 : decode cX9_door 97 = .ok (.aload_n 0, 1) := by decide +kernel
theorem dX9_door_98 : decode cX9_door 98 = .ok (.iload_n 1, 1) := by decide +kernel
theorem dX9_door_99 : decode cX9_door 99 = .ok (.iconst 1, 1) := by decide +kernel
theorem dX9_door_100 : decode cX9_door 100 = .ok (.invokevirtual 82, 3) := by decide +kernel
theorem dX9_door_103 : decode cX9_door 103 = .ok (.ifCond .le 7, 3) := by decide +kernel
theorem dX9_door_106 : decode cX9_door 106 = .ok (.iconst 1, 1) := by decide +kernel
theorem dX9_door_107 : decode cX9_door 107 = .ok (.goto 4, 3) := by decide +kernel
theorem dX9_door_110 : decode cX9_door 110 = .ok (.iconst 0, 1) := by decide +kernel
theorem dX9_door_111 : decode cX9_door 111 = .ok (.ireturn, 1) := by decide +kernel
theorem dX9_door_112 : decode cX9_door 112 = .ok (.aload_n 0, 1) := by decide +kernel
theorem dX9_door_113 : decode cX9_door 113 = .ok (.iload_n 1, 1) := by decide +kernel
theorem dX9_door_114 : decode cX9_door 114 = .ok (.iload_n 2, 1) := by decide +kernel
theorem dX9_door_115 : decode cX9_door 115 = .ok (.bipush 7, 2) := by decide +kernel
theorem dX9_door_117 : decode cX9_door 117 = .ok (.if_icmp .ne 7, 3) := by decide +kernel
theorem dX9_door_120 : decode cX9_door 120 = .ok (.iconst 1, 1) := by decide +kernel
theorem dX9_door_121 : decode cX9_door 121 = .ok (.goto 4, 3) := by decide +kernel
theorem dX9_door_124 : decode cX9_door 124 = .ok (.iconst 0, 1) := by decide +kernel
theorem dX9_door_125 : decode cX9_door 125 = .ok (.invokevirtual 82, 3) := by decide +kernel
theorem dX9_door_128 : decode cX9_door 128 = .ok (.ireturn, 1) := by decide +kernel
theorem dX9_door_129 : decode cX9_door 129 = .ok (.aload_n 0, 1) := by decide +kernel
theorem dX9_door_130 : decode cX9_door 130 = .ok (.iload_n 1, 1) := by decide +kernel
theorem dX9_door_131 : decode cX9_door 131 = .ok (.iconst 5, 1) := by decide +kernel
theorem dX9_door_132 : decode cX9_door 132 = .ok (.invokevirtual 52, 3) := by decide +kernel
theorem dX9_door_135 : decode cX9_door 135 = .ok (.ireturn, 1) := by decide +kernel
theorem dX9_door_136 : decode cX9_door 136 = .ok (.aload_n 0, 1) := by decide +kernel
theorem dX9_door_137 : decode cX9_door 137 = .ok (.iload_n 1, 1) := by decide +kernel
theorem dX9_door_138 : decode cX9_door 138 = .ok (.bipush 6, 2) := by decide +kernel
theorem dX9_door_140 : decode cX9_door 140 = .ok (.invokevirtual 52, 3) := by decide +kernel
theorem dX9_door_143 : decode cX9_door 143 = .ok (.ireturn, 1) := by decide +kernel
theorem dX9_door_144 : decode cX9_door 144 = .ok (.iconst (-1), 1) := by decide +kernel
theorem dX9_door_145 : decode cX9_door 145 = .ok (.ireturn, 1) := by decide +kernel
theorem dX9_doorsOf_0 : decode cX9_doorsOf 0 = .ok (.iconst 0, 1) := by decide +kernel
theorem dX9_doorsOf_1 : decode cX9_doorsOf 1 = .ok (.istore_n 2, 1) := by decide +kernel
theorem dX9_doorsOf_2 : decode cX9_doorsOf 2 = .ok (.iconst 0, 1) := by decide +kernel
theorem dX9_doorsOf_3 : decode cX9_doorsOf 3 = .ok (.istore_n 3, 1) := by decide +kernel
theorem dX9_doorsOf_4 : decode cX9_doorsOf 4 = .ok (.iload_n 3, 1) := by decide +kernel
theorem dX9_doorsOf_5 : decode cX9_doorsOf 5 = .ok (.bipush 10, 2) := by decide +kernel
theorem dX9_doorsOf_7 : decode cX9_doorsOf 7 = .ok (.if_icmp .ge 26, 3) := by decide +kernel
theorem dX9_doorsOf_10 : decode cX9_doorsOf 10 = .ok (.iload_n 2, 1) := by decide +kernel
theorem dX9_doorsOf_11 : decode cX9_doorsOf 11 = .ok (.aload_n 0, 1) := by decide +kernel
theorem dX9_doorsOf_12 : decode cX9_doorsOf 12 = .ok (.iload_n 3, 1) := by decide +kernel
theorem dX9_doorsOf_13 : decode cX9_doorsOf 13 = .ok (.iload_n 1, 1) := by decide +kernel
theorem dX9_doorsOf_14 : decode cX9_doorsOf 14 = .ok (.invokevirtual 86, 3) := by decide +kernel
theorem dX9_doorsOf_17 : decode cX9_doorsOf 17 = .ok (.ifCond .eq 7, 3) := by decide +kernel
theorem dX9_doorsOf_20 : decode cX9_doorsOf 20 = .ok (.iconst 1, 1) := by decide +kernel
theorem dX9_doorsOf_21 : decode cX9_doorsOf 21 = .ok (.goto 4, 3) := by decide +kernel
theorem dX9_doorsOf_24 : decode cX9_doorsOf 24 = .ok (.iconst 0, 1) := by decide +kernel
theorem dX9_doorsOf_25 : decode cX9_doorsOf 25 = .ok (.iadd, 1) := by decide +kernel
theorem dX9_doorsOf_26 : decode cX9_doorsOf 26 = .ok (.istore_n 2, 1) := by decide +kernel
theorem dX9_doorsOf_27 : decode cX9_doorsOf 27 = .ok (.iinc 3 1, 3) := by decide +kernel
theorem dX9_doorsOf_30 : decode cX9_doorsOf 30 = .ok (.goto (-26), 3) := by decide +kernel
theorem dX9_doorsOf_33 : decode cX9_doorsOf 33 = .ok (.iload_n 2, 1) := by decide +kernel
theorem dX9_doorsOf_34 : decode cX9_doorsOf 34 = .ok (.ireturn, 1) := by decide +kernel
theorem dX9_guestsIn_0 : decode cX9_guestsIn 0 = .ok (.iconst 0, 1) := by decide +kernel
theorem dX9_guestsIn_1 : decode cX9_guestsIn 1 = .ok (.istore_n 2, 1) := by decide +kernel
theorem dX9_guestsIn_2 : decode cX9_guestsIn 2 = .ok (.iconst 0, 1) := by decide +kernel
theorem dX9_guestsIn_3 : decode cX9_guestsIn 3 = .ok (.istore_n 3, 1) := by decide +kernel
theorem dX9_guestsIn_4 : decode cX9_guestsIn 4 = .ok (.iload_n 3, 1) := by decide +kernel
theorem dX9_guestsIn_5 : decode cX9_guestsIn 5 = .ok (.iconst 3, 1) := by decide +kernel
theorem dX9_guestsIn_6 : decode cX9_guestsIn 6 = .ok (.if_icmp .ge 27, 3) := by decide +kernel
theorem dX9_guestsIn_9 : decode cX9_guestsIn 9 = .ok (.iload_n 2, 1) := by decide +kernel
theorem dX9_guestsIn_10 : decode cX9_guestsIn 10 = .ok (.aload_n 0, 1) := by decide +kernel
theorem dX9_guestsIn_11 : decode cX9_guestsIn 11 = .ok (.iload_n 3, 1) := by decide +kernel
theorem dX9_guestsIn_12 : decode cX9_guestsIn 12 = .ok (.iconst 0, 1) := by decide +kernel
theorem dX9_guestsIn_13 : decode cX9_guestsIn 13 = .ok (.invokevirtual 109, 3) := by decide +kernel
theorem dX9_guestsIn_16 : decode cX9_guestsIn 16 = .ok (.iload_n 1, 1) := by decide +kernel
theorem dX9_guestsIn_17 : decode cX9_guestsIn 17 = .ok (.if_icmp .ne 7, 3) := by decide +kernel
theorem dX9_guestsIn_20 : decode cX9_guestsIn 20 = .ok (.iconst 1, 1) := by decide +kernel
theorem dX9_guestsIn_21 : decode cX9_guestsIn 21 = .ok (.goto 4, 3) := by decide +kernel
theorem dX9_guestsIn_24 : decode cX9_guestsIn 24 = .ok (.iconst 0, 1) := by decide +kernel
theorem dX9_guestsIn_25 : decode cX9_guestsIn 25 = .ok (.iadd, 1) := by decide +kernel
theorem dX9_guestsIn_26 : decode cX9_guestsIn 26 = .ok (.istore_n 2, 1) := by decide +kernel
theorem dX9_guestsIn_27 : decode cX9_guestsIn 27 = .ok (.iinc 3 1, 3) := by decide +kernel
theorem dX9_guestsIn_30 : decode cX9_guestsIn 30 = .ok (.goto (-26), 3) := by decide +kernel
theorem dX9_guestsIn_33 : decode cX9_guestsIn 33 = .ok (.iload_n 2, 1) := by decide +kernel
theorem dX9_guestsIn_34 : decode cX9_guestsIn 34 = .ok (.ireturn, 1) := by decide +kernel
theorem dX9_hangs_0 : decode cX9_hangs 0 = .ok (.iconst 1, 1) := by decide +kernel
theorem dX9_hangs_1 : decode cX9_hangs 1 = .ok (.iload_n 1, 1) := by decide +kernel
theorem dX9_hangs_2 : decode cX9_hangs 2 = .ok (.ishl, 1) := by decide +kernel
theorem dX9_hangs_3 : decode cX9_hangs 3 = .ok (.istore_n 2, 1) := by decide +kernel
theorem dX9_hangs_4 : decode cX9_hangs 4 = .ok (.iconst 0, 1) := by decide +kernel
theorem dX9_hangs_5 : decode cX9_hangs 5 = .ok (.istore_n 3, 1) := by decide +kernel
theorem dX9_hangs_6 : decode cX9_hangs 6 = .ok (.iload_n 3, 1) := by decide +kernel
theorem dX9_hangs_7 : decode cX9_hangs 7 = .ok (.bipush 6, 2) := by decide +kernel
theorem dX9_hangs_9 : decode cX9_hangs 9 = .ok (.if_icmp .ge 71, 3) := by decide +kernel
theorem dX9_hangs_12 : decode cX9_hangs 12 = .ok (.iconst 0, 1) := by decide +kernel
theorem dX9_hangs_13 : decode cX9_hangs 13 = .ok (.istore 4, 2) := by decide +kernel
theorem dX9_hangs_15 : decode cX9_hangs 15 = .ok (.iload 4, 2) := by decide +kernel
theorem dX9_hangs_17 : decode cX9_hangs 17 = .ok (.bipush 10, 2) := by decide +kernel
theorem dX9_hangs_19 : decode cX9_hangs 19 = .ok (.if_icmp .ge 55, 3) := by decide +kernel
theorem dX9_hangs_22 : decode cX9_hangs 22 = .ok (.iconst 1, 1) := by decide +kernel
theorem dX9_hangs_23 : decode cX9_hangs 23 = .ok (.aload_n 0, 1) := by decide +kernel
theorem dX9_hangs_24 : decode cX9_hangs 24 = .ok (.iload 4, 2) := by decide +kernel
theorem dX9_hangs_26 : decode cX9_hangs 26 = .ok (.iconst 1, 1) := by decide +kernel
theorem dX9_hangs_27 : decode cX9_hangs 27 = .ok (.invokevirtual 52, 3) := by decide +kernel
theorem dX9_hangs_30 : decode cX9_hangs 30 = .ok (.ishl, 1) := by decide +kernel
theorem dX9_hangs_31 : decode cX9_hangs 31 = .ok (.iconst 1, 1) := by decide +kernel
theorem dX9_hangs_32 : decode cX9_hangs 32 = .ok (.aload_n 0, 1) := by decide +kernel
theorem dX9_hangs_33 : decode cX9_hangs 33 = .ok (.iload 4, 2) := by decide +kernel
theorem dX9_hangs_35 : decode cX9_hangs 35 = .ok (.iconst 2, 1) := by decide +kernel
theorem dX9_hangs_36 : decode cX9_hangs 36 = .ok (.invokevirtual 52, 3) := by decide +kernel
theorem dX9_hangs_39 : decode cX9_hangs 39 = .ok (.ishl, 1) := by decide +kernel
theorem dX9_hangs_40 : decode cX9_hangs 40 = .ok (.ior, 1) := by decide +kernel
theorem dX9_hangs_41 : decode cX9_hangs 41 = .ok (.istore 5, 2) := by decide +kernel
theorem dX9_hangs_43 : decode cX9_hangs 43 = .ok (.iload_n 2, 1) := by decide +kernel
theorem dX9_hangs_44 : decode cX9_hangs 44 = .ok (.aload_n 0, 1) := by decide +kernel
theorem dX9_hangs_45 : decode cX9_hangs 45 = .ok (.iload 4, 2) := by decide +kernel
theorem dX9_hangs_47 : decode cX9_hangs 47 = .ok (.invokevirtual 78, 3) := by decide +kernel
theorem dX9_hangs_50 : decode cX9_hangs 50 = .ok (.ifCond .eq 15, 3) := by decide +kernel
theorem dX9_hangs_53 : decode cX9_hangs 53 = .ok (.iload_n 2, 1) := by decide +kernel
theorem dX9_hangs_54 : decode cX9_hangs 54 = .ok (.iload 5, 2) := by decide +kernel
theorem dX9_hangs_56 : decode cX9_hangs 56 = .ok (.iand, 1) := by decide +kernel
theorem dX9_hangs_57 : decode cX9_hangs 57 = .ok (.ifCond .eq 8, 3) := by decide +kernel
theorem dX9_hangs_60 : decode cX9_hangs 60 = .ok (.iload 5, 2) := by decide +kernel
theorem dX9_hangs_62 : decode cX9_hangs 62 = .ok (.goto 4, 3) := by decide +kernel
theorem dX9_hangs_65 : decode cX9_hangs 65 = .ok (.iconst 0, 1) := by decide +kernel
theorem dX9_hangs_66 : decode cX9_hangs 66 = .ok (.ior, 1) := by decide +kernel
theorem dX9_hangs_67 : decode cX9_hangs 67 = .ok (.istore_n 2, 1) := by decide +kernel
theorem dX9_hangs_68 : decode cX9_hangs 68 = .ok (.iinc 4 1, 3) := by decide +kernel
theorem dX9_hangs_71 : decode cX9_hangs 71 = .ok (.goto (-56), 3) := by decide +kernel
theorem dX9_hangs_74 : decode cX9_hangs 74 = .ok (.iinc 3 1, 3) := by decide +kernel
theorem dX9_hangs_77 : decode cX9_hangs 77 = .ok (.goto (-71), 3) := by decide +kernel
theorem dX9_hangs_80 : decode cX9_hangs 80 = .ok (.iload_n 2, 1) := by decide +kernel
theorem dX9_hangs_81 : decode cX9_hangs 81 = .ok (.ireturn, 1) := by decide +kernel
theorem dX9_size_0 : decode cX9_size 0 = .ok (.iconst 0, 1) := by decide +kernel
theorem dX9_size_1 : decode cX9_size 1 = .ok (.istore_n 1, 1) := by decide +kernel
theorem dX9_size_2 : decode cX9_size 2 = .ok (.iconst 0, 1) := by decide +kernel
theorem dX9_size_3 : decode cX9_size 3 = .ok (.istore_n 2, 1) := by decide +kernel
theorem dX9_size_4 : decode cX9_size 4 = .ok (.iload_n 2, 1) := by decide +kernel
theorem dX9_size_5 : decode cX9_size 5 = .ok (.bipush 10, 2) := by decide +kernel
theorem dX9_size_7 : decode cX9_size 7 = .ok (.if_icmp .ge 17, 3) := by decide +kernel
theorem dX9_size_10 : decode cX9_size 10 = .ok (.iload_n 1, 1) := by decide +kernel
theorem dX9_size_11 : decode cX9_size 11 = .ok (.iload_n 0, 1) := by decide +kernel
theorem dX9_size_12 : decode cX9_size 12 = .ok (.iload_n 2, 1) := by decide +kernel
theorem dX9_size_13 : decode cX9_size 13 = .ok (.ishr, 1) := by decide +kernel
theorem dX9_size_14 : decode cX9_size 14 = .ok (.iconst 1, 1) := by decide +kernel
theorem dX9_size_15 : decode cX9_size 15 = .ok (.iand, 1) := by decide +kernel
theorem dX9_size_16 : decode cX9_size 16 = .ok (.iadd, 1) := by decide +kernel
theorem dX9_size_17 : decode cX9_size 17 = .ok (.istore_n 1, 1) := by decide +kernel
theorem dX9_size_18 : decode cX9_size 18 = .ok (.iinc 2 1, 3) := by decide +kernel
theorem dX9_size_21 : decode cX9_size 21 = .ok (.goto (-17), 3) := by decide +kernel
theorem dX9_size_24 : decode cX9_size 24 = .ok (.iload_n 1, 1) := by decide +kernel
theorem dX9_size_25 : decode cX9_size 25 = .ok (.ireturn, 1) := by decide +kernel
theorem dX9_hall_0 : decode cX9_hall 0 = .ok (.iload_n 1, 1) := by decide +kernel
theorem dX9_hall_1 : decode cX9_hall 1 = .ok (.invokestatic 145, 3) := by decide +kernel
theorem dX9_hall_4 : decode cX9_hall 4 = .ok (.ifCond .ne 5, 3) := by decide +kernel
theorem dX9_hall_7 : decode cX9_hall 7 = .ok (.iconst (-1), 1) := by decide +kernel
theorem dX9_hall_8 : decode cX9_hall 8 = .ok (.ireturn, 1) := by decide +kernel
theorem dX9_hall_9 : decode cX9_hall 9 = .ok (.iload_n 2, 1) := by decide +kernel
theorem dX9_hall_10 : decode cX9_hall 10 = .ok (.tableswitch 57 0 3 #[30, 36, 42, 48], 30) := by decide +kernel
theorem dX9_hall_40 : decode cX9_hall 40 = .ok (.aload_n 0, 1) := by decide +kernel
theorem dX9_hall_41 : decode cX9_hall 41 = .ok (.iload_n 1, 1) := by decide +kernel
theorem dX9_hall_42 : decode cX9_hall 42 = .ok (.invokevirtual 179, 3) := by decide +kernel
theorem dX9_hall_45 : decode cX9_hall 45 = .ok (.ireturn, 1) := by decide +kernel
theorem dX9_hall_46 : decode cX9_hall 46 = .ok (.aload_n 0, 1) := by decide +kernel
theorem dX9_hall_47 : decode cX9_hall 47 = .ok (.iload_n 1, 1) := by decide +kernel
theorem dX9_hall_48 : decode cX9_hall 48 = .ok (.invokevirtual 93, 3) := by decide +kernel
theorem dX9_hall_51 : decode cX9_hall 51 = .ok (.ireturn, 1) := by decide +kernel
theorem dX9_hall_52 : decode cX9_hall 52 = .ok (.aload_n 0, 1) := by decide +kernel
theorem dX9_hall_53 : decode cX9_hall 53 = .ok (.iload_n 1, 1) := by decide +kernel
theorem dX9_hall_54 : decode cX9_hall 54 = .ok (.invokevirtual 182, 3) := by decide +kernel
theorem dX9_hall_57 : decode cX9_hall 57 = .ok (.ireturn, 1) := by decide +kernel
theorem dX9_hall_58 : decode cX9_hall 58 = .ok (.aload_n 0, 1) := by decide +kernel
theorem dX9_hall_59 : decode cX9_hall 59 = .ok (.iload_n 1, 1) := by decide +kernel
theorem dX9_hall_60 : decode cX9_hall 60 = .ok (.invokevirtual 185, 3) := by decide +kernel
theorem dX9_hall_63 : decode cX9_hall 63 = .ok (.invokestatic 188, 3) := by decide +kernel
theorem dX9_hall_66 : decode cX9_hall 66 = .ok (.ireturn, 1) := by decide +kernel
theorem dX9_hall_67 : decode cX9_hall 67 = .ok (.iconst (-1), 1) := by decide +kernel
theorem dX9_hall_68 : decode cX9_hall 68 = .ok (.ireturn, 1) := by decide +kernel
theorem dX9_canOpen_0 : decode cX9_canOpen 0 = .ok (.iconst 0, 1) := by decide +kernel
theorem dX9_canOpen_1 : decode cX9_canOpen 1 = .ok (.istore_n 2, 1) := by decide +kernel
theorem dX9_canOpen_2 : decode cX9_canOpen 2 = .ok (.iconst 0, 1) := by decide +kernel
theorem dX9_canOpen_3 : decode cX9_canOpen 3 = .ok (.istore_n 3, 1) := by decide +kernel
theorem dX9_canOpen_4 : decode cX9_canOpen 4 = .ok (.iload_n 3, 1) := by decide +kernel
theorem dX9_canOpen_5 : decode cX9_canOpen 5 = .ok (.bipush 10, 2) := by decide +kernel
theorem dX9_canOpen_7 : decode cX9_canOpen 7 = .ok (.if_icmp .ge 43, 3) := by decide +kernel
theorem dX9_canOpen_10 : decode cX9_canOpen 10 = .ok (.iload_n 2, 1) := by decide +kernel
theorem dX9_canOpen_11 : decode cX9_canOpen 11 = .ok (.aload_n 0, 1) := by decide +kernel
theorem dX9_canOpen_12 : decode cX9_canOpen 12 = .ok (.iload_n 1, 1) := by decide +kernel
theorem dX9_canOpen_13 : decode cX9_canOpen 13 = .ok (.iload_n 3, 1) := by decide +kernel
theorem dX9_canOpen_14 : decode cX9_canOpen 14 = .ok (.invokevirtual 112, 3) := by decide +kernel
theorem dX9_canOpen_17 : decode cX9_canOpen 17 = .ok (.ifCond .eq 24, 3) := by decide +kernel
theorem dX9_canOpen_20 : decode cX9_canOpen 20 = .ok (.aload_n 0, 1) := by decide +kernel
theorem dX9_canOpen_21 : decode cX9_canOpen 21 = .ok (.iload_n 1, 1) := by decide +kernel
theorem dX9_canOpen_22 : decode cX9_canOpen 22 = .ok (.iload_n 3, 1) := by decide +kernel
theorem dX9_canOpen_23 : decode cX9_canOpen 23 = .ok (.invokevirtual 115, 3) := by decide +kernel
theorem dX9_canOpen_26 : decode cX9_canOpen 26 = .ok (.ifCond .eq 15, 3) := by decide +kernel
theorem dX9_canOpen_29 : decode cX9_canOpen 29 = .ok (.aload_n 0, 1) := by decide +kernel
theorem dX9_canOpen_30 : decode cX9_canOpen 30 = .ok (.iload_n 3, 1) := by decide +kernel
theorem dX9_canOpen_31 : decode cX9_canOpen 31 = .ok (.invokevirtual 100, 3) := by decide +kernel
theorem dX9_canOpen_34 : decode cX9_canOpen 34 = .ok (.ifCond .ne 7, 3) := by decide +kernel
theorem dX9_canOpen_37 : decode cX9_canOpen 37 = .ok (.iconst 1, 1) := by decide +kernel
theorem dX9_canOpen_38 : decode cX9_canOpen 38 = .ok (.goto 4, 3) := by decide +kernel
theorem dX9_canOpen_41 : decode cX9_canOpen 41 = .ok (.iconst 0, 1) := by decide +kernel
theorem dX9_canOpen_42 : decode cX9_canOpen 42 = .ok (.iadd, 1) := by decide +kernel
theorem dX9_canOpen_43 : decode cX9_canOpen 43 = .ok (.istore_n 2, 1) := by decide +kernel
theorem dX9_canOpen_44 : decode cX9_canOpen 44 = .ok (.iinc 3 1, 3) := by decide +kernel
theorem dX9_canOpen_47 : decode cX9_canOpen 47 = .ok (.goto (-43), 3) := by decide +kernel
theorem dX9_canOpen_50 : decode cX9_canOpen 50 = .ok (.iload_n 2, 1) := by decide +kernel
theorem dX9_canOpen_51 : decode cX9_canOpen 51 = .ok (.ireturn, 1) := by decide +kernel
theorem dX9_guest_0 : decode cX9_guest 0 = .ok (.iload_n 1, 1) := by decide +kernel
theorem dX9_guest_1 : decode cX9_guest 1 = .ok (.invokestatic 130, 3) := by decide +kernel
theorem dX9_guest_4 : decode cX9_guest 4 = .ok (.ifCond .ne 5, 3) := by decide +kernel
theorem dX9_guest_7 : decode cX9_guest 7 = .ok (.iconst (-1), 1) := by decide +kernel
theorem dX9_guest_8 : decode cX9_guest 8 = .ok (.ireturn, 1) := by decide +kernel
theorem dX9_guest_9 : decode cX9_guest 9 = .ok (.iload_n 2, 1) := by decide +kernel
theorem dX9_guest_10 : decode cX9_guest 10 = .ok (.tableswitch 50 0 3 #[30, 30, 37, 43], 30) := by decide +kernel
theorem dX9_guest_40 : decode cX9_guest 40 = .ok (.aload_n 0, 1) := by decide +kernel
theorem dX9_guest_41 : decode cX9_guest 41 = .ok (.iload_n 1, 1) := by decide +kernel
theorem dX9_guest_42 : decode cX9_guest 42 = .ok (.iload_n 2, 1) := by decide +kernel
theorem dX9_guest_43 : decode cX9_guest 43 = .ok (.invokevirtual 109, 3) := by decide +kernel
theorem dX9_guest_46 : decode cX9_guest 46 = .ok (.ireturn, 1) := by decide +kernel
theorem dX9_guest_47 : decode cX9_guest 47 = .ok (.aload_n 0, 1) := by decide +kernel
theorem dX9_guest_48 : decode cX9_guest 48 = .ok (.iload_n 1, 1) := by decide +kernel
theorem dX9_guest_49 : decode cX9_guest 49 = .ok (.invokevirtual 191, 3) := by decide +kernel
theorem dX9_guest_52 : decode cX9_guest 52 = .ok (.ireturn, 1) := by decide +kernel
theorem dX9_guest_53 : decode cX9_guest 53 = .ok (.aload_n 0, 1) := by decide +kernel
theorem dX9_guest_54 : decode cX9_guest 54 = .ok (.iload_n 1, 1) := by decide +kernel
theorem dX9_guest_55 : decode cX9_guest 55 = .ok (.iconst 2, 1) := by decide +kernel
theorem dX9_guest_56 : decode cX9_guest 56 = .ok (.invokevirtual 109, 3) := by decide +kernel
theorem dX9_guest_59 : decode cX9_guest 59 = .ok (.ireturn, 1) := by decide +kernel
theorem dX9_guest_60 : decode cX9_guest 60 = .ok (.iconst (-1), 1) := by decide +kernel
theorem dX9_guest_61 : decode cX9_guest 61 = .ok (.ireturn, 1) := by decide +kernel
theorem dX9_whyNot_0 : decode cX9_whyNot 0 = .ok (.iload_n 1, 1) := by decide +kernel
theorem dX9_whyNot_1 : decode cX9_whyNot 1 = .ok (.invokestatic 127, 3) := by decide +kernel
theorem dX9_whyNot_4 : decode cX9_whyNot 4 = .ok (.ifCond .eq 11, 3) := by decide +kernel
theorem dX9_whyNot_7 : decode cX9_whyNot 7 = .ok (.aload_n 0, 1) := by decide +kernel
theorem dX9_whyNot_8 : decode cX9_whyNot 8 = .ok (.iload_n 1, 1) := by decide +kernel
theorem dX9_whyNot_9 : decode cX9_whyNot 9 = .ok (.invokevirtual 100, 3) := by decide +kernel
theorem dX9_whyNot_12 : decode cX9_whyNot 12 = .ok (.goto 4, 3) := by decide +kernel
theorem dX9_whyNot_15 : decode cX9_whyNot 15 = .ok (.iconst (-1), 1) := by decide +kernel
theorem dX9_whyNot_16 : decode cX9_whyNot 16 = .ok (.ireturn, 1) := by decide +kernel
theorem dX9_canBe_0 : decode cX9_canBe 0 = .ok (.iconst 1, 1) := by decide +kernel
theorem dX9_canBe_1 : decode cX9_canBe 1 = .ok (.istore_n 2, 1) := by decide +kernel
theorem dX9_canBe_2 : decode cX9_canBe 2 = .ok (.iconst 0, 1) := by decide +kernel
theorem dX9_canBe_3 : decode cX9_canBe 3 = .ok (.istore_n 3, 1) := by decide +kernel
theorem dX9_canBe_4 : decode cX9_canBe 4 = .ok (.iload_n 3, 1) := by decide +kernel
theorem dX9_canBe_5 : decode cX9_canBe 5 = .ok (.bipush 10, 2) := by decide +kernel
theorem dX9_canBe_7 : decode cX9_canBe 7 = .ok (.if_icmp .ge 58, 3) := by decide +kernel
theorem dX9_canBe_10 : decode cX9_canBe 10 = .ok (.iconst 0, 1) := by decide +kernel
theorem dX9_canBe_11 : decode cX9_canBe 11 = .ok (.istore 4, 2) := by decide +kernel
theorem dX9_canBe_13 : decode cX9_canBe 13 = .ok (.iload 4, 2) := by decide +kernel
theorem dX9_canBe_15 : decode cX9_canBe 15 = .ok (.bipush 10, 2) := by decide +kernel
theorem dX9_canBe_17 : decode cX9_canBe 17 = .ok (.if_icmp .ge 42, 3) := by decide +kernel
theorem dX9_canBe_20 : decode cX9_canBe 20 = .ok (.iload_n 2, 1) := by decide +kernel
theorem dX9_canBe_21 : decode cX9_canBe 21 = .ok (.ifCond .eq 30, 3) := by decide +kernel
theorem dX9_canBe_24 : decode cX9_canBe 24 = .ok (.iload_n 1, 1) := by decide +kernel
theorem dX9_canBe_25 : decode cX9_canBe 25 = .ok (.iload_n 3, 1) := by decide +kernel
theorem dX9_canBe_26 : decode cX9_canBe 26 = .ok (.ishr, 1) := by decide +kernel
theorem dX9_canBe_27 : decode cX9_canBe 27 = .ok (.iload_n 1, 1) := by decide +kernel
theorem dX9_canBe_28 : decode cX9_canBe 28 = .ok (.iload 4, 2) := by decide +kernel
theorem dX9_canBe_30 : decode cX9_canBe 30 = .ok (.ishr, 1) := by decide +kernel
theorem dX9_canBe_31 : decode cX9_canBe 31 = .ok (.iand, 1) := by decide +kernel
theorem dX9_canBe_32 : decode cX9_canBe 32 = .ok (.iconst 1, 1) := by decide +kernel
theorem dX9_canBe_33 : decode cX9_canBe 33 = .ok (.iand, 1) := by decide +kernel
theorem dX9_canBe_34 : decode cX9_canBe 34 = .ok (.ifCond .eq 13, 3) := by decide +kernel
theorem dX9_canBe_37 : decode cX9_canBe 37 = .ok (.aload_n 0, 1) := by decide +kernel
theorem dX9_canBe_38 : decode cX9_canBe 38 = .ok (.iload_n 3, 1) := by decide +kernel
theorem dX9_canBe_39 : decode cX9_canBe 39 = .ok (.iload 4, 2) := by decide +kernel
theorem dX9_canBe_41 : decode cX9_canBe 41 = .ok (.invokevirtual 74, 3) := by decide +kernel
theorem dX9_canBe_44 : decode cX9_canBe 44 = .ok (.ifCond .ne 7, 3) := by decide +kernel
theorem dX9_canBe_47 : decode cX9_canBe 47 = .ok (.iconst 1, 1) := by decide +kernel
theorem dX9_canBe_48 : decode cX9_canBe 48 = .ok (.goto 4, 3) := by decide +kernel
theorem dX9_canBe_51 : decode cX9_canBe 51 = .ok (.iconst 0, 1) := by decide +kernel
theorem dX9_canBe_52 : decode cX9_canBe 52 = .ok (.istore_n 2, 1) := by decide +kernel
theorem dX9_canBe_53 : decode cX9_canBe 53 = .ok (.iinc 4 1, 3) := by decide +kernel
theorem dX9_canBe_56 : decode cX9_canBe 56 = .ok (.goto (-43), 3) := by decide +kernel
theorem dX9_canBe_59 : decode cX9_canBe 59 = .ok (.iinc 3 1, 3) := by decide +kernel
theorem dX9_canBe_62 : decode cX9_canBe 62 = .ok (.goto (-58), 3) := by decide +kernel
theorem dX9_canBe_65 : decode cX9_canBe 65 = .ok (.iconst 0, 1) := by decide +kernel
theorem dX9_canBe_66 : decode cX9_canBe 66 = .ok (.istore_n 3, 1) := by decide +kernel
theorem dX9_canBe_67 : decode cX9_canBe 67 = .ok (.iload_n 3, 1) := by decide +kernel
theorem dX9_canBe_68 : decode cX9_canBe 68 = .ok (.bipush 6, 2) := by decide +kernel
theorem dX9_canBe_70 : decode cX9_canBe 70 = .ok (.if_icmp .ge 79, 3) := by decide +kernel
theorem dX9_canBe_73 : decode cX9_canBe 73 = .ok (.iconst 0, 1) := by decide +kernel
theorem dX9_canBe_74 : decode cX9_canBe 74 = .ok (.istore 4, 2) := by decide +kernel
theorem dX9_canBe_76 : decode cX9_canBe 76 = .ok (.iconst 0, 1) := by decide +kernel
theorem dX9_canBe_77 : decode cX9_canBe 77 = .ok (.istore 5, 2) := by decide +kernel
theorem dX9_canBe_79 : decode cX9_canBe 79 = .ok (.iload 5, 2) := by decide +kernel
theorem dX9_canBe_81 : decode cX9_canBe 81 = .ok (.bipush 10, 2) := by decide +kernel
theorem dX9_canBe_83 : decode cX9_canBe 83 = .ok (.if_icmp .ge 39, 3) := by decide +kernel
theorem dX9_canBe_86 : decode cX9_canBe 86 = .ok (.iload 4, 2) := by decide +kernel
theorem dX9_canBe_88 : decode cX9_canBe 88 = .ok (.iload_n 1, 1) := by decide +kernel
theorem dX9_canBe_89 : decode cX9_canBe 89 = .ok (.iload 5, 2) := by decide +kernel
theorem dX9_canBe_91 : decode cX9_canBe 91 = .ok (.ishr, 1) := by decide +kernel
theorem dX9_canBe_92 : decode cX9_canBe 92 = .ok (.iconst 1, 1) := by decide +kernel
theorem dX9_canBe_93 : decode cX9_canBe 93 = .ok (.iand, 1) := by decide +kernel
theorem dX9_canBe_94 : decode cX9_canBe 94 = .ok (.iconst 1, 1) := by decide +kernel
theorem dX9_canBe_95 : decode cX9_canBe 95 = .ok (.if_icmp .ne 17, 3) := by decide +kernel
theorem dX9_canBe_98 : decode cX9_canBe 98 = .ok (.aload_n 0, 1) := by decide +kernel
theorem dX9_canBe_99 : decode cX9_canBe 99 = .ok (.iload 5, 2) := by decide +kernel
theorem dX9_canBe_101 : decode cX9_canBe 101 = .ok (.iload_n 3, 1) := by decide +kernel
theorem dX9_canBe_102 : decode cX9_canBe 102 = .ok (.invokevirtual 86, 3) := by decide +kernel
theorem dX9_canBe_105 : decode cX9_canBe 105 = .ok (.ifCond .eq 7, 3) := by decide +kernel
theorem dX9_canBe_108 : decode cX9_canBe 108 = .ok (.iconst 1, 1) := by decide +kernel
theorem dX9_canBe_109 : decode cX9_canBe 109 = .ok (.goto 4, 3) := by decide +kernel
theorem dX9_canBe_112 : decode cX9_canBe 112 = .ok (.iconst 0, 1) := by decide +kernel
theorem dX9_canBe_113 : decode cX9_canBe 113 = .ok (.iadd, 1) := by decide +kernel
theorem dX9_canBe_114 : decode cX9_canBe 114 = .ok (.istore 4, 2) := by decide +kernel
theorem dX9_canBe_116 : decode cX9_canBe 116 = .ok (.iinc 5 1, 3) := by decide +kernel
theorem dX9_canBe_119 : decode cX9_canBe 119 = .ok (.goto (-40), 3) := by decide +kernel
theorem dX9_canBe_122 : decode cX9_canBe 122 = .ok (.iload_n 2, 1) := by decide +kernel
theorem dX9_canBe_123 : decode cX9_canBe 123 = .ok (.ifCond .eq 18, 3) := by decide +kernel
theorem dX9_canBe_126 : decode cX9_canBe 126 = .ok (.iload 4, 2) := by decide +kernel
theorem dX9_canBe_128 : decode cX9_canBe 128 = .ok (.aload_n 0, 1) := by decide +kernel
theorem dX9_canBe_129 : decode cX9_canBe 129 = .ok (.getfield 7, 3) := by decide +kernel
theorem dX9_canBe_132 : decode cX9_canBe 132 = .ok (.iconst 0, 1) := by decide +kernel
theorem dX9_canBe_133 : decode cX9_canBe 133 = .ok (.iaload, 1) := by decide +kernel
theorem dX9_canBe_134 : decode cX9_canBe 134 = .ok (.if_icmp .gt 7, 3) := by decide +kernel
theorem dX9_canBe_137 : decode cX9_canBe 137 = .ok (.iconst 1, 1) := by decide +kernel
theorem dX9_canBe_138 : decode cX9_canBe 138 = .ok (.goto 4, 3) := by decide +kernel
theorem dX9_canBe_141 : decode cX9_canBe 141 = .ok (.iconst 0, 1) := by decide +kernel
theorem dX9_canBe_142 : decode cX9_canBe 142 = .ok (.istore_n 2, 1) := by decide +kernel
theorem dX9_canBe_143 : decode cX9_canBe 143 = .ok (.iinc 3 1, 3) := by decide +kernel
theorem dX9_canBe_146 : decode cX9_canBe 146 = .ok (.goto (-79), 3) := by decide +kernel
theorem dX9_canBe_149 : decode cX9_canBe 149 = .ok (.iload_n 2, 1) := by decide +kernel
theorem dX9_canBe_150 : decode cX9_canBe 150 = .ok (.ireturn, 1) := by decide +kernel
theorem dX9_can_0 : decode cX9_can 0 = .ok (.iload_n 1, 1) := by decide +kernel
theorem dX9_can_1 : decode cX9_can 1 = .ok (.iconst 0, 1) := by decide +kernel
theorem dX9_can_2 : decode cX9_can 2 = .ok (.sipush 1023, 3) := by decide +kernel
theorem dX9_can_5 : decode cX9_can 5 = .ok (.invokestatic 48, 3) := by decide +kernel
theorem dX9_can_8 : decode cX9_can 8 = .ok (.ifCond .ne 7, 3) := by decide +kernel
theorem dX9_can_11 : decode cX9_can 11 = .ok (.iconst (-1), 1) := by decide +kernel
theorem dX9_can_12 : decode cX9_can 12 = .ok (.goto 16, 3) := by decide +kernel
theorem dX9_can_15 : decode cX9_can 15 = .ok (.aload_n 0, 1) := by decide +kernel
theorem dX9_can_16 : decode cX9_can 16 = .ok (.iload_n 1, 1) := by decide +kernel
theorem dX9_can_17 : decode cX9_can 17 = .ok (.invokevirtual 194, 3) := by decide +kernel
theorem dX9_can_20 : decode cX9_can 20 = .ok (.ifCond .eq 7, 3) := by decide +kernel
theorem dX9_can_23 : decode cX9_can 23 = .ok (.iconst 1, 1) := by decide +kernel
theorem dX9_can_24 : decode cX9_can 24 = .ok (.goto 4, 3) := by decide +kernel
theorem dX9_can_27 : decode cX9_can 27 = .ok (.iconst 0, 1) := by decide +kernel
theorem dX9_can_28 : decode cX9_can 28 = .ok (.ireturn, 1) := by decide +kernel
theorem dX9_together_0 : decode cX9_together 0 = .ok (.iload_n 1, 1) := by decide +kernel
theorem dX9_together_1 : decode cX9_together 1 = .ok (.iconst 0, 1) := by decide +kernel
theorem dX9_together_2 : decode cX9_together 2 = .ok (.iconst 1, 1) := by decide +kernel
theorem dX9_together_3 : decode cX9_together 3 = .ok (.invokestatic 48, 3) := by decide +kernel
theorem dX9_together_6 : decode cX9_together 6 = .ok (.ifCond .ne 5, 3) := by decide +kernel
theorem dX9_together_9 : decode cX9_together 9 = .ok (.iconst (-1), 1) := by decide +kernel
theorem dX9_together_10 : decode cX9_together 10 = .ok (.ireturn, 1) := by decide +kernel
theorem dX9_together_11 : decode cX9_together 11 = .ok (.iconst 0, 1) := by decide +kernel
theorem dX9_together_12 : decode cX9_together 12 = .ok (.istore_n 2, 1) := by decide +kernel
theorem dX9_together_13 : decode cX9_together 13 = .ok (.iconst 0, 1) := by decide +kernel
theorem dX9_together_14 : decode cX9_together 14 = .ok (.istore_n 3, 1) := by decide +kernel
theorem dX9_together_15 : decode cX9_together 15 = .ok (.iload_n 3, 1) := by decide +kernel
theorem dX9_together_16 : decode cX9_together 16 = .ok (.sipush 1024, 3) := by decide +kernel
theorem dX9_together_19 : decode cX9_together 19 = .ok (.if_icmp .ge 34, 3) := by decide +kernel
theorem dX9_together_22 : decode cX9_together 22 = .ok (.iload_n 3, 1) := by decide +kernel
theorem dX9_together_23 : decode cX9_together 23 = .ok (.invokestatic 188, 3) := by decide +kernel
theorem dX9_together_26 : decode cX9_together 26 = .ok (.iload_n 2, 1) := by decide +kernel
theorem dX9_together_27 : decode cX9_together 27 = .ok (.if_icmp .le 18, 3) := by decide +kernel
theorem dX9_together_30 : decode cX9_together 30 = .ok (.aload_n 0, 1) := by decide +kernel
theorem dX9_together_31 : decode cX9_together 31 = .ok (.iload_n 3, 1) := by decide +kernel
theorem dX9_together_32 : decode cX9_together 32 = .ok (.invokevirtual 194, 3) := by decide +kernel
theorem dX9_together_35 : decode cX9_together 35 = .ok (.ifCond .eq 10, 3) := by decide +kernel
theorem dX9_together_38 : decode cX9_together 38 = .ok (.iload_n 3, 1) := by decide +kernel
theorem dX9_together_39 : decode cX9_together 39 = .ok (.invokestatic 188, 3) := by decide +kernel
theorem dX9_together_42 : decode cX9_together 42 = .ok (.goto 4, 3) := by decide +kernel
theorem dX9_together_45 : decode cX9_together 45 = .ok (.iload_n 2, 1) := by decide +kernel
theorem dX9_together_46 : decode cX9_together 46 = .ok (.istore_n 2, 1) := by decide +kernel
theorem dX9_together_47 : decode cX9_together 47 = .ok (.iinc 3 1, 3) := by decide +kernel
theorem dX9_together_50 : decode cX9_together 50 = .ok (.goto (-35), 3) := by decide +kernel
theorem dX9_together_53 : decode cX9_together 53 = .ok (.iload_n 2, 1) := by decide +kernel
theorem dX9_together_54 : decode cX9_together 54 = .ok (.ireturn, 1) := by decide +kernel
theorem dX9_laySet_0 : decode cX9_laySet 0 = .ok (.iconst 0, 1) := by decide +kernel
theorem dX9_laySet_1 : decode cX9_laySet 1 = .ok (.istore_n 2, 1) := by decide +kernel
theorem dX9_laySet_2 : decode cX9_laySet 2 = .ok (.iload_n 2, 1) := by decide +kernel
theorem dX9_laySet_3 : decode cX9_laySet 3 = .ok (.bipush 10, 2) := by decide +kernel
theorem dX9_laySet_5 : decode cX9_laySet 5 = .ok (.if_icmp .ge 20, 3) := by decide +kernel
theorem dX9_laySet_8 : decode cX9_laySet 8 = .ok (.aload_n 0, 1) := by decide +kernel
theorem dX9_laySet_9 : decode cX9_laySet 9 = .ok (.iload_n 2, 1) := by decide +kernel
theorem dX9_laySet_10 : decode cX9_laySet 10 = .ok (.iconst 0, 1) := by decide +kernel
theorem dX9_laySet_11 : decode cX9_laySet 11 = .ok (.iload_n 1, 1) := by decide +kernel
theorem dX9_laySet_12 : decode cX9_laySet 12 = .ok (.iload_n 2, 1) := by decide +kernel
theorem dX9_laySet_13 : decode cX9_laySet 13 = .ok (.ishr, 1) := by decide +kernel
theorem dX9_laySet_14 : decode cX9_laySet 14 = .ok (.iconst 1, 1) := by decide +kernel
theorem dX9_laySet_15 : decode cX9_laySet 15 = .ok (.iand, 1) := by decide +kernel
theorem dX9_laySet_16 : decode cX9_laySet 16 = .ok (.invokevirtual 44, 3) := by decide +kernel
theorem dX9_laySet_19 : decode cX9_laySet 19 = .ok (.iinc 2 1, 3) := by decide +kernel
theorem dX9_laySet_22 : decode cX9_laySet 22 = .ok (.goto (-20), 3) := by decide +kernel
theorem dX9_laySet_25 : decode cX9_laySet 25 = .ok (.return_, 1) := by decide +kernel
theorem dX9_reach_0 : decode cX9_reach 0 = .ok (.aload_n 0, 1) := by decide +kernel
theorem dX9_reach_1 : decode cX9_reach 1 = .ok (.getfield 38, 3) := by decide +kernel
theorem dX9_reach_4 : decode cX9_reach 4 = .ok (.iload_n 1, 1) := by decide +kernel
theorem dX9_reach_5 : decode cX9_reach 5 = .ok (.iaload, 1) := by decide +kernel
theorem dX9_reach_6 : decode cX9_reach 6 = .ok (.bipush (-4), 2) := by decide +kernel
theorem dX9_reach_8 : decode cX9_reach 8 = .ok (.if_icmp .ne 30, 3) := by decide +kernel
theorem dX9_reach_11 : decode cX9_reach 11 = .ok (.aload_n 0, 1) := by decide +kernel
theorem dX9_reach_12 : decode cX9_reach 12 = .ok (.getfield 38, 3) := by decide +kernel
theorem dX9_reach_15 : decode cX9_reach 15 = .ok (.iload_n 1, 1) := by decide +kernel
theorem dX9_reach_16 : decode cX9_reach 16 = .ok (.iload_n 2, 1) := by decide +kernel
theorem dX9_reach_17 : decode cX9_reach 17 = .ok (.iastore, 1) := by decide +kernel
theorem dX9_reach_18 : decode cX9_reach 18 = .ok (.aload_n 0, 1) := by decide +kernel
theorem dX9_reach_19 : decode cX9_reach 19 = .ok (.getfield 41, 3) := by decide +kernel
theorem dX9_reach_22 : decode cX9_reach 22 = .ok (.aload_n 0, 1) := by decide +kernel
theorem dX9_reach_23 : decode cX9_reach 23 = .ok (.getfield 197, 3) := by decide +kernel
theorem dX9_reach_26 : decode cX9_reach 26 = .ok (.iload_n 1, 1) := by decide +kernel
theorem dX9_reach_27 : decode cX9_reach 27 = .ok (.iastore, 1) := by decide +kernel
theorem dX9_reach_28 : decode cX9_reach 28 = .ok (.aload_n 0, 1) := by decide +kernel
theorem dX9_reach_29 : decode cX9_reach 29 = .ok (.dup, 1) := by decide +kernel
theorem dX9_reach_30 : decode cX9_reach 30 = .ok (.getfield 197, 3) := by decide +kernel
theorem dX9_reach_33 : decode cX9_reach 33 = .ok (.iconst 1, 1) := by decide +kernel
theorem dX9_reach_34 : decode cX9_reach 34 = .ok (.iadd, 1) := by decide +kernel
theorem dX9_reach_35 : decode cX9_reach 35 = .ok (.putfield 197, 3) := by decide +kernel
theorem dX9_reach_38 : decode cX9_reach 38 = .ok (.return_, 1) := by decide +kernel
theorem dX9_goOn_0 : decode cX9_goOn 0 = .ok (.iload_n 2, 1) := by decide +kernel
theorem dX9_goOn_1 : decode cX9_goOn 1 = .ok (.sipush 1024, 3) := by decide +kernel
theorem dX9_goOn_4 : decode cX9_goOn 4 = .ok (.idiv, 1) := by decide +kernel
theorem dX9_goOn_5 : decode cX9_goOn 5 = .ok (.istore_n 3, 1) := by decide +kernel
theorem dX9_goOn_6 : decode cX9_goOn 6 = .ok (.iload_n 2, 1) := by decide +kernel
theorem dX9_goOn_7 : decode cX9_goOn 7 = .ok (.sipush 1024, 3) := by decide +kernel
theorem dX9_goOn_10 : decode cX9_goOn 10 = .ok (.irem, 1) := by decide +kernel
theorem dX9_goOn_11 : decode cX9_goOn 11 = .ok (.istore 4, 2) := by decide +kernel
theorem dX9_goOn_13 : decode cX9_goOn 13 = .ok (.iconst 0, 1) := by decide +kernel
theorem dX9_goOn_14 : decode cX9_goOn 14 = .ok (.istore 5, 2) := by decide +kernel
theorem dX9_goOn_16 : decode cX9_goOn 16 = .ok (.iload 5, 2) := by decide +kernel
theorem dX9_goOn_18 : decode cX9_goOn 18 = .ok (.bipush 10, 2) := by decide +kernel
theorem dX9_goOn_20 : decode cX9_goOn 20 = .ok (.if_icmp .ge 139, 3) := by decide +kernel
theorem dX9_goOn_23 : decode cX9_goOn 23 = .ok (.aload_n 0, 1) := by decide +kernel
theorem dX9_goOn_24 : decode cX9_goOn 24 = .ok (.iload 4, 2) := by decide +kernel
theorem dX9_goOn_26 : decode cX9_goOn 26 = .ok (.invokevirtual 200, 3) := by decide +kernel
theorem dX9_goOn_29 : decode cX9_goOn 29 = .ok (.aload_n 0, 1) := by decide +kernel
theorem dX9_goOn_30 : decode cX9_goOn 30 = .ok (.iload 5, 2) := by decide +kernel
theorem dX9_goOn_32 : decode cX9_goOn 32 = .ok (.iload_n 3, 1) := by decide +kernel
theorem dX9_goOn_33 : decode cX9_goOn 33 = .ok (.invokevirtual 86, 3) := by decide +kernel
theorem dX9_goOn_36 : decode cX9_goOn 36 = .ok (.ifCond .eq 59, 3) := by decide +kernel
theorem dX9_goOn_39 : decode cX9_goOn 39 = .ok (.aload_n 0, 1) := by decide +kernel
theorem dX9_goOn_40 : decode cX9_goOn 40 = .ok (.iload 5, 2) := by decide +kernel
theorem dX9_goOn_42 : decode cX9_goOn 42 = .ok (.invokevirtual 78, 3) := by decide +kernel
theorem dX9_goOn_45 : decode cX9_goOn 45 = .ok (.ifCond .eq 50, 3) := by decide +kernel
theorem dX9_goOn_48 : decode cX9_goOn 48 = .ok (.aload_n 0, 1) := by decide +kernel
theorem dX9_goOn_49 : decode cX9_goOn 49 = .ok (.sipush 1024, 3) := by decide +kernel
theorem dX9_goOn_52 : decode cX9_goOn 52 = .ok (.aload_n 0, 1) := by decide +kernel
theorem dX9_goOn_53 : decode cX9_goOn 53 = .ok (.iload 5, 2) := by decide +kernel
theorem dX9_goOn_55 : decode cX9_goOn 55 = .ok (.iload_n 3, 1) := by decide +kernel
theorem dX9_goOn_56 : decode cX9_goOn 56 = .ok (.invokevirtual 124, 3) := by decide +kernel
theorem dX9_goOn_59 : decode cX9_goOn 59 = .ok (.imul, 1) := by decide +kernel
theorem dX9_goOn_60 : decode cX9_goOn 60 = .ok (.iload 4, 2) := by decide +kernel
theorem dX9_goOn_62 : decode cX9_goOn 62 = .ok (.iadd, 1) := by decide +kernel
theorem dX9_goOn_63 : decode cX9_goOn 63 = .ok (.aload_n 0, 1) := by decide +kernel
theorem dX9_goOn_64 : decode cX9_goOn 64 = .ok (.getfield 38, 3) := by decide +kernel
theorem dX9_goOn_67 : decode cX9_goOn 67 = .ok (.iload_n 2, 1) := by decide +kernel
theorem dX9_goOn_68 : decode cX9_goOn 68 = .ok (.iaload, 1) := by decide +kernel
theorem dX9_goOn_69 : decode cX9_goOn 69 = .ok (.iconst 1, 1) := by decide +kernel
theorem dX9_goOn_70 : decode cX9_goOn 70 = .ok (.iadd, 1) := by decide +kernel
theorem dX9_goOn_71 : decode cX9_goOn 71 = .ok (.invokevirtual 204, 3) := by decide +kernel
theorem dX9_goOn_74 : decode cX9_goOn 74 = .ok (.aload_n 0, 1) := by decide +kernel
theorem dX9_goOn_75 : decode cX9_goOn 75 = .ok (.iload_n 2, 1) := by decide +kernel
theorem dX9_goOn_76 : decode cX9_goOn 76 = .ok (.iconst 1, 1) := by decide +kernel
theorem dX9_goOn_77 : decode cX9_goOn 77 = .ok (.iload 5, 2) := by decide +kernel
theorem dX9_goOn_79 : decode cX9_goOn 79 = .ok (.ishl, 1) := by decide +kernel
theorem dX9_goOn_80 : decode cX9_goOn 80 = .ok (.isub, 1) := by decide +kernel
theorem dX9_goOn_81 : decode cX9_goOn 81 = .ok (.aload_n 0, 1) := by decide +kernel
theorem dX9_goOn_82 : decode cX9_goOn 82 = .ok (.getfield 38, 3) := by decide +kernel
theorem dX9_goOn_85 : decode cX9_goOn 85 = .ok (.iload_n 2, 1) := by decide +kernel
theorem dX9_goOn_86 : decode cX9_goOn 86 = .ok (.iaload, 1) := by decide +kernel
theorem dX9_goOn_87 : decode cX9_goOn 87 = .ok (.iconst 1, 1) := by decide +kernel
theorem dX9_goOn_88 : decode cX9_goOn 88 = .ok (.iadd, 1) := by decide +kernel
theorem dX9_goOn_89 : decode cX9_goOn 89 = .ok (.invokevirtual 204, 3) := by decide +kernel
theorem dX9_goOn_92 : decode cX9_goOn 92 = .ok (.goto 61, 3) := by decide +kernel
theorem dX9_goOn_95 : decode cX9_goOn 95 = .ok (.aload_n 0, 1) := by decide +kernel
theorem dX9_goOn_96 : decode cX9_goOn 96 = .ok (.iload 5, 2) := by decide +kernel
theorem dX9_goOn_98 : decode cX9_goOn 98 = .ok (.iload_n 3, 1) := by decide +kernel
theorem dX9_goOn_99 : decode cX9_goOn 99 = .ok (.invokevirtual 86, 3) := by decide +kernel
theorem dX9_goOn_102 : decode cX9_goOn 102 = .ok (.ifCond .eq 51, 3) := by decide +kernel
theorem dX9_goOn_105 : decode cX9_goOn 105 = .ok (.aload_n 0, 1) := by decide +kernel
theorem dX9_goOn_106 : decode cX9_goOn 106 = .ok (.iload_n 1, 1) := by decide +kernel
theorem dX9_goOn_107 : decode cX9_goOn 107 = .ok (.iload 5, 2) := by decide +kernel
theorem dX9_goOn_109 : decode cX9_goOn 109 = .ok (.invokevirtual 115, 3) := by decide +kernel
theorem dX9_goOn_112 : decode cX9_goOn 112 = .ok (.ifCond .eq 41, 3) := by decide +kernel
theorem dX9_goOn_115 : decode cX9_goOn 115 = .ok (.aload_n 0, 1) := by decide +kernel
theorem dX9_goOn_116 : decode cX9_goOn 116 = .ok (.iload 5, 2) := by decide +kernel
theorem dX9_goOn_118 : decode cX9_goOn 118 = .ok (.invokevirtual 100, 3) := by decide +kernel
theorem dX9_goOn_121 : decode cX9_goOn 121 = .ok (.ifCond .ne 32, 3) := by decide +kernel
theorem dX9_goOn_124 : decode cX9_goOn 124 = .ok (.aload_n 0, 1) := by decide +kernel
theorem dX9_goOn_125 : decode cX9_goOn 125 = .ok (.iload 5, 2) := by decide +kernel
theorem dX9_goOn_127 : decode cX9_goOn 127 = .ok (.invokevirtual 106, 3) := by decide +kernel
theorem dX9_goOn_130 : decode cX9_goOn 130 = .ok (.pop, 1) := by decide +kernel
theorem dX9_goOn_131 : decode cX9_goOn 131 = .ok (.aload_n 0, 1) := by decide +kernel
theorem dX9_goOn_132 : decode cX9_goOn 132 = .ok (.sipush 1024, 3) := by decide +kernel
theorem dX9_goOn_135 : decode cX9_goOn 135 = .ok (.iload_n 3, 1) := by decide +kernel
theorem dX9_goOn_136 : decode cX9_goOn 136 = .ok (.imul, 1) := by decide +kernel
theorem dX9_goOn_137 : decode cX9_goOn 137 = .ok (.aload_n 0, 1) := by decide +kernel
theorem dX9_goOn_138 : decode cX9_goOn 138 = .ok (.invokevirtual 67, 3) := by decide +kernel
theorem dX9_goOn_141 : decode cX9_goOn 141 = .ok (.iadd, 1) := by decide +kernel
theorem dX9_goOn_142 : decode cX9_goOn 142 = .ok (.aload_n 0, 1) := by decide +kernel
theorem dX9_goOn_143 : decode cX9_goOn 143 = .ok (.getfield 38, 3) := by decide +kernel
theorem dX9_goOn_146 : decode cX9_goOn 146 = .ok (.iload_n 2, 1) := by decide +kernel
theorem dX9_goOn_147 : decode cX9_goOn 147 = .ok (.iaload, 1) := by decide +kernel
theorem dX9_goOn_148 : decode cX9_goOn 148 = .ok (.iconst 1, 1) := by decide +kernel
theorem dX9_goOn_149 : decode cX9_goOn 149 = .ok (.iadd, 1) := by decide +kernel
theorem dX9_goOn_150 : decode cX9_goOn 150 = .ok (.invokevirtual 204, 3) := by decide +kernel
theorem dX9_goOn_153 : decode cX9_goOn 153 = .ok (.iinc 5 1, 3) := by decide +kernel
theorem dX9_goOn_156 : decode cX9_goOn 156 = .ok (.goto (-140), 3) := by decide +kernel
theorem dX9_goOn_159 : decode cX9_goOn 159 = .ok (.return_, 1) := by decide +kernel
theorem dX9_deeds_0 : decode cX9_deeds 0 = .ok (.iload_n 1, 1) := by decide +kernel
theorem dX9_deeds_1 : decode cX9_deeds 1 = .ok (.invokestatic 130, 3) := by decide +kernel
theorem dX9_deeds_4 : decode cX9_deeds 4 = .ok (.ifCond .eq 19, 3) := by decide +kernel
theorem dX9_deeds_7 : decode cX9_deeds 7 = .ok (.iload_n 2, 1) := by decide +kernel
theorem dX9_deeds_8 : decode cX9_deeds 8 = .ok (.invokestatic 145, 3) := by decide +kernel
theorem dX9_deeds_11 : decode cX9_deeds 11 = .ok (.ifCond .eq 12, 3) := by decide +kernel
theorem dX9_deeds_14 : decode cX9_deeds 14 = .ok (.iload_n 3, 1) := by decide +kernel
theorem dX9_deeds_15 : decode cX9_deeds 15 = .ok (.iconst 0, 1) := by decide +kernel
theorem dX9_deeds_16 : decode cX9_deeds 16 = .ok (.iconst 1, 1) := by decide +kernel
theorem dX9_deeds_17 : decode cX9_deeds 17 = .ok (.invokestatic 48, 3) := by decide +kernel
theorem dX9_deeds_20 : decode cX9_deeds 20 = .ok (.ifCond .ne 5, 3) := by decide +kernel
theorem dX9_deeds_23 : decode cX9_deeds 23 = .ok (.iconst (-1), 1) := by decide +kernel
theorem dX9_deeds_24 : decode cX9_deeds 24 = .ok (.ireturn, 1) := by decide +kernel
theorem dX9_deeds_25 : decode cX9_deeds 25 = .ok (.aload_n 0, 1) := by decide +kernel
theorem dX9_deeds_26 : decode cX9_deeds 26 = .ok (.getfield 7, 3) := by decide +kernel
theorem dX9_deeds_29 : decode cX9_deeds 29 = .ok (.iconst 0, 1) := by decide +kernel
theorem dX9_deeds_30 : decode cX9_deeds 30 = .ok (.aload_n 0, 1) := by decide +kernel
theorem dX9_deeds_31 : decode cX9_deeds 31 = .ok (.getfield 13, 3) := by decide +kernel
theorem dX9_deeds_34 : decode cX9_deeds 34 = .ok (.iconst 0, 1) := by decide +kernel
theorem dX9_deeds_35 : decode cX9_deeds 35 = .ok (.invokestatic 59, 3) := by decide +kernel
theorem dX9_deeds_38 : decode cX9_deeds 38 = .ok (.iconst 0, 1) := by decide +kernel
theorem dX9_deeds_39 : decode cX9_deeds 39 = .ok (.istore 4, 2) := by decide +kernel
theorem dX9_deeds_41 : decode cX9_deeds 41 = .ok (.iload 4, 2) := by decide +kernel
theorem dX9_deeds_43 : decode cX9_deeds 43 = .ok (.sipush 6144, 3) := by decide +kernel
theorem dX9_deeds_46 : decode cX9_deeds 46 = .ok (.if_icmp .ge 18, 3) := by decide +kernel
theorem dX9_deeds_49 : decode cX9_deeds 49 = .ok (.aload_n 0, 1) := by decide +kernel
theorem dX9_deeds_50 : decode cX9_deeds 50 = .ok (.getfield 38, 3) := by decide +kernel
theorem dX9_deeds_53 : decode cX9_deeds 53 = .ok (.iload 4, 2) := by decide +kernel
theorem dX9_deeds_55 : decode cX9_deeds 55 = .ok (.bipush (-4), 2) := by decide +kernel
theorem dX9_deeds_57 : decode cX9_deeds 57 = .ok (.iastore, 1) := by decide +kernel
theorem dX9_deeds_58 : decode cX9_deeds 58 = .ok (.iinc 4 1, 3) := by decide +kernel
theorem dX9_deeds_61 : decode cX9_deeds 61 = .ok (.goto (-20), 3) := by decide +kernel
theorem dX9_deeds_64 : decode cX9_deeds 64 = .ok (.aload_n 0, 1) := by decide +kernel
theorem dX9_deeds_65 : decode cX9_deeds 65 = .ok (.iconst 0, 1) := by decide +kernel
theorem dX9_deeds_66 : decode cX9_deeds 66 = .ok (.putfield 197, 3) := by decide +kernel
theorem dX9_deeds_69 : decode cX9_deeds 69 = .ok (.aload_n 0, 1) := by decide +kernel
theorem dX9_deeds_70 : decode cX9_deeds 70 = .ok (.sipush 1024, 3) := by decide +kernel
theorem dX9_deeds_73 : decode cX9_deeds 73 = .ok (.aload_n 0, 1) := by decide +kernel
theorem dX9_deeds_74 : decode cX9_deeds 74 = .ok (.iload_n 1, 1) := by decide +kernel
theorem dX9_deeds_75 : decode cX9_deeds 75 = .ok (.iconst 0, 1) := by decide +kernel
theorem dX9_deeds_76 : decode cX9_deeds 76 = .ok (.invokevirtual 109, 3) := by decide +kernel
theorem dX9_deeds_79 : decode cX9_deeds 79 = .ok (.imul, 1) := by decide +kernel
theorem dX9_deeds_80 : decode cX9_deeds 80 = .ok (.aload_n 0, 1) := by decide +kernel
theorem dX9_deeds_81 : decode cX9_deeds 81 = .ok (.invokevirtual 67, 3) := by decide +kernel
theorem dX9_deeds_84 : decode cX9_deeds 84 = .ok (.iadd, 1) := by decide +kernel
theorem dX9_deeds_85 : decode cX9_deeds 85 = .ok (.iconst 0, 1) := by decide +kernel
theorem dX9_deeds_86 : decode cX9_deeds 86 = .ok (.invokevirtual 204, 3) := by decide +kernel
theorem dX9_deeds_89 : decode cX9_deeds 89 = .ok (.bipush (-4), 2) := by decide +kernel
theorem dX9_deeds_91 : decode cX9_deeds 91 = .ok (.istore 4, 2) := by decide +kernel
theorem dX9_deeds_93 : decode cX9_deeds 93 = .ok (.iconst 0, 1) := by decide +kernel
theorem dX9_deeds_94 : decode cX9_deeds 94 = .ok (.istore 5, 2) := by decide +kernel
theorem dX9_deeds_96 : decode cX9_deeds 96 = .ok (.iload 5, 2) := by decide +kernel
theorem dX9_deeds_98 : decode cX9_deeds 98 = .ok (.aload_n 0, 1) := by decide +kernel
theorem dX9_deeds_99 : decode cX9_deeds 99 = .ok (.getfield 197, 3) := by decide +kernel
theorem dX9_deeds_102 : decode cX9_deeds 102 = .ok (.if_icmp .ge 69, 3) := by decide +kernel
theorem dX9_deeds_105 : decode cX9_deeds 105 = .ok (.iload 4, 2) := by decide +kernel
theorem dX9_deeds_107 : decode cX9_deeds 107 = .ok (.bipush (-4), 2) := by decide +kernel
theorem dX9_deeds_109 : decode cX9_deeds 109 = .ok (.if_icmp .ne 62, 3) := by decide +kernel
theorem dX9_deeds_112 : decode cX9_deeds 112 = .ok (.aload_n 0, 1) := by decide +kernel
theorem dX9_deeds_113 : decode cX9_deeds 113 = .ok (.getfield 41, 3) := by decide +kernel
theorem dX9_deeds_116 : decode cX9_deeds 116 = .ok (.iload 5, 2) := by decide +kernel
theorem dX9_deeds_118 : decode cX9_deeds 118 = .ok (.iaload, 1) := by decide +kernel
theorem dX9_deeds_119 : decode cX9_deeds 119 = .ok (.sipush 1024, 3) := by decide +kernel
theorem dX9_deeds_122 : decode cX9_deeds 122 = .ok (.idiv, 1) := by decide +kernel
theorem dX9_deeds_123 : decode cX9_deeds 123 = .ok (.iload_n 2, 1) := by decide +kernel
theorem dX9_deeds_124 : decode cX9_deeds 124 = .ok (.if_icmp .ne 18, 3) := by decide +kernel
theorem dX9_deeds_127 : decode cX9_deeds 127 = .ok (.aload_n 0, 1) := by decide +kernel
theorem dX9_deeds_128 : decode cX9_deeds 128 = .ok (.getfield 38, 3) := by decide +kernel
theorem dX9_deeds_131 : decode cX9_deeds 131 = .ok (.aload_n 0, 1) := by decide +kernel
theorem dX9_deeds_132 : decode cX9_deeds 132 = .ok (.getfield 41, 3) := by decide +kernel
theorem dX9_deeds_135 : decode cX9_deeds 135 = .ok (.iload 5, 2) := by decide +kernel
theorem dX9_deeds_137 : decode cX9_deeds 137 = .ok (.iaload, 1) := by decide +kernel
theorem dX9_deeds_138 : decode cX9_deeds 138 = .ok (.iaload, 1) := by decide +kernel
theorem dX9_deeds_139 : decode cX9_deeds 139 = .ok (.goto 5, 3) := by decide +kernel
theorem dX9_deeds_142 : decode cX9_deeds 142 = .ok (.bipush (-4), 2) := by decide +kernel
theorem dX9_deeds_144 : decode cX9_deeds 144 = .ok (.istore 4, 2) := by decide +kernel
theorem dX9_deeds_146 : decode cX9_deeds 146 = .ok (.iload 4, 2) := by decide +kernel
theorem dX9_deeds_148 : decode cX9_deeds 148 = .ok (.bipush (-4), 2) := by decide +kernel
theorem dX9_deeds_150 : decode cX9_deeds 150 = .ok (.if_icmp .ne 15, 3) := by decide +kernel
theorem dX9_deeds_153 : decode cX9_deeds 153 = .ok (.aload_n 0, 1) := by decide +kernel
theorem dX9_deeds_154 : decode cX9_deeds 154 = .ok (.iload_n 1, 1) := by decide +kernel
theorem dX9_deeds_155 : decode cX9_deeds 155 = .ok (.aload_n 0, 1) := by decide +kernel
theorem dX9_deeds_156 : decode cX9_deeds 156 = .ok (.getfield 41, 3) := by decide +kernel
theorem dX9_deeds_159 : decode cX9_deeds 159 = .ok (.iload 5, 2) := by decide +kernel
theorem dX9_deeds_161 : decode cX9_deeds 161 = .ok (.iaload, 1) := by decide +kernel
theorem dX9_deeds_162 : decode cX9_deeds 162 = .ok (.invokevirtual 207, 3) := by decide +kernel
theorem dX9_deeds_165 : decode cX9_deeds 165 = .ok (.iinc 5 1, 3) := by decide +kernel
theorem dX9_deeds_168 : decode cX9_deeds 168 = .ok (.goto (-72), 3) := by decide +kernel
theorem dX9_deeds_171 : decode cX9_deeds 171 = .ok (.aload_n 0, 1) := by decide +kernel
theorem dX9_deeds_172 : decode cX9_deeds 172 = .ok (.getfield 13, 3) := by decide +kernel
theorem dX9_deeds_175 : decode cX9_deeds 175 = .ok (.iconst 0, 1) := by decide +kernel
theorem dX9_deeds_176 : decode cX9_deeds 176 = .ok (.aload_n 0, 1) := by decide +kernel
theorem dX9_deeds_177 : decode cX9_deeds 177 = .ok (.getfield 7, 3) := by decide +kernel
theorem dX9_deeds_180 : decode cX9_deeds 180 = .ok (.iconst 0, 1) := by decide +kernel
theorem dX9_deeds_181 : decode cX9_deeds 181 = .ok (.invokestatic 59, 3) := by decide +kernel
theorem dX9_deeds_184 : decode cX9_deeds 184 = .ok (.iload 4, 2) := by decide +kernel
theorem dX9_deeds_186 : decode cX9_deeds 186 = .ok (.ireturn, 1) := by decide +kernel
theorem dX9_cords_0 : decode cX9_cords 0 = .ok (.iconst 0, 1) := by decide +kernel
theorem dX9_cords_1 : decode cX9_cords 1 = .ok (.istore_n 2, 1) := by decide +kernel
theorem dX9_cords_2 : decode cX9_cords 2 = .ok (.iconst 0, 1) := by decide +kernel
theorem dX9_cords_3 : decode cX9_cords 3 = .ok (.istore_n 3, 1) := by decide +kernel
theorem dX9_cords_4 : decode cX9_cords 4 = .ok (.iload_n 3, 1) := by decide +kernel
theorem dX9_cords_5 : decode cX9_cords 5 = .ok (.bipush 10, 2) := by decide +kernel
theorem dX9_cords_7 : decode cX9_cords 7 = .ok (.if_icmp .ge 62, 3) := by decide +kernel
theorem dX9_cords_10 : decode cX9_cords 10 = .ok (.aload_n 0, 1) := by decide +kernel
theorem dX9_cords_11 : decode cX9_cords 11 = .ok (.iload_n 3, 1) := by decide +kernel
theorem dX9_cords_12 : decode cX9_cords 12 = .ok (.iconst 3, 1) := by decide +kernel
theorem dX9_cords_13 : decode cX9_cords 13 = .ok (.invokevirtual 52, 3) := by decide +kernel
theorem dX9_cords_16 : decode cX9_cords 16 = .ok (.bipush (-4), 2) := by decide +kernel
theorem dX9_cords_18 : decode cX9_cords 18 = .ok (.if_icmp .ne 7, 3) := by decide +kernel
theorem dX9_cords_21 : decode cX9_cords 21 = .ok (.iconst 0, 1) := by decide +kernel
theorem dX9_cords_22 : decode cX9_cords 22 = .ok (.goto 4, 3) := by decide +kernel
theorem dX9_cords_25 : decode cX9_cords 25 = .ok (.iconst 1, 1) := by decide +kernel
theorem dX9_cords_26 : decode cX9_cords 26 = .ok (.aload_n 0, 1) := by decide +kernel
theorem dX9_cords_27 : decode cX9_cords 27 = .ok (.iload_n 3, 1) := by decide +kernel
theorem dX9_cords_28 : decode cX9_cords 28 = .ok (.iconst 4, 1) := by decide +kernel
theorem dX9_cords_29 : decode cX9_cords 29 = .ok (.invokevirtual 52, 3) := by decide +kernel
theorem dX9_cords_32 : decode cX9_cords 32 = .ok (.bipush (-4), 2) := by decide +kernel
theorem dX9_cords_34 : decode cX9_cords 34 = .ok (.if_icmp .ne 7, 3) := by decide +kernel
theorem dX9_cords_37 : decode cX9_cords 37 = .ok (.iconst 0, 1) := by decide +kernel
theorem dX9_cords_38 : decode cX9_cords 38 = .ok (.goto 4, 3) := by decide +kernel
theorem dX9_cords_41 : decode cX9_cords 41 = .ok (.iconst 1, 1) := by decide +kernel
theorem dX9_cords_42 : decode cX9_cords 42 = .ok (.iadd, 1) := by decide +kernel
theorem dX9_cords_43 : decode cX9_cords 43 = .ok (.istore 4, 2) := by decide +kernel
theorem dX9_cords_45 : decode cX9_cords 45 = .ok (.iload_n 2, 1) := by decide +kernel
theorem dX9_cords_46 : decode cX9_cords 46 = .ok (.aload_n 0, 1) := by decide +kernel
theorem dX9_cords_47 : decode cX9_cords 47 = .ok (.iload_n 3, 1) := by decide +kernel
theorem dX9_cords_48 : decode cX9_cords 48 = .ok (.invokevirtual 78, 3) := by decide +kernel
theorem dX9_cords_51 : decode cX9_cords 51 = .ok (.iload_n 1, 1) := by decide +kernel
theorem dX9_cords_52 : decode cX9_cords 52 = .ok (.if_icmp .ne 8, 3) := by decide +kernel
theorem dX9_cords_55 : decode cX9_cords 55 = .ok (.iload 4, 2) := by decide +kernel
theorem dX9_cords_57 : decode cX9_cords 57 = .ok (.goto 4, 3) := by decide +kernel
theorem dX9_cords_60 : decode cX9_cords 60 = .ok (.iconst 0, 1) := by decide +kernel
theorem dX9_cords_61 : decode cX9_cords 61 = .ok (.iadd, 1) := by decide +kernel
theorem dX9_cords_62 : decode cX9_cords 62 = .ok (.istore_n 2, 1) := by decide +kernel
theorem dX9_cords_63 : decode cX9_cords 63 = .ok (.iinc 3 1, 3) := by decide +kernel
theorem dX9_cords_66 : decode cX9_cords 66 = .ok (.goto (-62), 3) := by decide +kernel
theorem dX9_cords_69 : decode cX9_cords 69 = .ok (.iload_n 2, 1) := by decide +kernel
theorem dX9_cords_70 : decode cX9_cords 70 = .ok (.ireturn, 1) := by decide +kernel
theorem dX9_held_0 : decode cX9_held 0 = .ok (.iconst 0, 1) := by decide +kernel
theorem dX9_held_1 : decode cX9_held 1 = .ok (.istore_n 1, 1) := by decide +kernel
theorem dX9_held_2 : decode cX9_held 2 = .ok (.iconst 0, 1) := by decide +kernel
theorem dX9_held_3 : decode cX9_held 3 = .ok (.istore_n 2, 1) := by decide +kernel
theorem dX9_held_4 : decode cX9_held 4 = .ok (.iload_n 2, 1) := by decide +kernel
theorem dX9_held_5 : decode cX9_held 5 = .ok (.bipush 10, 2) := by decide +kernel
theorem dX9_held_7 : decode cX9_held 7 = .ok (.if_icmp .ge 26, 3) := by decide +kernel
theorem dX9_held_10 : decode cX9_held 10 = .ok (.iload_n 1, 1) := by decide +kernel
theorem dX9_held_11 : decode cX9_held 11 = .ok (.aload_n 0, 1) := by decide +kernel
theorem dX9_held_12 : decode cX9_held 12 = .ok (.iload_n 2, 1) := by decide +kernel
theorem dX9_held_13 : decode cX9_held 13 = .ok (.iconst 1, 1) := by decide +kernel
theorem dX9_held_14 : decode cX9_held 14 = .ok (.invokevirtual 82, 3) := by decide +kernel
theorem dX9_held_17 : decode cX9_held 17 = .ok (.ifCond .le 7, 3) := by decide +kernel
theorem dX9_held_20 : decode cX9_held 20 = .ok (.iconst 1, 1) := by decide +kernel
theorem dX9_held_21 : decode cX9_held 21 = .ok (.goto 4, 3) := by decide +kernel
theorem dX9_held_24 : decode cX9_held 24 = .ok (.iconst 0, 1) := by decide +kernel
theorem dX9_held_25 : decode cX9_held 25 = .ok (.iadd, 1) := by decide +kernel
theorem dX9_held_26 : decode cX9_held 26 = .ok (.istore_n 1, 1) := by decide +kernel
theorem dX9_held_27 : decode cX9_held 27 = .ok (.iinc 2 1, 3) := by decide +kernel
theorem dX9_held_30 : decode cX9_held 30 = .ok (.goto (-26), 3) := by decide +kernel
theorem dX9_held_33 : decode cX9_held 33 = .ok (.iload_n 1, 1) := by decide +kernel
theorem dX9_held_34 : decode cX9_held 34 = .ok (.ireturn, 1) := by decide +kernel
theorem dX9_pairsOfHalls_0 : decode cX9_pairsOfHalls 0 = .ok (.iconst 0, 1) := by decide +kernel
theorem dX9_pairsOfHalls_1 : decode cX9_pairsOfHalls 1 = .ok (.istore_n 1, 1) := by decide +kernel
theorem dX9_pairsOfHalls_2 : decode cX9_pairsOfHalls 2 = .ok (.iconst 0, 1) := by decide +kernel
theorem dX9_pairsOfHalls_3 : decode cX9_pairsOfHalls 3 = .ok (.istore_n 2, 1) := by decide +kernel
theorem dX9_pairsOfHalls_4 : decode cX9_pairsOfHalls 4 = .ok (.iload_n 2, 1) := by decide +kernel
theorem dX9_pairsOfHalls_5 : decode cX9_pairsOfHalls 5 = .ok (.bipush 6, 2) := by decide +kernel
theorem dX9_pairsOfHalls_7 : decode cX9_pairsOfHalls 7 = .ok (.if_icmp .ge 22, 3) := by decide +kernel
theorem dX9_pairsOfHalls_10 : decode cX9_pairsOfHalls 10 = .ok (.iload_n 1, 1) := by decide +kernel
theorem dX9_pairsOfHalls_11 : decode cX9_pairsOfHalls 11 = .ok (.aload_n 0, 1) := by decide +kernel
theorem dX9_pairsOfHalls_12 : decode cX9_pairsOfHalls 12 = .ok (.iload_n 2, 1) := by decide +kernel
theorem dX9_pairsOfHalls_13 : decode cX9_pairsOfHalls 13 = .ok (.invokevirtual 185, 3) := by decide +kernel
theorem dX9_pairsOfHalls_16 : decode cX9_pairsOfHalls 16 = .ok (.invokestatic 188, 3) := by decide +kernel
theorem dX9_pairsOfHalls_19 : decode cX9_pairsOfHalls 19 = .ok (.iconst 1, 1) := by decide +kernel
theorem dX9_pairsOfHalls_20 : decode cX9_pairsOfHalls 20 = .ok (.isub, 1) := by decide +kernel
theorem dX9_pairsOfHalls_21 : decode cX9_pairsOfHalls 21 = .ok (.iadd, 1) := by decide +kernel
theorem dX9_pairsOfHalls_22 : decode cX9_pairsOfHalls 22 = .ok (.istore_n 1, 1) := by decide +kernel
theorem dX9_pairsOfHalls_23 : decode cX9_pairsOfHalls 23 = .ok (.iinc 2 1, 3) := by decide +kernel
theorem dX9_pairsOfHalls_26 : decode cX9_pairsOfHalls 26 = .ok (.goto (-22), 3) := by decide +kernel
theorem dX9_pairsOfHalls_29 : decode cX9_pairsOfHalls 29 = .ok (.iload_n 1, 1) := by decide +kernel
theorem dX9_pairsOfHalls_30 : decode cX9_pairsOfHalls 30 = .ok (.iconst 2, 1) := by decide +kernel
theorem dX9_pairsOfHalls_31 : decode cX9_pairsOfHalls 31 = .ok (.idiv, 1) := by decide +kernel
theorem dX9_pairsOfHalls_32 : decode cX9_pairsOfHalls 32 = .ok (.ireturn, 1) := by decide +kernel
theorem dX9_pairsOfDoors_0 : decode cX9_pairsOfDoors 0 = .ok (.iconst 0, 1) := by decide +kernel
theorem dX9_pairsOfDoors_1 : decode cX9_pairsOfDoors 1 = .ok (.istore_n 1, 1) := by decide +kernel
theorem dX9_pairsOfDoors_2 : decode cX9_pairsOfDoors 2 = .ok (.iconst 0, 1) := by decide +kernel
theorem dX9_pairsOfDoors_3 : decode cX9_pairsOfDoors 3 = .ok (.istore_n 2, 1) := by decide +kernel
theorem dX9_pairsOfDoors_4 : decode cX9_pairsOfDoors 4 = .ok (.iload_n 2, 1) := by decide +kernel
theorem dX9_pairsOfDoors_5 : decode cX9_pairsOfDoors 5 = .ok (.bipush 10, 2) := by decide +kernel
theorem dX9_pairsOfDoors_7 : decode cX9_pairsOfDoors 7 = .ok (.if_icmp .ge 48, 3) := by decide +kernel
theorem dX9_pairsOfDoors_10 : decode cX9_pairsOfDoors 10 = .ok (.iconst 0, 1) := by decide +kernel
theorem dX9_pairsOfDoors_11 : decode cX9_pairsOfDoors 11 = .ok (.istore_n 3, 1) := by decide +kernel
theorem dX9_pairsOfDoors_12 : decode cX9_pairsOfDoors 12 = .ok (.iload_n 3, 1) := by decide +kernel
theorem dX9_pairsOfDoors_13 : decode cX9_pairsOfDoors 13 = .ok (.iload_n 2, 1) := by decide +kernel
theorem dX9_pairsOfDoors_14 : decode cX9_pairsOfDoors 14 = .ok (.if_icmp .ge 35, 3) := by decide +kernel
theorem dX9_pairsOfDoors_17 : decode cX9_pairsOfDoors 17 = .ok (.iload_n 1, 1) := by decide +kernel
theorem dX9_pairsOfDoors_18 : decode cX9_pairsOfDoors 18 = .ok (.aload_n 0, 1) := by decide +kernel
theorem dX9_pairsOfDoors_19 : decode cX9_pairsOfDoors 19 = .ok (.iload_n 2, 1) := by decide +kernel
theorem dX9_pairsOfDoors_20 : decode cX9_pairsOfDoors 20 = .ok (.iload_n 3, 1) := by decide +kernel
theorem dX9_pairsOfDoors_21 : decode cX9_pairsOfDoors 21 = .ok (.invokevirtual 74, 3) := by decide +kernel
theorem dX9_pairsOfDoors_24 : decode cX9_pairsOfDoors 24 = .ok (.ifCond .eq 16, 3) := by decide +kernel
theorem dX9_pairsOfDoors_27 : decode cX9_pairsOfDoors 27 = .ok (.aload_n 0, 1) := by decide +kernel
theorem dX9_pairsOfDoors_28 : decode cX9_pairsOfDoors 28 = .ok (.iload_n 3, 1) := by decide +kernel
theorem dX9_pairsOfDoors_29 : decode cX9_pairsOfDoors 29 = .ok (.iload_n 2, 1) := by decide +kernel
theorem dX9_pairsOfDoors_30 : decode cX9_pairsOfDoors 30 = .ok (.invokevirtual 74, 3) := by decide +kernel
theorem dX9_pairsOfDoors_33 : decode cX9_pairsOfDoors 33 = .ok (.ifCond .eq 7, 3) := by decide +kernel
theorem dX9_pairsOfDoors_36 : decode cX9_pairsOfDoors 36 = .ok (.iconst 1, 1) := by decide +kernel
theorem dX9_pairsOfDoors_37 : decode cX9_pairsOfDoors 37 = .ok (.goto 4, 3) := by decide +kernel
theorem dX9_pairsOfDoors_40 : decode cX9_pairsOfDoors 40 = .ok (.iconst 0, 1) := by decide +kernel
theorem dX9_pairsOfDoors_41 : decode cX9_pairsOfDoors 41 = .ok (.iadd, 1) := by decide +kernel
theorem dX9_pairsOfDoors_42 : decode cX9_pairsOfDoors 42 = .ok (.istore_n 1, 1) := by decide +kernel
theorem dX9_pairsOfDoors_43 : decode cX9_pairsOfDoors 43 = .ok (.iinc 3 1, 3) := by decide +kernel
theorem dX9_pairsOfDoors_46 : decode cX9_pairsOfDoors 46 = .ok (.goto (-34), 3) := by decide +kernel
theorem dX9_pairsOfDoors_49 : decode cX9_pairsOfDoors 49 = .ok (.iinc 2 1, 3) := by decide +kernel
theorem dX9_pairsOfDoors_52 : decode cX9_pairsOfDoors 52 = .ok (.goto (-48), 3) := by decide +kernel
theorem dX9_pairsOfDoors_55 : decode cX9_pairsOfDoors 55 = .ok (.iload_n 1, 1) := by decide +kernel
theorem dX9_pairsOfDoors_56 : decode cX9_pairsOfDoors 56 = .ok (.ireturn, 1) := by decide +kernel
theorem dX9_count_0 : decode cX9_count 0 = .ok (.iload_n 1, 1) := by decide +kernel
theorem dX9_count_1 : decode cX9_count 1 = .ok (.tableswitch 147 0 14 #[75, 80, 88, 88, 103, 108, 113, 118, 118, 118, 118, 118, 130, 137, 142], 75) := by decide +kernel
theorem dX9_count_76 : decode cX9_count 76 = .ok (.aload_n 0, 1) := by decide +kernel
theorem dX9_count_77 : decode cX9_count 77 = .ok (.invokevirtual 67, 3) := by decide +kernel
theorem dX9_count_80 : decode cX9_count 80 = .ok (.ireturn, 1) := by decide +kernel
theorem dX9_count_81 : decode cX9_count 81 = .ok (.aload_n 0, 1) := by decide +kernel
theorem dX9_count_82 : decode cX9_count 82 = .ok (.invokevirtual 67, 3) := by decide +kernel
theorem dX9_count_85 : decode cX9_count 85 = .ok (.invokestatic 188, 3) := by decide +kernel
theorem dX9_count_88 : decode cX9_count 88 = .ok (.ireturn, 1) := by decide +kernel
theorem dX9_count_89 : decode cX9_count 89 = .ok (.aload_n 0, 1) := by decide +kernel
theorem dX9_count_90 : decode cX9_count 90 = .ok (.iload_n 1, 1) := by decide +kernel
theorem dX9_count_91 : decode cX9_count 91 = .ok (.iconst 2, 1) := by decide +kernel
theorem dX9_count_92 : decode cX9_count 92 = .ok (.if_icmp .ne 7, 3) := by decide +kernel
theorem dX9_count_95 : decode cX9_count 95 = .ok (.iconst 1, 1) := by decide +kernel
theorem dX9_count_96 : decode cX9_count 96 = .ok (.goto 4, 3) := by decide +kernel
theorem dX9_count_99 : decode cX9_count 99 = .ok (.iconst 0, 1) := by decide +kernel
theorem dX9_count_100 : decode cX9_count 100 = .ok (.invokevirtual 210, 3) := by decide +kernel
theorem dX9_count_103 : decode cX9_count 103 = .ok (.ireturn, 1) := by decide +kernel
theorem dX9_count_104 : decode cX9_count 104 = .ok (.aload_n 0, 1) := by decide +kernel
theorem dX9_count_105 : decode cX9_count 105 = .ok (.invokevirtual 214, 3) := by decide +kernel
theorem dX9_count_108 : decode cX9_count 108 = .ok (.ireturn, 1) := by decide +kernel
theorem dX9_count_109 : decode cX9_count 109 = .ok (.aload_n 0, 1) := by decide +kernel
theorem dX9_count_110 : decode cX9_count 110 = .ok (.invokevirtual 217, 3) := by decide +kernel
theorem dX9_count_113 : decode cX9_count 113 = .ok (.ireturn, 1) := by decide +kernel
theorem dX9_count_114 : decode cX9_count 114 = .ok (.aload_n 0, 1) := by decide +kernel
theorem dX9_count_115 : decode cX9_count 115 = .ok (.invokevirtual 220, 3) := by decide +kernel
theorem dX9_count_118 : decode cX9_count 118 = .ok (.ireturn, 1) := by decide +kernel
theorem dX9_count_119 : decode cX9_count 119 = .ok (.aload_n 0, 1) := by decide +kernel
theorem dX9_count_120 : decode cX9_count 120 = .ok (.getfield 7, 3) := by decide +kernel
theorem dX9_count_123 : decode cX9_count 123 = .ok (.iconst 1, 1) := by decide +kernel
theorem dX9_count_124 : decode cX9_count 124 = .ok (.iload_n 1, 1) := by decide +kernel
theorem dX9_count_125 : decode cX9_count 125 = .ok (.iadd, 1) := by decide +kernel
theorem dX9_count_126 : decode cX9_count 126 = .ok (.bipush 7, 2) := by decide +kernel
theorem dX9_count_128 : decode cX9_count 128 = .ok (.isub, 1) := by decide +kernel
theorem dX9_count_129 : decode cX9_count 129 = .ok (.iaload, 1) := by decide +kernel
theorem dX9_count_130 : decode cX9_count 130 = .ok (.ireturn, 1) := by decide +kernel
theorem dX9_count_131 : decode cX9_count 131 = .ok (.aload_n 0, 1) := by decide +kernel
theorem dX9_count_132 : decode cX9_count 132 = .ok (.getfield 7, 3) := by decide +kernel
theorem dX9_count_135 : decode cX9_count 135 = .ok (.iconst 0, 1) := by decide +kernel
theorem dX9_count_136 : decode cX9_count 136 = .ok (.iaload, 1) := by decide +kernel
theorem dX9_count_137 : decode cX9_count 137 = .ok (.ireturn, 1) := by decide +kernel
theorem dX9_count_138 : decode cX9_count 138 = .ok (.aload_n 0, 1) := by decide +kernel
theorem dX9_count_139 : decode cX9_count 139 = .ok (.getfield 151, 3) := by decide +kernel
theorem dX9_count_142 : decode cX9_count 142 = .ok (.ireturn, 1) := by decide +kernel
theorem dX9_count_143 : decode cX9_count 143 = .ok (.aload_n 0, 1) := by decide +kernel
theorem dX9_count_144 : decode cX9_count 144 = .ok (.getfield 56, 3) := by decide +kernel
theorem dX9_count_147 : decode cX9_count 147 = .ok (.ireturn, 1) := by decide +kernel
theorem dX9_count_148 : decode cX9_count 148 = .ok (.iconst (-1), 1) := by decide +kernel
theorem dX9_count_149 : decode cX9_count 149 = .ok (.ireturn, 1) := by decide +kernel
theorem dX9_tightness_0 : decode cX9_tightness 0 = .ok (.aload_n 0, 1) := by decide +kernel
theorem dX9_tightness_1 : decode cX9_tightness 1 = .ok (.iconst 1, 1) := by decide +kernel
theorem dX9_tightness_2 : decode cX9_tightness 2 = .ok (.invokevirtual 210, 3) := by decide +kernel
theorem dX9_tightness_5 : decode cX9_tightness 5 = .ok (.i2d, 1) := by decide +kernel
theorem dX9_tightness_6 : decode cX9_tightness 6 = .ok (.dstore_n 1, 1) := by decide +kernel
theorem dX9_tightness_7 : decode cX9_tightness 7 = .ok (.aload_n 0, 1) := by decide +kernel
theorem dX9_tightness_8 : decode cX9_tightness 8 = .ok (.iconst 1, 1) := by decide +kernel
theorem dX9_tightness_9 : decode cX9_tightness 9 = .ok (.invokevirtual 210, 3) := by decide +kernel
theorem dX9_tightness_12 : decode cX9_tightness 12 = .ok (.aload_n 0, 1) := by decide +kernel
theorem dX9_tightness_13 : decode cX9_tightness 13 = .ok (.iconst 0, 1) := by decide +kernel
theorem dX9_tightness_14 : decode cX9_tightness 14 = .ok (.invokevirtual 210, 3) := by decide +kernel
theorem dX9_tightness_17 : decode cX9_tightness 17 = .ok (.iadd, 1) := by decide +kernel
theorem dX9_tightness_18 : decode cX9_tightness 18 = .ok (.i2d, 1) := by decide +kernel
theorem dX9_tightness_19 : decode cX9_tightness 19 = .ok (.dstore_n 3, 1) := by decide +kernel
theorem dX9_tightness_20 : decode cX9_tightness 20 = .ok (.dload_n 3, 1) := by decide +kernel
theorem dX9_tightness_21 : decode cX9_tightness 21 = .ok (.dconst 0, 1) := by decide +kernel
theorem dX9_tightness_22 : decode cX9_tightness 22 = .ok (.dcmp .l, 1) := by decide +kernel
theorem dX9_tightness_23 : decode cX9_tightness 23 = .ok (.ifCond .ne 7, 3) := by decide +kernel
theorem dX9_tightness_26 : decode cX9_tightness 26 = .ok (.dconst 0, 1) := by decide +kernel
theorem dX9_tightness_27 : decode cX9_tightness 27 = .ok (.goto 6, 3) := by decide +kernel
theorem dX9_tightness_30 : decode cX9_tightness 30 = .ok (.dload_n 1, 1) := by decide +kernel
theorem dX9_tightness_31 : decode cX9_tightness 31 = .ok (.dload_n 3, 1) := by decide +kernel
theorem dX9_tightness_32 : decode cX9_tightness 32 = .ok (.ddiv, 1) := by decide +kernel
theorem dX9_tightness_33 : decode cX9_tightness 33 = .ok (.dreturn, 1) := by decide +kernel
theorem dX9_ifOpened_0 : decode cX9_ifOpened 0 = .ok (.iload_n 1, 1) := by decide +kernel
theorem dX9_ifOpened_1 : decode cX9_ifOpened 1 = .ok (.invokestatic 127, 3) := by decide +kernel
theorem dX9_ifOpened_4 : decode cX9_ifOpened 4 = .ok (.ifCond .eq 12, 3) := by decide +kernel
theorem dX9_ifOpened_7 : decode cX9_ifOpened 7 = .ok (.iload_n 2, 1) := by decide +kernel
theorem dX9_ifOpened_8 : decode cX9_ifOpened 8 = .ok (.iconst 0, 1) := by decide +kernel
theorem dX9_ifOpened_9 : decode cX9_ifOpened 9 = .ok (.iconst 2, 1) := by decide +kernel
theorem dX9_ifOpened_10 : decode cX9_ifOpened 10 = .ok (.invokestatic 48, 3) := by decide +kernel
theorem dX9_ifOpened_13 : decode cX9_ifOpened 13 = .ok (.ifCond .ne 5, 3) := by decide +kernel
theorem dX9_ifOpened_16 : decode cX9_ifOpened 16 = .ok (.iconst (-1), 1) := by decide +kernel
theorem dX9_ifOpened_17 : decode cX9_ifOpened 17 = .ok (.ireturn, 1) := by decide +kernel
theorem dX9_ifOpened_18 : decode cX9_ifOpened 18 = .ok (.aload_n 0, 1) := by decide +kernel
theorem dX9_ifOpened_19 : decode cX9_ifOpened 19 = .ok (.iload_n 1, 1) := by decide +kernel
theorem dX9_ifOpened_20 : decode cX9_ifOpened 20 = .ok (.invokevirtual 100, 3) := by decide +kernel
theorem dX9_ifOpened_23 : decode cX9_ifOpened 23 = .ok (.ifCond .le 16, 3) := by decide +kernel
theorem dX9_ifOpened_26 : decode cX9_ifOpened 26 = .ok (.iload_n 2, 1) := by decide +kernel
theorem dX9_ifOpened_27 : decode cX9_ifOpened 27 = .ok (.ifCond .ne 10, 3) := by decide +kernel
theorem dX9_ifOpened_30 : decode cX9_ifOpened 30 = .ok (.aload_n 0, 1) := by decide +kernel
theorem dX9_ifOpened_31 : decode cX9_ifOpened 31 = .ok (.invokevirtual 67, 3) := by decide +kernel
theorem dX9_ifOpened_34 : decode cX9_ifOpened 34 = .ok (.goto 4, 3) := by decide +kernel
theorem dX9_ifOpened_37 : decode cX9_ifOpened 37 = .ok (.iconst 0, 1) := by decide +kernel
theorem dX9_ifOpened_38 : decode cX9_ifOpened 38 = .ok (.ireturn, 1) := by decide +kernel
theorem dX9_ifOpened_39 : decode cX9_ifOpened 39 = .ok (.aload_n 0, 1) := by decide +kernel
theorem dX9_ifOpened_40 : decode cX9_ifOpened 40 = .ok (.getfield 7, 3) := by decide +kernel
theorem dX9_ifOpened_43 : decode cX9_ifOpened 43 = .ok (.iconst 0, 1) := by decide +kernel
theorem dX9_ifOpened_44 : decode cX9_ifOpened 44 = .ok (.aload_n 0, 1) := by decide +kernel
theorem dX9_ifOpened_45 : decode cX9_ifOpened 45 = .ok (.getfield 13, 3) := by decide +kernel
theorem dX9_ifOpened_48 : decode cX9_ifOpened 48 = .ok (.iconst 0, 1) := by decide +kernel
theorem dX9_ifOpened_49 : decode cX9_ifOpened 49 = .ok (.invokestatic 59, 3) := by decide +kernel
theorem dX9_ifOpened_52 : decode cX9_ifOpened 52 = .ok (.aload_n 0, 1) := by decide +kernel
theorem dX9_ifOpened_53 : decode cX9_ifOpened 53 = .ok (.iload_n 1, 1) := by decide +kernel
theorem dX9_ifOpened_54 : decode cX9_ifOpened 54 = .ok (.invokevirtual 106, 3) := by decide +kernel
theorem dX9_ifOpened_57 : decode cX9_ifOpened 57 = .ok (.pop, 1) := by decide +kernel
theorem dX9_ifOpened_58 : decode cX9_ifOpened 58 = .ok (.iload_n 2, 1) := by decide +kernel
theorem dX9_ifOpened_59 : decode cX9_ifOpened 59 = .ok (.ifCond .ne 10, 3) := by decide +kernel
theorem dX9_ifOpened_62 : decode cX9_ifOpened 62 = .ok (.aload_n 0, 1) := by decide +kernel
theorem dX9_ifOpened_63 : decode cX9_ifOpened 63 = .ok (.invokevirtual 67, 3) := by decide +kernel
theorem dX9_ifOpened_66 : decode cX9_ifOpened 66 = .ok (.goto 37, 3) := by decide +kernel
theorem dX9_ifOpened_69 : decode cX9_ifOpened 69 = .ok (.iload_n 2, 1) := by decide +kernel
theorem dX9_ifOpened_70 : decode cX9_ifOpened 70 = .ok (.iconst 1, 1) := by decide +kernel
theorem dX9_ifOpened_71 : decode cX9_ifOpened 71 = .ok (.if_icmp .ne 19, 3) := by decide +kernel
theorem dX9_ifOpened_74 : decode cX9_ifOpened 74 = .ok (.aload_n 0, 1) := by decide +kernel
theorem dX9_ifOpened_75 : decode cX9_ifOpened 75 = .ok (.getfield 7, 3) := by decide +kernel
theorem dX9_ifOpened_78 : decode cX9_ifOpened 78 = .ok (.iconst 3, 1) := by decide +kernel
theorem dX9_ifOpened_79 : decode cX9_ifOpened 79 = .ok (.iaload, 1) := by decide +kernel
theorem dX9_ifOpened_80 : decode cX9_ifOpened 80 = .ok (.aload_n 0, 1) := by decide +kernel
theorem dX9_ifOpened_81 : decode cX9_ifOpened 81 = .ok (.getfield 13, 3) := by decide +kernel
theorem dX9_ifOpened_84 : decode cX9_ifOpened 84 = .ok (.iconst 3, 1) := by decide +kernel
theorem dX9_ifOpened_85 : decode cX9_ifOpened 85 = .ok (.iaload, 1) := by decide +kernel
theorem dX9_ifOpened_86 : decode cX9_ifOpened 86 = .ok (.isub, 1) := by decide +kernel
theorem dX9_ifOpened_87 : decode cX9_ifOpened 87 = .ok (.goto 16, 3) := by decide +kernel
theorem dX9_ifOpened_90 : decode cX9_ifOpened 90 = .ok (.aload_n 0, 1) := by decide +kernel
theorem dX9_ifOpened_91 : decode cX9_ifOpened 91 = .ok (.getfield 7, 3) := by decide +kernel
theorem dX9_ifOpened_94 : decode cX9_ifOpened 94 = .ok (.iconst 4, 1) := by decide +kernel
theorem dX9_ifOpened_95 : decode cX9_ifOpened 95 = .ok (.iaload, 1) := by decide +kernel
theorem dX9_ifOpened_96 : decode cX9_ifOpened 96 = .ok (.aload_n 0, 1) := by decide +kernel
theorem dX9_ifOpened_97 : decode cX9_ifOpened 97 = .ok (.getfield 13, 3) := by decide +kernel
theorem dX9_ifOpened_100 : decode cX9_ifOpened 100 = .ok (.iconst 4, 1) := by decide +kernel
theorem dX9_ifOpened_101 : decode cX9_ifOpened 101 = .ok (.iaload, 1) := by decide +kernel
theorem dX9_ifOpened_102 : decode cX9_ifOpened 102 = .ok (.isub, 1) := by decide +kernel
theorem dX9_ifOpened_103 : decode cX9_ifOpened 103 = .ok (.istore_n 3, 1) := by decide +kernel
theorem dX9_ifOpened_104 : decode cX9_ifOpened 104 = .ok (.aload_n 0, 1) := by decide +kernel
theorem dX9_ifOpened_105 : decode cX9_ifOpened 105 = .ok (.getfield 13, 3) := by decide +kernel
theorem dX9_ifOpened_108 : decode cX9_ifOpened 108 = .ok (.iconst 0, 1) := by decide +kernel
theorem dX9_ifOpened_109 : decode cX9_ifOpened 109 = .ok (.aload_n 0, 1) := by decide +kernel
theorem dX9_ifOpened_110 : decode cX9_ifOpened 110 = .ok (.getfield 7, 3) := by decide +kernel
theorem dX9_ifOpened_113 : decode cX9_ifOpened 113 = .ok (.iconst 0, 1) := by decide +kernel
theorem dX9_ifOpened_114 : decode cX9_ifOpened 114 = .ok (.invokestatic 59, 3) := by decide +kernel
theorem dX9_ifOpened_117 : decode cX9_ifOpened 117 = .ok (.iload_n 3, 1) := by decide +kernel
theorem dX9_ifOpened_118 : decode cX9_ifOpened 118 = .ok (.ireturn, 1) := by decide +kernel
theorem dJ6_bitCount_0f7a4_0 : decode cJ6_bitCount_0f7a4 0 = .ok (.iload_n 0, 1) := by decide +kernel
theorem dJ6_bitCount_0f7a4_1 : decode cJ6_bitCount_0f7a4 1 = .ok (.iload_n 0, 1) := by decide +kernel
theorem dJ6_bitCount_0f7a4_2 : decode cJ6_bitCount_0f7a4 2 = .ok (.iconst 1, 1) := by decide +kernel
theorem dJ6_bitCount_0f7a4_3 : decode cJ6_bitCount_0f7a4 3 = .ok (.iushr, 1) := by decide +kernel
theorem dJ6_bitCount_0f7a4_4 : decode cJ6_bitCount_0f7a4 4 = .ok (.ldc_w 265, 3) := by decide +kernel
theorem dJ6_bitCount_0f7a4_7 : decode cJ6_bitCount_0f7a4 7 = .ok (.iand, 1) := by decide +kernel
theorem dJ6_bitCount_0f7a4_8 : decode cJ6_bitCount_0f7a4 8 = .ok (.isub, 1) := by decide +kernel
theorem dJ6_bitCount_0f7a4_9 : decode cJ6_bitCount_0f7a4 9 = .ok (.istore_n 0, 1) := by decide +kernel
theorem dJ6_bitCount_0f7a4_10 : decode cJ6_bitCount_0f7a4 10 = .ok (.iload_n 0, 1) := by decide +kernel
theorem dJ6_bitCount_0f7a4_11 : decode cJ6_bitCount_0f7a4 11 = .ok (.ldc_w 266, 3) := by decide +kernel
theorem dJ6_bitCount_0f7a4_14 : decode cJ6_bitCount_0f7a4 14 = .ok (.iand, 1) := by decide +kernel
theorem dJ6_bitCount_0f7a4_15 : decode cJ6_bitCount_0f7a4 15 = .ok (.iload_n 0, 1) := by decide +kernel
theorem dJ6_bitCount_0f7a4_16 : decode cJ6_bitCount_0f7a4 16 = .ok (.iconst 2, 1) := by decide +kernel
theorem dJ6_bitCount_0f7a4_17 : decode cJ6_bitCount_0f7a4 17 = .ok (.iushr, 1) := by decide +kernel
theorem dJ6_bitCount_0f7a4_18 : decode cJ6_bitCount_0f7a4 18 = .ok (.ldc_w 266, 3) := by decide +kernel
theorem dJ6_bitCount_0f7a4_21 : decode cJ6_bitCount_0f7a4 21 = .ok (.iand, 1) := by decide +kernel
theorem dJ6_bitCount_0f7a4_22 : decode cJ6_bitCount_0f7a4 22 = .ok (.iadd, 1) := by decide +kernel
theorem dJ6_bitCount_0f7a4_23 : decode cJ6_bitCount_0f7a4 23 = .ok (.istore_n 0, 1) := by decide +kernel
theorem dJ6_bitCount_0f7a4_24 : decode cJ6_bitCount_0f7a4 24 = .ok (.iload_n 0, 1) := by decide +kernel
theorem dJ6_bitCount_0f7a4_25 : decode cJ6_bitCount_0f7a4 25 = .ok (.iload_n 0, 1) := by decide +kernel
theorem dJ6_bitCount_0f7a4_26 : decode cJ6_bitCount_0f7a4 26 = .ok (.iconst 4, 1) := by decide +kernel
theorem dJ6_bitCount_0f7a4_27 : decode cJ6_bitCount_0f7a4 27 = .ok (.iushr, 1) := by decide +kernel
theorem dJ6_bitCount_0f7a4_28 : decode cJ6_bitCount_0f7a4 28 = .ok (.iadd, 1) := by decide +kernel
theorem dJ6_bitCount_0f7a4_29 : decode cJ6_bitCount_0f7a4 29 = .ok (.ldc_w 267, 3) := by decide +kernel
theorem dJ6_bitCount_0f7a4_32 : decode cJ6_bitCount_0f7a4 32 = .ok (.iand, 1) := by decide +kernel
theorem dJ6_bitCount_0f7a4_33 : decode cJ6_bitCount_0f7a4 33 = .ok (.istore_n 0, 1) := by decide +kernel
theorem dJ6_bitCount_0f7a4_34 : decode cJ6_bitCount_0f7a4 34 = .ok (.iload_n 0, 1) := by decide +kernel
theorem dJ6_bitCount_0f7a4_35 : decode cJ6_bitCount_0f7a4 35 = .ok (.iload_n 0, 1) := by decide +kernel
theorem dJ6_bitCount_0f7a4_36 : decode cJ6_bitCount_0f7a4 36 = .ok (.bipush 8, 2) := by decide +kernel
theorem dJ6_bitCount_0f7a4_38 : decode cJ6_bitCount_0f7a4 38 = .ok (.iushr, 1) := by decide +kernel
theorem dJ6_bitCount_0f7a4_39 : decode cJ6_bitCount_0f7a4 39 = .ok (.iadd, 1) := by decide +kernel
theorem dJ6_bitCount_0f7a4_40 : decode cJ6_bitCount_0f7a4 40 = .ok (.istore_n 0, 1) := by decide +kernel
theorem dJ6_bitCount_0f7a4_41 : decode cJ6_bitCount_0f7a4 41 = .ok (.iload_n 0, 1) := by decide +kernel
theorem dJ6_bitCount_0f7a4_42 : decode cJ6_bitCount_0f7a4 42 = .ok (.iload_n 0, 1) := by decide +kernel
theorem dJ6_bitCount_0f7a4_43 : decode cJ6_bitCount_0f7a4 43 = .ok (.bipush 16, 2) := by decide +kernel
theorem dJ6_bitCount_0f7a4_45 : decode cJ6_bitCount_0f7a4 45 = .ok (.iushr, 1) := by decide +kernel
theorem dJ6_bitCount_0f7a4_46 : decode cJ6_bitCount_0f7a4 46 = .ok (.iadd, 1) := by decide +kernel
theorem dJ6_bitCount_0f7a4_47 : decode cJ6_bitCount_0f7a4 47 = .ok (.istore_n 0, 1) := by decide +kernel
theorem dJ6_bitCount_0f7a4_48 : decode cJ6_bitCount_0f7a4 48 = .ok (.iload_n 0, 1) := by decide +kernel
theorem dJ6_bitCount_0f7a4_49 : decode cJ6_bitCount_0f7a4 49 = .ok (.bipush 63, 2) := by decide +kernel
theorem dJ6_bitCount_0f7a4_51 : decode cJ6_bitCount_0f7a4 51 = .ok (.iand, 1) := by decide +kernel
theorem dJ6_bitCount_0f7a4_52 : decode cJ6_bitCount_0f7a4 52 = .ok (.ireturn, 1) := by decide +kernel
theorem dJ9_floorMod_7cf53_0 : decode cJ9_floorMod_7cf53 0 = .ok (.iload_n 0, 1) := by decide +kernel
theorem dJ9_floorMod_7cf53_1 : decode cJ9_floorMod_7cf53 1 = .ok (.iload_n 1, 1) := by decide +kernel
theorem dJ9_floorMod_7cf53_2 : decode cJ9_floorMod_7cf53 2 = .ok (.irem, 1) := by decide +kernel
theorem dJ9_floorMod_7cf53_3 : decode cJ9_floorMod_7cf53 3 = .ok (.istore_n 2, 1) := by decide +kernel
theorem dJ9_floorMod_7cf53_4 : decode cJ9_floorMod_7cf53 4 = .ok (.iload_n 0, 1) := by decide +kernel
theorem dJ9_floorMod_7cf53_5 : decode cJ9_floorMod_7cf53 5 = .ok (.iload_n 1, 1) := by decide +kernel
theorem dJ9_floorMod_7cf53_6 : decode cJ9_floorMod_7cf53 6 = .ok (.ixor, 1) := by decide +kernel
theorem dJ9_floorMod_7cf53_7 : decode cJ9_floorMod_7cf53 7 = .ok (.ifCond .ge 11, 3) := by decide +kernel
theorem dJ9_floorMod_7cf53_10 : decode cJ9_floorMod_7cf53 10 = .ok (.iload_n 2, 1) := by decide +kernel
theorem dJ9_floorMod_7cf53_11 : decode cJ9_floorMod_7cf53 11 = .ok (.ifCond .eq 7, 3) := by decide +kernel
theorem dJ9_floorMod_7cf53_14 : decode cJ9_floorMod_7cf53 14 = .ok (.iload_n 2, 1) := by decide +kernel
theorem dJ9_floorMod_7cf53_15 : decode cJ9_floorMod_7cf53 15 = .ok (.iload_n 1, 1) := by decide +kernel
theorem dJ9_floorMod_7cf53_16 : decode cJ9_floorMod_7cf53 16 = .ok (.iadd, 1) := by decide +kernel
theorem dJ9_floorMod_7cf53_17 : decode cJ9_floorMod_7cf53 17 = .ok (.ireturn, 1) := by decide +kernel
theorem dJ9_floorMod_7cf53_18 : decode cJ9_floorMod_7cf53 18 = .ok (.iload_n 2, 1) := by decide +kernel
theorem dJ9_floorMod_7cf53_19 : decode cJ9_floorMod_7cf53 19 = .ok (.ireturn, 1) := by decide +kernel
theorem dJ9_max_7cf53_0 : decode cJ9_max_7cf53 0 = .ok (.iload_n 0, 1) := by decide +kernel
theorem dJ9_max_7cf53_1 : decode cJ9_max_7cf53 1 = .ok (.iload_n 1, 1) := by decide +kernel
theorem dJ9_max_7cf53_2 : decode cJ9_max_7cf53 2 = .ok (.if_icmp .lt 7, 3) := by decide +kernel
theorem dJ9_max_7cf53_5 : decode cJ9_max_7cf53 5 = .ok (.iload_n 0, 1) := by decide +kernel
theorem dJ9_max_7cf53_6 : decode cJ9_max_7cf53 6 = .ok (.goto 4, 3) := by decide +kernel
theorem dJ9_max_7cf53_9 : decode cJ9_max_7cf53 9 = .ok (.iload_n 1, 1) := by decide +kernel
theorem dJ9_max_7cf53_10 : decode cJ9_max_7cf53 10 = .ok (.ireturn, 1) := by decide +kernel
theorem dJ9_min_7cf53_0 : decode cJ9_min_7cf53 0 = .ok (.iload_n 0, 1) := by decide +kernel
theorem dJ9_min_7cf53_1 : decode cJ9_min_7cf53 1 = .ok (.iload_n 1, 1) := by decide +kernel
theorem dJ9_min_7cf53_2 : decode cJ9_min_7cf53 2 = .ok (.if_icmp .gt 7, 3) := by decide +kernel
theorem dJ9_min_7cf53_5 : decode cJ9_min_7cf53 5 = .ok (.iload_n 0, 1) := by decide +kernel
theorem dJ9_min_7cf53_6 : decode cJ9_min_7cf53 6 = .ok (.goto 4, 3) := by decide +kernel
theorem dJ9_min_7cf53_9 : decode cJ9_min_7cf53 9 = .ok (.iload_n 1, 1) := by decide +kernel
theorem dJ9_min_7cf53_10 : decode cJ9_min_7cf53 10 = .ok (.ireturn, 1) := by decide +kernel
theorem dJ7_fill_53178_0 : decode cJ7_fill_53178 0 = .ok (.iconst 0, 1) := by decide +kernel
theorem dJ7_fill_53178_1 : decode cJ7_fill_53178 1 = .ok (.istore_n 2, 1) := by decide +kernel
theorem dJ7_fill_53178_2 : decode cJ7_fill_53178 2 = .ok (.aload_n 0, 1) := by decide +kernel
theorem dJ7_fill_53178_3 : decode cJ7_fill_53178 3 = .ok (.arraylength, 1) := by decide +kernel
theorem dJ7_fill_53178_4 : decode cJ7_fill_53178 4 = .ok (.istore_n 3, 1) := by decide +kernel
theorem dJ7_fill_53178_5 : decode cJ7_fill_53178 5 = .ok (.iload_n 2, 1) := by decide +kernel
theorem dJ7_fill_53178_6 : decode cJ7_fill_53178 6 = .ok (.iload_n 3, 1) := by decide +kernel
theorem dJ7_fill_53178_7 : decode cJ7_fill_53178 7 = .ok (.if_icmp .ge 13, 3) := by decide +kernel
theorem dJ7_fill_53178_10 : decode cJ7_fill_53178 10 = .ok (.aload_n 0, 1) := by decide +kernel
theorem dJ7_fill_53178_11 : decode cJ7_fill_53178 11 = .ok (.iload_n 2, 1) := by decide +kernel
theorem dJ7_fill_53178_12 : decode cJ7_fill_53178 12 = .ok (.iload_n 1, 1) := by decide +kernel
theorem dJ7_fill_53178_13 : decode cJ7_fill_53178 13 = .ok (.iastore, 1) := by decide +kernel
theorem dJ7_fill_53178_14 : decode cJ7_fill_53178 14 = .ok (.iinc 2 1, 3) := by decide +kernel
theorem dJ7_fill_53178_17 : decode cJ7_fill_53178 17 = .ok (.goto (-12), 3) := by decide +kernel
theorem dJ7_fill_53178_20 : decode cJ7_fill_53178 20 = .ok (.return_, 1) := by decide +kernel
theorem dL_law_0 : decode cL_law 0 = .ok (.new 7, 3) := by decide +kernel
theorem dL_law_3 : decode cL_law 3 = .ok (.dup, 1) := by decide +kernel
theorem dL_law_4 : decode cL_law 4 = .ok (.invokespecial 9, 3) := by decide +kernel
theorem dL_law_7 : decode cL_law 7 = .ok (.astore_n 1, 1) := by decide +kernel
theorem dL_law_8 : decode cL_law 8 = .ok (.new 10, 3) := by decide +kernel
theorem dL_law_11 : decode cL_law 11 = .ok (.dup, 1) := by decide +kernel
theorem dL_law_12 : decode cL_law 12 = .ok (.invokespecial 12, 3) := by decide +kernel
theorem dL_law_15 : decode cL_law 15 = .ok (.astore_n 2, 1) := by decide +kernel
theorem dL_law_16 : decode cL_law 16 = .ok (.iconst 0, 1) := by decide +kernel
theorem dL_law_17 : decode cL_law 17 = .ok (.istore_n 3, 1) := by decide +kernel
theorem dL_law_18 : decode cL_law 18 = .ok (.iload_n 3, 1) := by decide +kernel
theorem dL_law_19 : decode cL_law 19 = .ok (.aload_n 0, 1) := by decide +kernel
theorem dL_law_20 : decode cL_law 20 = .ok (.arraylength, 1) := by decide +kernel
theorem dL_law_21 : decode cL_law 21 = .ok (.iconst 4, 1) := by decide +kernel
theorem dL_law_22 : decode cL_law 22 = .ok (.isub, 1) := by decide +kernel
theorem dL_law_23 : decode cL_law 23 = .ok (.if_icmp .gt 874, 3) := by decide +kernel
theorem dL_law_26 : decode cL_law 26 = .ok (.aload_n 0, 1) := by decide +kernel
theorem dL_law_27 : decode cL_law 27 = .ok (.iload_n 3, 1) := by decide +kernel
theorem dL_law_28 : decode cL_law 28 = .ok (.iaload, 1) := by decide +kernel
theorem dL_law_29 : decode cL_law 29 = .ok (.bipush 31, 2) := by decide +kernel
theorem dL_law_31 : decode cL_law 31 = .ok (.iand, 1) := by decide +kernel
theorem dL_law_32 : decode cL_law 32 = .ok (.tableswitch 859 0 26 #[124, 147, 170, 229, 272, 305, 328, 361, 394, 427, 450, 463, 476, 489, 512, 545, 578, 611, 634, 657, 680, 723, 746, 787, 820, 833, 846], 124) := by decide +kernel
theorem dL_law_156 : decode cL_law 156 = .ok (.aload_n 1, 1) := by decide +kernel
theorem dL_law_157 : decode cL_law 157 = .ok (.aload_n 0, 1) := by decide +kernel
theorem dL_law_158 : decode cL_law 158 = .ok (.iload_n 3, 1) := by decide +kernel
theorem dL_law_159 : decode cL_law 159 = .ok (.iconst 1, 1) := by decide +kernel
theorem dL_law_160 : decode cL_law 160 = .ok (.iadd, 1) := by decide +kernel
theorem dL_law_161 : decode cL_law 161 = .ok (.iaload, 1) := by decide +kernel
theorem dL_law_162 : decode cL_law 162 = .ok (.invokevirtual 13, 3) := by decide +kernel
theorem dL_law_165 : decode cL_law 165 = .ok (.aload_n 2, 1) := by decide +kernel
theorem dL_law_166 : decode cL_law 166 = .ok (.aload_n 0, 1) := by decide +kernel
theorem dL_law_167 : decode cL_law 167 = .ok (.iload_n 3, 1) := by decide +kernel
theorem dL_law_168 : decode cL_law 168 = .ok (.iconst 1, 1) := by decide +kernel
theorem dL_law_169 : decode cL_law 169 = .ok (.iadd, 1) := by decide +kernel
theorem dL_law_170 : decode cL_law 170 = .ok (.iaload, 1) := by decide +kernel
theorem dL_law_171 : decode cL_law 171 = .ok (.invokevirtual 17, 3) := by decide +kernel
theorem dL_law_174 : decode cL_law 174 = .ok (.if_icmp .eq 717, 3) := by decide +kernel
theorem dL_law_177 : decode cL_law 177 = .ok (.iconst 0, 1) := by decide +kernel
theorem dL_law_178 : decode cL_law 178 = .ok (.ireturn, 1) := by decide +kernel
theorem dL_law_179 : decode cL_law 179 = .ok (.aload_n 1, 1) := by decide +kernel
theorem dL_law_180 : decode cL_law 180 = .ok (.aload_n 0, 1) := by decide +kernel
theorem dL_law_181 : decode cL_law 181 = .ok (.iload_n 3, 1) := by decide +kernel
theorem dL_law_182 : decode cL_law 182 = .ok (.iconst 1, 1) := by decide +kernel
theorem dL_law_183 : decode cL_law 183 = .ok (.iadd, 1) := by decide +kernel
theorem dL_law_184 : decode cL_law 184 = .ok (.iaload, 1) := by decide +kernel
theorem dL_law_185 : decode cL_law 185 = .ok (.invokevirtual 18, 3) := by decide +kernel
theorem dL_law_188 : decode cL_law 188 = .ok (.aload_n 2, 1) := by decide +kernel
theorem dL_law_189 : decode cL_law 189 = .ok (.aload_n 0, 1) := by decide +kernel
theorem dL_law_190 : decode cL_law 190 = .ok (.iload_n 3, 1) := by decide +kernel
theorem dL_law_191 : decode cL_law 191 = .ok (.iconst 1, 1) := by decide +kernel
theorem dL_law_192 : decode cL_law 192 = .ok (.iadd, 1) := by decide +kernel
theorem dL_law_193 : decode cL_law 193 = .ok (.iaload, 1) := by decide +kernel
theorem dL_law_194 : decode cL_law 194 = .ok (.invokevirtual 21, 3) := by decide +kernel
theorem dL_law_197 : decode cL_law 197 = .ok (.if_icmp .eq 694, 3) := by decide +kernel
theorem dL_law_200 : decode cL_law 200 = .ok (.iconst 0, 1) := by decide +kernel
theorem dL_law_201 : decode cL_law 201 = .ok (.ireturn, 1) := by decide +kernel
theorem dL_law_202 : decode cL_law 202 = .ok (.aload_n 1, 1) := by decide +kernel
theorem dL_law_203 : decode cL_law 203 = .ok (.aload_n 0, 1) := by decide +kernel
theorem dL_law_204 : decode cL_law 204 = .ok (.iload_n 3, 1) := by decide +kernel
theorem dL_law_205 : decode cL_law 205 = .ok (.iconst 1, 1) := by decide +kernel
theorem dL_law_206 : decode cL_law 206 = .ok (.iadd, 1) := by decide +kernel
theorem dL_law_207 : decode cL_law 207 = .ok (.iaload, 1) := by decide +kernel
theorem dL_law_208 : decode cL_law 208 = .ok (.aload_n 0, 1) := by decide +kernel
theorem dL_law_209 : decode cL_law 209 = .ok (.iload_n 3, 1) := by decide +kernel
theorem dL_law_210 : decode cL_law 210 = .ok (.iconst 2, 1) := by decide +kernel
theorem dL_law_211 : decode cL_law 211 = .ok (.iadd, 1) := by decide +kernel
theorem dL_law_212 : decode cL_law 212 = .ok (.iaload, 1) := by decide +kernel
theorem dL_law_213 : decode cL_law 213 = .ok (.ifCond .eq 7, 3) := by decide +kernel
theorem dL_law_216 : decode cL_law 216 = .ok (.iconst 1, 1) := by decide +kernel
theorem dL_law_217 : decode cL_law 217 = .ok (.goto 4, 3) := by decide +kernel
theorem dL_law_220 : decode cL_law 220 = .ok (.iconst 0, 1) := by decide +kernel
theorem dL_law_221 : decode cL_law 221 = .ok (.aload_n 0, 1) := by decide +kernel
theorem dL_law_222 : decode cL_law 222 = .ok (.iload_n 3, 1) := by decide +kernel
theorem dL_law_223 : decode cL_law 223 = .ok (.iconst 3, 1) := by decide +kernel
theorem dL_law_224 : decode cL_law 224 = .ok (.iadd, 1) := by decide +kernel
theorem dL_law_225 : decode cL_law 225 = .ok (.iaload, 1) := by decide +kernel
theorem dL_law_226 : decode cL_law 226 = .ok (.invokevirtual 22, 3) := by decide +kernel
theorem dL_law_229 : decode cL_law 229 = .ok (.aload_n 2, 1) := by decide +kernel
theorem dL_law_230 : decode cL_law 230 = .ok (.aload_n 0, 1) := by decide +kernel
theorem dL_law_231 : decode cL_law 231 = .ok (.iload_n 3, 1) := by decide +kernel
theorem dL_law_232 : decode cL_law 232 = .ok (.iconst 1, 1) := by decide +kernel
theorem dL_law_233 : decode cL_law 233 = .ok (.iadd, 1) := by decide +kernel
theorem dL_law_234 : decode cL_law 234 = .ok (.iaload, 1) := by decide +kernel
theorem dL_law_235 : decode cL_law 235 = .ok (.aload_n 0, 1) := by decide +kernel
theorem dL_law_236 : decode cL_law 236 = .ok (.iload_n 3, 1) := by decide +kernel
theorem dL_law_237 : decode cL_law 237 = .ok (.iconst 2, 1) := by decide +kernel
theorem dL_law_238 : decode cL_law 238 = .ok (.iadd, 1) := by decide +kernel
theorem dL_law_239 : decode cL_law 239 = .ok (.iaload, 1) := by decide +kernel
theorem dL_law_240 : decode cL_law 240 = .ok (.ifCond .eq 7, 3) := by decide +kernel
theorem dL_law_243 : decode cL_law 243 = .ok (.iconst 1, 1) := by decide +kernel
theorem dL_law_244 : decode cL_law 244 = .ok (.goto 4, 3) := by decide +kernel
theorem dL_law_247 : decode cL_law 247 = .ok (.iconst 0, 1) := by decide +kernel
theorem dL_law_248 : decode cL_law 248 = .ok (.aload_n 0, 1) := by decide +kernel
theorem dL_law_249 : decode cL_law 249 = .ok (.iload_n 3, 1) := by decide +kernel
theorem dL_law_250 : decode cL_law 250 = .ok (.iconst 3, 1) := by decide +kernel
theorem dL_law_251 : decode cL_law 251 = .ok (.iadd, 1) := by decide +kernel
theorem dL_law_252 : decode cL_law 252 = .ok (.iaload, 1) := by decide +kernel
theorem dL_law_253 : decode cL_law 253 = .ok (.invokevirtual 26, 3) := by decide +kernel
theorem dL_law_256 : decode cL_law 256 = .ok (.if_icmp .eq 635, 3) := by decide +kernel
theorem dL_law_259 : decode cL_law 259 = .ok (.iconst 0, 1) := by decide +kernel
theorem dL_law_260 : decode cL_law 260 = .ok (.ireturn, 1) := by decide +kernel
theorem dL_law_261 : decode cL_law 261 = .ok (.aload_n 1, 1) := by decide +kernel
theorem dL_law_262 : decode cL_law 262 = .ok (.aload_n 0, 1) := by decide +kernel
theorem dL_law_263 : decode cL_law 263 = .ok (.iload_n 3, 1) := by decide +kernel
theorem dL_law_264 : decode cL_law 264 = .ok (.iconst 1, 1) := by decide +kernel
theorem dL_law_265 : decode cL_law 265 = .ok (.iadd, 1) := by decide +kernel
theorem dL_law_266 : decode cL_law 266 = .ok (.iaload, 1) := by decide +kernel
theorem dL_law_267 : decode cL_law 267 = .ok (.aload_n 0, 1) := by decide +kernel
theorem dL_law_268 : decode cL_law 268 = .ok (.iload_n 3, 1) := by decide +kernel
theorem dL_law_269 : decode cL_law 269 = .ok (.iconst 2, 1) := by decide +kernel
theorem dL_law_270 : decode cL_law 270 = .ok (.iadd, 1) := by decide +kernel
theorem dL_law_271 : decode cL_law 271 = .ok (.iaload, 1) := by decide +kernel
theorem dL_law_272 : decode cL_law 272 = .ok (.aload_n 0, 1) := by decide +kernel
theorem dL_law_273 : decode cL_law 273 = .ok (.iload_n 3, 1) := by decide +kernel
theorem dL_law_274 : decode cL_law 274 = .ok (.iconst 3, 1) := by decide +kernel
theorem dL_law_275 : decode cL_law 275 = .ok (.iadd, 1) := by decide +kernel
theorem dL_law_276 : decode cL_law 276 = .ok (.iaload, 1) := by decide +kernel
theorem dL_law_277 : decode cL_law 277 = .ok (.invokevirtual 27, 3) := by decide +kernel
theorem dL_law_280 : decode cL_law 280 = .ok (.aload_n 2, 1) := by decide +kernel
theorem dL_law_281 : decode cL_law 281 = .ok (.aload_n 0, 1) := by decide +kernel
theorem dL_law_282 : decode cL_law 282 = .ok (.iload_n 3, 1) := by decide +kernel
theorem dL_law_283 : decode cL_law 283 = .ok (.iconst 1, 1) := by decide +kernel
theorem dL_law_284 : decode cL_law 284 = .ok (.iadd, 1) := by decide +kernel
theorem dL_law_285 : decode cL_law 285 = .ok (.iaload, 1) := by decide +kernel
theorem dL_law_286 : decode cL_law 286 = .ok (.aload_n 0, 1) := by decide +kernel
theorem dL_law_287 : decode cL_law 287 = .ok (.iload_n 3, 1) := by decide +kernel
theorem dL_law_288 : decode cL_law 288 = .ok (.iconst 2, 1) := by decide +kernel
theorem dL_law_289 : decode cL_law 289 = .ok (.iadd, 1) := by decide +kernel
theorem dL_law_290 : decode cL_law 290 = .ok (.iaload, 1) := by decide +kernel
theorem dL_law_291 : decode cL_law 291 = .ok (.aload_n 0, 1) := by decide +kernel
theorem dL_law_292 : decode cL_law 292 = .ok (.iload_n 3, 1) := by decide +kernel
theorem dL_law_293 : decode cL_law 293 = .ok (.iconst 3, 1) := by decide +kernel
theorem dL_law_294 : decode cL_law 294 = .ok (.iadd, 1) := by decide +kernel
theorem dL_law_295 : decode cL_law 295 = .ok (.iaload, 1) := by decide +kernel
theorem dL_law_296 : decode cL_law 296 = .ok (.invokevirtual 31, 3) := by decide +kernel
theorem dL_law_299 : decode cL_law 299 = .ok (.if_icmp .eq 592, 3) := by decide +kernel
theorem dL_law_302 : decode cL_law 302 = .ok (.iconst 0, 1) := by decide +kernel
theorem dL_law_303 : decode cL_law 303 = .ok (.ireturn, 1) := by decide +kernel
theorem dL_law_304 : decode cL_law 304 = .ok (.aload_n 1, 1) := by decide +kernel
theorem dL_law_305 : decode cL_law 305 = .ok (.aload_n 0, 1) := by decide +kernel
theorem dL_law_306 : decode cL_law 306 = .ok (.iload_n 3, 1) := by decide +kernel
theorem dL_law_307 : decode cL_law 307 = .ok (.iconst 1, 1) := by decide +kernel
theorem dL_law_308 : decode cL_law 308 = .ok (.iadd, 1) := by decide +kernel
theorem dL_law_309 : decode cL_law 309 = .ok (.iaload, 1) := by decide +kernel
theorem dL_law_310 : decode cL_law 310 = .ok (.aload_n 0, 1) := by decide +kernel
theorem dL_law_311 : decode cL_law 311 = .ok (.iload_n 3, 1) := by decide +kernel
theorem dL_law_312 : decode cL_law 312 = .ok (.iconst 2, 1) := by decide +kernel
theorem dL_law_313 : decode cL_law 313 = .ok (.iadd, 1) := by decide +kernel
theorem dL_law_314 : decode cL_law 314 = .ok (.iaload, 1) := by decide +kernel
theorem dL_law_315 : decode cL_law 315 = .ok (.invokevirtual 32, 3) := by decide +kernel
theorem dL_law_318 : decode cL_law 318 = .ok (.aload_n 2, 1) := by decide +kernel
theorem dL_law_319 : decode cL_law 319 = .ok (.aload_n 0, 1) := by decide +kernel
theorem dL_law_320 : decode cL_law 320 = .ok (.iload_n 3, 1) := by decide +kernel
theorem dL_law_321 : decode cL_law 321 = .ok (.iconst 1, 1) := by decide +kernel
theorem dL_law_322 : decode cL_law 322 = .ok (.iadd, 1) := by decide +kernel
theorem dL_law_323 : decode cL_law 323 = .ok (.iaload, 1) := by decide +kernel
theorem dL_law_324 : decode cL_law 324 = .ok (.aload_n 0, 1) := by decide +kernel
theorem dL_law_325 : decode cL_law 325 = .ok (.iload_n 3, 1) := by decide +kernel
theorem dL_law_326 : decode cL_law 326 = .ok (.iconst 2, 1) := by decide +kernel
theorem dL_law_327 : decode cL_law 327 = .ok (.iadd, 1) := by decide +kernel
theorem dL_law_328 : decode cL_law 328 = .ok (.iaload, 1) := by decide +kernel
theorem dL_law_329 : decode cL_law 329 = .ok (.invokevirtual 36, 3) := by decide +kernel
theorem dL_law_332 : decode cL_law 332 = .ok (.if_icmp .eq 559, 3) := by decide +kernel
theorem dL_law_335 : decode cL_law 335 = .ok (.iconst 0, 1) := by decide +kernel
theorem dL_law_336 : decode cL_law 336 = .ok (.ireturn, 1) := by decide +kernel
theorem dL_law_337 : decode cL_law 337 = .ok (.aload_n 1, 1) := by decide +kernel
theorem dL_law_338 : decode cL_law 338 = .ok (.aload_n 0, 1) := by decide +kernel
theorem dL_law_339 : decode cL_law 339 = .ok (.iload_n 3, 1) := by decide +kernel
theorem dL_law_340 : decode cL_law 340 = .ok (.iconst 1, 1) := by decide +kernel
theorem dL_law_341 : decode cL_law 341 = .ok (.iadd, 1) := by decide +kernel
theorem dL_law_342 : decode cL_law 342 = .ok (.iaload, 1) := by decide +kernel
theorem dL_law_343 : decode cL_law 343 = .ok (.invokevirtual 37, 3) := by decide +kernel
theorem dL_law_346 : decode cL_law 346 = .ok (.aload_n 2, 1) := by decide +kernel
theorem dL_law_347 : decode cL_law 347 = .ok (.aload_n 0, 1) := by decide +kernel
theorem dL_law_348 : decode cL_law 348 = .ok (.iload_n 3, 1) := by decide +kernel
theorem dL_law_349 : decode cL_law 349 = .ok (.iconst 1, 1) := by decide +kernel
theorem dL_law_350 : decode cL_law 350 = .ok (.iadd, 1) := by decide +kernel
theorem dL_law_351 : decode cL_law 351 = .ok (.iaload, 1) := by decide +kernel
theorem dL_law_352 : decode cL_law 352 = .ok (.invokevirtual 40, 3) := by decide +kernel
theorem dL_law_355 : decode cL_law 355 = .ok (.if_icmp .eq 536, 3) := by decide +kernel
theorem dL_law_358 : decode cL_law 358 = .ok (.iconst 0, 1) := by decide +kernel
theorem dL_law_359 : decode cL_law 359 = .ok (.ireturn, 1) := by decide +kernel
theorem dL_law_360 : decode cL_law 360 = .ok (.aload_n 1, 1) := by decide +kernel
theorem dL_law_361 : decode cL_law 361 = .ok (.aload_n 0, 1) := by decide +kernel
theorem dL_law_362 : decode cL_law 362 = .ok (.iload_n 3, 1) := by decide +kernel
theorem dL_law_363 : decode cL_law 363 = .ok (.iconst 1, 1) := by decide +kernel
theorem dL_law_364 : decode cL_law 364 = .ok (.iadd, 1) := by decide +kernel
theorem dL_law_365 : decode cL_law 365 = .ok (.iaload, 1) := by decide +kernel
theorem dL_law_366 : decode cL_law 366 = .ok (.aload_n 0, 1) := by decide +kernel
theorem dL_law_367 : decode cL_law 367 = .ok (.iload_n 3, 1) := by decide +kernel
theorem dL_law_368 : decode cL_law 368 = .ok (.iconst 2, 1) := by decide +kernel
theorem dL_law_369 : decode cL_law 369 = .ok (.iadd, 1) := by decide +kernel
theorem dL_law_370 : decode cL_law 370 = .ok (.iaload, 1) := by decide +kernel
theorem dL_law_371 : decode cL_law 371 = .ok (.invokevirtual 41, 3) := by decide +kernel
theorem dL_law_374 : decode cL_law 374 = .ok (.aload_n 2, 1) := by decide +kernel
theorem dL_law_375 : decode cL_law 375 = .ok (.aload_n 0, 1) := by decide +kernel
theorem dL_law_376 : decode cL_law 376 = .ok (.iload_n 3, 1) := by decide +kernel
theorem dL_law_377 : decode cL_law 377 = .ok (.iconst 1, 1) := by decide +kernel
theorem dL_law_378 : decode cL_law 378 = .ok (.iadd, 1) := by decide +kernel
theorem dL_law_379 : decode cL_law 379 = .ok (.iaload, 1) := by decide +kernel
theorem dL_law_380 : decode cL_law 380 = .ok (.aload_n 0, 1) := by decide +kernel
theorem dL_law_381 : decode cL_law 381 = .ok (.iload_n 3, 1) := by decide +kernel
theorem dL_law_382 : decode cL_law 382 = .ok (.iconst 2, 1) := by decide +kernel
theorem dL_law_383 : decode cL_law 383 = .ok (.iadd, 1) := by decide +kernel
theorem dL_law_384 : decode cL_law 384 = .ok (.iaload, 1) := by decide +kernel
theorem dL_law_385 : decode cL_law 385 = .ok (.invokevirtual 44, 3) := by decide +kernel
theorem dL_law_388 : decode cL_law 388 = .ok (.if_icmp .eq 503, 3) := by decide +kernel
theorem dL_law_391 : decode cL_law 391 = .ok (.iconst 0, 1) := by decide +kernel
theorem dL_law_392 : decode cL_law 392 = .ok (.ireturn, 1) := by decide +kernel
theorem dL_law_393 : decode cL_law 393 = .ok (.aload_n 1, 1) := by decide +kernel
theorem dL_law_394 : decode cL_law 394 = .ok (.aload_n 0, 1) := by decide +kernel
theorem dL_law_395 : decode cL_law 395 = .ok (.iload_n 3, 1) := by decide +kernel
theorem dL_law_396 : decode cL_law 396 = .ok (.iconst 1, 1) := by decide +kernel
theorem dL_law_397 : decode cL_law 397 = .ok (.iadd, 1) := by decide +kernel
theorem dL_law_398 : decode cL_law 398 = .ok (.iaload, 1) := by decide +kernel
theorem dL_law_399 : decode cL_law 399 = .ok (.aload_n 0, 1) := by decide +kernel
theorem dL_law_400 : decode cL_law 400 = .ok (.iload_n 3, 1) := by decide +kernel
theorem dL_law_401 : decode cL_law 401 = .ok (.iconst 2, 1) := by decide +kernel
theorem dL_law_402 : decode cL_law 402 = .ok (.iadd, 1) := by decide +kernel
theorem dL_law_403 : decode cL_law 403 = .ok (.iaload, 1) := by decide +kernel
theorem dL_law_404 : decode cL_law 404 = .ok (.invokevirtual 45, 3) := by decide +kernel
theorem dL_law_407 : decode cL_law 407 = .ok (.aload_n 2, 1) := by decide +kernel
theorem dL_law_408 : decode cL_law 408 = .ok (.aload_n 0, 1) := by decide +kernel
theorem dL_law_409 : decode cL_law 409 = .ok (.iload_n 3, 1) := by decide +kernel
theorem dL_law_410 : decode cL_law 410 = .ok (.iconst 1, 1) := by decide +kernel
theorem dL_law_411 : decode cL_law 411 = .ok (.iadd, 1) := by decide +kernel
theorem dL_law_412 : decode cL_law 412 = .ok (.iaload, 1) := by decide +kernel
theorem dL_law_413 : decode cL_law 413 = .ok (.aload_n 0, 1) := by decide +kernel
theorem dL_law_414 : decode cL_law 414 = .ok (.iload_n 3, 1) := by decide +kernel
theorem dL_law_415 : decode cL_law 415 = .ok (.iconst 2, 1) := by decide +kernel
theorem dL_law_416 : decode cL_law 416 = .ok (.iadd, 1) := by decide +kernel
theorem dL_law_417 : decode cL_law 417 = .ok (.iaload, 1) := by decide +kernel
theorem dL_law_418 : decode cL_law 418 = .ok (.invokevirtual 48, 3) := by decide +kernel
theorem dL_law_421 : decode cL_law 421 = .ok (.if_icmp .eq 470, 3) := by decide +kernel
theorem dL_law_424 : decode cL_law 424 = .ok (.iconst 0, 1) := by decide +kernel
theorem dL_law_425 : decode cL_law 425 = .ok (.ireturn, 1) := by decide +kernel
theorem dL_law_426 : decode cL_law 426 = .ok (.aload_n 1, 1) := by decide +kernel
theorem dL_law_427 : decode cL_law 427 = .ok (.aload_n 0, 1) := by decide +kernel
theorem dL_law_428 : decode cL_law 428 = .ok (.iload_n 3, 1) := by decide +kernel
theorem dL_law_429 : decode cL_law 429 = .ok (.iconst 1, 1) := by decide +kernel
theorem dL_law_430 : decode cL_law 430 = .ok (.iadd, 1) := by decide +kernel
theorem dL_law_431 : decode cL_law 431 = .ok (.iaload, 1) := by decide +kernel
theorem dL_law_432 : decode cL_law 432 = .ok (.aload_n 0, 1) := by decide +kernel
theorem dL_law_433 : decode cL_law 433 = .ok (.iload_n 3, 1) := by decide +kernel
theorem dL_law_434 : decode cL_law 434 = .ok (.iconst 2, 1) := by decide +kernel
theorem dL_law_435 : decode cL_law 435 = .ok (.iadd, 1) := by decide +kernel
theorem dL_law_436 : decode cL_law 436 = .ok (.iaload, 1) := by decide +kernel
theorem dL_law_437 : decode cL_law 437 = .ok (.invokevirtual 49, 3) := by decide +kernel
theorem dL_law_440 : decode cL_law 440 = .ok (.aload_n 2, 1) := by decide +kernel
theorem dL_law_441 : decode cL_law 441 = .ok (.aload_n 0, 1) := by decide +kernel
theorem dL_law_442 : decode cL_law 442 = .ok (.iload_n 3, 1) := by decide +kernel
theorem dL_law_443 : decode cL_law 443 = .ok (.iconst 1, 1) := by decide +kernel
theorem dL_law_444 : decode cL_law 444 = .ok (.iadd, 1) := by decide +kernel
theorem dL_law_445 : decode cL_law 445 = .ok (.iaload, 1) := by decide +kernel
theorem dL_law_446 : decode cL_law 446 = .ok (.aload_n 0, 1) := by decide +kernel
theorem dL_law_447 : decode cL_law 447 = .ok (.iload_n 3, 1) := by decide +kernel
theorem dL_law_448 : decode cL_law 448 = .ok (.iconst 2, 1) := by decide +kernel
theorem dL_law_449 : decode cL_law 449 = .ok (.iadd, 1) := by decide +kernel
theorem dL_law_450 : decode cL_law 450 = .ok (.iaload, 1) := by decide +kernel
theorem dL_law_451 : decode cL_law 451 = .ok (.invokevirtual 52, 3) := by decide +kernel
theorem dL_law_454 : decode cL_law 454 = .ok (.if_icmp .eq 437, 3) := by decide +kernel
theorem dL_law_457 : decode cL_law 457 = .ok (.iconst 0, 1) := by decide +kernel
theorem dL_law_458 : decode cL_law 458 = .ok (.ireturn, 1) := by decide +kernel
theorem dL_law_459 : decode cL_law 459 = .ok (.aload_n 1, 1) := by decide +kernel
theorem dL_law_460 : decode cL_law 460 = .ok (.aload_n 0, 1) := by decide +kernel
theorem dL_law_461 : decode cL_law 461 = .ok (.iload_n 3, 1) := by decide +kernel
theorem dL_law_462 : decode cL_law 462 = .ok (.iconst 1, 1) := by decide +kernel
theorem dL_law_463 : decode cL_law 463 = .ok (.iadd, 1) := by decide +kernel
theorem dL_law_464 : decode cL_law 464 = .ok (.iaload, 1) := by decide +kernel
theorem dL_law_465 : decode cL_law 465 = .ok (.invokevirtual 53, 3) := by decide +kernel
theorem dL_law_468 : decode cL_law 468 = .ok (.aload_n 2, 1) := by decide +kernel
theorem dL_law_469 : decode cL_law 469 = .ok (.aload_n 0, 1) := by decide +kernel
theorem dL_law_470 : decode cL_law 470 = .ok (.iload_n 3, 1) := by decide +kernel
theorem dL_law_471 : decode cL_law 471 = .ok (.iconst 1, 1) := by decide +kernel
theorem dL_law_472 : decode cL_law 472 = .ok (.iadd, 1) := by decide +kernel
theorem dL_law_473 : decode cL_law 473 = .ok (.iaload, 1) := by decide +kernel
theorem dL_law_474 : decode cL_law 474 = .ok (.invokevirtual 56, 3) := by decide +kernel
theorem dL_law_477 : decode cL_law 477 = .ok (.if_icmp .eq 414, 3) := by decide +kernel
theorem dL_law_480 : decode cL_law 480 = .ok (.iconst 0, 1) := by decide +kernel
theorem dL_law_481 : decode cL_law 481 = .ok (.ireturn, 1) := by decide +kernel
theorem dL_law_482 : decode cL_law 482 = .ok (.aload_n 1, 1) := by decide +kernel
theorem dL_law_483 : decode cL_law 483 = .ok (.invokevirtual 57, 3) := by decide +kernel
theorem dL_law_486 : decode cL_law 486 = .ok (.aload_n 2, 1) := by decide +kernel
theorem dL_law_487 : decode cL_law 487 = .ok (.invokevirtual 61, 3) := by decide +kernel
theorem dL_law_490 : decode cL_law 490 = .ok (.if_icmp .eq 401, 3) := by decide +kernel
theorem dL_law_493 : decode cL_law 493 = .ok (.iconst 0, 1) := by decide +kernel
theorem dL_law_494 : decode cL_law 494 = .ok (.ireturn, 1) := by decide +kernel
theorem dL_law_495 : decode cL_law 495 = .ok (.aload_n 1, 1) := by decide +kernel
theorem dL_law_496 : decode cL_law 496 = .ok (.invokevirtual 62, 3) := by decide +kernel
theorem dL_law_499 : decode cL_law 499 = .ok (.aload_n 2, 1) := by decide +kernel
theorem dL_law_500 : decode cL_law 500 = .ok (.invokevirtual 65, 3) := by decide +kernel
theorem dL_law_503 : decode cL_law 503 = .ok (.if_icmp .eq 388, 3) := by decide +kernel
theorem dL_law_506 : decode cL_law 506 = .ok (.iconst 0, 1) := by decide +kernel
theorem dL_law_507 : decode cL_law 507 = .ok (.ireturn, 1) := by decide +kernel
theorem dL_law_508 : decode cL_law 508 = .ok (.aload_n 1, 1) := by decide +kernel
theorem dL_law_509 : decode cL_law 509 = .ok (.invokevirtual 66, 3) := by decide +kernel
theorem dL_law_512 : decode cL_law 512 = .ok (.aload_n 2, 1) := by decide +kernel
theorem dL_law_513 : decode cL_law 513 = .ok (.invokevirtual 69, 3) := by decide +kernel
theorem dL_law_516 : decode cL_law 516 = .ok (.if_icmp .eq 375, 3) := by decide +kernel
theorem dL_law_519 : decode cL_law 519 = .ok (.iconst 0, 1) := by decide +kernel
theorem dL_law_520 : decode cL_law 520 = .ok (.ireturn, 1) := by decide +kernel
theorem dL_law_521 : decode cL_law 521 = .ok (.aload_n 1, 1) := by decide +kernel
theorem dL_law_522 : decode cL_law 522 = .ok (.aload_n 0, 1) := by decide +kernel
theorem dL_law_523 : decode cL_law 523 = .ok (.iload_n 3, 1) := by decide +kernel
theorem dL_law_524 : decode cL_law 524 = .ok (.iconst 1, 1) := by decide +kernel
theorem dL_law_525 : decode cL_law 525 = .ok (.iadd, 1) := by decide +kernel
theorem dL_law_526 : decode cL_law 526 = .ok (.iaload, 1) := by decide +kernel
theorem dL_law_527 : decode cL_law 527 = .ok (.invokevirtual 70, 3) := by decide +kernel
theorem dL_law_530 : decode cL_law 530 = .ok (.aload_n 2, 1) := by decide +kernel
theorem dL_law_531 : decode cL_law 531 = .ok (.aload_n 0, 1) := by decide +kernel
theorem dL_law_532 : decode cL_law 532 = .ok (.iload_n 3, 1) := by decide +kernel
theorem dL_law_533 : decode cL_law 533 = .ok (.iconst 1, 1) := by decide +kernel
theorem dL_law_534 : decode cL_law 534 = .ok (.iadd, 1) := by decide +kernel
theorem dL_law_535 : decode cL_law 535 = .ok (.iaload, 1) := by decide +kernel
theorem dL_law_536 : decode cL_law 536 = .ok (.invokevirtual 73, 3) := by decide +kernel
theorem dL_law_539 : decode cL_law 539 = .ok (.if_icmp .eq 352, 3) := by decide +kernel
theorem dL_law_542 : decode cL_law 542 = .ok (.iconst 0, 1) := by decide +kernel
theorem dL_law_543 : decode cL_law 543 = .ok (.ireturn, 1) := by decide +kernel
theorem dL_law_544 : decode cL_law 544 = .ok (.aload_n 1, 1) := by decide +kernel
theorem dL_law_545 : decode cL_law 545 = .ok (.aload_n 0, 1) := by decide +kernel
theorem dL_law_546 : decode cL_law 546 = .ok (.iload_n 3, 1) := by decide +kernel
theorem dL_law_547 : decode cL_law 547 = .ok (.iconst 1, 1) := by decide +kernel
theorem dL_law_548 : decode cL_law 548 = .ok (.iadd, 1) := by decide +kernel
theorem dL_law_549 : decode cL_law 549 = .ok (.iaload, 1) := by decide +kernel
theorem dL_law_550 : decode cL_law 550 = .ok (.aload_n 0, 1) := by decide +kernel
theorem dL_law_551 : decode cL_law 551 = .ok (.iload_n 3, 1) := by decide +kernel
theorem dL_law_552 : decode cL_law 552 = .ok (.iconst 2, 1) := by decide +kernel
theorem dL_law_553 : decode cL_law 553 = .ok (.iadd, 1) := by decide +kernel
theorem dL_law_554 : decode cL_law 554 = .ok (.iaload, 1) := by decide +kernel
theorem dL_law_555 : decode cL_law 555 = .ok (.invokevirtual 74, 3) := by decide +kernel
theorem dL_law_558 : decode cL_law 558 = .ok (.aload_n 2, 1) := by decide +kernel
theorem dL_law_559 : decode cL_law 559 = .ok (.aload_n 0, 1) := by decide +kernel
theorem dL_law_560 : decode cL_law 560 = .ok (.iload_n 3, 1) := by decide +kernel
theorem dL_law_561 : decode cL_law 561 = .ok (.iconst 1, 1) := by decide +kernel
theorem dL_law_562 : decode cL_law 562 = .ok (.iadd, 1) := by decide +kernel
theorem dL_law_563 : decode cL_law 563 = .ok (.iaload, 1) := by decide +kernel
theorem dL_law_564 : decode cL_law 564 = .ok (.aload_n 0, 1) := by decide +kernel
theorem dL_law_565 : decode cL_law 565 = .ok (.iload_n 3, 1) := by decide +kernel
theorem dL_law_566 : decode cL_law 566 = .ok (.iconst 2, 1) := by decide +kernel
theorem dL_law_567 : decode cL_law 567 = .ok (.iadd, 1) := by decide +kernel
theorem dL_law_568 : decode cL_law 568 = .ok (.iaload, 1) := by decide +kernel
theorem dL_law_569 : decode cL_law 569 = .ok (.invokevirtual 77, 3) := by decide +kernel
theorem dL_law_572 : decode cL_law 572 = .ok (.if_icmp .eq 319, 3) := by decide +kernel
theorem dL_law_575 : decode cL_law 575 = .ok (.iconst 0, 1) := by decide +kernel
theorem dL_law_576 : decode cL_law 576 = .ok (.ireturn, 1) := by decide +kernel
theorem dL_law_577 : decode cL_law 577 = .ok (.aload_n 1, 1) := by decide +kernel
theorem dL_law_578 : decode cL_law 578 = .ok (.aload_n 0, 1) := by decide +kernel
theorem dL_law_579 : decode cL_law 579 = .ok (.iload_n 3, 1) := by decide +kernel
theorem dL_law_580 : decode cL_law 580 = .ok (.iconst 1, 1) := by decide +kernel
theorem dL_law_581 : decode cL_law 581 = .ok (.iadd, 1) := by decide +kernel
theorem dL_law_582 : decode cL_law 582 = .ok (.iaload, 1) := by decide +kernel
theorem dL_law_583 : decode cL_law 583 = .ok (.aload_n 0, 1) := by decide +kernel
theorem dL_law_584 : decode cL_law 584 = .ok (.iload_n 3, 1) := by decide +kernel
theorem dL_law_585 : decode cL_law 585 = .ok (.iconst 2, 1) := by decide +kernel
theorem dL_law_586 : decode cL_law 586 = .ok (.iadd, 1) := by decide +kernel
theorem dL_law_587 : decode cL_law 587 = .ok (.iaload, 1) := by decide +kernel
theorem dL_law_588 : decode cL_law 588 = .ok (.invokevirtual 78, 3) := by decide +kernel
theorem dL_law_591 : decode cL_law 591 = .ok (.aload_n 2, 1) := by decide +kernel
theorem dL_law_592 : decode cL_law 592 = .ok (.aload_n 0, 1) := by decide +kernel
theorem dL_law_593 : decode cL_law 593 = .ok (.iload_n 3, 1) := by decide +kernel
theorem dL_law_594 : decode cL_law 594 = .ok (.iconst 1, 1) := by decide +kernel
theorem dL_law_595 : decode cL_law 595 = .ok (.iadd, 1) := by decide +kernel
theorem dL_law_596 : decode cL_law 596 = .ok (.iaload, 1) := by decide +kernel
theorem dL_law_597 : decode cL_law 597 = .ok (.aload_n 0, 1) := by decide +kernel
theorem dL_law_598 : decode cL_law 598 = .ok (.iload_n 3, 1) := by decide +kernel
theorem dL_law_599 : decode cL_law 599 = .ok (.iconst 2, 1) := by decide +kernel
theorem dL_law_600 : decode cL_law 600 = .ok (.iadd, 1) := by decide +kernel
theorem dL_law_601 : decode cL_law 601 = .ok (.iaload, 1) := by decide +kernel
theorem dL_law_602 : decode cL_law 602 = .ok (.invokevirtual 81, 3) := by decide +kernel
theorem dL_law_605 : decode cL_law 605 = .ok (.if_icmp .eq 286, 3) := by decide +kernel
theorem dL_law_608 : decode cL_law 608 = .ok (.iconst 0, 1) := by decide +kernel
theorem dL_law_609 : decode cL_law 609 = .ok (.ireturn, 1) := by decide +kernel
theorem dL_law_610 : decode cL_law 610 = .ok (.aload_n 1, 1) := by decide +kernel
theorem dL_law_611 : decode cL_law 611 = .ok (.aload_n 0, 1) := by decide +kernel
theorem dL_law_612 : decode cL_law 612 = .ok (.iload_n 3, 1) := by decide +kernel
theorem dL_law_613 : decode cL_law 613 = .ok (.iconst 1, 1) := by decide +kernel
theorem dL_law_614 : decode cL_law 614 = .ok (.iadd, 1) := by decide +kernel
theorem dL_law_615 : decode cL_law 615 = .ok (.iaload, 1) := by decide +kernel
theorem dL_law_616 : decode cL_law 616 = .ok (.aload_n 0, 1) := by decide +kernel
theorem dL_law_617 : decode cL_law 617 = .ok (.iload_n 3, 1) := by decide +kernel
theorem dL_law_618 : decode cL_law 618 = .ok (.iconst 2, 1) := by decide +kernel
theorem dL_law_619 : decode cL_law 619 = .ok (.iadd, 1) := by decide +kernel
theorem dL_law_620 : decode cL_law 620 = .ok (.iaload, 1) := by decide +kernel
theorem dL_law_621 : decode cL_law 621 = .ok (.invokevirtual 82, 3) := by decide +kernel
theorem dL_law_624 : decode cL_law 624 = .ok (.aload_n 2, 1) := by decide +kernel
theorem dL_law_625 : decode cL_law 625 = .ok (.aload_n 0, 1) := by decide +kernel
theorem dL_law_626 : decode cL_law 626 = .ok (.iload_n 3, 1) := by decide +kernel
theorem dL_law_627 : decode cL_law 627 = .ok (.iconst 1, 1) := by decide +kernel
theorem dL_law_628 : decode cL_law 628 = .ok (.iadd, 1) := by decide +kernel
theorem dL_law_629 : decode cL_law 629 = .ok (.iaload, 1) := by decide +kernel
theorem dL_law_630 : decode cL_law 630 = .ok (.aload_n 0, 1) := by decide +kernel
theorem dL_law_631 : decode cL_law 631 = .ok (.iload_n 3, 1) := by decide +kernel
theorem dL_law_632 : decode cL_law 632 = .ok (.iconst 2, 1) := by decide +kernel
theorem dL_law_633 : decode cL_law 633 = .ok (.iadd, 1) := by decide +kernel
theorem dL_law_634 : decode cL_law 634 = .ok (.iaload, 1) := by decide +kernel
theorem dL_law_635 : decode cL_law 635 = .ok (.invokevirtual 85, 3) := by decide +kernel
theorem dL_law_638 : decode cL_law 638 = .ok (.if_icmp .eq 253, 3) := by decide +kernel
theorem dL_law_641 : decode cL_law 641 = .ok (.iconst 0, 1) := by decide +kernel
theorem dL_law_642 : decode cL_law 642 = .ok (.ireturn, 1) := by decide +kernel
theorem dL_law_643 : decode cL_law 643 = .ok (.aload_n 1, 1) := by decide +kernel
theorem dL_law_644 : decode cL_law 644 = .ok (.aload_n 0, 1) := by decide +kernel
theorem dL_law_645 : decode cL_law 645 = .ok (.iload_n 3, 1) := by decide +kernel
theorem dL_law_646 : decode cL_law 646 = .ok (.iconst 1, 1) := by decide +kernel
theorem dL_law_647 : decode cL_law 647 = .ok (.iadd, 1) := by decide +kernel
theorem dL_law_648 : decode cL_law 648 = .ok (.iaload, 1) := by decide +kernel
theorem dL_law_649 : decode cL_law 649 = .ok (.invokevirtual 86, 3) := by decide +kernel
theorem dL_law_652 : decode cL_law 652 = .ok (.aload_n 2, 1) := by decide +kernel
theorem dL_law_653 : decode cL_law 653 = .ok (.aload_n 0, 1) := by decide +kernel
theorem dL_law_654 : decode cL_law 654 = .ok (.iload_n 3, 1) := by decide +kernel
theorem dL_law_655 : decode cL_law 655 = .ok (.iconst 1, 1) := by decide +kernel
theorem dL_law_656 : decode cL_law 656 = .ok (.iadd, 1) := by decide +kernel
theorem dL_law_657 : decode cL_law 657 = .ok (.iaload, 1) := by decide +kernel
theorem dL_law_658 : decode cL_law 658 = .ok (.invokevirtual 89, 3) := by decide +kernel
theorem dL_law_661 : decode cL_law 661 = .ok (.if_icmp .eq 230, 3) := by decide +kernel
theorem dL_law_664 : decode cL_law 664 = .ok (.iconst 0, 1) := by decide +kernel
theorem dL_law_665 : decode cL_law 665 = .ok (.ireturn, 1) := by decide +kernel
theorem dL_law_666 : decode cL_law 666 = .ok (.aload_n 1, 1) := by decide +kernel
theorem dL_law_667 : decode cL_law 667 = .ok (.aload_n 0, 1) := by decide +kernel
theorem dL_law_668 : decode cL_law 668 = .ok (.iload_n 3, 1) := by decide +kernel
theorem dL_law_669 : decode cL_law 669 = .ok (.iconst 1, 1) := by decide +kernel
theorem dL_law_670 : decode cL_law 670 = .ok (.iadd, 1) := by decide +kernel
theorem dL_law_671 : decode cL_law 671 = .ok (.iaload, 1) := by decide +kernel
theorem dL_law_672 : decode cL_law 672 = .ok (.invokevirtual 90, 3) := by decide +kernel
theorem dL_law_675 : decode cL_law 675 = .ok (.aload_n 2, 1) := by decide +kernel
theorem dL_law_676 : decode cL_law 676 = .ok (.aload_n 0, 1) := by decide +kernel
theorem dL_law_677 : decode cL_law 677 = .ok (.iload_n 3, 1) := by decide +kernel
theorem dL_law_678 : decode cL_law 678 = .ok (.iconst 1, 1) := by decide +kernel
theorem dL_law_679 : decode cL_law 679 = .ok (.iadd, 1) := by decide +kernel
theorem dL_law_680 : decode cL_law 680 = .ok (.iaload, 1) := by decide +kernel
theorem dL_law_681 : decode cL_law 681 = .ok (.invokevirtual 93, 3) := by decide +kernel
theorem dL_law_684 : decode cL_law 684 = .ok (.if_icmp .eq 207, 3) := by decide +kernel
theorem dL_law_687 : decode cL_law 687 = .ok (.iconst 0, 1) := by decide +kernel
theorem dL_law_688 : decode cL_law 688 = .ok (.ireturn, 1) := by decide +kernel
theorem dL_law_689 : decode cL_law 689 = .ok (.aload_n 1, 1) := by decide +kernel
theorem dL_law_690 : decode cL_law 690 = .ok (.aload_n 0, 1) := by decide +kernel
theorem dL_law_691 : decode cL_law 691 = .ok (.iload_n 3, 1) := by decide +kernel
theorem dL_law_692 : decode cL_law 692 = .ok (.iconst 1, 1) := by decide +kernel
theorem dL_law_693 : decode cL_law 693 = .ok (.iadd, 1) := by decide +kernel
theorem dL_law_694 : decode cL_law 694 = .ok (.iaload, 1) := by decide +kernel
theorem dL_law_695 : decode cL_law 695 = .ok (.invokevirtual 94, 3) := by decide +kernel
theorem dL_law_698 : decode cL_law 698 = .ok (.aload_n 2, 1) := by decide +kernel
theorem dL_law_699 : decode cL_law 699 = .ok (.aload_n 0, 1) := by decide +kernel
theorem dL_law_700 : decode cL_law 700 = .ok (.iload_n 3, 1) := by decide +kernel
theorem dL_law_701 : decode cL_law 701 = .ok (.iconst 1, 1) := by decide +kernel
theorem dL_law_702 : decode cL_law 702 = .ok (.iadd, 1) := by decide +kernel
theorem dL_law_703 : decode cL_law 703 = .ok (.iaload, 1) := by decide +kernel
theorem dL_law_704 : decode cL_law 704 = .ok (.invokevirtual 97, 3) := by decide +kernel
theorem dL_law_707 : decode cL_law 707 = .ok (.if_icmp .eq 184, 3) := by decide +kernel
theorem dL_law_710 : decode cL_law 710 = .ok (.iconst 0, 1) := by decide +kernel
theorem dL_law_711 : decode cL_law 711 = .ok (.ireturn, 1) := by decide +kernel
theorem dL_law_712 : decode cL_law 712 = .ok (.aload_n 1, 1) := by decide +kernel
theorem dL_law_713 : decode cL_law 713 = .ok (.aload_n 0, 1) := by decide +kernel
theorem dL_law_714 : decode cL_law 714 = .ok (.iload_n 3, 1) := by decide +kernel
theorem dL_law_715 : decode cL_law 715 = .ok (.iconst 1, 1) := by decide +kernel
theorem dL_law_716 : decode cL_law 716 = .ok (.iadd, 1) := by decide +kernel
theorem dL_law_717 : decode cL_law 717 = .ok (.iaload, 1) := by decide +kernel
theorem dL_law_718 : decode cL_law 718 = .ok (.aload_n 0, 1) := by decide +kernel
theorem dL_law_719 : decode cL_law 719 = .ok (.iload_n 3, 1) := by decide +kernel
theorem dL_law_720 : decode cL_law 720 = .ok (.iconst 2, 1) := by decide +kernel
theorem dL_law_721 : decode cL_law 721 = .ok (.iadd, 1) := by decide +kernel
theorem dL_law_722 : decode cL_law 722 = .ok (.iaload, 1) := by decide +kernel
theorem dL_law_723 : decode cL_law 723 = .ok (.aload_n 0, 1) := by decide +kernel
theorem dL_law_724 : decode cL_law 724 = .ok (.iload_n 3, 1) := by decide +kernel
theorem dL_law_725 : decode cL_law 725 = .ok (.iconst 3, 1) := by decide +kernel
theorem dL_law_726 : decode cL_law 726 = .ok (.iadd, 1) := by decide +kernel
theorem dL_law_727 : decode cL_law 727 = .ok (.iaload, 1) := by decide +kernel
theorem dL_law_728 : decode cL_law 728 = .ok (.invokevirtual 98, 3) := by decide +kernel
theorem dL_law_731 : decode cL_law 731 = .ok (.aload_n 2, 1) := by decide +kernel
theorem dL_law_732 : decode cL_law 732 = .ok (.aload_n 0, 1) := by decide +kernel
theorem dL_law_733 : decode cL_law 733 = .ok (.iload_n 3, 1) := by decide +kernel
theorem dL_law_734 : decode cL_law 734 = .ok (.iconst 1, 1) := by decide +kernel
theorem dL_law_735 : decode cL_law 735 = .ok (.iadd, 1) := by decide +kernel
theorem dL_law_736 : decode cL_law 736 = .ok (.iaload, 1) := by decide +kernel
theorem dL_law_737 : decode cL_law 737 = .ok (.aload_n 0, 1) := by decide +kernel
theorem dL_law_738 : decode cL_law 738 = .ok (.iload_n 3, 1) := by decide +kernel
theorem dL_law_739 : decode cL_law 739 = .ok (.iconst 2, 1) := by decide +kernel
theorem dL_law_740 : decode cL_law 740 = .ok (.iadd, 1) := by decide +kernel
theorem dL_law_741 : decode cL_law 741 = .ok (.iaload, 1) := by decide +kernel
theorem dL_law_742 : decode cL_law 742 = .ok (.aload_n 0, 1) := by decide +kernel
theorem dL_law_743 : decode cL_law 743 = .ok (.iload_n 3, 1) := by decide +kernel
theorem dL_law_744 : decode cL_law 744 = .ok (.iconst 3, 1) := by decide +kernel
theorem dL_law_745 : decode cL_law 745 = .ok (.iadd, 1) := by decide +kernel
theorem dL_law_746 : decode cL_law 746 = .ok (.iaload, 1) := by decide +kernel
theorem dL_law_747 : decode cL_law 747 = .ok (.invokevirtual 101, 3) := by decide +kernel
theorem dL_law_750 : decode cL_law 750 = .ok (.if_icmp .eq 141, 3) := by decide +kernel
theorem dL_law_753 : decode cL_law 753 = .ok (.iconst 0, 1) := by decide +kernel
theorem dL_law_754 : decode cL_law 754 = .ok (.ireturn, 1) := by decide +kernel
theorem dL_law_755 : decode cL_law 755 = .ok (.aload_n 1, 1) := by decide +kernel
theorem dL_law_756 : decode cL_law 756 = .ok (.aload_n 0, 1) := by decide +kernel
theorem dL_law_757 : decode cL_law 757 = .ok (.iload_n 3, 1) := by decide +kernel
theorem dL_law_758 : decode cL_law 758 = .ok (.iconst 1, 1) := by decide +kernel
theorem dL_law_759 : decode cL_law 759 = .ok (.iadd, 1) := by decide +kernel
theorem dL_law_760 : decode cL_law 760 = .ok (.iaload, 1) := by decide +kernel
theorem dL_law_761 : decode cL_law 761 = .ok (.invokevirtual 102, 3) := by decide +kernel
theorem dL_law_764 : decode cL_law 764 = .ok (.aload_n 2, 1) := by decide +kernel
theorem dL_law_765 : decode cL_law 765 = .ok (.aload_n 0, 1) := by decide +kernel
theorem dL_law_766 : decode cL_law 766 = .ok (.iload_n 3, 1) := by decide +kernel
theorem dL_law_767 : decode cL_law 767 = .ok (.iconst 1, 1) := by decide +kernel
theorem dL_law_768 : decode cL_law 768 = .ok (.iadd, 1) := by decide +kernel
theorem dL_law_769 : decode cL_law 769 = .ok (.iaload, 1) := by decide +kernel
theorem dL_law_770 : decode cL_law 770 = .ok (.invokevirtual 105, 3) := by decide +kernel
theorem dL_law_773 : decode cL_law 773 = .ok (.if_icmp .eq 118, 3) := by decide +kernel
theorem dL_law_776 : decode cL_law 776 = .ok (.iconst 0, 1) := by decide +kernel
theorem dL_law_777 : decode cL_law 777 = .ok (.ireturn, 1) := by decide +kernel
theorem dL_law_778 : decode cL_law 778 = .ok (.aload_n 1, 1) := by decide +kernel
theorem dL_law_779 : decode cL_law 779 = .ok (.invokevirtual 106, 3) := by decide +kernel
theorem dL_law_782 : decode cL_law 782 = .ok (.dstore 4, 2) := by decide +kernel
theorem dL_law_784 : decode cL_law 784 = .ok (.aload_n 2, 1) := by decide +kernel
theorem dL_law_785 : decode cL_law 785 = .ok (.invokevirtual 110, 3) := by decide +kernel
theorem dL_law_788 : decode cL_law 788 = .ok (.dstore 6, 2) := by decide +kernel
theorem dL_law_790 : decode cL_law 790 = .ok (.dload 4, 2) := by decide +kernel
theorem dL_law_792 : decode cL_law 792 = .ok (.dload 6, 2) := by decide +kernel
theorem dL_law_794 : decode cL_law 794 = .ok (.dcmp .l, 1) := by decide +kernel
theorem dL_law_795 : decode cL_law 795 = .ok (.ifCond .eq 21, 3) := by decide +kernel
theorem dL_law_798 : decode cL_law 798 = .ok (.dload 4, 2) := by decide +kernel
theorem dL_law_800 : decode cL_law 800 = .ok (.dload 4, 2) := by decide +kernel
theorem dL_law_802 : decode cL_law 802 = .ok (.dcmp .l, 1) := by decide +kernel
theorem dL_law_803 : decode cL_law 803 = .ok (.ifCond .eq 11, 3) := by decide +kernel
theorem dL_law_806 : decode cL_law 806 = .ok (.dload 6, 2) := by decide +kernel
theorem dL_law_808 : decode cL_law 808 = .ok (.dload 6, 2) := by decide +kernel
theorem dL_law_810 : decode cL_law 810 = .ok (.dcmp .l, 1) := by decide +kernel
theorem dL_law_811 : decode cL_law 811 = .ok (.ifCond .ne 5, 3) := by decide +kernel
theorem dL_law_814 : decode cL_law 814 = .ok (.iconst 0, 1) := by decide +kernel
theorem dL_law_815 : decode cL_law 815 = .ok (.ireturn, 1) := by decide +kernel
theorem dL_law_816 : decode cL_law 816 = .ok (.goto 75, 3) := by decide +kernel
theorem dL_law_819 : decode cL_law 819 = .ok (.aload_n 1, 1) := by decide +kernel
theorem dL_law_820 : decode cL_law 820 = .ok (.aload_n 0, 1) := by decide +kernel
theorem dL_law_821 : decode cL_law 821 = .ok (.iload_n 3, 1) := by decide +kernel
theorem dL_law_822 : decode cL_law 822 = .ok (.iconst 1, 1) := by decide +kernel
theorem dL_law_823 : decode cL_law 823 = .ok (.iadd, 1) := by decide +kernel
theorem dL_law_824 : decode cL_law 824 = .ok (.iaload, 1) := by decide +kernel
theorem dL_law_825 : decode cL_law 825 = .ok (.aload_n 0, 1) := by decide +kernel
theorem dL_law_826 : decode cL_law 826 = .ok (.iload_n 3, 1) := by decide +kernel
theorem dL_law_827 : decode cL_law 827 = .ok (.iconst 2, 1) := by decide +kernel
theorem dL_law_828 : decode cL_law 828 = .ok (.iadd, 1) := by decide +kernel
theorem dL_law_829 : decode cL_law 829 = .ok (.iaload, 1) := by decide +kernel
theorem dL_law_830 : decode cL_law 830 = .ok (.invokevirtual 111, 3) := by decide +kernel
theorem dL_law_833 : decode cL_law 833 = .ok (.aload_n 2, 1) := by decide +kernel
theorem dL_law_834 : decode cL_law 834 = .ok (.aload_n 0, 1) := by decide +kernel
theorem dL_law_835 : decode cL_law 835 = .ok (.iload_n 3, 1) := by decide +kernel
theorem dL_law_836 : decode cL_law 836 = .ok (.iconst 1, 1) := by decide +kernel
theorem dL_law_837 : decode cL_law 837 = .ok (.iadd, 1) := by decide +kernel
theorem dL_law_838 : decode cL_law 838 = .ok (.iaload, 1) := by decide +kernel
theorem dL_law_839 : decode cL_law 839 = .ok (.aload_n 0, 1) := by decide +kernel
theorem dL_law_840 : decode cL_law 840 = .ok (.iload_n 3, 1) := by decide +kernel
theorem dL_law_841 : decode cL_law 841 = .ok (.iconst 2, 1) := by decide +kernel
theorem dL_law_842 : decode cL_law 842 = .ok (.iadd, 1) := by decide +kernel
theorem dL_law_843 : decode cL_law 843 = .ok (.iaload, 1) := by decide +kernel
theorem dL_law_844 : decode cL_law 844 = .ok (.invokevirtual 114, 3) := by decide +kernel
theorem dL_law_847 : decode cL_law 847 = .ok (.if_icmp .eq 44, 3) := by decide +kernel
theorem dL_law_850 : decode cL_law 850 = .ok (.iconst 0, 1) := by decide +kernel
theorem dL_law_851 : decode cL_law 851 = .ok (.ireturn, 1) := by decide +kernel
theorem dL_law_852 : decode cL_law 852 = .ok (.aload_n 1, 1) := by decide +kernel
theorem dL_law_853 : decode cL_law 853 = .ok (.invokevirtual 115, 3) := by decide +kernel
theorem dL_law_856 : decode cL_law 856 = .ok (.aload_n 2, 1) := by decide +kernel
theorem dL_law_857 : decode cL_law 857 = .ok (.invokevirtual 118, 3) := by decide +kernel
theorem dL_law_860 : decode cL_law 860 = .ok (.if_icmp .eq 31, 3) := by decide +kernel
theorem dL_law_863 : decode cL_law 863 = .ok (.iconst 0, 1) := by decide +kernel
theorem dL_law_864 : decode cL_law 864 = .ok (.ireturn, 1) := by decide +kernel
theorem dL_law_865 : decode cL_law 865 = .ok (.aload_n 1, 1) := by decide +kernel
theorem dL_law_866 : decode cL_law 866 = .ok (.invokevirtual 119, 3) := by decide +kernel
theorem dL_law_869 : decode cL_law 869 = .ok (.aload_n 2, 1) := by decide +kernel
theorem dL_law_870 : decode cL_law 870 = .ok (.invokevirtual 122, 3) := by decide +kernel
theorem dL_law_873 : decode cL_law 873 = .ok (.if_icmp .eq 18, 3) := by decide +kernel
theorem dL_law_876 : decode cL_law 876 = .ok (.iconst 0, 1) := by decide +kernel
theorem dL_law_877 : decode cL_law 877 = .ok (.ireturn, 1) := by decide +kernel
theorem dL_law_878 : decode cL_law 878 = .ok (.aload_n 1, 1) := by decide +kernel
theorem dL_law_879 : decode cL_law 879 = .ok (.invokevirtual 123, 3) := by decide +kernel
theorem dL_law_882 : decode cL_law 882 = .ok (.aload_n 2, 1) := by decide +kernel
theorem dL_law_883 : decode cL_law 883 = .ok (.invokevirtual 126, 3) := by decide +kernel
theorem dL_law_886 : decode cL_law 886 = .ok (.if_icmp .eq 5, 3) := by decide +kernel
theorem dL_law_889 : decode cL_law 889 = .ok (.iconst 0, 1) := by decide +kernel
theorem dL_law_890 : decode cL_law 890 = .ok (.ireturn, 1) := by decide +kernel
theorem dL_law_891 : decode cL_law 891 = .ok (.iinc 3 4, 3) := by decide +kernel
theorem dL_law_894 : decode cL_law 894 = .ok (.goto (-876), 3) := by decide +kernel
theorem dL_law_897 : decode cL_law 897 = .ok (.iconst 1, 1) := by decide +kernel
theorem dL_law_898 : decode cL_law 898 = .ok (.ireturn, 1) := by decide +kernel
