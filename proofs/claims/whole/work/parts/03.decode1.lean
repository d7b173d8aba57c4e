theorem dX0_init_0 : decode cX0_init 0 = .ok (.aload_n 0, 1) := by decide +kernel
theorem dX0_init_1 : decode cX0_init 1 = .ok (.invokespecial 3, 3) := by decide +kernel
theorem dX0_init_4 : decode cX0_init 4 = .ok (.aload_n 0, 1) := by decide +kernel
theorem dX0_init_5 : decode cX0_init 5 = .ok (.sipush 192, 3) := by decide +kernel
theorem dX0_init_8 : decode cX0_init 8 = .ok (.newarray .int, 2) := by decide +kernel
theorem dX0_init_10 : decode cX0_init 10 = .ok (.putfield 11, 3) := by decide +kernel
theorem dX0_init_13 : decode cX0_init 13 = .ok (.aload_n 0, 1) := by decide +kernel
theorem dX0_init_14 : decode cX0_init 14 = .ok (.iconst 0, 1) := by decide +kernel
theorem dX0_init_15 : decode cX0_init 15 = .ok (.putfield 15, 3) := by decide +kernel
theorem dX0_init_18 : decode cX0_init 18 = .ok (.aload_n 0, 1) := by decide +kernel
theorem dX0_init_19 : decode cX0_init 19 = .ok (.iconst 0, 1) := by decide +kernel
theorem dX0_init_20 : decode cX0_init 20 = .ok (.putfield 19, 3) := by decide +kernel
theorem dX0_init_23 : decode cX0_init 23 = .ok (.return_, 1) := by decide +kernel
theorem dX0_keep_0 : decode cX0_keep 0 = .ok (.aload_n 0, 1) := by decide +kernel
theorem dX0_keep_1 : decode cX0_keep 1 = .ok (.getfield 15, 3) := by decide +kernel
theorem dX0_keep_4 : decode cX0_keep 4 = .ok (.bipush 8, 2) := by decide +kernel
theorem dX0_keep_6 : decode cX0_keep 6 = .ok (.imul, 1) := by decide +kernel
theorem dX0_keep_7 : decode cX0_keep 7 = .ok (.istore_n 2, 1) := by decide +kernel
theorem dX0_keep_8 : decode cX0_keep 8 = .ok (.aload_n 0, 1) := by decide +kernel
theorem dX0_keep_9 : decode cX0_keep 9 = .ok (.getfield 11, 3) := by decide +kernel
theorem dX0_keep_12 : decode cX0_keep 12 = .ok (.iload_n 2, 1) := by decide +kernel
theorem dX0_keep_13 : decode cX0_keep 13 = .ok (.aload_n 1, 1) := by decide +kernel
theorem dX0_keep_14 : decode cX0_keep 14 = .ok (.getfield 22, 3) := by decide +kernel
theorem dX0_keep_17 : decode cX0_keep 17 = .ok (.iastore, 1) := by decide +kernel
theorem dX0_keep_18 : decode cX0_keep 18 = .ok (.aload_n 0, 1) := by decide +kernel
theorem dX0_keep_19 : decode cX0_keep 19 = .ok (.getfield 11, 3) := by decide +kernel
theorem dX0_keep_22 : decode cX0_keep 22 = .ok (.iload_n 2, 1) := by decide +kernel
theorem dX0_keep_23 : decode cX0_keep 23 = .ok (.iconst 1, 1) := by decide +kernel
theorem dX0_keep_24 : decode cX0_keep 24 = .ok (.iadd, 1) := by decide +kernel
theorem dX0_keep_25 : decode cX0_keep 25 = .ok (.aload_n 1, 1) := by decide +kernel
theorem dX0_keep_26 : decode cX0_keep 26 = .ok (.getfield 27, 3) := by decide +kernel
theorem dX0_keep_29 : decode cX0_keep 29 = .ok (.iastore, 1) := by decide +kernel
theorem dX0_keep_30 : decode cX0_keep 30 = .ok (.aload_n 0, 1) := by decide +kernel
theorem dX0_keep_31 : decode cX0_keep 31 = .ok (.getfield 11, 3) := by decide +kernel
theorem dX0_keep_34 : decode cX0_keep 34 = .ok (.iload_n 2, 1) := by decide +kernel
theorem dX0_keep_35 : decode cX0_keep 35 = .ok (.iconst 2, 1) := by decide +kernel
theorem dX0_keep_36 : decode cX0_keep 36 = .ok (.iadd, 1) := by decide +kernel
theorem dX0_keep_37 : decode cX0_keep 37 = .ok (.aload_n 1, 1) := by decide +kernel
theorem dX0_keep_38 : decode cX0_keep 38 = .ok (.getfield 30, 3) := by decide +kernel
theorem dX0_keep_41 : decode cX0_keep 41 = .ok (.iastore, 1) := by decide +kernel
theorem dX0_keep_42 : decode cX0_keep 42 = .ok (.iconst 0, 1) := by decide +kernel
theorem dX0_keep_43 : decode cX0_keep 43 = .ok (.istore_n 3, 1) := by decide +kernel
theorem dX0_keep_44 : decode cX0_keep 44 = .ok (.iload_n 3, 1) := by decide +kernel
theorem dX0_keep_45 : decode cX0_keep 45 = .ok (.iconst 5, 1) := by decide +kernel
theorem dX0_keep_46 : decode cX0_keep 46 = .ok (.if_icmp .ge 28, 3) := by decide +kernel
theorem dX0_keep_49 : decode cX0_keep 49 = .ok (.aload_n 0, 1) := by decide +kernel
theorem dX0_keep_50 : decode cX0_keep 50 = .ok (.getfield 11, 3) := by decide +kernel
theorem dX0_keep_53 : decode cX0_keep 53 = .ok (.iload_n 2, 1) := by decide +kernel
theorem dX0_keep_54 : decode cX0_keep 54 = .ok (.iconst 3, 1) := by decide +kernel
theorem dX0_keep_55 : decode cX0_keep 55 = .ok (.iadd, 1) := by decide +kernel
theorem dX0_keep_56 : decode cX0_keep 56 = .ok (.iload_n 3, 1) := by decide +kernel
theorem dX0_keep_57 : decode cX0_keep 57 = .ok (.iadd, 1) := by decide +kernel
theorem dX0_keep_58 : decode cX0_keep 58 = .ok (.aload_n 1, 1) := by decide +kernel
theorem dX0_keep_59 : decode cX0_keep 59 = .ok (.getfield 33, 3) := by decide +kernel
theorem dX0_keep_62 : decode cX0_keep 62 = .ok (.iload_n 3, 1) := by decide +kernel
theorem dX0_keep_63 : decode cX0_keep 63 = .ok (.aaload, 1) := by decide +kernel
theorem dX0_keep_64 : decode cX0_keep 64 = .ok (.invokevirtual 37, 3) := by decide +kernel
theorem dX0_keep_67 : decode cX0_keep 67 = .ok (.iastore, 1) := by decide +kernel
theorem dX0_keep_68 : decode cX0_keep 68 = .ok (.iinc 3 1, 3) := by decide +kernel
theorem dX0_keep_71 : decode cX0_keep 71 = .ok (.goto (-27), 3) := by decide +kernel
theorem dX0_keep_74 : decode cX0_keep 74 = .ok (.aload_n 0, 1) := by decide +kernel
theorem dX0_keep_75 : decode cX0_keep 75 = .ok (.aload_n 0, 1) := by decide +kernel
theorem dX0_keep_76 : decode cX0_keep 76 = .ok (.getfield 15, 3) := by decide +kernel
theorem dX0_keep_79 : decode cX0_keep 79 = .ok (.iconst 1, 1) := by decide +kernel
theorem dX0_keep_80 : decode cX0_keep 80 = .ok (.iadd, 1) := by decide +kernel
theorem dX0_keep_81 : decode cX0_keep 81 = .ok (.bipush 24, 2) := by decide +kernel
theorem dX0_keep_83 : decode cX0_keep 83 = .ok (.irem, 1) := by decide +kernel
theorem dX0_keep_84 : decode cX0_keep 84 = .ok (.putfield 15, 3) := by decide +kernel
theorem dX0_keep_87 : decode cX0_keep 87 = .ok (.aload_n 0, 1) := by decide +kernel
theorem dX0_keep_88 : decode cX0_keep 88 = .ok (.bipush 24, 2) := by decide +kernel
theorem dX0_keep_90 : decode cX0_keep 90 = .ok (.aload_n 0, 1) := by decide +kernel
theorem dX0_keep_91 : decode cX0_keep 91 = .ok (.getfield 19, 3) := by decide +kernel
theorem dX0_keep_94 : decode cX0_keep 94 = .ok (.iconst 1, 1) := by decide +kernel
theorem dX0_keep_95 : decode cX0_keep 95 = .ok (.iadd, 1) := by decide +kernel
theorem dX0_keep_96 : decode cX0_keep 96 = .ok (.invokestatic 43, 3) := by decide +kernel
theorem dX0_keep_99 : decode cX0_keep 99 = .ok (.putfield 19, 3) := by decide +kernel
theorem dX0_keep_102 : decode cX0_keep 102 = .ok (.return_, 1) := by decide +kernel
theorem dX0_takeBack_0 : decode cX0_takeBack 0 = .ok (.aload_n 0, 1) := by decide +kernel
theorem dX0_takeBack_1 : decode cX0_takeBack 1 = .ok (.aload_n 0, 1) := by decide +kernel
theorem dX0_takeBack_2 : decode cX0_takeBack 2 = .ok (.getfield 15, 3) := by decide +kernel
theorem dX0_takeBack_5 : decode cX0_takeBack 5 = .ok (.bipush 24, 2) := by decide +kernel
theorem dX0_takeBack_7 : decode cX0_takeBack 7 = .ok (.iadd, 1) := by decide +kernel
theorem dX0_takeBack_8 : decode cX0_takeBack 8 = .ok (.iconst 1, 1) := by decide +kernel
theorem dX0_takeBack_9 : decode cX0_takeBack 9 = .ok (.isub, 1) := by decide +kernel
theorem dX0_takeBack_10 : decode cX0_takeBack 10 = .ok (.bipush 24, 2) := by decide +kernel
theorem dX0_takeBack_12 : decode cX0_takeBack 12 = .ok (.irem, 1) := by decide +kernel
theorem dX0_takeBack_13 : decode cX0_takeBack 13 = .ok (.putfield 15, 3) := by decide +kernel
theorem dX0_takeBack_16 : decode cX0_takeBack 16 = .ok (.aload_n 0, 1) := by decide +kernel
theorem dX0_takeBack_17 : decode cX0_takeBack 17 = .ok (.dup, 1) := by decide +kernel
theorem dX0_takeBack_18 : decode cX0_takeBack 18 = .ok (.getfield 19, 3) := by decide +kernel
theorem dX0_takeBack_21 : decode cX0_takeBack 21 = .ok (.iconst 1, 1) := by decide +kernel
theorem dX0_takeBack_22 : decode cX0_takeBack 22 = .ok (.isub, 1) := by decide +kernel
theorem dX0_takeBack_23 : decode cX0_takeBack 23 = .ok (.putfield 19, 3) := by decide +kernel
theorem dX0_takeBack_26 : decode cX0_takeBack 26 = .ok (.aload_n 0, 1) := by decide +kernel
theorem dX0_takeBack_27 : decode cX0_takeBack 27 = .ok (.getfield 15, 3) := by decide +kernel
theorem dX0_takeBack_30 : decode cX0_takeBack 30 = .ok (.bipush 8, 2) := by decide +kernel
theorem dX0_takeBack_32 : decode cX0_takeBack 32 = .ok (.imul, 1) := by decide +kernel
theorem dX0_takeBack_33 : decode cX0_takeBack 33 = .ok (.istore_n 2, 1) := by decide +kernel
theorem dX0_takeBack_34 : decode cX0_takeBack 34 = .ok (.aload_n 1, 1) := by decide +kernel
theorem dX0_takeBack_35 : decode cX0_takeBack 35 = .ok (.aload_n 0, 1) := by decide +kernel
theorem dX0_takeBack_36 : decode cX0_takeBack 36 = .ok (.getfield 11, 3) := by decide +kernel
theorem dX0_takeBack_39 : decode cX0_takeBack 39 = .ok (.iload_n 2, 1) := by decide +kernel
theorem dX0_takeBack_40 : decode cX0_takeBack 40 = .ok (.iaload, 1) := by decide +kernel
theorem dX0_takeBack_41 : decode cX0_takeBack 41 = .ok (.putfield 22, 3) := by decide +kernel
theorem dX0_takeBack_44 : decode cX0_takeBack 44 = .ok (.aload_n 1, 1) := by decide +kernel
theorem dX0_takeBack_45 : decode cX0_takeBack 45 = .ok (.aload_n 0, 1) := by decide +kernel
theorem dX0_takeBack_46 : decode cX0_takeBack 46 = .ok (.getfield 11, 3) := by decide +kernel
theorem dX0_takeBack_49 : decode cX0_takeBack 49 = .ok (.iload_n 2, 1) := by decide +kernel
theorem dX0_takeBack_50 : decode cX0_takeBack 50 = .ok (.iconst 1, 1) := by decide +kernel
theorem dX0_takeBack_51 : decode cX0_takeBack 51 = .ok (.iadd, 1) := by decide +kernel
theorem dX0_takeBack_52 : decode cX0_takeBack 52 = .ok (.iaload, 1) := by decide +kernel
theorem dX0_takeBack_53 : decode cX0_takeBack 53 = .ok (.putfield 27, 3) := by decide +kernel
theorem dX0_takeBack_56 : decode cX0_takeBack 56 = .ok (.aload_n 1, 1) := by decide +kernel
theorem dX0_takeBack_57 : decode cX0_takeBack 57 = .ok (.aload_n 0, 1) := by decide +kernel
theorem dX0_takeBack_58 : decode cX0_takeBack 58 = .ok (.getfield 11, 3) := by decide +kernel
theorem dX0_takeBack_61 : decode cX0_takeBack 61 = .ok (.iload_n 2, 1) := by decide +kernel
theorem dX0_takeBack_62 : decode cX0_takeBack 62 = .ok (.iconst 2, 1) := by decide +kernel
theorem dX0_takeBack_63 : decode cX0_takeBack 63 = .ok (.iadd, 1) := by decide +kernel
theorem dX0_takeBack_64 : decode cX0_takeBack 64 = .ok (.iaload, 1) := by decide +kernel
theorem dX0_takeBack_65 : decode cX0_takeBack 65 = .ok (.putfield 30, 3) := by decide +kernel
theorem dX0_takeBack_68 : decode cX0_takeBack 68 = .ok (.iconst 0, 1) := by decide +kernel
theorem dX0_takeBack_69 : decode cX0_takeBack 69 = .ok (.istore_n 3, 1) := by decide +kernel
theorem dX0_takeBack_70 : decode cX0_takeBack 70 = .ok (.iload_n 3, 1) := by decide +kernel
theorem dX0_takeBack_71 : decode cX0_takeBack 71 = .ok (.iconst 5, 1) := by decide +kernel
theorem dX0_takeBack_72 : decode cX0_takeBack 72 = .ok (.if_icmp .ge 28, 3) := by decide +kernel
theorem dX0_takeBack_75 : decode cX0_takeBack 75 = .ok (.aload_n 1, 1) := by decide +kernel
theorem dX0_takeBack_76 : decode cX0_takeBack 76 = .ok (.getfield 33, 3) := by decide +kernel
theorem dX0_takeBack_79 : decode cX0_takeBack 79 = .ok (.iload_n 3, 1) := by decide +kernel
theorem dX0_takeBack_80 : decode cX0_takeBack 80 = .ok (.aaload, 1) := by decide +kernel
theorem dX0_takeBack_81 : decode cX0_takeBack 81 = .ok (.aload_n 0, 1) := by decide +kernel
theorem dX0_takeBack_82 : decode cX0_takeBack 82 = .ok (.getfield 11, 3) := by decide +kernel
theorem dX0_takeBack_85 : decode cX0_takeBack 85 = .ok (.iload_n 2, 1) := by decide +kernel
theorem dX0_takeBack_86 : decode cX0_takeBack 86 = .ok (.iconst 3, 1) := by decide +kernel
theorem dX0_takeBack_87 : decode cX0_takeBack 87 = .ok (.iadd, 1) := by decide +kernel
theorem dX0_takeBack_88 : decode cX0_takeBack 88 = .ok (.iload_n 3, 1) := by decide +kernel
theorem dX0_takeBack_89 : decode cX0_takeBack 89 = .ok (.iadd, 1) := by decide +kernel
theorem dX0_takeBack_90 : decode cX0_takeBack 90 = .ok (.iaload, 1) := by decide +kernel
theorem dX0_takeBack_91 : decode cX0_takeBack 91 = .ok (.invokevirtual 49, 3) := by decide +kernel
theorem dX0_takeBack_94 : decode cX0_takeBack 94 = .ok (.iinc 3 1, 3) := by decide +kernel
theorem dX0_takeBack_97 : decode cX0_takeBack 97 = .ok (.goto (-27), 3) := by decide +kernel
theorem dX0_takeBack_100 : decode cX0_takeBack 100 = .ok (.return_, 1) := by decide +kernel
theorem dX0_forget_0 : decode cX0_forget 0 = .ok (.aload_n 0, 1) := by decide +kernel
theorem dX0_forget_1 : decode cX0_forget 1 = .ok (.iconst 0, 1) := by decide +kernel
theorem dX0_forget_2 : decode cX0_forget 2 = .ok (.putfield 19, 3) := by decide +kernel
theorem dX0_forget_5 : decode cX0_forget 5 = .ok (.return_, 1) := by decide +kernel
theorem dX1_init_0 : decode cX1_init 0 = .ok (.aload_n 0, 1) := by decide +kernel
theorem dX1_init_1 : decode cX1_init 1 = .ok (.invokespecial 3, 3) := by decide +kernel
theorem dX1_init_4 : decode cX1_init 4 = .ok (.aload_n 0, 1) := by decide +kernel
theorem dX1_init_5 : decode cX1_init 5 = .ok (.iconst 0, 1) := by decide +kernel
theorem dX1_init_6 : decode cX1_init 6 = .ok (.putfield 9, 3) := by decide +kernel
theorem dX1_init_9 : decode cX1_init 9 = .ok (.aload_n 0, 1) := by decide +kernel
theorem dX1_init_10 : decode cX1_init 10 = .ok (.iconst 0, 1) := by decide +kernel
theorem dX1_init_11 : decode cX1_init 11 = .ok (.putfield 15, 3) := by decide +kernel
theorem dX1_init_14 : decode cX1_init 14 = .ok (.aload_n 0, 1) := by decide +kernel
theorem dX1_init_15 : decode cX1_init 15 = .ok (.iconst 0, 1) := by decide +kernel
theorem dX1_init_16 : decode cX1_init 16 = .ok (.putfield 18, 3) := by decide +kernel
theorem dX1_init_19 : decode cX1_init 19 = .ok (.aload_n 0, 1) := by decide +kernel
theorem dX1_init_20 : decode cX1_init 20 = .ok (.iconst 0, 1) := by decide +kernel
theorem dX1_init_21 : decode cX1_init 21 = .ok (.putfield 21, 3) := by decide +kernel
theorem dX1_init_24 : decode cX1_init 24 = .ok (.aload_n 0, 1) := by decide +kernel
theorem dX1_init_25 : decode cX1_init 25 = .ok (.iconst 0, 1) := by decide +kernel
theorem dX1_init_26 : decode cX1_init 26 = .ok (.putfield 24, 3) := by decide +kernel
theorem dX1_init_29 : decode cX1_init 29 = .ok (.aload_n 0, 1) := by decide +kernel
theorem dX1_init_30 : decode cX1_init 30 = .ok (.iconst 0, 1) := by decide +kernel
theorem dX1_init_31 : decode cX1_init 31 = .ok (.putfield 28, 3) := by decide +kernel
theorem dX1_init_34 : decode cX1_init 34 = .ok (.aload_n 0, 1) := by decide +kernel
theorem dX1_init_35 : decode cX1_init 35 = .ok (.iconst 0, 1) := by decide +kernel
theorem dX1_init_36 : decode cX1_init 36 = .ok (.putfield 31, 3) := by decide +kernel
theorem dX1_init_39 : decode cX1_init 39 = .ok (.return_, 1) := by decide +kernel
theorem dX1_begin_0 : decode cX1_begin 0 = .ok (.aload_n 0, 1) := by decide +kernel
theorem dX1_begin_1 : decode cX1_begin 1 = .ok (.iload_n 1, 1) := by decide +kernel
theorem dX1_begin_2 : decode cX1_begin 2 = .ok (.putfield 9, 3) := by decide +kernel
theorem dX1_begin_5 : decode cX1_begin 5 = .ok (.aload_n 0, 1) := by decide +kernel
theorem dX1_begin_6 : decode cX1_begin 6 = .ok (.iload_n 2, 1) := by decide +kernel
theorem dX1_begin_7 : decode cX1_begin 7 = .ok (.putfield 15, 3) := by decide +kernel
theorem dX1_begin_10 : decode cX1_begin 10 = .ok (.aload_n 0, 1) := by decide +kernel
theorem dX1_begin_11 : decode cX1_begin 11 = .ok (.iconst 0, 1) := by decide +kernel
theorem dX1_begin_12 : decode cX1_begin 12 = .ok (.putfield 18, 3) := by decide +kernel
theorem dX1_begin_15 : decode cX1_begin 15 = .ok (.aload_n 0, 1) := by decide +kernel
theorem dX1_begin_16 : decode cX1_begin 16 = .ok (.iload_n 3, 1) := by decide +kernel
theorem dX1_begin_17 : decode cX1_begin 17 = .ok (.putfield 21, 3) := by decide +kernel
theorem dX1_begin_20 : decode cX1_begin 20 = .ok (.aload_n 0, 1) := by decide +kernel
theorem dX1_begin_21 : decode cX1_begin 21 = .ok (.iconst 0, 1) := by decide +kernel
theorem dX1_begin_22 : decode cX1_begin 22 = .ok (.putfield 24, 3) := by decide +kernel
theorem dX1_begin_25 : decode cX1_begin 25 = .ok (.aload_n 0, 1) := by decide +kernel
theorem dX1_begin_26 : decode cX1_begin 26 = .ok (.iconst 1, 1) := by decide +kernel
theorem dX1_begin_27 : decode cX1_begin 27 = .ok (.putfield 28, 3) := by decide +kernel
theorem dX1_begin_30 : decode cX1_begin 30 = .ok (.aload_n 0, 1) := by decide +kernel
theorem dX1_begin_31 : decode cX1_begin 31 = .ok (.iconst 0, 1) := by decide +kernel
theorem dX1_begin_32 : decode cX1_begin 32 = .ok (.putfield 31, 3) := by decide +kernel
theorem dX1_begin_35 : decode cX1_begin 35 = .ok (.return_, 1) := by decide +kernel
theorem dX1_become_0 : decode cX1_become 0 = .ok (.aload_n 0, 1) := by decide +kernel
theorem dX1_become_1 : decode cX1_become 1 = .ok (.aload_n 1, 1) := by decide +kernel
theorem dX1_become_2 : decode cX1_become 2 = .ok (.getfield 9, 3) := by decide +kernel
theorem dX1_become_5 : decode cX1_become 5 = .ok (.putfield 9, 3) := by decide +kernel
theorem dX1_become_8 : decode cX1_become 8 = .ok (.aload_n 0, 1) := by decide +kernel
theorem dX1_become_9 : decode cX1_become 9 = .ok (.aload_n 1, 1) := by decide +kernel
theorem dX1_become_10 : decode cX1_become 10 = .ok (.getfield 15, 3) := by decide +kernel
theorem dX1_become_13 : decode cX1_become 13 = .ok (.putfield 15, 3) := by decide +kernel
theorem dX1_become_16 : decode cX1_become 16 = .ok (.aload_n 0, 1) := by decide +kernel
theorem dX1_become_17 : decode cX1_become 17 = .ok (.aload_n 1, 1) := by decide +kernel
theorem dX1_become_18 : decode cX1_become 18 = .ok (.getfield 18, 3) := by decide +kernel
theorem dX1_become_21 : decode cX1_become 21 = .ok (.putfield 18, 3) := by decide +kernel
theorem dX1_become_24 : decode cX1_become 24 = .ok (.aload_n 0, 1) := by decide +kernel
theorem dX1_become_25 : decode cX1_become 25 = .ok (.aload_n 1, 1) := by decide +kernel
theorem dX1_become_26 : decode cX1_become 26 = .ok (.getfield 21, 3) := by decide +kernel
theorem dX1_become_29 : decode cX1_become 29 = .ok (.putfield 21, 3) := by decide +kernel
theorem dX1_become_32 : decode cX1_become 32 = .ok (.aload_n 0, 1) := by decide +kernel
theorem dX1_become_33 : decode cX1_become 33 = .ok (.aload_n 1, 1) := by decide +kernel
theorem dX1_become_34 : decode cX1_become 34 = .ok (.getfield 24, 3) := by decide +kernel
theorem dX1_become_37 : decode cX1_become 37 = .ok (.putfield 24, 3) := by decide +kernel
theorem dX1_become_40 : decode cX1_become 40 = .ok (.aload_n 0, 1) := by decide +kernel
theorem dX1_become_41 : decode cX1_become 41 = .ok (.aload_n 1, 1) := by decide +kernel
theorem dX1_become_42 : decode cX1_become 42 = .ok (.getfield 28, 3) := by decide +kernel
theorem dX1_become_45 : decode cX1_become 45 = .ok (.putfield 28, 3) := by decide +kernel
theorem dX1_become_48 : decode cX1_become 48 = .ok (.aload_n 0, 1) := by decide +kernel
theorem dX1_become_49 : decode cX1_become 49 = .ok (.aload_n 1, 1) := by decide +kernel
theorem dX1_become_50 : decode cX1_become 50 = .ok (.getfield 31, 3) := by decide +kernel
theorem dX1_become_53 : decode cX1_become 53 = .ok (.putfield 31, 3) := by decide +kernel
theorem dX1_become_56 : decode cX1_become 56 = .ok (.return_, 1) := by decide +kernel
theorem dX1_packed_0 : decode cX1_packed 0 = .ok (.aload_n 0, 1) := by decide +kernel
theorem dX1_packed_1 : decode cX1_packed 1 = .ok (.getfield 15, 3) := by decide +kernel
theorem dX1_packed_4 : decode cX1_packed 4 = .ok (.aload_n 0, 1) := by decide +kernel
theorem dX1_packed_5 : decode cX1_packed 5 = .ok (.getfield 18, 3) := by decide +kernel
theorem dX1_packed_8 : decode cX1_packed 8 = .ok (.iconst 5, 1) := by decide +kernel
theorem dX1_packed_9 : decode cX1_packed 9 = .ok (.ishl, 1) := by decide +kernel
theorem dX1_packed_10 : decode cX1_packed 10 = .ok (.ior, 1) := by decide +kernel
theorem dX1_packed_11 : decode cX1_packed 11 = .ok (.aload_n 0, 1) := by decide +kernel
theorem dX1_packed_12 : decode cX1_packed 12 = .ok (.getfield 24, 3) := by decide +kernel
theorem dX1_packed_15 : decode cX1_packed 15 = .ok (.invokestatic 34, 3) := by decide +kernel
theorem dX1_packed_18 : decode cX1_packed 18 = .ok (.bipush 6, 2) := by decide +kernel
theorem dX1_packed_20 : decode cX1_packed 20 = .ok (.ishl, 1) := by decide +kernel
theorem dX1_packed_21 : decode cX1_packed 21 = .ok (.ior, 1) := by decide +kernel
theorem dX1_packed_22 : decode cX1_packed 22 = .ok (.aload_n 0, 1) := by decide +kernel
theorem dX1_packed_23 : decode cX1_packed 23 = .ok (.getfield 28, 3) := by decide +kernel
theorem dX1_packed_26 : decode cX1_packed 26 = .ok (.invokestatic 34, 3) := by decide +kernel
theorem dX1_packed_29 : decode cX1_packed 29 = .ok (.bipush 7, 2) := by decide +kernel
theorem dX1_packed_31 : decode cX1_packed 31 = .ok (.ishl, 1) := by decide +kernel
theorem dX1_packed_32 : decode cX1_packed 32 = .ok (.ior, 1) := by decide +kernel
theorem dX1_packed_33 : decode cX1_packed 33 = .ok (.aload_n 0, 1) := by decide +kernel
theorem dX1_packed_34 : decode cX1_packed 34 = .ok (.getfield 21, 3) := by decide +kernel
theorem dX1_packed_37 : decode cX1_packed 37 = .ok (.bipush 8, 2) := by decide +kernel
theorem dX1_packed_39 : decode cX1_packed 39 = .ok (.ishl, 1) := by decide +kernel
theorem dX1_packed_40 : decode cX1_packed 40 = .ok (.ior, 1) := by decide +kernel
theorem dX1_packed_41 : decode cX1_packed 41 = .ok (.ireturn, 1) := by decide +kernel
theorem dX1_unpack_0 : decode cX1_unpack 0 = .ok (.aload_n 0, 1) := by decide +kernel
theorem dX1_unpack_1 : decode cX1_unpack 1 = .ok (.iload_n 1, 1) := by decide +kernel
theorem dX1_unpack_2 : decode cX1_unpack 2 = .ok (.bipush 31, 2) := by decide +kernel
theorem dX1_unpack_4 : decode cX1_unpack 4 = .ok (.iand, 1) := by decide +kernel
theorem dX1_unpack_5 : decode cX1_unpack 5 = .ok (.putfield 15, 3) := by decide +kernel
theorem dX1_unpack_8 : decode cX1_unpack 8 = .ok (.aload_n 0, 1) := by decide +kernel
theorem dX1_unpack_9 : decode cX1_unpack 9 = .ok (.iload_n 1, 1) := by decide +kernel
theorem dX1_unpack_10 : decode cX1_unpack 10 = .ok (.iconst 5, 1) := by decide +kernel
theorem dX1_unpack_11 : decode cX1_unpack 11 = .ok (.iushr, 1) := by decide +kernel
theorem dX1_unpack_12 : decode cX1_unpack 12 = .ok (.iconst 1, 1) := by decide +kernel
theorem dX1_unpack_13 : decode cX1_unpack 13 = .ok (.iand, 1) := by decide +kernel
theorem dX1_unpack_14 : decode cX1_unpack 14 = .ok (.putfield 18, 3) := by decide +kernel
theorem dX1_unpack_17 : decode cX1_unpack 17 = .ok (.aload_n 0, 1) := by decide +kernel
theorem dX1_unpack_18 : decode cX1_unpack 18 = .ok (.iload_n 1, 1) := by decide +kernel
theorem dX1_unpack_19 : decode cX1_unpack 19 = .ok (.bipush 6, 2) := by decide +kernel
theorem dX1_unpack_21 : decode cX1_unpack 21 = .ok (.iushr, 1) := by decide +kernel
theorem dX1_unpack_22 : decode cX1_unpack 22 = .ok (.iconst 1, 1) := by decide +kernel
theorem dX1_unpack_23 : decode cX1_unpack 23 = .ok (.iand, 1) := by decide +kernel
theorem dX1_unpack_24 : decode cX1_unpack 24 = .ok (.ifCond .eq 7, 3) := by decide +kernel
theorem dX1_unpack_27 : decode cX1_unpack 27 = .ok (.iconst 1, 1) := by decide +kernel
theorem dX1_unpack_28 : decode cX1_unpack 28 = .ok (.goto 4, 3) := by decide +kernel
theorem dX1_unpack_31 : decode cX1_unpack 31 = .ok (.iconst 0, 1) := by decide +kernel
theorem dX1_unpack_32 : decode cX1_unpack 32 = .ok (.putfield 24, 3) := by decide +kernel
theorem dX1_unpack_35 : decode cX1_unpack 35 = .ok (.aload_n 0, 1) := by decide +kernel
theorem dX1_unpack_36 : decode cX1_unpack 36 = .ok (.iload_n 1, 1) := by decide +kernel
theorem dX1_unpack_37 : decode cX1_unpack 37 = .ok (.bipush 7, 2) := by decide +kernel
theorem dX1_unpack_39 : decode cX1_unpack 39 = .ok (.iushr, 1) := by decide +kernel
theorem dX1_unpack_40 : decode cX1_unpack 40 = .ok (.iconst 1, 1) := by decide +kernel
theorem dX1_unpack_41 : decode cX1_unpack 41 = .ok (.iand, 1) := by decide +kernel
theorem dX1_unpack_42 : decode cX1_unpack 42 = .ok (.ifCond .eq 7, 3) := by decide +kernel
theorem dX1_unpack_45 : decode cX1_unpack 45 = .ok (.iconst 1, 1) := by decide +kernel
theorem dX1_unpack_46 : decode cX1_unpack 46 = .ok (.goto 4, 3) := by decide +kernel
theorem dX1_unpack_49 : decode cX1_unpack 49 = .ok (.iconst 0, 1) := by decide +kernel
theorem dX1_unpack_50 : decode cX1_unpack 50 = .ok (.putfield 28, 3) := by decide +kernel
theorem dX1_unpack_53 : decode cX1_unpack 53 = .ok (.aload_n 0, 1) := by decide +kernel
theorem dX1_unpack_54 : decode cX1_unpack 54 = .ok (.iload_n 1, 1) := by decide +kernel
theorem dX1_unpack_55 : decode cX1_unpack 55 = .ok (.bipush 8, 2) := by decide +kernel
theorem dX1_unpack_57 : decode cX1_unpack 57 = .ok (.iushr, 1) := by decide +kernel
theorem dX1_unpack_58 : decode cX1_unpack 58 = .ok (.putfield 21, 3) := by decide +kernel
theorem dX1_unpack_61 : decode cX1_unpack 61 = .ok (.return_, 1) := by decide +kernel
theorem dX1_part_0 : decode cX1_part 0 = .ok (.iload_n 1, 1) := by decide +kernel
theorem dX1_part_1 : decode cX1_part 1 = .ok (.tableswitch 54 0 3 #[31, 36, 41, 46], 31) := by decide +kernel
theorem dX1_part_32 : decode cX1_part 32 = .ok (.aload_n 0, 1) := by decide +kernel
theorem dX1_part_33 : decode cX1_part 33 = .ok (.getfield 15, 3) := by decide +kernel
theorem dX1_part_36 : decode cX1_part 36 = .ok (.ireturn, 1) := by decide +kernel
theorem dX1_part_37 : decode cX1_part 37 = .ok (.aload_n 0, 1) := by decide +kernel
theorem dX1_part_38 : decode cX1_part 38 = .ok (.getfield 18, 3) := by decide +kernel
theorem dX1_part_41 : decode cX1_part 41 = .ok (.ireturn, 1) := by decide +kernel
theorem dX1_part_42 : decode cX1_part 42 = .ok (.aload_n 0, 1) := by decide +kernel
theorem dX1_part_43 : decode cX1_part 43 = .ok (.getfield 21, 3) := by decide +kernel
theorem dX1_part_46 : decode cX1_part 46 = .ok (.ireturn, 1) := by decide +kernel
theorem dX1_part_47 : decode cX1_part 47 = .ok (.aload_n 0, 1) := by decide +kernel
theorem dX1_part_48 : decode cX1_part 48 = .ok (.getfield 24, 3) := by decide +kernel
theorem dX1_part_51 : decode cX1_part 51 = .ok (.invokestatic 34, 3) := by decide +kernel
theorem dX1_part_54 : decode cX1_part 54 = .ok (.ireturn, 1) := by decide +kernel
theorem dX1_part_55 : decode cX1_part 55 = .ok (.aload_n 0, 1) := by decide +kernel
theorem dX1_part_56 : decode cX1_part 56 = .ok (.getfield 28, 3) := by decide +kernel
theorem dX1_part_59 : decode cX1_part 59 = .ok (.invokestatic 34, 3) := by decide +kernel
theorem dX1_part_62 : decode cX1_part 62 = .ok (.ireturn, 1) := by decide +kernel
theorem dX1_canRise_0 : decode cX1_canRise 0 = .ok (.aload_n 0, 1) := by decide +kernel
theorem dX1_canRise_1 : decode cX1_canRise 1 = .ok (.getfield 9, 3) := by decide +kernel
theorem dX1_canRise_4 : decode cX1_canRise 4 = .ok (.iconst 4, 1) := by decide +kernel
theorem dX1_canRise_5 : decode cX1_canRise 5 = .ok (.if_icmp .eq 15, 3) := by decide +kernel
theorem dX1_canRise_8 : decode cX1_canRise 8 = .ok (.aload_n 0, 1) := by decide +kernel
theorem dX1_canRise_9 : decode cX1_canRise 9 = .ok (.getfield 9, 3) := by decide +kernel
theorem dX1_canRise_12 : decode cX1_canRise 12 = .ok (.iconst 5, 1) := by decide +kernel
theorem dX1_canRise_13 : decode cX1_canRise 13 = .ok (.if_icmp .eq 7, 3) := by decide +kernel
theorem dX1_canRise_16 : decode cX1_canRise 16 = .ok (.iconst 1, 1) := by decide +kernel
theorem dX1_canRise_17 : decode cX1_canRise 17 = .ok (.goto 4, 3) := by decide +kernel
theorem dX1_canRise_20 : decode cX1_canRise 20 = .ok (.iconst 0, 1) := by decide +kernel
theorem dX1_canRise_21 : decode cX1_canRise 21 = .ok (.ireturn, 1) := by decide +kernel
theorem dX1_moveTo_0 : decode cX1_moveTo 0 = .ok (.iload_n 1, 1) := by decide +kernel
theorem dX1_moveTo_1 : decode cX1_moveTo 1 = .ok (.aload_n 0, 1) := by decide +kernel
theorem dX1_moveTo_2 : decode cX1_moveTo 2 = .ok (.getfield 18, 3) := by decide +kernel
theorem dX1_moveTo_5 : decode cX1_moveTo 5 = .ok (.if_icmp .le 17, 3) := by decide +kernel
theorem dX1_moveTo_8 : decode cX1_moveTo 8 = .ok (.aload_n 0, 1) := by decide +kernel
theorem dX1_moveTo_9 : decode cX1_moveTo 9 = .ok (.iconst 0, 1) := by decide +kernel
theorem dX1_moveTo_10 : decode cX1_moveTo 10 = .ok (.aload_n 0, 1) := by decide +kernel
theorem dX1_moveTo_11 : decode cX1_moveTo 11 = .ok (.getfield 21, 3) := by decide +kernel
theorem dX1_moveTo_14 : decode cX1_moveTo 14 = .ok (.iconst 2, 1) := by decide +kernel
theorem dX1_moveTo_15 : decode cX1_moveTo 15 = .ok (.isub, 1) := by decide +kernel
theorem dX1_moveTo_16 : decode cX1_moveTo 16 = .ok (.invokestatic 38, 3) := by decide +kernel
theorem dX1_moveTo_19 : decode cX1_moveTo 19 = .ok (.putfield 21, 3) := by decide +kernel
theorem dX1_moveTo_22 : decode cX1_moveTo 22 = .ok (.aload_n 0, 1) := by decide +kernel
theorem dX1_moveTo_23 : decode cX1_moveTo 23 = .ok (.iload_n 1, 1) := by decide +kernel
theorem dX1_moveTo_24 : decode cX1_moveTo 24 = .ok (.putfield 18, 3) := by decide +kernel
theorem dX1_moveTo_27 : decode cX1_moveTo 27 = .ok (.return_, 1) := by decide +kernel
theorem dX1_driftedFrom_0 : decode cX1_driftedFrom 0 = .ok (.aload_n 0, 1) := by decide +kernel
theorem dX1_driftedFrom_1 : decode cX1_driftedFrom 1 = .ok (.getfield 9, 3) := by decide +kernel
theorem dX1_driftedFrom_4 : decode cX1_driftedFrom 4 = .ok (.iconst 4, 1) := by decide +kernel
theorem dX1_driftedFrom_5 : decode cX1_driftedFrom 5 = .ok (.if_icmp .ne 5, 3) := by decide +kernel
theorem dX1_driftedFrom_8 : decode cX1_driftedFrom 8 = .ok (.iload_n 1, 1) := by decide +kernel
theorem dX1_driftedFrom_9 : decode cX1_driftedFrom 9 = .ok (.ireturn, 1) := by decide +kernel
theorem dX1_driftedFrom_10 : decode cX1_driftedFrom 10 = .ok (.iload_n 1, 1) := by decide +kernel
theorem dX1_driftedFrom_11 : decode cX1_driftedFrom 11 = .ok (.aload_n 0, 1) := by decide +kernel
theorem dX1_driftedFrom_12 : decode cX1_driftedFrom 12 = .ok (.getfield 9, 3) := by decide +kernel
theorem dX1_driftedFrom_15 : decode cX1_driftedFrom 15 = .ok (.iconst 5, 1) := by decide +kernel
theorem dX1_driftedFrom_16 : decode cX1_driftedFrom 16 = .ok (.if_icmp .ne 10, 3) := by decide +kernel
theorem dX1_driftedFrom_19 : decode cX1_driftedFrom 19 = .ok (.iload_n 2, 1) := by decide +kernel
theorem dX1_driftedFrom_20 : decode cX1_driftedFrom 20 = .ok (.invokestatic 44, 3) := by decide +kernel
theorem dX1_driftedFrom_23 : decode cX1_driftedFrom 23 = .ok (.goto 4, 3) := by decide +kernel
theorem dX1_driftedFrom_26 : decode cX1_driftedFrom 26 = .ok (.iload_n 2, 1) := by decide +kernel
theorem dX1_driftedFrom_27 : decode cX1_driftedFrom 27 = .ok (.invokestatic 48, 3) := by decide +kernel
theorem dX1_driftedFrom_30 : decode cX1_driftedFrom 30 = .ok (.ireturn, 1) := by decide +kernel
theorem dX1_opposite_0 : decode cX1_opposite 0 = .ok (.iload_n 0, 1) := by decide +kernel
theorem dX1_opposite_1 : decode cX1_opposite 1 = .ok (.tableswitch 39 1 4 #[31, 33, 35, 37], 31) := by decide +kernel
theorem dX1_opposite_32 : decode cX1_opposite 32 = .ok (.iconst 2, 1) := by decide +kernel
theorem dX1_opposite_33 : decode cX1_opposite 33 = .ok (.ireturn, 1) := by decide +kernel
theorem dX1_opposite_34 : decode cX1_opposite 34 = .ok (.iconst 1, 1) := by decide +kernel
theorem dX1_opposite_35 : decode cX1_opposite 35 = .ok (.ireturn, 1) := by decide +kernel
theorem dX1_opposite_36 : decode cX1_opposite 36 = .ok (.iconst 4, 1) := by decide +kernel
theorem dX1_opposite_37 : decode cX1_opposite 37 = .ok (.ireturn, 1) := by decide +kernel
theorem dX1_opposite_38 : decode cX1_opposite 38 = .ok (.iconst 3, 1) := by decide +kernel
theorem dX1_opposite_39 : decode cX1_opposite 39 = .ok (.ireturn, 1) := by decide +kernel
theorem dX1_opposite_40 : decode cX1_opposite 40 = .ok (.iload_n 0, 1) := by decide +kernel
theorem dX1_opposite_41 : decode cX1_opposite 41 = .ok (.ireturn, 1) := by decide +kernel
theorem dX1_beside_0 : decode cX1_beside 0 = .ok (.iload_n 0, 1) := by decide +kernel
theorem dX1_beside_1 : decode cX1_beside 1 = .ok (.bipush 8, 2) := by decide +kernel
theorem dX1_beside_3 : decode cX1_beside 3 = .ok (.irem, 1) := by decide +kernel
theorem dX1_beside_4 : decode cX1_beside 4 = .ok (.istore_n 2, 1) := by decide +kernel
theorem dX1_beside_5 : decode cX1_beside 5 = .ok (.iload_n 0, 1) := by decide +kernel
theorem dX1_beside_6 : decode cX1_beside 6 = .ok (.bipush 8, 2) := by decide +kernel
theorem dX1_beside_8 : decode cX1_beside 8 = .ok (.idiv, 1) := by decide +kernel
theorem dX1_beside_9 : decode cX1_beside 9 = .ok (.istore_n 3, 1) := by decide +kernel
theorem dX1_beside_10 : decode cX1_beside 10 = .ok (.iload_n 1, 1) := by decide +kernel
theorem dX1_beside_11 : decode cX1_beside 11 = .ok (.tableswitch 82 1 4 #[29, 43, 55, 69], 29) := by decide +kernel
theorem dX1_beside_40 : decode cX1_beside 40 = .ok (.iload_n 2, 1) := by decide +kernel
theorem dX1_beside_41 : decode cX1_beside 41 = .ok (.bipush 7, 2) := by decide +kernel
theorem dX1_beside_43 : decode cX1_beside 43 = .ok (.if_icmp .ge 9, 3) := by decide +kernel
theorem dX1_beside_46 : decode cX1_beside 46 = .ok (.iload_n 0, 1) := by decide +kernel
theorem dX1_beside_47 : decode cX1_beside 47 = .ok (.iconst 1, 1) := by decide +kernel
theorem dX1_beside_48 : decode cX1_beside 48 = .ok (.iadd, 1) := by decide +kernel
theorem dX1_beside_49 : decode cX1_beside 49 = .ok (.goto 4, 3) := by decide +kernel
theorem dX1_beside_52 : decode cX1_beside 52 = .ok (.iload_n 0, 1) := by decide +kernel
theorem dX1_beside_53 : decode cX1_beside 53 = .ok (.ireturn, 1) := by decide +kernel
theorem dX1_beside_54 : decode cX1_beside 54 = .ok (.iload_n 2, 1) := by decide +kernel
theorem dX1_beside_55 : decode cX1_beside 55 = .ok (.ifCond .le 9, 3) := by decide +kernel
theorem dX1_beside_58 : decode cX1_beside 58 = .ok (.iload_n 0, 1) := by decide +kernel
theorem dX1_beside_59 : decode cX1_beside 59 = .ok (.iconst 1, 1) := by decide +kernel
theorem dX1_beside_60 : decode cX1_beside 60 = .ok (.isub, 1) := by decide +kernel
theorem dX1_beside_61 : decode cX1_beside 61 = .ok (.goto 4, 3) := by decide +kernel
theorem dX1_beside_64 : decode cX1_beside 64 = .ok (.iload_n 0, 1) := by decide +kernel
theorem dX1_beside_65 : decode cX1_beside 65 = .ok (.ireturn, 1) := by decide +kernel
theorem dX1_beside_66 : decode cX1_beside 66 = .ok (.iload_n 3, 1) := by decide +kernel
theorem dX1_beside_67 : decode cX1_beside 67 = .ok (.iconst 3, 1) := by decide +kernel
theorem dX1_beside_68 : decode cX1_beside 68 = .ok (.if_icmp .ge 10, 3) := by decide +kernel
theorem dX1_beside_71 : decode cX1_beside 71 = .ok (.iload_n 0, 1) := by decide +kernel
theorem dX1_beside_72 : decode cX1_beside 72 = .ok (.bipush 8, 2) := by decide +kernel
theorem dX1_beside_74 : decode cX1_beside 74 = .ok (.iadd, 1) := by decide +kernel
theorem dX1_beside_75 : decode cX1_beside 75 = .ok (.goto 4, 3) := by decide +kernel
theorem dX1_beside_78 : decode cX1_beside 78 = .ok (.iload_n 0, 1) := by decide +kernel
theorem dX1_beside_79 : decode cX1_beside 79 = .ok (.ireturn, 1) := by decide +kernel
theorem dX1_beside_80 : decode cX1_beside 80 = .ok (.iload_n 3, 1) := by decide +kernel
theorem dX1_beside_81 : decode cX1_beside 81 = .ok (.ifCond .le 10, 3) := by decide +kernel
theorem dX1_beside_84 : decode cX1_beside 84 = .ok (.iload_n 0, 1) := by decide +kernel
theorem dX1_beside_85 : decode cX1_beside 85 = .ok (.bipush 8, 2) := by decide +kernel
theorem dX1_beside_87 : decode cX1_beside 87 = .ok (.isub, 1) := by decide +kernel
theorem dX1_beside_88 : decode cX1_beside 88 = .ok (.goto 4, 3) := by decide +kernel
theorem dX1_beside_91 : decode cX1_beside 91 = .ok (.iload_n 0, 1) := by decide +kernel
theorem dX1_beside_92 : decode cX1_beside 92 = .ok (.ireturn, 1) := by decide +kernel
theorem dX1_beside_93 : decode cX1_beside 93 = .ok (.iload_n 0, 1) := by decide +kernel
theorem dX1_beside_94 : decode cX1_beside 94 = .ok (.ireturn, 1) := by decide +kernel
theorem dX1_meets_0 : decode cX1_meets 0 = .ok (.aload_n 0, 1) := by decide +kernel
theorem dX1_meets_1 : decode cX1_meets 1 = .ok (.getfield 24, 3) := by decide +kernel
theorem dX1_meets_4 : decode cX1_meets 4 = .ok (.ifCond .ne 29, 3) := by decide +kernel
theorem dX1_meets_7 : decode cX1_meets 7 = .ok (.aload_n 0, 1) := by decide +kernel
theorem dX1_meets_8 : decode cX1_meets 8 = .ok (.getfield 15, 3) := by decide +kernel
theorem dX1_meets_11 : decode cX1_meets 11 = .ok (.aload_n 1, 1) := by decide +kernel
theorem dX1_meets_12 : decode cX1_meets 12 = .ok (.getfield 15, 3) := by decide +kernel
theorem dX1_meets_15 : decode cX1_meets 15 = .ok (.if_icmp .ne 18, 3) := by decide +kernel
theorem dX1_meets_18 : decode cX1_meets 18 = .ok (.aload_n 0, 1) := by decide +kernel
theorem dX1_meets_19 : decode cX1_meets 19 = .ok (.getfield 18, 3) := by decide +kernel
theorem dX1_meets_22 : decode cX1_meets 22 = .ok (.aload_n 1, 1) := by decide +kernel
theorem dX1_meets_23 : decode cX1_meets 23 = .ok (.getfield 18, 3) := by decide +kernel
theorem dX1_meets_26 : decode cX1_meets 26 = .ok (.if_icmp .ne 7, 3) := by decide +kernel
theorem dX1_meets_29 : decode cX1_meets 29 = .ok (.iconst 1, 1) := by decide +kernel
theorem dX1_meets_30 : decode cX1_meets 30 = .ok (.goto 4, 3) := by decide +kernel
theorem dX1_meets_33 : decode cX1_meets 33 = .ok (.iconst 0, 1) := by decide +kernel
theorem dX1_meets_34 : decode cX1_meets 34 = .ok (.ireturn, 1) := by decide +kernel
theorem dX1_swallow_0 : decode cX1_swallow 0 = .ok (.aload_n 0, 1) := by decide +kernel
theorem dX1_swallow_1 : decode cX1_swallow 1 = .ok (.bipush 40, 2) := by decide +kernel
theorem dX1_swallow_3 : decode cX1_swallow 3 = .ok (.aload_n 0, 1) := by decide +kernel
theorem dX1_swallow_4 : decode cX1_swallow 4 = .ok (.getfield 21, 3) := by decide +kernel
theorem dX1_swallow_7 : decode cX1_swallow 7 = .ok (.aload_n 1, 1) := by decide +kernel
theorem dX1_swallow_8 : decode cX1_swallow 8 = .ok (.getfield 21, 3) := by decide +kernel
theorem dX1_swallow_11 : decode cX1_swallow 11 = .ok (.iadd, 1) := by decide +kernel
theorem dX1_swallow_12 : decode cX1_swallow 12 = .ok (.invokestatic 51, 3) := by decide +kernel
theorem dX1_swallow_15 : decode cX1_swallow 15 = .ok (.putfield 21, 3) := by decide +kernel
theorem dX1_swallow_18 : decode cX1_swallow 18 = .ok (.aload_n 1, 1) := by decide +kernel
theorem dX1_swallow_19 : decode cX1_swallow 19 = .ok (.iconst 0, 1) := by decide +kernel
theorem dX1_swallow_20 : decode cX1_swallow 20 = .ok (.putfield 21, 3) := by decide +kernel
theorem dX1_swallow_23 : decode cX1_swallow 23 = .ok (.aload_n 1, 1) := by decide +kernel
theorem dX1_swallow_24 : decode cX1_swallow 24 = .ok (.iconst 1, 1) := by decide +kernel
theorem dX1_swallow_25 : decode cX1_swallow 25 = .ok (.putfield 24, 3) := by decide +kernel
theorem dX1_swallow_28 : decode cX1_swallow 28 = .ok (.return_, 1) := by decide +kernel
theorem dX1_rainOver_0 : decode cX1_rainOver 0 = .ok (.aload_n 0, 1) := by decide +kernel
theorem dX1_rainOver_1 : decode cX1_rainOver 1 = .ok (.aload_n 0, 1) := by decide +kernel
theorem dX1_rainOver_2 : decode cX1_rainOver 2 = .ok (.getfield 21, 3) := by decide +kernel
theorem dX1_rainOver_5 : decode cX1_rainOver 5 = .ok (.aload_n 0, 1) := by decide +kernel
theorem dX1_rainOver_6 : decode cX1_rainOver 6 = .ok (.iload_n 1, 1) := by decide +kernel
theorem dX1_rainOver_7 : decode cX1_rainOver 7 = .ok (.invokevirtual 54, 3) := by decide +kernel
theorem dX1_rainOver_10 : decode cX1_rainOver 10 = .ok (.invokestatic 51, 3) := by decide +kernel
theorem dX1_rainOver_13 : decode cX1_rainOver 13 = .ok (.putfield 31, 3) := by decide +kernel
theorem dX1_rainOver_16 : decode cX1_rainOver 16 = .ok (.aload_n 0, 1) := by decide +kernel
theorem dX1_rainOver_17 : decode cX1_rainOver 17 = .ok (.dup, 1) := by decide +kernel
theorem dX1_rainOver_18 : decode cX1_rainOver 18 = .ok (.getfield 21, 3) := by decide +kernel
theorem dX1_rainOver_21 : decode cX1_rainOver 21 = .ok (.aload_n 0, 1) := by decide +kernel
theorem dX1_rainOver_22 : decode cX1_rainOver 22 = .ok (.getfield 31, 3) := by decide +kernel
theorem dX1_rainOver_25 : decode cX1_rainOver 25 = .ok (.isub, 1) := by decide +kernel
theorem dX1_rainOver_26 : decode cX1_rainOver 26 = .ok (.putfield 21, 3) := by decide +kernel
theorem dX1_rainOver_29 : decode cX1_rainOver 29 = .ok (.return_, 1) := by decide +kernel
theorem dX1_pouring_0 : decode cX1_pouring 0 = .ok (.aload_n 0, 1) := by decide +kernel
theorem dX1_pouring_1 : decode cX1_pouring 1 = .ok (.getfield 9, 3) := by decide +kernel
theorem dX1_pouring_4 : decode cX1_pouring 4 = .ok (.tableswitch 69 1 5 #[36, 69, 54, 56, 56], 36) := by decide +kernel
theorem dX1_pouring_40 : decode cX1_pouring 40 = .ok (.iload_n 1, 1) := by decide +kernel
theorem dX1_pouring_41 : decode cX1_pouring 41 = .ok (.iconst 1, 1) := by decide +kernel
theorem dX1_pouring_42 : decode cX1_pouring 42 = .ok (.if_icmp .ne 14, 3) := by decide +kernel
theorem dX1_pouring_45 : decode cX1_pouring 45 = .ok (.aload_n 0, 1) := by decide +kernel
theorem dX1_pouring_46 : decode cX1_pouring 46 = .ok (.getfield 28, 3) := by decide +kernel
theorem dX1_pouring_49 : decode cX1_pouring 49 = .ok (.ifCond .eq 7, 3) := by decide +kernel
theorem dX1_pouring_52 : decode cX1_pouring 52 = .ok (.iconst 1, 1) := by decide +kernel
theorem dX1_pouring_53 : decode cX1_pouring 53 = .ok (.goto 4, 3) := by decide +kernel
theorem dX1_pouring_56 : decode cX1_pouring 56 = .ok (.iconst 0, 1) := by decide +kernel
theorem dX1_pouring_57 : decode cX1_pouring 57 = .ok (.ireturn, 1) := by decide +kernel
theorem dX1_pouring_58 : decode cX1_pouring 58 = .ok (.iconst 2, 1) := by decide +kernel
theorem dX1_pouring_59 : decode cX1_pouring 59 = .ok (.ireturn, 1) := by decide +kernel
theorem dX1_pouring_60 : decode cX1_pouring 60 = .ok (.aload_n 0, 1) := by decide +kernel
theorem dX1_pouring_61 : decode cX1_pouring 61 = .ok (.getfield 18, 3) := by decide +kernel
theorem dX1_pouring_64 : decode cX1_pouring 64 = .ok (.ifCond .ne 7, 3) := by decide +kernel
theorem dX1_pouring_67 : decode cX1_pouring 67 = .ok (.iconst 1, 1) := by decide +kernel
theorem dX1_pouring_68 : decode cX1_pouring 68 = .ok (.goto 4, 3) := by decide +kernel
theorem dX1_pouring_71 : decode cX1_pouring 71 = .ok (.iconst 0, 1) := by decide +kernel
theorem dX1_pouring_72 : decode cX1_pouring 72 = .ok (.ireturn, 1) := by decide +kernel
theorem dX1_pouring_73 : decode cX1_pouring 73 = .ok (.iconst 0, 1) := by decide +kernel
theorem dX1_pouring_74 : decode cX1_pouring 74 = .ok (.ireturn, 1) := by decide +kernel
theorem dX2_init_0 : decode cX2_init 0 = .ok (.aload_n 0, 1) := by decide +kernel
theorem dX2_init_1 : decode cX2_init 1 = .ok (.invokespecial 3, 3) := by decide +kernel
theorem dX2_init_4 : decode cX2_init 4 = .ok (.aload_n 0, 1) := by decide +kernel
theorem dX2_init_5 : decode cX2_init 5 = .ok (.iconst 0, 1) := by decide +kernel
theorem dX2_init_6 : decode cX2_init 6 = .ok (.putfield 9, 3) := by decide +kernel
theorem dX2_init_9 : decode cX2_init 9 = .ok (.aload_n 0, 1) := by decide +kernel
theorem dX2_init_10 : decode cX2_init 10 = .ok (.iconst 0, 1) := by decide +kernel
theorem dX2_init_11 : decode cX2_init 11 = .ok (.putfield 15, 3) := by decide +kernel
theorem dX2_init_14 : decode cX2_init 14 = .ok (.aload_n 0, 1) := by decide +kernel
theorem dX2_init_15 : decode cX2_init 15 = .ok (.iconst 0, 1) := by decide +kernel
theorem dX2_init_16 : decode cX2_init 16 = .ok (.putfield 19, 3) := by decide +kernel
theorem dX2_init_19 : decode cX2_init 19 = .ok (.aload_n 0, 1) := by decide +kernel
theorem dX2_init_20 : decode cX2_init 20 = .ok (.iconst 0, 1) := by decide +kernel
theorem dX2_init_21 : decode cX2_init 21 = .ok (.putfield 22, 3) := by decide +kernel
theorem dX2_init_24 : decode cX2_init 24 = .ok (.aload_n 0, 1) := by decide +kernel
theorem dX2_init_25 : decode cX2_init 25 = .ok (.iconst 0, 1) := by decide +kernel
theorem dX2_init_26 : decode cX2_init 26 = .ok (.putfield 25, 3) := by decide +kernel
theorem dX2_init_29 : decode cX2_init 29 = .ok (.aload_n 0, 1) := by decide +kernel
theorem dX2_init_30 : decode cX2_init 30 = .ok (.iconst 0, 1) := by decide +kernel
theorem dX2_init_31 : decode cX2_init 31 = .ok (.putfield 28, 3) := by decide +kernel
theorem dX2_init_34 : decode cX2_init 34 = .ok (.aload_n 0, 1) := by decide +kernel
theorem dX2_init_35 : decode cX2_init 35 = .ok (.iconst 0, 1) := by decide +kernel
theorem dX2_init_36 : decode cX2_init 36 = .ok (.putfield 31, 3) := by decide +kernel
theorem dX2_init_39 : decode cX2_init 39 = .ok (.aload_n 0, 1) := by decide +kernel
theorem dX2_init_40 : decode cX2_init 40 = .ok (.iconst 0, 1) := by decide +kernel
theorem dX2_init_41 : decode cX2_init 41 = .ok (.putfield 34, 3) := by decide +kernel
theorem dX2_init_44 : decode cX2_init 44 = .ok (.aload_n 0, 1) := by decide +kernel
theorem dX2_init_45 : decode cX2_init 45 = .ok (.bipush 12, 2) := by decide +kernel
theorem dX2_init_47 : decode cX2_init 47 = .ok (.newarray .int, 2) := by decide +kernel
theorem dX2_init_49 : decode cX2_init 49 = .ok (.putfield 37, 3) := by decide +kernel
theorem dX2_init_52 : decode cX2_init 52 = .ok (.aload_n 0, 1) := by decide +kernel
theorem dX2_init_53 : decode cX2_init 53 = .ok (.bipush 32, 2) := by decide +kernel
theorem dX2_init_55 : decode cX2_init 55 = .ok (.newarray .int, 2) := by decide +kernel
theorem dX2_init_57 : decode cX2_init 57 = .ok (.putfield 41, 3) := by decide +kernel
theorem dX2_init_60 : decode cX2_init 60 = .ok (.aload_n 0, 1) := by decide +kernel
theorem dX2_init_61 : decode cX2_init 61 = .ok (.iconst 5, 1) := by decide +kernel
theorem dX2_init_62 : decode cX2_init 62 = .ok (.anewarray 44, 3) := by decide +kernel
theorem dX2_init_65 : decode cX2_init 65 = .ok (.putfield 46, 3) := by decide +kernel
theorem dX2_init_68 : decode cX2_init 68 = .ok (.aload_n 0, 1) := by decide +kernel
theorem dX2_init_69 : decode cX2_init 69 = .ok (.iconst 0, 1) := by decide +kernel
theorem dX2_init_70 : decode cX2_init 70 = .ok (.putfield 50, 3) := by decide +kernel
theorem dX2_init_73 : decode cX2_init 73 = .ok (.aload_n 0, 1) := by decide +kernel
theorem dX2_init_74 : decode cX2_init 74 = .ok (.iconst 0, 1) := by decide +kernel
theorem dX2_init_75 : decode cX2_init 75 = .ok (.putfield 53, 3) := by decide +kernel
theorem dX2_init_78 : decode cX2_init 78 = .ok (.iconst 0, 1) := by decide +kernel
theorem dX2_init_79 : decode cX2_init 79 = .ok (.istore_n 1, 1) := by decide +kernel
theorem dX2_init_80 : decode cX2_init 80 = .ok (.iload_n 1, 1) := by decide +kernel
theorem dX2_init_81 : decode cX2_init 81 = .ok (.iconst 5, 1) := by decide +kernel
theorem dX2_init_82 : decode cX2_init 82 = .ok (.if_icmp .ge 22, 3) := by decide +kernel
theorem dX2_init_85 : decode cX2_init 85 = .ok (.aload_n 0, 1) := by decide +kernel
theorem dX2_init_86 : decode cX2_init 86 = .ok (.getfield 46, 3) := by decide +kernel
theorem dX2_init_89 : decode cX2_init 89 = .ok (.iload_n 1, 1) := by decide +kernel
theorem dX2_init_90 : decode cX2_init 90 = .ok (.new 44, 3) := by decide +kernel
theorem dX2_init_93 : decode cX2_init 93 = .ok (.dup, 1) := by decide +kernel
theorem dX2_init_94 : decode cX2_init 94 = .ok (.invokespecial 56, 3) := by decide +kernel
theorem dX2_init_97 : decode cX2_init 97 = .ok (.aastore, 1) := by decide +kernel
theorem dX2_init_98 : decode cX2_init 98 = .ok (.iinc 1 1, 3) := by decide +kernel
theorem dX2_init_101 : decode cX2_init 101 = .ok (.goto (-21), 3) := by decide +kernel
theorem dX2_init_104 : decode cX2_init 104 = .ok (.return_, 1) := by decide +kernel
theorem dX2_begin_0 : decode cX2_begin 0 = .ok (.aload_n 0, 1) := by decide +kernel
theorem dX2_begin_1 : decode cX2_begin 1 = .ok (.iconst 1, 1) := by decide +kernel
theorem dX2_begin_2 : decode cX2_begin 2 = .ok (.putfield 9, 3) := by decide +kernel
theorem dX2_begin_5 : decode cX2_begin 5 = .ok (.aload_n 0, 1) := by decide +kernel
theorem dX2_begin_6 : decode cX2_begin 6 = .ok (.iconst 0, 1) := by decide +kernel
theorem dX2_begin_7 : decode cX2_begin 7 = .ok (.putfield 22, 3) := by decide +kernel
theorem dX2_begin_10 : decode cX2_begin 10 = .ok (.aload_n 0, 1) := by decide +kernel
theorem dX2_begin_11 : decode cX2_begin 11 = .ok (.iconst 0, 1) := by decide +kernel
theorem dX2_begin_12 : decode cX2_begin 12 = .ok (.putfield 25, 3) := by decide +kernel
theorem dX2_begin_15 : decode cX2_begin 15 = .ok (.aload_n 0, 1) := by decide +kernel
theorem dX2_begin_16 : decode cX2_begin 16 = .ok (.iconst 0, 1) := by decide +kernel
theorem dX2_begin_17 : decode cX2_begin 17 = .ok (.putfield 28, 3) := by decide +kernel
theorem dX2_begin_20 : decode cX2_begin 20 = .ok (.aload_n 0, 1) := by decide +kernel
theorem dX2_begin_21 : decode cX2_begin 21 = .ok (.iconst 0, 1) := by decide +kernel
theorem dX2_begin_22 : decode cX2_begin 22 = .ok (.putfield 31, 3) := by decide +kernel
theorem dX2_begin_25 : decode cX2_begin 25 = .ok (.aload_n 0, 1) := by decide +kernel
theorem dX2_begin_26 : decode cX2_begin 26 = .ok (.iconst 0, 1) := by decide +kernel
theorem dX2_begin_27 : decode cX2_begin 27 = .ok (.putfield 34, 3) := by decide +kernel
theorem dX2_begin_30 : decode cX2_begin 30 = .ok (.iconst 0, 1) := by decide +kernel
theorem dX2_begin_31 : decode cX2_begin 31 = .ok (.istore_n 1, 1) := by decide +kernel
theorem dX2_begin_32 : decode cX2_begin 32 = .ok (.iload_n 1, 1) := by decide +kernel
theorem dX2_begin_33 : decode cX2_begin 33 = .ok (.bipush 32, 2) := by decide +kernel
theorem dX2_begin_35 : decode cX2_begin 35 = .ok (.if_icmp .ge 16, 3) := by decide +kernel
theorem dX2_begin_38 : decode cX2_begin 38 = .ok (.aload_n 0, 1) := by decide +kernel
theorem dX2_begin_39 : decode cX2_begin 39 = .ok (.getfield 41, 3) := by decide +kernel
theorem dX2_begin_42 : decode cX2_begin 42 = .ok (.iload_n 1, 1) := by decide +kernel
theorem dX2_begin_43 : decode cX2_begin 43 = .ok (.iconst 0, 1) := by decide +kernel
theorem dX2_begin_44 : decode cX2_begin 44 = .ok (.iastore, 1) := by decide +kernel
theorem dX2_begin_45 : decode cX2_begin 45 = .ok (.iinc 1 1, 3) := by decide +kernel
theorem dX2_begin_48 : decode cX2_begin 48 = .ok (.goto (-16), 3) := by decide +kernel
theorem dX2_begin_51 : decode cX2_begin 51 = .ok (.return_, 1) := by decide +kernel
theorem dX2_become_0 : decode cX2_become 0 = .ok (.aload_n 0, 1) := by decide +kernel
theorem dX2_become_1 : decode cX2_become 1 = .ok (.aload_n 1, 1) := by decide +kernel
theorem dX2_become_2 : decode cX2_become 2 = .ok (.getfield 9, 3) := by decide +kernel
theorem dX2_become_5 : decode cX2_become 5 = .ok (.putfield 9, 3) := by decide +kernel
theorem dX2_become_8 : decode cX2_become 8 = .ok (.aload_n 0, 1) := by decide +kernel
theorem dX2_become_9 : decode cX2_become 9 = .ok (.aload_n 1, 1) := by decide +kernel
theorem dX2_become_10 : decode cX2_become 10 = .ok (.getfield 15, 3) := by decide +kernel
theorem dX2_become_13 : decode cX2_become 13 = .ok (.putfield 15, 3) := by decide +kernel
theorem dX2_become_16 : decode cX2_become 16 = .ok (.aload_n 0, 1) := by decide +kernel
theorem dX2_become_17 : decode cX2_become 17 = .ok (.aload_n 1, 1) := by decide +kernel
theorem dX2_become_18 : decode cX2_become 18 = .ok (.getfield 19, 3) := by decide +kernel
theorem dX2_become_21 : decode cX2_become 21 = .ok (.putfield 19, 3) := by decide +kernel
theorem dX2_become_24 : decode cX2_become 24 = .ok (.aload_n 0, 1) := by decide +kernel
theorem dX2_become_25 : decode cX2_become 25 = .ok (.aload_n 1, 1) := by decide +kernel
theorem dX2_become_26 : decode cX2_become 26 = .ok (.getfield 22, 3) := by decide +kernel
theorem dX2_become_29 : decode cX2_become 29 = .ok (.putfield 22, 3) := by decide +kernel
theorem dX2_become_32 : decode cX2_become 32 = .ok (.aload_n 0, 1) := by decide +kernel
theorem dX2_become_33 : decode cX2_become 33 = .ok (.aload_n 1, 1) := by decide +kernel
theorem dX2_become_34 : decode cX2_become 34 = .ok (.getfield 25, 3) := by decide +kernel
theorem dX2_become_37 : decode cX2_become 37 = .ok (.putfield 25, 3) := by decide +kernel
theorem dX2_become_40 : decode cX2_become 40 = .ok (.aload_n 0, 1) := by decide +kernel
theorem dX2_become_41 : decode cX2_become 41 = .ok (.aload_n 1, 1) := by decide +kernel
theorem dX2_become_42 : decode cX2_become 42 = .ok (.getfield 28, 3) := by decide +kernel
theorem dX2_become_45 : decode cX2_become 45 = .ok (.putfield 28, 3) := by decide +kernel
theorem dX2_become_48 : decode cX2_become 48 = .ok (.aload_n 0, 1) := by decide +kernel
theorem dX2_become_49 : decode cX2_become 49 = .ok (.aload_n 1, 1) := by decide +kernel
theorem dX2_become_50 : decode cX2_become 50 = .ok (.getfield 31, 3) := by decide +kernel
theorem dX2_become_53 : decode cX2_become 53 = .ok (.putfield 31, 3) := by decide +kernel
theorem dX2_become_56 : decode cX2_become 56 = .ok (.aload_n 0, 1) := by decide +kernel
theorem dX2_become_57 : decode cX2_become 57 = .ok (.aload_n 1, 1) := by decide +kernel
theorem dX2_become_58 : decode cX2_become 58 = .ok (.getfield 34, 3) := by decide +kernel
theorem dX2_become_61 : decode cX2_become 61 = .ok (.putfield 34, 3) := by decide +kernel
theorem dX2_become_64 : decode cX2_become 64 = .ok (.aload_n 1, 1) := by decide +kernel
theorem dX2_become_65 : decode cX2_become 65 = .ok (.getfield 37, 3) := by decide +kernel
theorem dX2_become_68 : decode cX2_become 68 = .ok (.iconst 0, 1) := by decide +kernel
theorem dX2_become_69 : decode cX2_become 69 = .ok (.aload_n 0, 1) := by decide +kernel
theorem dX2_become_70 : decode cX2_become 70 = .ok (.getfield 37, 3) := by decide +kernel
theorem dX2_become_73 : decode cX2_become 73 = .ok (.iconst 0, 1) := by decide +kernel
theorem dX2_become_74 : decode cX2_become 74 = .ok (.bipush 12, 2) := by decide +kernel
theorem dX2_become_76 : decode cX2_become 76 = .ok (.invokestatic 57, 3) := by decide +kernel
theorem dX2_become_79 : decode cX2_become 79 = .ok (.aload_n 1, 1) := by decide +kernel
theorem dX2_become_80 : decode cX2_become 80 = .ok (.getfield 41, 3) := by decide +kernel
theorem dX2_become_83 : decode cX2_become 83 = .ok (.iconst 0, 1) := by decide +kernel
theorem dX2_become_84 : decode cX2_become 84 = .ok (.aload_n 0, 1) := by decide +kernel
theorem dX2_become_85 : decode cX2_become 85 = .ok (.getfield 41, 3) := by decide +kernel
theorem dX2_become_88 : decode cX2_become 88 = .ok (.iconst 0, 1) := by decide +kernel
theorem dX2_become_89 : decode cX2_become 89 = .ok (.bipush 32, 2) := by decide +kernel
theorem dX2_become_91 : decode cX2_become 91 = .ok (.invokestatic 57, 3) := by decide +kernel
theorem dX2_become_94 : decode cX2_become 94 = .ok (.iconst 0, 1) := by decide +kernel
theorem dX2_become_95 : decode cX2_become 95 = .ok (.istore_n 2, 1) := by decide +kernel
theorem dX2_become_96 : decode cX2_become 96 = .ok (.iload_n 2, 1) := by decide +kernel
theorem dX2_become_97 : decode cX2_become 97 = .ok (.iconst 5, 1) := by decide +kernel
theorem dX2_become_98 : decode cX2_become 98 = .ok (.if_icmp .ge 24, 3) := by decide +kernel
theorem dX2_become_101 : decode cX2_become 101 = .ok (.aload_n 0, 1) := by decide +kernel
theorem dX2_become_102 : decode cX2_become 102 = .ok (.getfield 46, 3) := by decide +kernel
theorem dX2_become_105 : decode cX2_become 105 = .ok (.iload_n 2, 1) := by decide +kernel
theorem dX2_become_106 : decode cX2_become 106 = .ok (.aaload, 1) := by decide +kernel
theorem dX2_become_107 : decode cX2_become 107 = .ok (.aload_n 1, 1) := by decide +kernel
theorem dX2_become_108 : decode cX2_become 108 = .ok (.getfield 46, 3) := by decide +kernel
theorem dX2_become_111 : decode cX2_become 111 = .ok (.iload_n 2, 1) := by decide +kernel
theorem dX2_become_112 : decode cX2_become 112 = .ok (.aaload, 1) := by decide +kernel
theorem dX2_become_113 : decode cX2_become 113 = .ok (.invokevirtual 63, 3) := by decide +kernel
theorem dX2_become_116 : decode cX2_become 116 = .ok (.iinc 2 1, 3) := by decide +kernel
theorem dX2_become_119 : decode cX2_become 119 = .ok (.goto (-23), 3) := by decide +kernel
theorem dX2_become_122 : decode cX2_become 122 = .ok (.return_, 1) := by decide +kernel
theorem dX2_blowing_0 : decode cX2_blowing 0 = .ok (.aload_n 0, 1) := by decide +kernel
theorem dX2_blowing_1 : decode cX2_blowing 1 = .ok (.getfield 37, 3) := by decide +kernel
theorem dX2_blowing_4 : decode cX2_blowing 4 = .ok (.iload_n 1, 1) := by decide +kernel
theorem dX2_blowing_5 : decode cX2_blowing 5 = .ok (.bipush 6, 2) := by decide +kernel
theorem dX2_blowing_7 : decode cX2_blowing 7 = .ok (.imul, 1) := by decide +kernel
theorem dX2_blowing_8 : decode cX2_blowing 8 = .ok (.iload_n 2, 1) := by decide +kernel
theorem dX2_blowing_9 : decode cX2_blowing 9 = .ok (.bipush 6, 2) := by decide +kernel
theorem dX2_blowing_11 : decode cX2_blowing 11 = .ok (.irem, 1) := by decide +kernel
theorem dX2_blowing_12 : decode cX2_blowing 12 = .ok (.iadd, 1) := by decide +kernel
theorem dX2_blowing_13 : decode cX2_blowing 13 = .ok (.iaload, 1) := by decide +kernel
theorem dX2_blowing_14 : decode cX2_blowing 14 = .ok (.ireturn, 1) := by decide +kernel
theorem dX2_cloudsOver_0 : decode cX2_cloudsOver 0 = .ok (.iconst 0, 1) := by decide +kernel
theorem dX2_cloudsOver_1 : decode cX2_cloudsOver 1 = .ok (.istore_n 2, 1) := by decide +kernel
theorem dX2_cloudsOver_2 : decode cX2_cloudsOver 2 = .ok (.iconst 0, 1) := by decide +kernel
theorem dX2_cloudsOver_3 : decode cX2_cloudsOver 3 = .ok (.istore_n 3, 1) := by decide +kernel
theorem dX2_cloudsOver_4 : decode cX2_cloudsOver 4 = .ok (.iload_n 3, 1) := by decide +kernel
theorem dX2_cloudsOver_5 : decode cX2_cloudsOver 5 = .ok (.aload_n 0, 1) := by decide +kernel
theorem dX2_cloudsOver_6 : decode cX2_cloudsOver 6 = .ok (.getfield 25, 3) := by decide +kernel
theorem dX2_cloudsOver_9 : decode cX2_cloudsOver 9 = .ok (.if_icmp .ge 40, 3) := by decide +kernel
theorem dX2_cloudsOver_12 : decode cX2_cloudsOver 12 = .ok (.aload_n 0, 1) := by decide +kernel
theorem dX2_cloudsOver_13 : decode cX2_cloudsOver 13 = .ok (.getfield 46, 3) := by decide +kernel
theorem dX2_cloudsOver_16 : decode cX2_cloudsOver 16 = .ok (.iload_n 3, 1) := by decide +kernel
theorem dX2_cloudsOver_17 : decode cX2_cloudsOver 17 = .ok (.aaload, 1) := by decide +kernel
theorem dX2_cloudsOver_18 : decode cX2_cloudsOver 18 = .ok (.getfield 67, 3) := by decide +kernel
theorem dX2_cloudsOver_21 : decode cX2_cloudsOver 21 = .ok (.ifCond .ne 22, 3) := by decide +kernel
theorem dX2_cloudsOver_24 : decode cX2_cloudsOver 24 = .ok (.aload_n 0, 1) := by decide +kernel
theorem dX2_cloudsOver_25 : decode cX2_cloudsOver 25 = .ok (.getfield 46, 3) := by decide +kernel
theorem dX2_cloudsOver_28 : decode cX2_cloudsOver 28 = .ok (.iload_n 3, 1) := by decide +kernel
theorem dX2_cloudsOver_29 : decode cX2_cloudsOver 29 = .ok (.aaload, 1) := by decide +kernel
theorem dX2_cloudsOver_30 : decode cX2_cloudsOver 30 = .ok (.getfield 70, 3) := by decide +kernel
theorem dX2_cloudsOver_33 : decode cX2_cloudsOver 33 = .ok (.iload_n 1, 1) := by decide +kernel
theorem dX2_cloudsOver_34 : decode cX2_cloudsOver 34 = .ok (.if_icmp .ne 9, 3) := by decide +kernel
theorem dX2_cloudsOver_37 : decode cX2_cloudsOver 37 = .ok (.iload_n 2, 1) := by decide +kernel
theorem dX2_cloudsOver_38 : decode cX2_cloudsOver 38 = .ok (.iconst 1, 1) := by decide +kernel
theorem dX2_cloudsOver_39 : decode cX2_cloudsOver 39 = .ok (.iload_n 3, 1) := by decide +kernel
theorem dX2_cloudsOver_40 : decode cX2_cloudsOver 40 = .ok (.ishl, 1) := by decide +kernel
theorem dX2_cloudsOver_41 : decode cX2_cloudsOver 41 = .ok (.ior, 1) := by decide +kernel
theorem dX2_cloudsOver_42 : decode cX2_cloudsOver 42 = .ok (.istore_n 2, 1) := by decide +kernel
theorem dX2_cloudsOver_43 : decode cX2_cloudsOver 43 = .ok (.iinc 3 1, 3) := by decide +kernel
theorem dX2_cloudsOver_46 : decode cX2_cloudsOver 46 = .ok (.goto (-42), 3) := by decide +kernel
theorem dX2_cloudsOver_49 : decode cX2_cloudsOver 49 = .ok (.iload_n 2, 1) := by decide +kernel
theorem dX2_cloudsOver_50 : decode cX2_cloudsOver 50 = .ok (.ireturn, 1) := by decide +kernel
theorem dX2_cloudsLeft_0 : decode cX2_cloudsLeft 0 = .ok (.iconst 0, 1) := by decide +kernel
theorem dX2_cloudsLeft_1 : decode cX2_cloudsLeft 1 = .ok (.istore_n 1, 1) := by decide +kernel
theorem dX2_cloudsLeft_2 : decode cX2_cloudsLeft 2 = .ok (.iconst 0, 1) := by decide +kernel
theorem dX2_cloudsLeft_3 : decode cX2_cloudsLeft 3 = .ok (.istore_n 2, 1) := by decide +kernel
theorem dX2_cloudsLeft_4 : decode cX2_cloudsLeft 4 = .ok (.iload_n 2, 1) := by decide +kernel
theorem dX2_cloudsLeft_5 : decode cX2_cloudsLeft 5 = .ok (.aload_n 0, 1) := by decide +kernel
theorem dX2_cloudsLeft_6 : decode cX2_cloudsLeft 6 = .ok (.getfield 25, 3) := by decide +kernel
theorem dX2_cloudsLeft_9 : decode cX2_cloudsLeft 9 = .ok (.if_icmp .ge 32, 3) := by decide +kernel
theorem dX2_cloudsLeft_12 : decode cX2_cloudsLeft 12 = .ok (.iload_n 1, 1) := by decide +kernel
theorem dX2_cloudsLeft_13 : decode cX2_cloudsLeft 13 = .ok (.aload_n 0, 1) := by decide +kernel
theorem dX2_cloudsLeft_14 : decode cX2_cloudsLeft 14 = .ok (.getfield 46, 3) := by decide +kernel
theorem dX2_cloudsLeft_17 : decode cX2_cloudsLeft 17 = .ok (.iload_n 2, 1) := by decide +kernel
theorem dX2_cloudsLeft_18 : decode cX2_cloudsLeft 18 = .ok (.aaload, 1) := by decide +kernel
theorem dX2_cloudsLeft_19 : decode cX2_cloudsLeft 19 = .ok (.getfield 67, 3) := by decide +kernel
theorem dX2_cloudsLeft_22 : decode cX2_cloudsLeft 22 = .ok (.ifCond .ne 7, 3) := by decide +kernel
theorem dX2_cloudsLeft_25 : decode cX2_cloudsLeft 25 = .ok (.iconst 1, 1) := by decide +kernel
theorem dX2_cloudsLeft_26 : decode cX2_cloudsLeft 26 = .ok (.goto 4, 3) := by decide +kernel
theorem dX2_cloudsLeft_29 : decode cX2_cloudsLeft 29 = .ok (.iconst 0, 1) := by decide +kernel
theorem dX2_cloudsLeft_30 : decode cX2_cloudsLeft 30 = .ok (.invokestatic 73, 3) := by decide +kernel
theorem dX2_cloudsLeft_33 : decode cX2_cloudsLeft 33 = .ok (.iadd, 1) := by decide +kernel
theorem dX2_cloudsLeft_34 : decode cX2_cloudsLeft 34 = .ok (.istore_n 1, 1) := by decide +kernel
theorem dX2_cloudsLeft_35 : decode cX2_cloudsLeft 35 = .ok (.iinc 2 1, 3) := by decide +kernel
theorem dX2_cloudsLeft_38 : decode cX2_cloudsLeft 38 = .ok (.goto (-34), 3) := by decide +kernel
theorem dX2_cloudsLeft_41 : decode cX2_cloudsLeft 41 = .ok (.iload_n 1, 1) := by decide +kernel
theorem dX2_cloudsLeft_42 : decode cX2_cloudsLeft 42 = .ok (.ireturn, 1) := by decide +kernel
theorem dX2_passHour_0 : decode cX2_passHour 0 = .ok (.aload_n 0, 1) := by decide +kernel
theorem dX2_passHour_1 : decode cX2_passHour 1 = .ok (.invokevirtual 77, 3) := by decide +kernel
theorem dX2_passHour_4 : decode cX2_passHour 4 = .ok (.aload_n 0, 1) := by decide +kernel
theorem dX2_passHour_5 : decode cX2_passHour 5 = .ok (.invokevirtual 80, 3) := by decide +kernel
theorem dX2_passHour_8 : decode cX2_passHour 8 = .ok (.aload_n 0, 1) := by decide +kernel
theorem dX2_passHour_9 : decode cX2_passHour 9 = .ok (.invokevirtual 83, 3) := by decide +kernel
theorem dX2_passHour_12 : decode cX2_passHour 12 = .ok (.aload_n 0, 1) := by decide +kernel
theorem dX2_passHour_13 : decode cX2_passHour 13 = .ok (.invokevirtual 86, 3) := by decide +kernel
theorem dX2_passHour_16 : decode cX2_passHour 16 = .ok (.aload_n 0, 1) := by decide +kernel
theorem dX2_passHour_17 : decode cX2_passHour 17 = .ok (.dup, 1) := by decide +kernel
theorem dX2_passHour_18 : decode cX2_passHour 18 = .ok (.getfield 28, 3) := by decide +kernel
theorem dX2_passHour_21 : decode cX2_passHour 21 = .ok (.iconst 1, 1) := by decide +kernel
theorem dX2_passHour_22 : decode cX2_passHour 22 = .ok (.iadd, 1) := by decide +kernel
theorem dX2_passHour_23 : decode cX2_passHour 23 = .ok (.putfield 28, 3) := by decide +kernel
theorem dX2_passHour_26 : decode cX2_passHour 26 = .ok (.return_, 1) := by decide +kernel
theorem dX2_passAlone_0 : decode cX2_passAlone 0 = .ok (.aload_n 0, 1) := by decide +kernel
theorem dX2_passAlone_1 : decode cX2_passAlone 1 = .ok (.aload_n 1, 1) := by decide +kernel
theorem dX2_passAlone_2 : decode cX2_passAlone 2 = .ok (.iload_n 2, 1) := by decide +kernel
theorem dX2_passAlone_3 : decode cX2_passAlone 3 = .ok (.invokevirtual 89, 3) := by decide +kernel
theorem dX2_passAlone_6 : decode cX2_passAlone 6 = .ok (.aload_n 0, 1) := by decide +kernel
theorem dX2_passAlone_7 : decode cX2_passAlone 7 = .ok (.aload_n 1, 1) := by decide +kernel
theorem dX2_passAlone_8 : decode cX2_passAlone 8 = .ok (.invokevirtual 93, 3) := by decide +kernel
theorem dX2_passAlone_11 : decode cX2_passAlone 11 = .ok (.istore_n 3, 1) := by decide +kernel
theorem dX2_passAlone_12 : decode cX2_passAlone 12 = .ok (.aload_n 0, 1) := by decide +kernel
theorem dX2_passAlone_13 : decode cX2_passAlone 13 = .ok (.aload_n 1, 1) := by decide +kernel
theorem dX2_passAlone_14 : decode cX2_passAlone 14 = .ok (.invokevirtual 97, 3) := by decide +kernel
theorem dX2_passAlone_17 : decode cX2_passAlone 17 = .ok (.pop, 1) := by decide +kernel
theorem dX2_passAlone_18 : decode cX2_passAlone 18 = .ok (.iload_n 3, 1) := by decide +kernel
theorem dX2_passAlone_19 : decode cX2_passAlone 19 = .ok (.ireturn, 1) := by decide +kernel
theorem dX2_driftAll_0 : decode cX2_driftAll 0 = .ok (.iconst 0, 1) := by decide +kernel
theorem dX2_driftAll_1 : decode cX2_driftAll 1 = .ok (.istore_n 1, 1) := by decide +kernel
theorem dX2_driftAll_2 : decode cX2_driftAll 2 = .ok (.iload_n 1, 1) := by decide +kernel
theorem dX2_driftAll_3 : decode cX2_driftAll 3 = .ok (.aload_n 0, 1) := by decide +kernel
theorem dX2_driftAll_4 : decode cX2_driftAll 4 = .ok (.getfield 25, 3) := by decide +kernel
theorem dX2_driftAll_7 : decode cX2_driftAll 7 = .ok (.if_icmp .ge 35, 3) := by decide +kernel
theorem dX2_driftAll_10 : decode cX2_driftAll 10 = .ok (.aload_n 0, 1) := by decide +kernel
theorem dX2_driftAll_11 : decode cX2_driftAll 11 = .ok (.getfield 46, 3) := by decide +kernel
theorem dX2_driftAll_14 : decode cX2_driftAll 14 = .ok (.iload_n 1, 1) := by decide +kernel
theorem dX2_driftAll_15 : decode cX2_driftAll 15 = .ok (.aaload, 1) := by decide +kernel
theorem dX2_driftAll_16 : decode cX2_driftAll 16 = .ok (.getfield 67, 3) := by decide +kernel
theorem dX2_driftAll_19 : decode cX2_driftAll 19 = .ok (.ifCond .ne 17, 3) := by decide +kernel
theorem dX2_driftAll_22 : decode cX2_driftAll 22 = .ok (.aload_n 0, 1) := by decide +kernel
theorem dX2_driftAll_23 : decode cX2_driftAll 23 = .ok (.aload_n 0, 1) := by decide +kernel
theorem dX2_driftAll_24 : decode cX2_driftAll 24 = .ok (.getfield 46, 3) := by decide +kernel
theorem dX2_driftAll_27 : decode cX2_driftAll 27 = .ok (.iload_n 1, 1) := by decide +kernel
theorem dX2_driftAll_28 : decode cX2_driftAll 28 = .ok (.aaload, 1) := by decide +kernel
theorem dX2_driftAll_29 : decode cX2_driftAll 29 = .ok (.aload_n 0, 1) := by decide +kernel
theorem dX2_driftAll_30 : decode cX2_driftAll 30 = .ok (.getfield 28, 3) := by decide +kernel
theorem dX2_driftAll_33 : decode cX2_driftAll 33 = .ok (.invokevirtual 89, 3) := by decide +kernel
theorem dX2_driftAll_36 : decode cX2_driftAll 36 = .ok (.iinc 1 1, 3) := by decide +kernel
theorem dX2_driftAll_39 : decode cX2_driftAll 39 = .ok (.goto (-37), 3) := by decide +kernel
theorem dX2_driftAll_42 : decode cX2_driftAll 42 = .ok (.return_, 1) := by decide +kernel
theorem dX2_driftOne_0 : decode cX2_driftOne 0 = .ok (.aload_n 1, 1) := by decide +kernel
theorem dX2_driftOne_1 : decode cX2_driftOne 1 = .ok (.aload_n 1, 1) := by decide +kernel
theorem dX2_driftOne_2 : decode cX2_driftOne 2 = .ok (.aload_n 1, 1) := by decide +kernel
theorem dX2_driftOne_3 : decode cX2_driftOne 3 = .ok (.getfield 70, 3) := by decide +kernel
theorem dX2_driftOne_6 : decode cX2_driftOne 6 = .ok (.aload_n 0, 1) := by decide +kernel
theorem dX2_driftOne_7 : decode cX2_driftOne 7 = .ok (.aload_n 1, 1) := by decide +kernel
theorem dX2_driftOne_8 : decode cX2_driftOne 8 = .ok (.getfield 100, 3) := by decide +kernel
theorem dX2_driftOne_11 : decode cX2_driftOne 11 = .ok (.iload_n 2, 1) := by decide +kernel
theorem dX2_driftOne_12 : decode cX2_driftOne 12 = .ok (.invokevirtual 103, 3) := by decide +kernel
theorem dX2_driftOne_15 : decode cX2_driftOne 15 = .ok (.invokevirtual 107, 3) := by decide +kernel
theorem dX2_driftOne_18 : decode cX2_driftOne 18 = .ok (.putfield 70, 3) := by decide +kernel
theorem dX2_driftOne_21 : decode cX2_driftOne 21 = .ok (.return_, 1) := by decide +kernel
theorem dX2_runTogether_0 : decode cX2_runTogether 0 = .ok (.aload_n 0, 1) := by decide +kernel
theorem dX2_runTogether_1 : decode cX2_runTogether 1 = .ok (.iconst 0, 1) := by decide +kernel
theorem dX2_runTogether_2 : decode cX2_runTogether 2 = .ok (.putfield 50, 3) := by decide +kernel
theorem dX2_runTogether_5 : decode cX2_runTogether 5 = .ok (.iconst 1, 1) := by decide +kernel
theorem dX2_runTogether_6 : decode cX2_runTogether 6 = .ok (.istore_n 1, 1) := by decide +kernel
theorem dX2_runTogether_7 : decode cX2_runTogether 7 = .ok (.iload_n 1, 1) := by decide +kernel
theorem dX2_runTogether_8 : decode cX2_runTogether 8 = .ok (.aload_n 0, 1) := by decide +kernel
theorem dX2_runTogether_9 : decode cX2_runTogether 9 = .ok (.getfield 25, 3) := by decide +kernel
theorem dX2_runTogether_12 : decode cX2_runTogether 12 = .ok (.if_icmp .ge 79, 3) := by decide +kernel
theorem dX2_runTogether_15 : decode cX2_runTogether 15 = .ok (.iconst 0, 1) := by decide +kernel
theorem dX2_runTogether_16 : decode cX2_runTogether 16 = .ok (.istore_n 2, 1) := by decide +kernel
theorem dX2_runTogether_17 : decode cX2_runTogether 17 = .ok (.iload_n 2, 1) := by decide +kernel
theorem dX2_runTogether_18 : decode cX2_runTogether 18 = .ok (.iload_n 1, 1) := by decide +kernel
theorem dX2_runTogether_19 : decode cX2_runTogether 19 = .ok (.if_icmp .ge 66, 3) := by decide +kernel
theorem dX2_runTogether_22 : decode cX2_runTogether 22 = .ok (.aload_n 0, 1) := by decide +kernel
theorem dX2_runTogether_23 : decode cX2_runTogether 23 = .ok (.getfield 46, 3) := by decide +kernel
theorem dX2_runTogether_26 : decode cX2_runTogether 26 = .ok (.iload_n 1, 1) := by decide +kernel
theorem dX2_runTogether_27 : decode cX2_runTogether 27 = .ok (.aaload, 1) := by decide +kernel
theorem dX2_runTogether_28 : decode cX2_runTogether 28 = .ok (.getfield 67, 3) := by decide +kernel
theorem dX2_runTogether_31 : decode cX2_runTogether 31 = .ok (.ifCond .ne 54, 3) := by decide +kernel
theorem dX2_runTogether_34 : decode cX2_runTogether 34 = .ok (.aload_n 0, 1) := by decide +kernel
theorem dX2_runTogether_35 : decode cX2_runTogether 35 = .ok (.getfield 46, 3) := by decide +kernel
theorem dX2_runTogether_38 : decode cX2_runTogether 38 = .ok (.iload_n 2, 1) := by decide +kernel
theorem dX2_runTogether_39 : decode cX2_runTogether 39 = .ok (.aaload, 1) := by decide +kernel
theorem dX2_runTogether_40 : decode cX2_runTogether 40 = .ok (.aload_n 0, 1) := by decide +kernel
theorem dX2_runTogether_41 : decode cX2_runTogether 41 = .ok (.getfield 46, 3) := by decide +kernel
theorem dX2_runTogether_44 : decode cX2_runTogether 44 = .ok (.iload_n 1, 1) := by decide +kernel
theorem dX2_runTogether_45 : decode cX2_runTogether 45 = .ok (.aaload, 1) := by decide +kernel
theorem dX2_runTogether_46 : decode cX2_runTogether 46 = .ok (.invokevirtual 110, 3) := by decide +kernel
theorem dX2_runTogether_49 : decode cX2_runTogether 49 = .ok (.ifCond .eq 30, 3) := by decide +kernel
theorem dX2_runTogether_52 : decode cX2_runTogether 52 = .ok (.aload_n 0, 1) := by decide +kernel
theorem dX2_runTogether_53 : decode cX2_runTogether 53 = .ok (.getfield 46, 3) := by decide +kernel
theorem dX2_runTogether_56 : decode cX2_runTogether 56 = .ok (.iload_n 2, 1) := by decide +kernel
theorem dX2_runTogether_57 : decode cX2_runTogether 57 = .ok (.aaload, 1) := by decide +kernel
theorem dX2_runTogether_58 : decode cX2_runTogether 58 = .ok (.aload_n 0, 1) := by decide +kernel
theorem dX2_runTogether_59 : decode cX2_runTogether 59 = .ok (.getfield 46, 3) := by decide +kernel
theorem dX2_runTogether_62 : decode cX2_runTogether 62 = .ok (.iload_n 1, 1) := by decide +kernel
theorem dX2_runTogether_63 : decode cX2_runTogether 63 = .ok (.aaload, 1) := by decide +kernel
theorem dX2_runTogether_64 : decode cX2_runTogether 64 = .ok (.invokevirtual 114, 3) := by decide +kernel
theorem dX2_runTogether_67 : decode cX2_runTogether 67 = .ok (.aload_n 0, 1) := by decide +kernel
theorem dX2_runTogether_68 : decode cX2_runTogether 68 = .ok (.dup, 1) := by decide +kernel
theorem dX2_runTogether_69 : decode cX2_runTogether 69 = .ok (.getfield 50, 3) := by decide +kernel
theorem dX2_runTogether_72 : decode cX2_runTogether 72 = .ok (.iconst 1, 1) := by decide +kernel
theorem dX2_runTogether_73 : decode cX2_runTogether 73 = .ok (.iload_n 1, 1) := by decide +kernel
theorem dX2_runTogether_74 : decode cX2_runTogether 74 = .ok (.ishl, 1) := by decide +kernel
theorem dX2_runTogether_75 : decode cX2_runTogether 75 = .ok (.ior, 1) := by decide +kernel
theorem dX2_runTogether_76 : decode cX2_runTogether 76 = .ok (.putfield 50, 3) := by decide +kernel
theorem dX2_runTogether_79 : decode cX2_runTogether 79 = .ok (.iinc 2 1, 3) := by decide +kernel
theorem dX2_runTogether_82 : decode cX2_runTogether 82 = .ok (.goto (-65), 3) := by decide +kernel
theorem dX2_runTogether_85 : decode cX2_runTogether 85 = .ok (.iinc 1 1, 3) := by decide +kernel
theorem dX2_runTogether_88 : decode cX2_runTogether 88 = .ok (.goto (-81), 3) := by decide +kernel
theorem dX2_runTogether_91 : decode cX2_runTogether 91 = .ok (.return_, 1) := by decide +kernel
theorem dX2_rainAll_0 : decode cX2_rainAll 0 = .ok (.aload_n 0, 1) := by decide +kernel
theorem dX2_rainAll_1 : decode cX2_rainAll 1 = .ok (.iconst 0, 1) := by decide +kernel
theorem dX2_rainAll_2 : decode cX2_rainAll 2 = .ok (.putfield 53, 3) := by decide +kernel
theorem dX2_rainAll_5 : decode cX2_rainAll 5 = .ok (.iconst 0, 1) := by decide +kernel
theorem dX2_rainAll_6 : decode cX2_rainAll 6 = .ok (.istore_n 1, 1) := by decide +kernel
theorem dX2_rainAll_7 : decode cX2_rainAll 7 = .ok (.iload_n 1, 1) := by decide +kernel
theorem dX2_rainAll_8 : decode cX2_rainAll 8 = .ok (.aload_n 0, 1) := by decide +kernel
theorem dX2_rainAll_9 : decode cX2_rainAll 9 = .ok (.getfield 25, 3) := by decide +kernel
theorem dX2_rainAll_12 : decode cX2_rainAll 12 = .ok (.if_icmp .ge 80, 3) := by decide +kernel
theorem dX2_rainAll_15 : decode cX2_rainAll 15 = .ok (.aload_n 0, 1) := by decide +kernel
theorem dX2_rainAll_16 : decode cX2_rainAll 16 = .ok (.getfield 46, 3) := by decide +kernel
theorem dX2_rainAll_19 : decode cX2_rainAll 19 = .ok (.iload_n 1, 1) := by decide +kernel
theorem dX2_rainAll_20 : decode cX2_rainAll 20 = .ok (.aaload, 1) := by decide +kernel
theorem dX2_rainAll_21 : decode cX2_rainAll 21 = .ok (.getfield 67, 3) := by decide +kernel
theorem dX2_rainAll_24 : decode cX2_rainAll 24 = .ok (.ifCond .ne 62, 3) := by decide +kernel
theorem dX2_rainAll_27 : decode cX2_rainAll 27 = .ok (.aload_n 0, 1) := by decide +kernel
theorem dX2_rainAll_28 : decode cX2_rainAll 28 = .ok (.dup, 1) := by decide +kernel
theorem dX2_rainAll_29 : decode cX2_rainAll 29 = .ok (.getfield 31, 3) := by decide +kernel
theorem dX2_rainAll_32 : decode cX2_rainAll 32 = .ok (.aload_n 0, 1) := by decide +kernel
theorem dX2_rainAll_33 : decode cX2_rainAll 33 = .ok (.aload_n 0, 1) := by decide +kernel
theorem dX2_rainAll_34 : decode cX2_rainAll 34 = .ok (.getfield 46, 3) := by decide +kernel
theorem dX2_rainAll_37 : decode cX2_rainAll 37 = .ok (.iload_n 1, 1) := by decide +kernel
theorem dX2_rainAll_38 : decode cX2_rainAll 38 = .ok (.aaload, 1) := by decide +kernel
theorem dX2_rainAll_39 : decode cX2_rainAll 39 = .ok (.invokevirtual 93, 3) := by decide +kernel
theorem dX2_rainAll_42 : decode cX2_rainAll 42 = .ok (.iadd, 1) := by decide +kernel
theorem dX2_rainAll_43 : decode cX2_rainAll 43 = .ok (.putfield 31, 3) := by decide +kernel
theorem dX2_rainAll_46 : decode cX2_rainAll 46 = .ok (.aload_n 0, 1) := by decide +kernel
theorem dX2_rainAll_47 : decode cX2_rainAll 47 = .ok (.dup, 1) := by decide +kernel
theorem dX2_rainAll_48 : decode cX2_rainAll 48 = .ok (.getfield 53, 3) := by decide +kernel
theorem dX2_rainAll_51 : decode cX2_rainAll 51 = .ok (.aload_n 0, 1) := by decide +kernel
theorem dX2_rainAll_52 : decode cX2_rainAll 52 = .ok (.getfield 41, 3) := by decide +kernel
theorem dX2_rainAll_55 : decode cX2_rainAll 55 = .ok (.aload_n 0, 1) := by decide +kernel
theorem dX2_rainAll_56 : decode cX2_rainAll 56 = .ok (.getfield 46, 3) := by decide +kernel
theorem dX2_rainAll_59 : decode cX2_rainAll 59 = .ok (.iload_n 1, 1) := by decide +kernel
theorem dX2_rainAll_60 : decode cX2_rainAll 60 = .ok (.aaload, 1) := by decide +kernel
theorem dX2_rainAll_61 : decode cX2_rainAll 61 = .ok (.getfield 70, 3) := by decide +kernel
theorem dX2_rainAll_64 : decode cX2_rainAll 64 = .ok (.iaload, 1) := by decide +kernel
theorem dX2_rainAll_65 : decode cX2_rainAll 65 = .ok (.iconst 2, 1) := by decide +kernel
theorem dX2_rainAll_66 : decode cX2_rainAll 66 = .ok (.if_icmp .ne 15, 3) := by decide +kernel
theorem dX2_rainAll_69 : decode cX2_rainAll 69 = .ok (.aload_n 0, 1) := by decide +kernel
theorem dX2_rainAll_70 : decode cX2_rainAll 70 = .ok (.getfield 46, 3) := by decide +kernel
theorem dX2_rainAll_73 : decode cX2_rainAll 73 = .ok (.iload_n 1, 1) := by decide +kernel
theorem dX2_rainAll_74 : decode cX2_rainAll 74 = .ok (.aaload, 1) := by decide +kernel
theorem dX2_rainAll_75 : decode cX2_rainAll 75 = .ok (.getfield 117, 3) := by decide +kernel
theorem dX2_rainAll_78 : decode cX2_rainAll 78 = .ok (.goto 4, 3) := by decide +kernel
theorem dX2_rainAll_81 : decode cX2_rainAll 81 = .ok (.iconst 0, 1) := by decide +kernel
theorem dX2_rainAll_82 : decode cX2_rainAll 82 = .ok (.iadd, 1) := by decide +kernel
theorem dX2_rainAll_83 : decode cX2_rainAll 83 = .ok (.putfield 53, 3) := by decide +kernel
theorem dX2_rainAll_86 : decode cX2_rainAll 86 = .ok (.iinc 1 1, 3) := by decide +kernel
theorem dX2_rainAll_89 : decode cX2_rainAll 89 = .ok (.goto (-82), 3) := by decide +kernel
theorem dX2_rainAll_92 : decode cX2_rainAll 92 = .ok (.return_, 1) := by decide +kernel
theorem dX2_rainOne_0 : decode cX2_rainOne 0 = .ok (.aload_n 0, 1) := by decide +kernel
theorem dX2_rainOne_1 : decode cX2_rainOne 1 = .ok (.getfield 41, 3) := by decide +kernel
theorem dX2_rainOne_4 : decode cX2_rainOne 4 = .ok (.aload_n 1, 1) := by decide +kernel
theorem dX2_rainOne_5 : decode cX2_rainOne 5 = .ok (.getfield 70, 3) := by decide +kernel
theorem dX2_rainOne_8 : decode cX2_rainOne 8 = .ok (.iaload, 1) := by decide +kernel
theorem dX2_rainOne_9 : decode cX2_rainOne 9 = .ok (.istore_n 2, 1) := by decide +kernel
theorem dX2_rainOne_10 : decode cX2_rainOne 10 = .ok (.aload_n 1, 1) := by decide +kernel
theorem dX2_rainOne_11 : decode cX2_rainOne 11 = .ok (.iload_n 2, 1) := by decide +kernel
theorem dX2_rainOne_12 : decode cX2_rainOne 12 = .ok (.invokevirtual 120, 3) := by decide +kernel
theorem dX2_rainOne_15 : decode cX2_rainOne 15 = .ok (.iload_n 2, 1) := by decide +kernel
theorem dX2_rainOne_16 : decode cX2_rainOne 16 = .ok (.iconst 1, 1) := by decide +kernel
theorem dX2_rainOne_17 : decode cX2_rainOne 17 = .ok (.if_icmp .ne 13, 3) := by decide +kernel
theorem dX2_rainOne_20 : decode cX2_rainOne 20 = .ok (.aload_n 0, 1) := by decide +kernel
theorem dX2_rainOne_21 : decode cX2_rainOne 21 = .ok (.getfield 15, 3) := by decide +kernel
theorem dX2_rainOne_24 : decode cX2_rainOne 24 = .ok (.aload_n 1, 1) := by decide +kernel
theorem dX2_rainOne_25 : decode cX2_rainOne 25 = .ok (.getfield 117, 3) := by decide +kernel
theorem dX2_rainOne_28 : decode cX2_rainOne 28 = .ok (.imul, 1) := by decide +kernel
theorem dX2_rainOne_29 : decode cX2_rainOne 29 = .ok (.ireturn, 1) := by decide +kernel
theorem dX2_rainOne_30 : decode cX2_rainOne 30 = .ok (.iload_n 2, 1) := by decide +kernel
theorem dX2_rainOne_31 : decode cX2_rainOne 31 = .ok (.iconst 2, 1) := by decide +kernel
theorem dX2_rainOne_32 : decode cX2_rainOne 32 = .ok (.if_icmp .ne 16, 3) := by decide +kernel
theorem dX2_rainOne_35 : decode cX2_rainOne 35 = .ok (.aload_n 0, 1) := by decide +kernel
theorem dX2_rainOne_36 : decode cX2_rainOne 36 = .ok (.getfield 19, 3) := by decide +kernel
theorem dX2_rainOne_39 : decode cX2_rainOne 39 = .ok (.ineg, 1) := by decide +kernel
theorem dX2_rainOne_40 : decode cX2_rainOne 40 = .ok (.aload_n 1, 1) := by decide +kernel
theorem dX2_rainOne_41 : decode cX2_rainOne 41 = .ok (.getfield 117, 3) := by decide +kernel
theorem dX2_rainOne_44 : decode cX2_rainOne 44 = .ok (.imul, 1) := by decide +kernel
theorem dX2_rainOne_45 : decode cX2_rainOne 45 = .ok (.goto 4, 3) := by decide +kernel
theorem dX2_rainOne_48 : decode cX2_rainOne 48 = .ok (.iconst 0, 1) := by decide +kernel
theorem dX2_rainOne_49 : decode cX2_rainOne 49 = .ok (.ireturn, 1) := by decide +kernel
theorem dX2_milkAll_0 : decode cX2_milkAll 0 = .ok (.iconst 0, 1) := by decide +kernel
theorem dX2_milkAll_1 : decode cX2_milkAll 1 = .ok (.istore_n 1, 1) := by decide +kernel
theorem dX2_milkAll_2 : decode cX2_milkAll 2 = .ok (.iload_n 1, 1) := by decide +kernel
theorem dX2_milkAll_3 : decode cX2_milkAll 3 = .ok (.aload_n 0, 1) := by decide +kernel
theorem dX2_milkAll_4 : decode cX2_milkAll 4 = .ok (.getfield 25, 3) := by decide +kernel
theorem dX2_milkAll_7 : decode cX2_milkAll 7 = .ok (.if_icmp .ge 28, 3) := by decide +kernel
theorem dX2_milkAll_10 : decode cX2_milkAll 10 = .ok (.aload_n 0, 1) := by decide +kernel
theorem dX2_milkAll_11 : decode cX2_milkAll 11 = .ok (.dup, 1) := by decide +kernel
theorem dX2_milkAll_12 : decode cX2_milkAll 12 = .ok (.getfield 34, 3) := by decide +kernel
theorem dX2_milkAll_15 : decode cX2_milkAll 15 = .ok (.aload_n 0, 1) := by decide +kernel
theorem dX2_milkAll_16 : decode cX2_milkAll 16 = .ok (.aload_n 0, 1) := by decide +kernel
theorem dX2_milkAll_17 : decode cX2_milkAll 17 = .ok (.getfield 46, 3) := by decide +kernel
theorem dX2_milkAll_20 : decode cX2_milkAll 20 = .ok (.iload_n 1, 1) := by decide +kernel
theorem dX2_milkAll_21 : decode cX2_milkAll 21 = .ok (.aaload, 1) := by decide +kernel
theorem dX2_milkAll_22 : decode cX2_milkAll 22 = .ok (.invokevirtual 97, 3) := by decide +kernel
theorem dX2_milkAll_25 : decode cX2_milkAll 25 = .ok (.iadd, 1) := by decide +kernel
theorem dX2_milkAll_26 : decode cX2_milkAll 26 = .ok (.putfield 34, 3) := by decide +kernel
theorem dX2_milkAll_29 : decode cX2_milkAll 29 = .ok (.iinc 1 1, 3) := by decide +kernel
theorem dX2_milkAll_32 : decode cX2_milkAll 32 = .ok (.goto (-30), 3) := by decide +kernel
theorem dX2_milkAll_35 : decode cX2_milkAll 35 = .ok (.return_, 1) := by decide +kernel
theorem dX2_milkOne_0 : decode cX2_milkOne 0 = .ok (.aload_n 1, 1) := by decide +kernel
theorem dX2_milkOne_1 : decode cX2_milkOne 1 = .ok (.getfield 100, 3) := by decide +kernel
theorem dX2_milkOne_4 : decode cX2_milkOne 4 = .ok (.ifCond .ne 23, 3) := by decide +kernel
theorem dX2_milkOne_7 : decode cX2_milkOne 7 = .ok (.aload_n 1, 1) := by decide +kernel
theorem dX2_milkOne_8 : decode cX2_milkOne 8 = .ok (.getfield 124, 3) := by decide +kernel
theorem dX2_milkOne_11 : decode cX2_milkOne 11 = .ok (.ifCond .eq 16, 3) := by decide +kernel
theorem dX2_milkOne_14 : decode cX2_milkOne 14 = .ok (.aload_n 0, 1) := by decide +kernel
theorem dX2_milkOne_15 : decode cX2_milkOne 15 = .ok (.getfield 41, 3) := by decide +kernel
theorem dX2_milkOne_18 : decode cX2_milkOne 18 = .ok (.aload_n 1, 1) := by decide +kernel
theorem dX2_milkOne_19 : decode cX2_milkOne 19 = .ok (.getfield 70, 3) := by decide +kernel
theorem dX2_milkOne_22 : decode cX2_milkOne 22 = .ok (.iaload, 1) := by decide +kernel
theorem dX2_milkOne_23 : decode cX2_milkOne 23 = .ok (.iconst 3, 1) := by decide +kernel
theorem dX2_milkOne_24 : decode cX2_milkOne 24 = .ok (.if_icmp .eq 5, 3) := by decide +kernel
theorem dX2_milkOne_27 : decode cX2_milkOne 27 = .ok (.iconst 0, 1) := by decide +kernel
theorem dX2_milkOne_28 : decode cX2_milkOne 28 = .ok (.ireturn, 1) := by decide +kernel
theorem dX2_milkOne_29 : decode cX2_milkOne 29 = .ok (.aload_n 1, 1) := by decide +kernel
theorem dX2_milkOne_30 : decode cX2_milkOne 30 = .ok (.dup, 1) := by decide +kernel
theorem dX2_milkOne_31 : decode cX2_milkOne 31 = .ok (.getfield 124, 3) := by decide +kernel
theorem dX2_milkOne_34 : decode cX2_milkOne 34 = .ok (.iconst 1, 1) := by decide +kernel
theorem dX2_milkOne_35 : decode cX2_milkOne 35 = .ok (.isub, 1) := by decide +kernel
theorem dX2_milkOne_36 : decode cX2_milkOne 36 = .ok (.putfield 124, 3) := by decide +kernel
theorem dX2_milkOne_39 : decode cX2_milkOne 39 = .ok (.iconst 1, 1) := by decide +kernel
theorem dX2_milkOne_40 : decode cX2_milkOne 40 = .ok (.ireturn, 1) := by decide +kernel
theorem dX3_init_0 : decode cX3_init 0 = .ok (.aload_n 0, 1) := by decide +kernel
theorem dX3_init_1 : decode cX3_init 1 = .ok (.invokespecial 3, 3) := by decide +kernel
theorem dX3_init_4 : decode cX3_init 4 = .ok (.aload_n 0, 1) := by decide +kernel
theorem dX3_init_5 : decode cX3_init 5 = .ok (.iconst 0, 1) := by decide +kernel
theorem dX3_init_6 : decode cX3_init 6 = .ok (.putfield 9, 3) := by decide +kernel
theorem dX3_init_9 : decode cX3_init 9 = .ok (.aload_n 0, 1) := by decide +kernel
theorem dX3_init_10 : decode cX3_init 10 = .ok (.iconst 0, 1) := by decide +kernel
theorem dX3_init_11 : decode cX3_init 11 = .ok (.putfield 15, 3) := by decide +kernel
theorem dX3_init_14 : decode cX3_init 14 = .ok (.aload_n 0, 1) := by decide +kernel
theorem dX3_init_15 : decode cX3_init 15 = .ok (.iconst 0, 1) := by decide +kernel
theorem dX3_init_16 : decode cX3_init 16 = .ok (.putfield 19, 3) := by decide +kernel
theorem dX3_init_19 : decode cX3_init 19 = .ok (.aload_n 0, 1) := by decide +kernel
theorem dX3_init_20 : decode cX3_init 20 = .ok (.bipush 40, 2) := by decide +kernel
theorem dX3_init_22 : decode cX3_init 22 = .ok (.newarray .int, 2) := by decide +kernel
theorem dX3_init_24 : decode cX3_init 24 = .ok (.putfield 22, 3) := by decide +kernel
theorem dX3_init_27 : decode cX3_init 27 = .ok (.return_, 1) := by decide +kernel
theorem dX3_begin_0 : decode cX3_begin 0 = .ok (.aload_n 0, 1) := by decide +kernel
theorem dX3_begin_1 : decode cX3_begin 1 = .ok (.iconst 1, 1) := by decide +kernel
theorem dX3_begin_2 : decode cX3_begin 2 = .ok (.putfield 9, 3) := by decide +kernel
theorem dX3_begin_5 : decode cX3_begin 5 = .ok (.aload_n 0, 1) := by decide +kernel
theorem dX3_begin_6 : decode cX3_begin 6 = .ok (.iload_n 1, 1) := by decide +kernel
theorem dX3_begin_7 : decode cX3_begin 7 = .ok (.putfield 15, 3) := by decide +kernel
theorem dX3_begin_10 : decode cX3_begin 10 = .ok (.aload_n 0, 1) := by decide +kernel
theorem dX3_begin_11 : decode cX3_begin 11 = .ok (.iload_n 2, 1) := by decide +kernel
theorem dX3_begin_12 : decode cX3_begin 12 = .ok (.putfield 19, 3) := by decide +kernel
theorem dX3_begin_15 : decode cX3_begin 15 = .ok (.iconst 0, 1) := by decide +kernel
theorem dX3_begin_16 : decode cX3_begin 16 = .ok (.istore_n 3, 1) := by decide +kernel
theorem dX3_begin_17 : decode cX3_begin 17 = .ok (.iload_n 3, 1) := by decide +kernel
theorem dX3_begin_18 : decode cX3_begin 18 = .ok (.iload_n 2, 1) := by decide +kernel
theorem dX3_begin_19 : decode cX3_begin 19 = .ok (.if_icmp .ge 16, 3) := by decide +kernel
theorem dX3_begin_22 : decode cX3_begin 22 = .ok (.aload_n 0, 1) := by decide +kernel
theorem dX3_begin_23 : decode cX3_begin 23 = .ok (.getfield 22, 3) := by decide +kernel
theorem dX3_begin_26 : decode cX3_begin 26 = .ok (.iload_n 3, 1) := by decide +kernel
theorem dX3_begin_27 : decode cX3_begin 27 = .ok (.iconst 0, 1) := by decide +kernel
theorem dX3_begin_28 : decode cX3_begin 28 = .ok (.iastore, 1) := by decide +kernel
theorem dX3_begin_29 : decode cX3_begin 29 = .ok (.iinc 3 1, 3) := by decide +kernel
theorem dX3_begin_32 : decode cX3_begin 32 = .ok (.goto (-15), 3) := by decide +kernel
theorem dX3_begin_35 : decode cX3_begin 35 = .ok (.return_, 1) := by decide +kernel
theorem dX3_has_0 : decode cX3_has 0 = .ok (.iload_n 1, 1) := by decide +kernel
theorem dX3_has_1 : decode cX3_has 1 = .ok (.ifCond .lt 29, 3) := by decide +kernel
theorem dX3_has_4 : decode cX3_has 4 = .ok (.iload_n 2, 1) := by decide +kernel
theorem dX3_has_5 : decode cX3_has 5 = .ok (.ifCond .lt 25, 3) := by decide +kernel
theorem dX3_has_8 : decode cX3_has 8 = .ok (.iload_n 2, 1) := by decide +kernel
theorem dX3_has_9 : decode cX3_has 9 = .ok (.aload_n 0, 1) := by decide +kernel
theorem dX3_has_10 : decode cX3_has 10 = .ok (.getfield 19, 3) := by decide +kernel
theorem dX3_has_13 : decode cX3_has 13 = .ok (.if_icmp .gt 17, 3) := by decide +kernel
theorem dX3_has_16 : decode cX3_has 16 = .ok (.iload_n 1, 1) := by decide +kernel
theorem dX3_has_17 : decode cX3_has 17 = .ok (.aload_n 0, 1) := by decide +kernel
theorem dX3_has_18 : decode cX3_has 18 = .ok (.getfield 19, 3) := by decide +kernel
theorem dX3_has_21 : decode cX3_has 21 = .ok (.iload_n 2, 1) := by decide +kernel
theorem dX3_has_22 : decode cX3_has 22 = .ok (.isub, 1) := by decide +kernel
theorem dX3_has_23 : decode cX3_has 23 = .ok (.if_icmp .gt 7, 3) := by decide +kernel
theorem dX3_has_26 : decode cX3_has 26 = .ok (.iconst 1, 1) := by decide +kernel
theorem dX3_has_27 : decode cX3_has 27 = .ok (.goto 4, 3) := by decide +kernel
theorem dX3_has_30 : decode cX3_has 30 = .ok (.iconst 0, 1) := by decide +kernel
theorem dX3_has_31 : decode cX3_has 31 = .ok (.ireturn, 1) := by decide +kernel
theorem dX3_lack_0 : decode cX3_lack 0 = .ok (.aload_n 0, 1) := by decide +kernel
theorem dX3_lack_1 : decode cX3_lack 1 = .ok (.getfield 9, 3) := by decide +kernel
theorem dX3_lack_4 : decode cX3_lack 4 = .ok (.ifCond .ne 5, 3) := by decide +kernel
theorem dX3_lack_7 : decode cX3_lack 7 = .ok (.iconst 1, 1) := by decide +kernel
theorem dX3_lack_8 : decode cX3_lack 8 = .ok (.ireturn, 1) := by decide +kernel
theorem dX3_lack_9 : decode cX3_lack 9 = .ok (.aload_n 0, 1) := by decide +kernel
theorem dX3_lack_10 : decode cX3_lack 10 = .ok (.iload_n 1, 1) := by decide +kernel
theorem dX3_lack_11 : decode cX3_lack 11 = .ok (.iload_n 2, 1) := by decide +kernel
theorem dX3_lack_12 : decode cX3_lack 12 = .ok (.invokevirtual 26, 3) := by decide +kernel
theorem dX3_lack_15 : decode cX3_lack 15 = .ok (.ifCond .eq 7, 3) := by decide +kernel
theorem dX3_lack_18 : decode cX3_lack 18 = .ok (.iconst 0, 1) := by decide +kernel
theorem dX3_lack_19 : decode cX3_lack 19 = .ok (.goto 4, 3) := by decide +kernel
theorem dX3_lack_22 : decode cX3_lack 22 = .ok (.iconst 2, 1) := by decide +kernel
theorem dX3_lack_23 : decode cX3_lack 23 = .ok (.ireturn, 1) := by decide +kernel
theorem dX3_put_0 : decode cX3_put 0 = .ok (.aload_n 0, 1) := by decide +kernel
theorem dX3_put_1 : decode cX3_put 1 = .ok (.getfield 22, 3) := by decide +kernel
theorem dX3_put_4 : decode cX3_put 4 = .ok (.iload_n 1, 1) := by decide +kernel
theorem dX3_put_5 : decode cX3_put 5 = .ok (.aload_n 0, 1) := by decide +kernel
theorem dX3_put_6 : decode cX3_put 6 = .ok (.getfield 15, 3) := by decide +kernel
theorem dX3_put_9 : decode cX3_put 9 = .ok (.ifCond .ne 8, 3) := by decide +kernel
theorem dX3_put_12 : decode cX3_put 12 = .ok (.iload_n 2, 1) := by decide +kernel
theorem dX3_put_13 : decode cX3_put 13 = .ok (.i2b, 1) := by decide +kernel
theorem dX3_put_14 : decode cX3_put 14 = .ok (.goto 17, 3) := by decide +kernel
theorem dX3_put_17 : decode cX3_put 17 = .ok (.aload_n 0, 1) := by decide +kernel
theorem dX3_put_18 : decode cX3_put 18 = .ok (.getfield 15, 3) := by decide +kernel
theorem dX3_put_21 : decode cX3_put 21 = .ok (.iconst 1, 1) := by decide +kernel
theorem dX3_put_22 : decode cX3_put 22 = .ok (.if_icmp .ne 8, 3) := by decide +kernel
theorem dX3_put_25 : decode cX3_put 25 = .ok (.iload_n 2, 1) := by decide +kernel
theorem dX3_put_26 : decode cX3_put 26 = .ok (.i2s, 1) := by decide +kernel
theorem dX3_put_27 : decode cX3_put 27 = .ok (.goto 4, 3) := by decide +kernel
theorem dX3_put_30 : decode cX3_put 30 = .ok (.iload_n 2, 1) := by decide +kernel
theorem dX3_put_31 : decode cX3_put 31 = .ok (.iastore, 1) := by decide +kernel
theorem dX3_put_32 : decode cX3_put 32 = .ok (.aload_n 0, 1) := by decide +kernel
theorem dX3_put_33 : decode cX3_put 33 = .ok (.getfield 22, 3) := by decide +kernel
theorem dX3_put_36 : decode cX3_put 36 = .ok (.iload_n 1, 1) := by decide +kernel
theorem dX3_put_37 : decode cX3_put 37 = .ok (.iaload, 1) := by decide +kernel
theorem dX3_put_38 : decode cX3_put 38 = .ok (.ireturn, 1) := by decide +kernel
theorem dX4_init_0 : decode cX4_init 0 = .ok (.aload_n 0, 1) := by decide +kernel
theorem dX4_init_1 : decode cX4_init 1 = .ok (.invokespecial 3, 3) := by decide +kernel
theorem dX4_init_4 : decode cX4_init 4 = .ok (.aload_n 0, 1) := by decide +kernel
theorem dX4_init_5 : decode cX4_init 5 = .ok (.bipush 120, 2) := by decide +kernel
theorem dX4_init_7 : decode cX4_init 7 = .ok (.newarray .int, 2) := by decide +kernel
theorem dX4_init_9 : decode cX4_init 9 = .ok (.putfield 9, 3) := by decide +kernel
theorem dX4_init_12 : decode cX4_init 12 = .ok (.aload_n 0, 1) := by decide +kernel
theorem dX4_init_13 : decode cX4_init 13 = .ok (.iconst 0, 1) := by decide +kernel
theorem dX4_init_14 : decode cX4_init 14 = .ok (.putfield 15, 3) := by decide +kernel
theorem dX4_init_17 : decode cX4_init 17 = .ok (.aload_n 0, 1) := by decide +kernel
theorem dX4_init_18 : decode cX4_init 18 = .ok (.iconst 0, 1) := by decide +kernel
theorem dX4_init_19 : decode cX4_init 19 = .ok (.putfield 19, 3) := by decide +kernel
theorem dX4_init_22 : decode cX4_init 22 = .ok (.aload_n 0, 1) := by decide +kernel
theorem dX4_init_23 : decode cX4_init 23 = .ok (.iconst 0, 1) := by decide +kernel
theorem dX4_init_24 : decode cX4_init 24 = .ok (.putfield 22, 3) := by decide +kernel
theorem dX4_init_27 : decode cX4_init 27 = .ok (.aload_n 0, 1) := by decide +kernel
theorem dX4_init_28 : decode cX4_init 28 = .ok (.bipush (-3), 2) := by decide +kernel
theorem dX4_init_30 : decode cX4_init 30 = .ok (.putfield 25, 3) := by decide +kernel
theorem dX4_init_33 : decode cX4_init 33 = .ok (.aload_n 0, 1) := by decide +kernel
theorem dX4_init_34 : decode cX4_init 34 = .ok (.iconst 0, 1) := by decide +kernel
theorem dX4_init_35 : decode cX4_init 35 = .ok (.putfield 28, 3) := by decide +kernel
theorem dX4_init_38 : decode cX4_init 38 = .ok (.aload_n 0, 1) := by decide +kernel
theorem dX4_init_39 : decode cX4_init 39 = .ok (.iconst 0, 1) := by decide +kernel
theorem dX4_init_40 : decode cX4_init 40 = .ok (.putfield 31, 3) := by decide +kernel
theorem dX4_init_43 : decode cX4_init 43 = .ok (.return_, 1) := by decide +kernel
theorem dX4_add_0 : decode cX4_add 0 = .ok (.aload_n 0, 1) := by decide +kernel
theorem dX4_add_1 : decode cX4_add 1 = .ok (.getfield 15, 3) := by decide +kernel
theorem dX4_add_4 : decode cX4_add 4 = .ok (.bipush 120, 2) := by decide +kernel
theorem dX4_add_6 : decode cX4_add 6 = .ok (.if_icmp .lt 5, 3) := by decide +kernel
theorem dX4_add_9 : decode cX4_add 9 = .ok (.iconst 0, 1) := by decide +kernel
theorem dX4_add_10 : decode cX4_add 10 = .ok (.ireturn, 1) := by decide +kernel
theorem dX4_add_11 : decode cX4_add 11 = .ok (.aload_n 0, 1) := by decide +kernel
theorem dX4_add_12 : decode cX4_add 12 = .ok (.getfield 9, 3) := by decide +kernel
theorem dX4_add_15 : decode cX4_add 15 = .ok (.aload_n 0, 1) := by decide +kernel
theorem dX4_add_16 : decode cX4_add 16 = .ok (.getfield 15, 3) := by decide +kernel
theorem dX4_add_19 : decode cX4_add 19 = .ok (.iload_n 1, 1) := by decide +kernel
theorem dX4_add_20 : decode cX4_add 20 = .ok (.iastore, 1) := by decide +kernel
theorem dX4_add_21 : decode cX4_add 21 = .ok (.aload_n 0, 1) := by decide +kernel
theorem dX4_add_22 : decode cX4_add 22 = .ok (.dup, 1) := by decide +kernel
theorem dX4_add_23 : decode cX4_add 23 = .ok (.getfield 15, 3) := by decide +kernel
theorem dX4_add_26 : decode cX4_add 26 = .ok (.iconst 1, 1) := by decide +kernel
theorem dX4_add_27 : decode cX4_add 27 = .ok (.iadd, 1) := by decide +kernel
theorem dX4_add_28 : decode cX4_add 28 = .ok (.putfield 15, 3) := by decide +kernel
theorem dX4_add_31 : decode cX4_add 31 = .ok (.iconst 1, 1) := by decide +kernel
theorem dX4_add_32 : decode cX4_add 32 = .ok (.ireturn, 1) := by decide +kernel
theorem dX4_read_0 : decode cX4_read 0 = .ok (.aload_n 0, 1) := by decide +kernel
theorem dX4_read_1 : decode cX4_read 1 = .ok (.iconst 0, 1) := by decide +kernel
theorem dX4_read_2 : decode cX4_read 2 = .ok (.putfield 31, 3) := by decide +kernel
theorem dX4_read_5 : decode cX4_read 5 = .ok (.aload_n 0, 1) := by decide +kernel
theorem dX4_read_6 : decode cX4_read 6 = .ok (.iconst 0, 1) := by decide +kernel
theorem dX4_read_7 : decode cX4_read 7 = .ok (.putfield 22, 3) := by decide +kernel
theorem dX4_read_10 : decode cX4_read 10 = .ok (.aload_n 0, 1) := by decide +kernel
theorem dX4_read_11 : decode cX4_read 11 = .ok (.invokevirtual 34, 3) := by decide +kernel
theorem dX4_read_14 : decode cX4_read 14 = .ok (.aload_n 1, 1) := by decide +kernel
theorem dX4_read_15 : decode cX4_read 15 = .ok (.invokevirtual 37, 3) := by decide +kernel
theorem dX4_read_18 : decode cX4_read 18 = .ok (.aload_n 0, 1) := by decide +kernel
theorem dX4_read_19 : decode cX4_read 19 = .ok (.aload_n 1, 1) := by decide +kernel
theorem dX4_read_20 : decode cX4_read 20 = .ok (.invokevirtual 42, 3) := by decide +kernel
theorem dX4_read_23 : decode cX4_read 23 = .ok (.aload_n 0, 1) := by decide +kernel
theorem dX4_read_24 : decode cX4_read 24 = .ok (.aload_n 1, 1) := by decide +kernel
theorem dX4_read_25 : decode cX4_read 25 = .ok (.bipush 108, 2) := by decide +kernel
theorem dX4_read_27 : decode cX4_read 27 = .ok (.iconst 0, 1) := by decide +kernel
theorem dX4_read_28 : decode cX4_read 28 = .ok (.invokevirtual 46, 3) := by decide +kernel
theorem dX4_read_31 : decode cX4_read 31 = .ok (.aload_n 0, 1) := by decide +kernel
theorem dX4_read_32 : decode cX4_read 32 = .ok (.aload_n 1, 1) := by decide +kernel
theorem dX4_read_33 : decode cX4_read 33 = .ok (.bipush 117, 2) := by decide +kernel
theorem dX4_read_35 : decode cX4_read 35 = .ok (.iconst 1, 1) := by decide +kernel
theorem dX4_read_36 : decode cX4_read 36 = .ok (.invokevirtual 46, 3) := by decide +kernel
theorem dX4_read_39 : decode cX4_read 39 = .ok (.aload_n 0, 1) := by decide +kernel
theorem dX4_read_40 : decode cX4_read 40 = .ok (.aload_n 1, 1) := by decide +kernel
theorem dX4_read_41 : decode cX4_read 41 = .ok (.invokevirtual 50, 3) := by decide +kernel
theorem dX4_read_44 : decode cX4_read 44 = .ok (.aload_n 0, 1) := by decide +kernel
theorem dX4_read_45 : decode cX4_read 45 = .ok (.aload_n 1, 1) := by decide +kernel
theorem dX4_read_46 : decode cX4_read 46 = .ok (.invokevirtual 53, 3) := by decide +kernel
theorem dX4_read_49 : decode cX4_read 49 = .ok (.aload_n 0, 1) := by decide +kernel
theorem dX4_read_50 : decode cX4_read 50 = .ok (.getfield 31, 3) := by decide +kernel
theorem dX4_read_53 : decode cX4_read 53 = .ok (.ifCond .ne 17, 3) := by decide +kernel
theorem dX4_read_56 : decode cX4_read 56 = .ok (.aload_n 0, 1) := by decide +kernel
theorem dX4_read_57 : decode cX4_read 57 = .ok (.getfield 25, 3) := by decide +kernel
theorem dX4_read_60 : decode cX4_read 60 = .ok (.bipush (-3), 2) := by decide +kernel
theorem dX4_read_62 : decode cX4_read 62 = .ok (.if_icmp .eq 8, 3) := by decide +kernel
theorem dX4_read_65 : decode cX4_read 65 = .ok (.aload_n 0, 1) := by decide +kernel
theorem dX4_read_66 : decode cX4_read 66 = .ok (.iconst 1, 1) := by decide +kernel
theorem dX4_read_67 : decode cX4_read 67 = .ok (.putfield 31, 3) := by decide +kernel
theorem dX4_read_70 : decode cX4_read 70 = .ok (.return_, 1) := by decide +kernel
theorem dX4_readLaw_0 : decode cX4_readLaw 0 = .ok (.aload_n 0, 1) := by decide +kernel
theorem dX4_readLaw_1 : decode cX4_readLaw 1 = .ok (.bipush 107, 2) := by decide +kernel
theorem dX4_readLaw_3 : decode cX4_readLaw 3 = .ok (.invokevirtual 56, 3) := by decide +kernel
theorem dX4_readLaw_6 : decode cX4_readLaw 6 = .ok (.aload_n 1, 1) := by decide +kernel
theorem dX4_readLaw_7 : decode cX4_readLaw 7 = .ok (.aload_n 0, 1) := by decide +kernel
theorem dX4_readLaw_8 : decode cX4_readLaw 8 = .ok (.iconst 1, 1) := by decide +kernel
theorem dX4_readLaw_9 : decode cX4_readLaw 9 = .ok (.bipush 9, 2) := by decide +kernel
theorem dX4_readLaw_11 : decode cX4_readLaw 11 = .ok (.iconst 0, 1) := by decide +kernel
theorem dX4_readLaw_12 : decode cX4_readLaw 12 = .ok (.invokevirtual 60, 3) := by decide +kernel
theorem dX4_readLaw_15 : decode cX4_readLaw 15 = .ok (.putfield 64, 3) := by decide +kernel
theorem dX4_readLaw_18 : decode cX4_readLaw 18 = .ok (.aload_n 0, 1) := by decide +kernel
theorem dX4_readLaw_19 : decode cX4_readLaw 19 = .ok (.bipush 44, 2) := by decide +kernel
theorem dX4_readLaw_21 : decode cX4_readLaw 21 = .ok (.invokevirtual 56, 3) := by decide +kernel
theorem dX4_readLaw_24 : decode cX4_readLaw 24 = .ok (.aload_n 1, 1) := by decide +kernel
theorem dX4_readLaw_25 : decode cX4_readLaw 25 = .ok (.aload_n 0, 1) := by decide +kernel
theorem dX4_readLaw_26 : decode cX4_readLaw 26 = .ok (.iconst 0, 1) := by decide +kernel
theorem dX4_readLaw_27 : decode cX4_readLaw 27 = .ok (.bipush 9, 2) := by decide +kernel
theorem dX4_readLaw_29 : decode cX4_readLaw 29 = .ok (.iconst 0, 1) := by decide +kernel
theorem dX4_readLaw_30 : decode cX4_readLaw 30 = .ok (.invokevirtual 60, 3) := by decide +kernel
theorem dX4_readLaw_33 : decode cX4_readLaw 33 = .ok (.putfield 67, 3) := by decide +kernel
theorem dX4_readLaw_36 : decode cX4_readLaw 36 = .ok (.aload_n 0, 1) := by decide +kernel
theorem dX4_readLaw_37 : decode cX4_readLaw 37 = .ok (.bipush 59, 2) := by decide +kernel
theorem dX4_readLaw_39 : decode cX4_readLaw 39 = .ok (.invokevirtual 56, 3) := by decide +kernel
theorem dX4_readLaw_42 : decode cX4_readLaw 42 = .ok (.return_, 1) := by decide +kernel
theorem dX4_readWind_0 : decode cX4_readWind 0 = .ok (.aload_n 0, 1) := by decide +kernel
theorem dX4_readWind_1 : decode cX4_readWind 1 = .ok (.iload_n 2, 1) := by decide +kernel
theorem dX4_readWind_2 : decode cX4_readWind 2 = .ok (.invokevirtual 56, 3) := by decide +kernel
theorem dX4_readWind_5 : decode cX4_readWind 5 = .ok (.iconst 0, 1) := by decide +kernel
theorem dX4_readWind_6 : decode cX4_readWind 6 = .ok (.istore 4, 2) := by decide +kernel
theorem dX4_readWind_8 : decode cX4_readWind 8 = .ok (.iload 4, 2) := by decide +kernel
theorem dX4_readWind_10 : decode cX4_readWind 10 = .ok (.bipush 6, 2) := by decide +kernel
theorem dX4_readWind_12 : decode cX4_readWind 12 = .ok (.if_icmp .ge 25, 3) := by decide +kernel
theorem dX4_readWind_15 : decode cX4_readWind 15 = .ok (.aload_n 1, 1) := by decide +kernel
theorem dX4_readWind_16 : decode cX4_readWind 16 = .ok (.getfield 70, 3) := by decide +kernel
theorem dX4_readWind_19 : decode cX4_readWind 19 = .ok (.iload_n 3, 1) := by decide +kernel
theorem dX4_readWind_20 : decode cX4_readWind 20 = .ok (.bipush 6, 2) := by decide +kernel
theorem dX4_readWind_22 : decode cX4_readWind 22 = .ok (.imul, 1) := by decide +kernel
theorem dX4_readWind_23 : decode cX4_readWind 23 = .ok (.iload 4, 2) := by decide +kernel
theorem dX4_readWind_25 : decode cX4_readWind 25 = .ok (.iadd, 1) := by decide +kernel
theorem dX4_readWind_26 : decode cX4_readWind 26 = .ok (.aload_n 0, 1) := by decide +kernel
theorem dX4_readWind_27 : decode cX4_readWind 27 = .ok (.invokevirtual 73, 3) := by decide +kernel
theorem dX4_readWind_30 : decode cX4_readWind 30 = .ok (.iastore, 1) := by decide +kernel
theorem dX4_readWind_31 : decode cX4_readWind 31 = .ok (.iinc 4 1, 3) := by decide +kernel
theorem dX4_readWind_34 : decode cX4_readWind 34 = .ok (.goto (-26), 3) := by decide +kernel
theorem dX4_readWind_37 : decode cX4_readWind 37 = .ok (.aload_n 0, 1) := by decide +kernel
theorem dX4_readWind_38 : decode cX4_readWind 38 = .ok (.bipush 59, 2) := by decide +kernel
theorem dX4_readWind_40 : decode cX4_readWind 40 = .ok (.invokevirtual 56, 3) := by decide +kernel
theorem dX4_readWind_43 : decode cX4_readWind 43 = .ok (.return_, 1) := by decide +kernel
theorem dX4_readParishes_0 : decode cX4_readParishes 0 = .ok (.iconst 0, 1) := by decide +kernel
theorem dX4_readParishes_1 : decode cX4_readParishes 1 = .ok (.istore_n 2, 1) := by decide +kernel
theorem dX4_readParishes_2 : decode cX4_readParishes 2 = .ok (.iconst 0, 1) := by decide +kernel
theorem dX4_readParishes_3 : decode cX4_readParishes 3 = .ok (.istore_n 3, 1) := by decide +kernel
theorem dX4_readParishes_4 : decode cX4_readParishes 4 = .ok (.iload_n 3, 1) := by decide +kernel
theorem dX4_readParishes_5 : decode cX4_readParishes 5 = .ok (.bipush 8, 2) := by decide +kernel
theorem dX4_readParishes_7 : decode cX4_readParishes 7 = .ok (.if_icmp .gt 90, 3) := by decide +kernel
theorem dX4_readParishes_10 : decode cX4_readParishes 10 = .ok (.aload_n 0, 1) := by decide +kernel
theorem dX4_readParishes_11 : decode cX4_readParishes 11 = .ok (.getfield 31, 3) := by decide +kernel
theorem dX4_readParishes_14 : decode cX4_readParishes 14 = .ok (.ifCond .ne 83, 3) := by decide +kernel
theorem dX4_readParishes_17 : decode cX4_readParishes 17 = .ok (.aload_n 0, 1) := by decide +kernel
theorem dX4_readParishes_18 : decode cX4_readParishes 18 = .ok (.getfield 25, 3) := by decide +kernel
theorem dX4_readParishes_21 : decode cX4_readParishes 21 = .ok (.invokestatic 77, 3) := by decide +kernel
theorem dX4_readParishes_24 : decode cX4_readParishes 24 = .ok (.ifCond .eq 73, 3) := by decide +kernel
theorem dX4_readParishes_27 : decode cX4_readParishes 27 = .ok (.iload_n 3, 1) := by decide +kernel
theorem dX4_readParishes_28 : decode cX4_readParishes 28 = .ok (.bipush 8, 2) := by decide +kernel
theorem dX4_readParishes_30 : decode cX4_readParishes 30 = .ok (.if_icmp .ne 9, 3) := by decide +kernel
theorem dX4_readParishes_33 : decode cX4_readParishes 33 = .ok (.aload_n 0, 1) := by decide +kernel
theorem dX4_readParishes_34 : decode cX4_readParishes 34 = .ok (.iconst 3, 1) := by decide +kernel
theorem dX4_readParishes_35 : decode cX4_readParishes 35 = .ok (.putfield 31, 3) := by decide +kernel
theorem dX4_readParishes_38 : decode cX4_readParishes 38 = .ok (.return_, 1) := by decide +kernel
theorem dX4_readParishes_39 : decode cX4_readParishes 39 = .ok (.aload_n 0, 1) := by decide +kernel
theorem dX4_readParishes_40 : decode cX4_readParishes 40 = .ok (.getfield 25, 3) := by decide +kernel
theorem dX4_readParishes_43 : decode cX4_readParishes 43 = .ok (.invokestatic 77, 3) := by decide +kernel
theorem dX4_readParishes_46 : decode cX4_readParishes 46 = .ok (.istore 4, 2) := by decide +kernel
theorem dX4_readParishes_48 : decode cX4_readParishes 48 = .ok (.aload_n 0, 1) := by decide +kernel
theorem dX4_readParishes_49 : decode cX4_readParishes 49 = .ok (.invokevirtual 34, 3) := by decide +kernel
theorem dX4_readParishes_52 : decode cX4_readParishes 52 = .ok (.aload_n 0, 1) := by decide +kernel
theorem dX4_readParishes_53 : decode cX4_readParishes 53 = .ok (.iconst 0, 1) := by decide +kernel
theorem dX4_readParishes_54 : decode cX4_readParishes 54 = .ok (.bipush 31, 2) := by decide +kernel
theorem dX4_readParishes_56 : decode cX4_readParishes 56 = .ok (.iload_n 2, 1) := by decide +kernel
theorem dX4_readParishes_57 : decode cX4_readParishes 57 = .ok (.invokevirtual 60, 3) := by decide +kernel
theorem dX4_readParishes_60 : decode cX4_readParishes 60 = .ok (.istore 5, 2) := by decide +kernel
theorem dX4_readParishes_62 : decode cX4_readParishes 62 = .ok (.aload_n 0, 1) := by decide +kernel
theorem dX4_readParishes_63 : decode cX4_readParishes 63 = .ok (.bipush 59, 2) := by decide +kernel
theorem dX4_readParishes_65 : decode cX4_readParishes 65 = .ok (.invokevirtual 56, 3) := by decide +kernel
theorem dX4_readParishes_68 : decode cX4_readParishes 68 = .ok (.aload_n 1, 1) := by decide +kernel
theorem dX4_readParishes_69 : decode cX4_readParishes 69 = .ok (.getfield 81, 3) := by decide +kernel
theorem dX4_readParishes_72 : decode cX4_readParishes 72 = .ok (.iload 5, 2) := by decide +kernel
theorem dX4_readParishes_74 : decode cX4_readParishes 74 = .ok (.iload 4, 2) := by decide +kernel
theorem dX4_readParishes_76 : decode cX4_readParishes 76 = .ok (.iastore, 1) := by decide +kernel
theorem dX4_readParishes_77 : decode cX4_readParishes 77 = .ok (.aload_n 1, 1) := by decide +kernel
theorem dX4_readParishes_78 : decode cX4_readParishes 78 = .ok (.iload_n 3, 1) := by decide +kernel
theorem dX4_readParishes_79 : decode cX4_readParishes 79 = .ok (.iconst 1, 1) := by decide +kernel
theorem dX4_readParishes_80 : decode cX4_readParishes 80 = .ok (.iadd, 1) := by decide +kernel
theorem dX4_readParishes_81 : decode cX4_readParishes 81 = .ok (.putfield 84, 3) := by decide +kernel
theorem dX4_readParishes_84 : decode cX4_readParishes 84 = .ok (.iload_n 2, 1) := by decide +kernel
theorem dX4_readParishes_85 : decode cX4_readParishes 85 = .ok (.iconst 1, 1) := by decide +kernel
theorem dX4_readParishes_86 : decode cX4_readParishes 86 = .ok (.iload 5, 2) := by decide +kernel
theorem dX4_readParishes_88 : decode cX4_readParishes 88 = .ok (.ishl, 1) := by decide +kernel
theorem dX4_readParishes_89 : decode cX4_readParishes 89 = .ok (.ior, 1) := by decide +kernel
theorem dX4_readParishes_90 : decode cX4_readParishes 90 = .ok (.istore_n 2, 1) := by decide +kernel
theorem dX4_readParishes_91 : decode cX4_readParishes 91 = .ok (.iinc 3 1, 3) := by decide +kernel
theorem dX4_readParishes_94 : decode cX4_readParishes 94 = .ok (.goto (-90), 3) := by decide +kernel
theorem dX4_readParishes_97 : decode cX4_readParishes 97 = .ok (.return_, 1) := by decide +kernel
theorem dX4_readClouds_0 : decode cX4_readClouds 0 = .ok (.iconst 0, 1) := by decide +kernel
theorem dX4_readClouds_1 : decode cX4_readClouds 1 = .ok (.istore_n 2, 1) := by decide +kernel
theorem dX4_readClouds_2 : decode cX4_readClouds 2 = .ok (.iconst 0, 1) := by decide +kernel
theorem dX4_readClouds_3 : decode cX4_readClouds 3 = .ok (.istore_n 3, 1) := by decide +kernel
theorem dX4_readClouds_4 : decode cX4_readClouds 4 = .ok (.iload_n 3, 1) := by decide +kernel
theorem dX4_readClouds_5 : decode cX4_readClouds 5 = .ok (.iconst 5, 1) := by decide +kernel
theorem dX4_readClouds_6 : decode cX4_readClouds 6 = .ok (.if_icmp .gt 111, 3) := by decide +kernel
theorem dX4_readClouds_9 : decode cX4_readClouds 9 = .ok (.aload_n 0, 1) := by decide +kernel
theorem dX4_readClouds_10 : decode cX4_readClouds 10 = .ok (.getfield 31, 3) := by decide +kernel
theorem dX4_readClouds_13 : decode cX4_readClouds 13 = .ok (.ifCond .ne 104, 3) := by decide +kernel
theorem dX4_readClouds_16 : decode cX4_readClouds 16 = .ok (.aload_n 0, 1) := by decide +kernel
theorem dX4_readClouds_17 : decode cX4_readClouds 17 = .ok (.getfield 25, 3) := by decide +kernel
theorem dX4_readClouds_20 : decode cX4_readClouds 20 = .ok (.invokestatic 87, 3) := by decide +kernel
theorem dX4_readClouds_23 : decode cX4_readClouds 23 = .ok (.ifCond .eq 94, 3) := by decide +kernel
theorem dX4_readClouds_26 : decode cX4_readClouds 26 = .ok (.iload_n 3, 1) := by decide +kernel
theorem dX4_readClouds_27 : decode cX4_readClouds 27 = .ok (.iconst 5, 1) := by decide +kernel
theorem dX4_readClouds_28 : decode cX4_readClouds 28 = .ok (.if_icmp .ne 9, 3) := by decide +kernel
theorem dX4_readClouds_31 : decode cX4_readClouds 31 = .ok (.aload_n 0, 1) := by decide +kernel
theorem dX4_readClouds_32 : decode cX4_readClouds 32 = .ok (.iconst 3, 1) := by decide +kernel
theorem dX4_readClouds_33 : decode cX4_readClouds 33 = .ok (.putfield 31, 3) := by decide +kernel
theorem dX4_readClouds_36 : decode cX4_readClouds 36 = .ok (.return_, 1) := by decide +kernel
theorem dX4_readClouds_37 : decode cX4_readClouds 37 = .ok (.aload_n 0, 1) := by decide +kernel
theorem dX4_readClouds_38 : decode cX4_readClouds 38 = .ok (.getfield 25, 3) := by decide +kernel
theorem dX4_readClouds_41 : decode cX4_readClouds 41 = .ok (.invokestatic 87, 3) := by decide +kernel
theorem dX4_readClouds_44 : decode cX4_readClouds 44 = .ok (.istore 4, 2) := by decide +kernel
theorem dX4_readClouds_46 : decode cX4_readClouds 46 = .ok (.aload_n 0, 1) := by decide +kernel
theorem dX4_readClouds_47 : decode cX4_readClouds 47 = .ok (.invokevirtual 34, 3) := by decide +kernel
theorem dX4_readClouds_50 : decode cX4_readClouds 50 = .ok (.aload_n 0, 1) := by decide +kernel
theorem dX4_readClouds_51 : decode cX4_readClouds 51 = .ok (.iconst 0, 1) := by decide +kernel
theorem dX4_readClouds_52 : decode cX4_readClouds 52 = .ok (.bipush 31, 2) := by decide +kernel
theorem dX4_readClouds_54 : decode cX4_readClouds 54 = .ok (.iload_n 2, 1) := by decide +kernel
theorem dX4_readClouds_55 : decode cX4_readClouds 55 = .ok (.invokevirtual 60, 3) := by decide +kernel
theorem dX4_readClouds_58 : decode cX4_readClouds 58 = .ok (.istore 5, 2) := by decide +kernel
theorem dX4_readClouds_60 : decode cX4_readClouds 60 = .ok (.aload_n 0, 1) := by decide +kernel
theorem dX4_readClouds_61 : decode cX4_readClouds 61 = .ok (.bipush 44, 2) := by decide +kernel
theorem dX4_readClouds_63 : decode cX4_readClouds 63 = .ok (.invokevirtual 56, 3) := by decide +kernel
theorem dX4_readClouds_66 : decode cX4_readClouds 66 = .ok (.aload_n 0, 1) := by decide +kernel
theorem dX4_readClouds_67 : decode cX4_readClouds 67 = .ok (.iconst 0, 1) := by decide +kernel
theorem dX4_readClouds_68 : decode cX4_readClouds 68 = .ok (.bipush 20, 2) := by decide +kernel
theorem dX4_readClouds_70 : decode cX4_readClouds 70 = .ok (.iconst 0, 1) := by decide +kernel
theorem dX4_readClouds_71 : decode cX4_readClouds 71 = .ok (.invokevirtual 60, 3) := by decide +kernel
theorem dX4_readClouds_74 : decode cX4_readClouds 74 = .ok (.istore 6, 2) := by decide +kernel
theorem dX4_readClouds_76 : decode cX4_readClouds 76 = .ok (.aload_n 0, 1) := by decide +kernel
theorem dX4_readClouds_77 : decode cX4_readClouds 77 = .ok (.bipush 59, 2) := by decide +kernel
theorem dX4_readClouds_79 : decode cX4_readClouds 79 = .ok (.invokevirtual 56, 3) := by decide +kernel
theorem dX4_readClouds_82 : decode cX4_readClouds 82 = .ok (.aload_n 1, 1) := by decide +kernel
theorem dX4_readClouds_83 : decode cX4_readClouds 83 = .ok (.getfield 90, 3) := by decide +kernel
theorem dX4_readClouds_86 : decode cX4_readClouds 86 = .ok (.iload_n 3, 1) := by decide +kernel
theorem dX4_readClouds_87 : decode cX4_readClouds 87 = .ok (.aaload, 1) := by decide +kernel
theorem dX4_readClouds_88 : decode cX4_readClouds 88 = .ok (.iload 4, 2) := by decide +kernel
theorem dX4_readClouds_90 : decode cX4_readClouds 90 = .ok (.iload 5, 2) := by decide +kernel
theorem dX4_readClouds_92 : decode cX4_readClouds 92 = .ok (.iload 6, 2) := by decide +kernel
theorem dX4_readClouds_94 : decode cX4_readClouds 94 = .ok (.invokevirtual 94, 3) := by decide +kernel
theorem dX4_readClouds_97 : decode cX4_readClouds 97 = .ok (.aload_n 1, 1) := by decide +kernel
theorem dX4_readClouds_98 : decode cX4_readClouds 98 = .ok (.iload_n 3, 1) := by decide +kernel
theorem dX4_readClouds_99 : decode cX4_readClouds 99 = .ok (.iconst 1, 1) := by decide +kernel
theorem dX4_readClouds_100 : decode cX4_readClouds 100 = .ok (.iadd, 1) := by decide +kernel
theorem dX4_readClouds_101 : decode cX4_readClouds 101 = .ok (.putfield 99, 3) := by decide +kernel
theorem dX4_readClouds_104 : decode cX4_readClouds 104 = .ok (.iload_n 2, 1) := by decide +kernel
theorem dX4_readClouds_105 : decode cX4_readClouds 105 = .ok (.iconst 1, 1) := by decide +kernel
theorem dX4_readClouds_106 : decode cX4_readClouds 106 = .ok (.iload 5, 2) := by decide +kernel
theorem dX4_readClouds_108 : decode cX4_readClouds 108 = .ok (.ishl, 1) := by decide +kernel
theorem dX4_readClouds_109 : decode cX4_readClouds 109 = .ok (.ior, 1) := by decide +kernel
theorem dX4_readClouds_110 : decode cX4_readClouds 110 = .ok (.istore_n 2, 1) := by decide +kernel
theorem dX4_readClouds_111 : decode cX4_readClouds 111 = .ok (.iinc 3 1, 3) := by decide +kernel
theorem dX4_readClouds_114 : decode cX4_readClouds 114 = .ok (.goto (-110), 3) := by decide +kernel
theorem dX4_readClouds_117 : decode cX4_readClouds 117 = .ok (.return_, 1) := by decide +kernel
theorem dX4_takeSign_0 : decode cX4_takeSign 0 = .ok (.aload_n 0, 1) := by decide +kernel
theorem dX4_takeSign_1 : decode cX4_takeSign 1 = .ok (.getfield 31, 3) := by decide +kernel
theorem dX4_takeSign_4 : decode cX4_takeSign 4 = .ok (.ifCond .ne 16, 3) := by decide +kernel
theorem dX4_takeSign_7 : decode cX4_takeSign 7 = .ok (.aload_n 0, 1) := by decide +kernel
theorem dX4_takeSign_8 : decode cX4_takeSign 8 = .ok (.getfield 25, 3) := by decide +kernel
theorem dX4_takeSign_11 : decode cX4_takeSign 11 = .ok (.iload_n 1, 1) := by decide +kernel
theorem dX4_takeSign_12 : decode cX4_takeSign 12 = .ok (.if_icmp .eq 8, 3) := by decide +kernel
theorem dX4_takeSign_15 : decode cX4_takeSign 15 = .ok (.aload_n 0, 1) := by decide +kernel
theorem dX4_takeSign_16 : decode cX4_takeSign 16 = .ok (.iconst 1, 1) := by decide +kernel
theorem dX4_takeSign_17 : decode cX4_takeSign 17 = .ok (.putfield 31, 3) := by decide +kernel
theorem dX4_takeSign_20 : decode cX4_takeSign 20 = .ok (.aload_n 0, 1) := by decide +kernel
theorem dX4_takeSign_21 : decode cX4_takeSign 21 = .ok (.getfield 31, 3) := by decide +kernel
theorem dX4_takeSign_24 : decode cX4_takeSign 24 = .ok (.ifCond .ne 7, 3) := by decide +kernel
theorem dX4_takeSign_27 : decode cX4_takeSign 27 = .ok (.aload_n 0, 1) := by decide +kernel
theorem dX4_takeSign_28 : decode cX4_takeSign 28 = .ok (.invokevirtual 34, 3) := by decide +kernel
theorem dX4_takeSign_31 : decode cX4_takeSign 31 = .ok (.return_, 1) := by decide +kernel
theorem dX4_takeDirection_0 : decode cX4_takeDirection 0 = .ok (.aload_n 0, 1) := by decide +kernel
theorem dX4_takeDirection_1 : decode cX4_takeDirection 1 = .ok (.getfield 25, 3) := by decide +kernel
theorem dX4_takeDirection_4 : decode cX4_takeDirection 4 = .ok (.invokestatic 102, 3) := by decide +kernel
theorem dX4_takeDirection_7 : decode cX4_takeDirection 7 = .ok (.istore_n 1, 1) := by decide +kernel
theorem dX4_takeDirection_8 : decode cX4_takeDirection 8 = .ok (.aload_n 0, 1) := by decide +kernel
theorem dX4_takeDirection_9 : decode cX4_takeDirection 9 = .ok (.getfield 31, 3) := by decide +kernel
theorem dX4_takeDirection_12 : decode cX4_takeDirection 12 = .ok (.ifCond .ne 12, 3) := by decide +kernel
theorem dX4_takeDirection_15 : decode cX4_takeDirection 15 = .ok (.iload_n 1, 1) := by decide +kernel
theorem dX4_takeDirection_16 : decode cX4_takeDirection 16 = .ok (.ifCond .ge 8, 3) := by decide +kernel
theorem dX4_takeDirection_19 : decode cX4_takeDirection 19 = .ok (.aload_n 0, 1) := by decide +kernel
theorem dX4_takeDirection_20 : decode cX4_takeDirection 20 = .ok (.iconst 1, 1) := by decide +kernel
theorem dX4_takeDirection_21 : decode cX4_takeDirection 21 = .ok (.putfield 31, 3) := by decide +kernel
theorem dX4_takeDirection_24 : decode cX4_takeDirection 24 = .ok (.aload_n 0, 1) := by decide +kernel
theorem dX4_takeDirection_25 : decode cX4_takeDirection 25 = .ok (.getfield 31, 3) := by decide +kernel
theorem dX4_takeDirection_28 : decode cX4_takeDirection 28 = .ok (.ifCond .eq 5, 3) := by decide +kernel
theorem dX4_takeDirection_31 : decode cX4_takeDirection 31 = .ok (.iconst 0, 1) := by decide +kernel
theorem dX4_takeDirection_32 : decode cX4_takeDirection 32 = .ok (.ireturn, 1) := by decide +kernel
theorem dX4_takeDirection_33 : decode cX4_takeDirection 33 = .ok (.aload_n 0, 1) := by decide +kernel
theorem dX4_takeDirection_34 : decode cX4_takeDirection 34 = .ok (.invokevirtual 34, 3) := by decide +kernel
theorem dX4_takeDirection_37 : decode cX4_takeDirection 37 = .ok (.iload_n 1, 1) := by decide +kernel
theorem dX4_takeDirection_38 : decode cX4_takeDirection 38 = .ok (.ireturn, 1) := by decide +kernel
theorem dX4_takeNumber_0 : decode cX4_takeNumber 0 = .ok (.aload_n 0, 1) := by decide +kernel
theorem dX4_takeNumber_1 : decode cX4_takeNumber 1 = .ok (.getfield 31, 3) := by decide +kernel
theorem dX4_takeNumber_4 : decode cX4_takeNumber 4 = .ok (.ifCond .ne 16, 3) := by decide +kernel
theorem dX4_takeNumber_7 : decode cX4_takeNumber 7 = .ok (.aload_n 0, 1) := by decide +kernel
theorem dX4_takeNumber_8 : decode cX4_takeNumber 8 = .ok (.getfield 25, 3) := by decide +kernel
theorem dX4_takeNumber_11 : decode cX4_takeNumber 11 = .ok (.iconst (-1), 1) := by decide +kernel
theorem dX4_takeNumber_12 : decode cX4_takeNumber 12 = .ok (.if_icmp .eq 8, 3) := by decide +kernel
theorem dX4_takeNumber_15 : decode cX4_takeNumber 15 = .ok (.aload_n 0, 1) := by decide +kernel
theorem dX4_takeNumber_16 : decode cX4_takeNumber 16 = .ok (.iconst 1, 1) := by decide +kernel
theorem dX4_takeNumber_17 : decode cX4_takeNumber 17 = .ok (.putfield 31, 3) := by decide +kernel
theorem dX4_takeNumber_20 : decode cX4_takeNumber 20 = .ok (.aload_n 0, 1) := by decide +kernel
theorem dX4_takeNumber_21 : decode cX4_takeNumber 21 = .ok (.getfield 31, 3) := by decide +kernel
theorem dX4_takeNumber_24 : decode cX4_takeNumber 24 = .ok (.ifCond .ne 31, 3) := by decide +kernel
theorem dX4_takeNumber_27 : decode cX4_takeNumber 27 = .ok (.aload_n 0, 1) := by decide +kernel
theorem dX4_takeNumber_28 : decode cX4_takeNumber 28 = .ok (.getfield 28, 3) := by decide +kernel
theorem dX4_takeNumber_31 : decode cX4_takeNumber 31 = .ok (.iload_n 1, 1) := by decide +kernel
theorem dX4_takeNumber_32 : decode cX4_takeNumber 32 = .ok (.iload_n 2, 1) := by decide +kernel
theorem dX4_takeNumber_33 : decode cX4_takeNumber 33 = .ok (.invokestatic 105, 3) := by decide +kernel
theorem dX4_takeNumber_36 : decode cX4_takeNumber 36 = .ok (.ifCond .eq 14, 3) := by decide +kernel
theorem dX4_takeNumber_39 : decode cX4_takeNumber 39 = .ok (.iload_n 3, 1) := by decide +kernel
theorem dX4_takeNumber_40 : decode cX4_takeNumber 40 = .ok (.aload_n 0, 1) := by decide +kernel
theorem dX4_takeNumber_41 : decode cX4_takeNumber 41 = .ok (.getfield 28, 3) := by decide +kernel
theorem dX4_takeNumber_44 : decode cX4_takeNumber 44 = .ok (.iushr, 1) := by decide +kernel
theorem dX4_takeNumber_45 : decode cX4_takeNumber 45 = .ok (.iconst 1, 1) := by decide +kernel
theorem dX4_takeNumber_46 : decode cX4_takeNumber 46 = .ok (.iand, 1) := by decide +kernel
theorem dX4_takeNumber_47 : decode cX4_takeNumber 47 = .ok (.ifCond .eq 8, 3) := by decide +kernel
theorem dX4_takeNumber_50 : decode cX4_takeNumber 50 = .ok (.aload_n 0, 1) := by decide +kernel
theorem dX4_takeNumber_51 : decode cX4_takeNumber 51 = .ok (.iconst 2, 1) := by decide +kernel
theorem dX4_takeNumber_52 : decode cX4_takeNumber 52 = .ok (.putfield 31, 3) := by decide +kernel
theorem dX4_takeNumber_55 : decode cX4_takeNumber 55 = .ok (.aload_n 0, 1) := by decide +kernel
theorem dX4_takeNumber_56 : decode cX4_takeNumber 56 = .ok (.getfield 31, 3) := by decide +kernel
theorem dX4_takeNumber_59 : decode cX4_takeNumber 59 = .ok (.ifCond .eq 5, 3) := by decide +kernel
theorem dX4_takeNumber_62 : decode cX4_takeNumber 62 = .ok (.iload_n 1, 1) := by decide +kernel
theorem dX4_takeNumber_63 : decode cX4_takeNumber 63 = .ok (.ireturn, 1) := by decide +kernel
theorem dX4_takeNumber_64 : decode cX4_takeNumber 64 = .ok (.aload_n 0, 1) := by decide +kernel
theorem dX4_takeNumber_65 : decode cX4_takeNumber 65 = .ok (.getfield 28, 3) := by decide +kernel
theorem dX4_takeNumber_68 : decode cX4_takeNumber 68 = .ok (.istore 4, 2) := by decide +kernel
theorem dX4_takeNumber_70 : decode cX4_takeNumber 70 = .ok (.aload_n 0, 1) := by decide +kernel
theorem dX4_takeNumber_71 : decode cX4_takeNumber 71 = .ok (.invokevirtual 34, 3) := by decide +kernel
theorem dX4_takeNumber_74 : decode cX4_takeNumber 74 = .ok (.iload 4, 2) := by decide +kernel
theorem dX4_takeNumber_76 : decode cX4_takeNumber 76 = .ok (.ireturn, 1) := by decide +kernel
theorem dX4_look_0 : decode cX4_look 0 = .ok (.aload_n 0, 1) := by decide +kernel
theorem dX4_look_1 : decode cX4_look 1 = .ok (.aload_n 0, 1) := by decide +kernel
theorem dX4_look_2 : decode cX4_look 2 = .ok (.getfield 22, 3) := by decide +kernel
theorem dX4_look_5 : decode cX4_look 5 = .ok (.putfield 19, 3) := by decide +kernel
theorem dX4_look_8 : decode cX4_look 8 = .ok (.aload_n 0, 1) := by decide +kernel
theorem dX4_look_9 : decode cX4_look 9 = .ok (.getfield 19, 3) := by decide +kernel
theorem dX4_look_12 : decode cX4_look 12 = .ok (.aload_n 0, 1) := by decide +kernel
theorem dX4_look_13 : decode cX4_look 13 = .ok (.getfield 15, 3) := by decide +kernel
theorem dX4_look_16 : decode cX4_look 16 = .ok (.if_icmp .lt 12, 3) := by decide +kernel
theorem dX4_look_19 : decode cX4_look 19 = .ok (.aload_n 0, 1) := by decide +kernel
theorem dX4_look_20 : decode cX4_look 20 = .ok (.bipush (-3), 2) := by decide +kernel
theorem dX4_look_22 : decode cX4_look 22 = .ok (.putfield 25, 3) := by decide +kernel
theorem dX4_look_25 : decode cX4_look 25 = .ok (.goto 64, 3) := by decide +kernel
theorem dX4_look_28 : decode cX4_look 28 = .ok (.aload_n 0, 1) := by decide +kernel
theorem dX4_look_29 : decode cX4_look 29 = .ok (.aload_n 0, 1) := by decide +kernel
theorem dX4_look_30 : decode cX4_look 30 = .ok (.getfield 19, 3) := by decide +kernel
theorem dX4_look_33 : decode cX4_look 33 = .ok (.invokevirtual 109, 3) := by decide +kernel
theorem dX4_look_36 : decode cX4_look 36 = .ok (.ifCond .eq 10, 3) := by decide +kernel
theorem dX4_look_39 : decode cX4_look 39 = .ok (.aload_n 0, 1) := by decide +kernel
theorem dX4_look_40 : decode cX4_look 40 = .ok (.invokevirtual 113, 3) := by decide +kernel
theorem dX4_look_43 : decode cX4_look 43 = .ok (.goto 46, 3) := by decide +kernel
theorem dX4_look_46 : decode cX4_look 46 = .ok (.aload_n 0, 1) := by decide +kernel
theorem dX4_look_47 : decode cX4_look 47 = .ok (.aload_n 0, 1) := by decide +kernel
theorem dX4_look_48 : decode cX4_look 48 = .ok (.getfield 19, 3) := by decide +kernel
theorem dX4_look_51 : decode cX4_look 51 = .ok (.iconst 1, 1) := by decide +kernel
theorem dX4_look_52 : decode cX4_look 52 = .ok (.iadd, 1) := by decide +kernel
theorem dX4_look_53 : decode cX4_look 53 = .ok (.putfield 22, 3) := by decide +kernel
theorem dX4_look_56 : decode cX4_look 56 = .ok (.aload_n 0, 1) := by decide +kernel
theorem dX4_look_57 : decode cX4_look 57 = .ok (.aload_n 0, 1) := by decide +kernel
theorem dX4_look_58 : decode cX4_look 58 = .ok (.getfield 9, 3) := by decide +kernel
theorem dX4_look_61 : decode cX4_look 61 = .ok (.aload_n 0, 1) := by decide +kernel
theorem dX4_look_62 : decode cX4_look 62 = .ok (.getfield 19, 3) := by decide +kernel
theorem dX4_look_65 : decode cX4_look 65 = .ok (.iaload, 1) := by decide +kernel
theorem dX4_look_66 : decode cX4_look 66 = .ok (.invokestatic 116, 3) := by decide +kernel
theorem dX4_look_69 : decode cX4_look 69 = .ok (.ifCond .eq 15, 3) := by decide +kernel
theorem dX4_look_72 : decode cX4_look 72 = .ok (.aload_n 0, 1) := by decide +kernel
theorem dX4_look_73 : decode cX4_look 73 = .ok (.getfield 9, 3) := by decide +kernel
theorem dX4_look_76 : decode cX4_look 76 = .ok (.aload_n 0, 1) := by decide +kernel
theorem dX4_look_77 : decode cX4_look 77 = .ok (.getfield 19, 3) := by decide +kernel
theorem dX4_look_80 : decode cX4_look 80 = .ok (.iaload, 1) := by decide +kernel
theorem dX4_look_81 : decode cX4_look 81 = .ok (.goto 5, 3) := by decide +kernel
theorem dX4_look_84 : decode cX4_look 84 = .ok (.bipush (-2), 2) := by decide +kernel
theorem dX4_look_86 : decode cX4_look 86 = .ok (.putfield 25, 3) := by decide +kernel
theorem dX4_look_89 : decode cX4_look 89 = .ok (.return_, 1) := by decide +kernel
theorem dX4_lookAtFigures_0 : decode cX4_lookAtFigures 0 = .ok (.aload_n 0, 1) := by decide +kernel
theorem dX4_lookAtFigures_1 : decode cX4_lookAtFigures 1 = .ok (.iconst 0, 1) := by decide +kernel
theorem dX4_lookAtFigures_2 : decode cX4_lookAtFigures 2 = .ok (.putfield 28, 3) := by decide +kernel
theorem dX4_lookAtFigures_5 : decode cX4_lookAtFigures 5 = .ok (.aload_n 0, 1) := by decide +kernel
theorem dX4_lookAtFigures_6 : decode cX4_lookAtFigures 6 = .ok (.aload_n 0, 1) := by decide +kernel
theorem dX4_lookAtFigures_7 : decode cX4_lookAtFigures 7 = .ok (.getfield 19, 3) := by decide +kernel
theorem dX4_lookAtFigures_10 : decode cX4_lookAtFigures 10 = .ok (.putfield 22, 3) := by decide +kernel
theorem dX4_lookAtFigures_13 : decode cX4_lookAtFigures 13 = .ok (.iconst 0, 1) := by decide +kernel
theorem dX4_lookAtFigures_14 : decode cX4_lookAtFigures 14 = .ok (.istore_n 1, 1) := by decide +kernel
theorem dX4_lookAtFigures_15 : decode cX4_lookAtFigures 15 = .ok (.iload_n 1, 1) := by decide +kernel
theorem dX4_lookAtFigures_16 : decode cX4_lookAtFigures 16 = .ok (.iconst 3, 1) := by decide +kernel
theorem dX4_lookAtFigures_17 : decode cX4_lookAtFigures 17 = .ok (.if_icmp .ge 54, 3) := by decide +kernel
theorem dX4_lookAtFigures_20 : decode cX4_lookAtFigures 20 = .ok (.aload_n 0, 1) := by decide +kernel
theorem dX4_lookAtFigures_21 : decode cX4_lookAtFigures 21 = .ok (.aload_n 0, 1) := by decide +kernel
theorem dX4_lookAtFigures_22 : decode cX4_lookAtFigures 22 = .ok (.getfield 22, 3) := by decide +kernel
theorem dX4_lookAtFigures_25 : decode cX4_lookAtFigures 25 = .ok (.invokevirtual 109, 3) := by decide +kernel
theorem dX4_lookAtFigures_28 : decode cX4_lookAtFigures 28 = .ok (.ifCond .eq 43, 3) := by decide +kernel
theorem dX4_lookAtFigures_31 : decode cX4_lookAtFigures 31 = .ok (.aload_n 0, 1) := by decide +kernel
theorem dX4_lookAtFigures_32 : decode cX4_lookAtFigures 32 = .ok (.aload_n 0, 1) := by decide +kernel
theorem dX4_lookAtFigures_33 : decode cX4_lookAtFigures 33 = .ok (.getfield 28, 3) := by decide +kernel
theorem dX4_lookAtFigures_36 : decode cX4_lookAtFigures 36 = .ok (.bipush 10, 2) := by decide +kernel
theorem dX4_lookAtFigures_38 : decode cX4_lookAtFigures 38 = .ok (.imul, 1) := by decide +kernel
theorem dX4_lookAtFigures_39 : decode cX4_lookAtFigures 39 = .ok (.aload_n 0, 1) := by decide +kernel
theorem dX4_lookAtFigures_40 : decode cX4_lookAtFigures 40 = .ok (.getfield 9, 3) := by decide +kernel
theorem dX4_lookAtFigures_43 : decode cX4_lookAtFigures 43 = .ok (.aload_n 0, 1) := by decide +kernel
theorem dX4_lookAtFigures_44 : decode cX4_lookAtFigures 44 = .ok (.getfield 22, 3) := by decide +kernel
theorem dX4_lookAtFigures_47 : decode cX4_lookAtFigures 47 = .ok (.iaload, 1) := by decide +kernel
theorem dX4_lookAtFigures_48 : decode cX4_lookAtFigures 48 = .ok (.iadd, 1) := by decide +kernel
theorem dX4_lookAtFigures_49 : decode cX4_lookAtFigures 49 = .ok (.bipush 48, 2) := by decide +kernel
theorem dX4_lookAtFigures_51 : decode cX4_lookAtFigures 51 = .ok (.isub, 1) := by decide +kernel
theorem dX4_lookAtFigures_52 : decode cX4_lookAtFigures 52 = .ok (.putfield 28, 3) := by decide +kernel
theorem dX4_lookAtFigures_55 : decode cX4_lookAtFigures 55 = .ok (.aload_n 0, 1) := by decide +kernel
theorem dX4_lookAtFigures_56 : decode cX4_lookAtFigures 56 = .ok (.dup, 1) := by decide +kernel
theorem dX4_lookAtFigures_57 : decode cX4_lookAtFigures 57 = .ok (.getfield 22, 3) := by decide +kernel
theorem dX4_lookAtFigures_60 : decode cX4_lookAtFigures 60 = .ok (.iconst 1, 1) := by decide +kernel
theorem dX4_lookAtFigures_61 : decode cX4_lookAtFigures 61 = .ok (.iadd, 1) := by decide +kernel
theorem dX4_lookAtFigures_62 : decode cX4_lookAtFigures 62 = .ok (.putfield 22, 3) := by decide +kernel
theorem dX4_lookAtFigures_65 : decode cX4_lookAtFigures 65 = .ok (.iinc 1 1, 3) := by decide +kernel
theorem dX4_lookAtFigures_68 : decode cX4_lookAtFigures 68 = .ok (.goto (-53), 3) := by decide +kernel
theorem dX4_lookAtFigures_71 : decode cX4_lookAtFigures 71 = .ok (.aload_n 0, 1) := by decide +kernel
theorem dX4_lookAtFigures_72 : decode cX4_lookAtFigures 72 = .ok (.aload_n 0, 1) := by decide +kernel
theorem dX4_lookAtFigures_73 : decode cX4_lookAtFigures 73 = .ok (.getfield 22, 3) := by decide +kernel
theorem dX4_lookAtFigures_76 : decode cX4_lookAtFigures 76 = .ok (.aload_n 0, 1) := by decide +kernel
theorem dX4_lookAtFigures_77 : decode cX4_lookAtFigures 77 = .ok (.getfield 19, 3) := by decide +kernel
theorem dX4_lookAtFigures_80 : decode cX4_lookAtFigures 80 = .ok (.isub, 1) := by decide +kernel
theorem dX4_lookAtFigures_81 : decode cX4_lookAtFigures 81 = .ok (.iconst 2, 1) := by decide +kernel
theorem dX4_lookAtFigures_82 : decode cX4_lookAtFigures 82 = .ok (.if_icmp .gt 7, 3) := by decide +kernel
theorem dX4_lookAtFigures_85 : decode cX4_lookAtFigures 85 = .ok (.iconst (-1), 1) := by decide +kernel
theorem dX4_lookAtFigures_86 : decode cX4_lookAtFigures 86 = .ok (.goto 5, 3) := by decide +kernel
theorem dX4_lookAtFigures_89 : decode cX4_lookAtFigures 89 = .ok (.bipush (-2), 2) := by decide +kernel
theorem dX4_lookAtFigures_91 : decode cX4_lookAtFigures 91 = .ok (.putfield 25, 3) := by decide +kernel
theorem dX4_lookAtFigures_94 : decode cX4_lookAtFigures 94 = .ok (.return_, 1) := by decide +kernel
theorem dX4_isFigure_0 : decode cX4_isFigure 0 = .ok (.iload_n 1, 1) := by decide +kernel
theorem dX4_isFigure_1 : decode cX4_isFigure 1 = .ok (.aload_n 0, 1) := by decide +kernel
theorem dX4_isFigure_2 : decode cX4_isFigure 2 = .ok (.getfield 15, 3) := by decide +kernel
theorem dX4_isFigure_5 : decode cX4_isFigure 5 = .ok (.if_icmp .ge 29, 3) := by decide +kernel
theorem dX4_isFigure_8 : decode cX4_isFigure 8 = .ok (.aload_n 0, 1) := by decide +kernel
theorem dX4_isFigure_9 : decode cX4_isFigure 9 = .ok (.getfield 9, 3) := by decide +kernel
theorem dX4_isFigure_12 : decode cX4_isFigure 12 = .ok (.iload_n 1, 1) := by decide +kernel
theorem dX4_isFigure_13 : decode cX4_isFigure 13 = .ok (.iaload, 1) := by decide +kernel
theorem dX4_isFigure_14 : decode cX4_isFigure 14 = .ok (.bipush 48, 2) := by decide +kernel
theorem dX4_isFigure_16 : decode cX4_isFigure 16 = .ok (.if_icmp .lt 18, 3) := by decide +kernel
theorem dX4_isFigure_19 : decode cX4_isFigure 19 = .ok (.aload_n 0, 1) := by decide +kernel
theorem dX4_isFigure_20 : decode cX4_isFigure 20 = .ok (.getfield 9, 3) := by decide +kernel
theorem dX4_isFigure_23 : decode cX4_isFigure 23 = .ok (.iload_n 1, 1) := by decide +kernel
theorem dX4_isFigure_24 : decode cX4_isFigure 24 = .ok (.iaload, 1) := by decide +kernel
theorem dX4_isFigure_25 : decode cX4_isFigure 25 = .ok (.bipush 57, 2) := by decide +kernel
theorem dX4_isFigure_27 : decode cX4_isFigure 27 = .ok (.if_icmp .gt 7, 3) := by decide +kernel
theorem dX4_isFigure_30 : decode cX4_isFigure 30 = .ok (.iconst 1, 1) := by decide +kernel
theorem dX4_isFigure_31 : decode cX4_isFigure 31 = .ok (.goto 4, 3) := by decide +kernel
theorem dX4_isFigure_34 : decode cX4_isFigure 34 = .ok (.iconst 0, 1) := by decide +kernel
theorem dX4_isFigure_35 : decode cX4_isFigure 35 = .ok (.ireturn, 1) := by decide +kernel
theorem dX4_isSign_0 : decode cX4_isSign 0 = .ok (.iload_n 0, 1) := by decide +kernel
theorem dX4_isSign_1 : decode cX4_isSign 1 = .ok (.bipush 97, 2) := by decide +kernel
theorem dX4_isSign_3 : decode cX4_isSign 3 = .ok (.bipush 122, 2) := by decide +kernel
theorem dX4_isSign_5 : decode cX4_isSign 5 = .ok (.invokestatic 105, 3) := by decide +kernel
theorem dX4_isSign_8 : decode cX4_isSign 8 = .ok (.ifCond .ne 15, 3) := by decide +kernel
theorem dX4_isSign_11 : decode cX4_isSign 11 = .ok (.iload_n 0, 1) := by decide +kernel
theorem dX4_isSign_12 : decode cX4_isSign 12 = .ok (.bipush 44, 2) := by decide +kernel
theorem dX4_isSign_14 : decode cX4_isSign 14 = .ok (.if_icmp .eq 9, 3) := by decide +kernel
theorem dX4_isSign_17 : decode cX4_isSign 17 = .ok (.iload_n 0, 1) := by decide +kernel
theorem dX4_isSign_18 : decode cX4_isSign 18 = .ok (.bipush 59, 2) := by decide +kernel
theorem dX4_isSign_20 : decode cX4_isSign 20 = .ok (.if_icmp .ne 7, 3) := by decide +kernel
theorem dX4_isSign_23 : decode cX4_isSign 23 = .ok (.iconst 1, 1) := by decide +kernel
theorem dX4_isSign_24 : decode cX4_isSign 24 = .ok (.goto 4, 3) := by decide +kernel
theorem dX4_isSign_27 : decode cX4_isSign 27 = .ok (.iconst 0, 1) := by decide +kernel
theorem dX4_isSign_28 : decode cX4_isSign 28 = .ok (.ireturn, 1) := by decide +kernel
theorem dX4_directionOf_0 : decode cX4_directionOf 0 = .ok (.iload_n 0, 1) := by decide +kernel
theorem dX4_directionOf_1 : decode cX4_directionOf 1 = .ok (.lookupswitch 61 #[(101, 53), (110, 59), (111, 51), (115, 57), (119, 55)], 51) := by decide +kernel
theorem dX4_directionOf_52 : decode cX4_directionOf 52 = .ok (.iconst 0, 1) := by decide +kernel
theorem dX4_directionOf_53 : decode cX4_directionOf 53 = .ok (.ireturn, 1) := by decide +kernel
theorem dX4_directionOf_54 : decode cX4_directionOf 54 = .ok (.iconst 1, 1) := by decide +kernel
theorem dX4_directionOf_55 : decode cX4_directionOf 55 = .ok (.ireturn, 1) := by decide +kernel
theorem dX4_directionOf_56 : decode cX4_directionOf 56 = .ok (.iconst 2, 1) := by decide +kernel
theorem dX4_directionOf_57 : decode cX4_directionOf 57 = .ok (.ireturn, 1) := by decide +kernel
theorem dX4_directionOf_58 : decode cX4_directionOf 58 = .ok (.iconst 3, 1) := by decide +kernel
theorem dX4_directionOf_59 : decode cX4_directionOf 59 = .ok (.ireturn, 1) := by decide +kernel
theorem dX4_directionOf_60 : decode cX4_directionOf 60 = .ok (.iconst 4, 1) := by decide +kernel
theorem dX4_directionOf_61 : decode cX4_directionOf 61 = .ok (.ireturn, 1) := by decide +kernel
theorem dX4_directionOf_62 : decode cX4_directionOf 62 = .ok (.iconst (-1), 1) := by decide +kernel
theorem dX4_directionOf_63 : decode cX4_directionOf 63 = .ok (.ireturn, 1) := by decide +kernel
theorem dX4_parishOf_0 : decode cX4_parishOf 0 = .ok (.iload_n 0, 1) := by decide +kernel
theorem dX4_parishOf_1 : decode cX4_parishOf 1 = .ok (.lookupswitch 41 #[(102, 35), (104, 37), (109, 39)], 35) := by decide +kernel
theorem dX4_parishOf_36 : decode cX4_parishOf 36 = .ok (.iconst 1, 1) := by decide +kernel
theorem dX4_parishOf_37 : decode cX4_parishOf 37 = .ok (.ireturn, 1) := by decide +kernel
theorem dX4_parishOf_38 : decode cX4_parishOf 38 = .ok (.iconst 2, 1) := by decide +kernel
theorem dX4_parishOf_39 : decode cX4_parishOf 39 = .ok (.ireturn, 1) := by decide +kernel
theorem dX4_parishOf_40 : decode cX4_parishOf 40 = .ok (.iconst 3, 1) := by decide +kernel
theorem dX4_parishOf_41 : decode cX4_parishOf 41 = .ok (.ireturn, 1) := by decide +kernel
theorem dX4_parishOf_42 : decode cX4_parishOf 42 = .ok (.iconst 0, 1) := by decide +kernel
theorem dX4_parishOf_43 : decode cX4_parishOf 43 = .ok (.ireturn, 1) := by decide +kernel
theorem dX4_sortOf_0 : decode cX4_sortOf 0 = .ok (.iload_n 0, 1) := by decide +kernel
theorem dX4_sortOf_1 : decode cX4_sortOf 1 = .ok (.lookupswitch 61 #[(97, 51), (98, 55), (103, 57), (112, 53), (121, 59)], 51) := by decide +kernel
theorem dX4_sortOf_52 : decode cX4_sortOf 52 = .ok (.iconst 1, 1) := by decide +kernel
theorem dX4_sortOf_53 : decode cX4_sortOf 53 = .ok (.ireturn, 1) := by decide +kernel
theorem dX4_sortOf_54 : decode cX4_sortOf 54 = .ok (.iconst 2, 1) := by decide +kernel
theorem dX4_sortOf_55 : decode cX4_sortOf 55 = .ok (.ireturn, 1) := by decide +kernel
theorem dX4_sortOf_56 : decode cX4_sortOf 56 = .ok (.iconst 3, 1) := by decide +kernel
theorem dX4_sortOf_57 : decode cX4_sortOf 57 = .ok (.ireturn, 1) := by decide +kernel
theorem dX4_sortOf_58 : decode cX4_sortOf 58 = .ok (.iconst 4, 1) := by decide +kernel
theorem dX4_sortOf_59 : decode cX4_sortOf 59 = .ok (.ireturn, 1) := by decide +kernel
theorem dX4_sortOf_60 : decode cX4_sortOf 60 = .ok (.iconst 5, 1) := by decide +kernel
theorem dX4_sortOf_61 : decode cX4_sortOf 61 = .ok (.ireturn, 1) := by decide +kernel
theorem dX4_sortOf_62 : decode cX4_sortOf 62 = .ok (.iconst 0, 1) := by decide +kernel
theorem dX4_sortOf_63 : decode cX4_sortOf 63 = .ok (.ireturn, 1) := by decide +kernel
theorem dX5_init_0 : decode cX5_init 0 = .ok (.aload_n 0, 1) := by decide +kernel
theorem dX5_init_1 : decode cX5_init 1 = .ok (.invokespecial 1, 3) := by decide +kernel
theorem dX5_init_4 : decode cX5_init 4 = .ok (.aload_n 0, 1) := by decide +kernel
theorem dX5_init_5 : decode cX5_init 5 = .ok (.bipush 16, 2) := by decide +kernel
theorem dX5_init_7 : decode cX5_init 7 = .ok (.newarray .int, 2) := by decide +kernel
theorem dX5_init_9 : decode cX5_init 9 = .ok (.putfield 9, 3) := by decide +kernel
theorem dX5_init_12 : decode cX5_init 12 = .ok (.aload_n 0, 1) := by decide +kernel
theorem dX5_init_13 : decode cX5_init 13 = .ok (.iconst 0, 1) := by decide +kernel
theorem dX5_init_14 : decode cX5_init 14 = .ok (.putfield 13, 3) := by decide +kernel
theorem dX5_init_17 : decode cX5_init 17 = .ok (.return_, 1) := by decide +kernel
theorem dX5_answer_0 : decode cX5_answer 0 = .ok (.aload_n 0, 1) := by decide +kernel
theorem dX5_answer_1 : decode cX5_answer 1 = .ok (.iconst 0, 1) := by decide +kernel
theorem dX5_answer_2 : decode cX5_answer 2 = .ok (.putfield 13, 3) := by decide +kernel
theorem dX5_answer_5 : decode cX5_answer 5 = .ok (.iload_n 3, 1) := by decide +kernel
theorem dX5_answer_6 : decode cX5_answer 6 = .ok (.ifCond .ne 14, 3) := by decide +kernel
theorem dX5_answer_9 : decode cX5_answer 9 = .ok (.getstatic 17, 3) := by decide +kernel
theorem dX5_answer_12 : decode cX5_answer 12 = .ok (.aload_n 1, 1) := by decide +kernel
theorem dX5_answer_13 : decode cX5_answer 13 = .ok (.getfield 20, 3) := by decide +kernel
theorem dX5_answer_16 : decode cX5_answer 16 = .ok (.iaload, 1) := by decide +kernel
theorem dX5_answer_17 : decode cX5_answer 17 = .ok (.goto 11, 3) := by decide +kernel
theorem dX5_answer_20 : decode cX5_answer 20 = .ok (.getstatic 25, 3) := by decide +kernel
theorem dX5_answer_23 : decode cX5_answer 23 = .ok (.aload_n 1, 1) := by decide +kernel
theorem dX5_answer_24 : decode cX5_answer 24 = .ok (.getfield 20, 3) := by decide +kernel
theorem dX5_answer_27 : decode cX5_answer 27 = .ok (.iaload, 1) := by decide +kernel
theorem dX5_answer_28 : decode cX5_answer 28 = .ok (.istore 4, 2) := by decide +kernel
theorem dX5_answer_30 : decode cX5_answer 30 = .ok (.aload_n 0, 1) := by decide +kernel
theorem dX5_answer_31 : decode cX5_answer 31 = .ok (.iload 4, 2) := by decide +kernel
theorem dX5_answer_33 : decode cX5_answer 33 = .ok (.aload_n 1, 1) := by decide +kernel
theorem dX5_answer_34 : decode cX5_answer 34 = .ok (.iload_n 2, 1) := by decide +kernel
theorem dX5_answer_35 : decode cX5_answer 35 = .ok (.iconst 1, 1) := by decide +kernel
theorem dX5_answer_36 : decode cX5_answer 36 = .ok (.invokestatic 28, 3) := by decide +kernel
theorem dX5_answer_39 : decode cX5_answer 39 = .ok (.ireturn, 1) := by decide +kernel
theorem dX5_bodyOf_0 : decode cX5_bodyOf 0 = .ok (.iload 4, 2) := by decide +kernel
theorem dX5_bodyOf_2 : decode cX5_bodyOf 2 = .ok (.bipush 8, 2) := by decide +kernel
theorem dX5_bodyOf_4 : decode cX5_bodyOf 4 = .ok (.if_icmp .le 5, 3) := by decide +kernel
theorem dX5_bodyOf_7 : decode cX5_bodyOf 7 = .ok (.iconst 0, 1) := by decide +kernel
theorem dX5_bodyOf_8 : decode cX5_bodyOf 8 = .ok (.ireturn, 1) := by decide +kernel
theorem dX5_bodyOf_9 : decode cX5_bodyOf 9 = .ok (.aload_n 0, 1) := by decide +kernel
theorem dX5_bodyOf_10 : decode cX5_bodyOf 10 = .ok (.iload_n 1, 1) := by decide +kernel
theorem dX5_bodyOf_11 : decode cX5_bodyOf 11 = .ok (.invokevirtual 32, 3) := by decide +kernel
theorem dX5_bodyOf_14 : decode cX5_bodyOf 14 = .ok (.iload 4, 2) := by decide +kernel
theorem dX5_bodyOf_16 : decode cX5_bodyOf 16 = .ok (.iconst 1, 1) := by decide +kernel
theorem dX5_bodyOf_17 : decode cX5_bodyOf 17 = .ok (.iadd, 1) := by decide +kernel
theorem dX5_bodyOf_18 : decode cX5_bodyOf 18 = .ok (.istore 5, 2) := by decide +kernel
theorem dX5_bodyOf_20 : decode cX5_bodyOf 20 = .ok (.iload_n 1, 1) := by decide +kernel
theorem dX5_bodyOf_21 : decode cX5_bodyOf 21 = .ok (.tableswitch 221 10 24 #[75, 80, 108, 120, 134, 221, 221, 221, 221, 221, 147, 149, 165, 180, 208], 75) := by decide +kernel
theorem dX5_bodyOf_96 : decode cX5_bodyOf 96 = .ok (.aload_n 2, 1) := by decide +kernel
theorem dX5_bodyOf_97 : decode cX5_bodyOf 97 = .ok (.getfield 36, 3) := by decide +kernel
theorem dX5_bodyOf_100 : decode cX5_bodyOf 100 = .ok (.ireturn, 1) := by decide +kernel
theorem dX5_bodyOf_101 : decode cX5_bodyOf 101 = .ok (.aload_n 0, 1) := by decide +kernel
theorem dX5_bodyOf_102 : decode cX5_bodyOf 102 = .ok (.bipush 10, 2) := by decide +kernel
theorem dX5_bodyOf_104 : decode cX5_bodyOf 104 = .ok (.aload_n 2, 1) := by decide +kernel
theorem dX5_bodyOf_105 : decode cX5_bodyOf 105 = .ok (.iload_n 3, 1) := by decide +kernel
theorem dX5_bodyOf_106 : decode cX5_bodyOf 106 = .ok (.iload 5, 2) := by decide +kernel
theorem dX5_bodyOf_108 : decode cX5_bodyOf 108 = .ok (.invokestatic 28, 3) := by decide +kernel
theorem dX5_bodyOf_111 : decode cX5_bodyOf 111 = .ok (.aload_n 0, 1) := by decide +kernel
theorem dX5_bodyOf_112 : decode cX5_bodyOf 112 = .ok (.getstatic 25, 3) := by decide +kernel
theorem dX5_bodyOf_115 : decode cX5_bodyOf 115 = .ok (.aload_n 2, 1) := by decide +kernel
theorem dX5_bodyOf_116 : decode cX5_bodyOf 116 = .ok (.getfield 20, 3) := by decide +kernel
theorem dX5_bodyOf_119 : decode cX5_bodyOf 119 = .ok (.iaload, 1) := by decide +kernel
theorem dX5_bodyOf_120 : decode cX5_bodyOf 120 = .ok (.aload_n 2, 1) := by decide +kernel
theorem dX5_bodyOf_121 : decode cX5_bodyOf 121 = .ok (.iload_n 3, 1) := by decide +kernel
theorem dX5_bodyOf_122 : decode cX5_bodyOf 122 = .ok (.iload 5, 2) := by decide +kernel
theorem dX5_bodyOf_124 : decode cX5_bodyOf 124 = .ok (.invokestatic 28, 3) := by decide +kernel
theorem dX5_bodyOf_127 : decode cX5_bodyOf 127 = .ok (.iadd, 1) := by decide +kernel
theorem dX5_bodyOf_128 : decode cX5_bodyOf 128 = .ok (.ireturn, 1) := by decide +kernel
theorem dX5_bodyOf_129 : decode cX5_bodyOf 129 = .ok (.aload_n 0, 1) := by decide +kernel
theorem dX5_bodyOf_130 : decode cX5_bodyOf 130 = .ok (.bipush 11, 2) := by decide +kernel
theorem dX5_bodyOf_132 : decode cX5_bodyOf 132 = .ok (.aload_n 2, 1) := by decide +kernel
theorem dX5_bodyOf_133 : decode cX5_bodyOf 133 = .ok (.iload_n 3, 1) := by decide +kernel
theorem dX5_bodyOf_134 : decode cX5_bodyOf 134 = .ok (.iload 5, 2) := by decide +kernel
theorem dX5_bodyOf_136 : decode cX5_bodyOf 136 = .ok (.invokestatic 28, 3) := by decide +kernel
theorem dX5_bodyOf_139 : decode cX5_bodyOf 139 = .ok (.ineg, 1) := by decide +kernel
theorem dX5_bodyOf_140 : decode cX5_bodyOf 140 = .ok (.ireturn, 1) := by decide +kernel
theorem dX5_bodyOf_141 : decode cX5_bodyOf 141 = .ok (.aload_n 0, 1) := by decide +kernel
theorem dX5_bodyOf_142 : decode cX5_bodyOf 142 = .ok (.bipush 10, 2) := by decide +kernel
theorem dX5_bodyOf_144 : decode cX5_bodyOf 144 = .ok (.aload_n 2, 1) := by decide +kernel
theorem dX5_bodyOf_145 : decode cX5_bodyOf 145 = .ok (.iload_n 3, 1) := by decide +kernel
theorem dX5_bodyOf_146 : decode cX5_bodyOf 146 = .ok (.iload 5, 2) := by decide +kernel
theorem dX5_bodyOf_148 : decode cX5_bodyOf 148 = .ok (.invokestatic 28, 3) := by decide +kernel
theorem dX5_bodyOf_151 : decode cX5_bodyOf 151 = .ok (.bipush 100, 2) := by decide +kernel
theorem dX5_bodyOf_153 : decode cX5_bodyOf 153 = .ok (.isub, 1) := by decide +kernel
theorem dX5_bodyOf_154 : decode cX5_bodyOf 154 = .ok (.ireturn, 1) := by decide +kernel
theorem dX5_bodyOf_155 : decode cX5_bodyOf 155 = .ok (.iconst 2, 1) := by decide +kernel
theorem dX5_bodyOf_156 : decode cX5_bodyOf 156 = .ok (.aload_n 0, 1) := by decide +kernel
theorem dX5_bodyOf_157 : decode cX5_bodyOf 157 = .ok (.bipush 13, 2) := by decide +kernel
theorem dX5_bodyOf_159 : decode cX5_bodyOf 159 = .ok (.aload_n 2, 1) := by decide +kernel
theorem dX5_bodyOf_160 : decode cX5_bodyOf 160 = .ok (.iload_n 3, 1) := by decide +kernel
theorem dX5_bodyOf_161 : decode cX5_bodyOf 161 = .ok (.iload 5, 2) := by decide +kernel
theorem dX5_bodyOf_163 : decode cX5_bodyOf 163 = .ok (.invokestatic 28, 3) := by decide +kernel
theorem dX5_bodyOf_166 : decode cX5_bodyOf 166 = .ok (.imul, 1) := by decide +kernel
theorem dX5_bodyOf_167 : decode cX5_bodyOf 167 = .ok (.ireturn, 1) := by decide +kernel
theorem dX5_bodyOf_168 : decode cX5_bodyOf 168 = .ok (.iload_n 3, 1) := by decide +kernel
theorem dX5_bodyOf_169 : decode cX5_bodyOf 169 = .ok (.ireturn, 1) := by decide +kernel
theorem dX5_bodyOf_170 : decode cX5_bodyOf 170 = .ok (.aload_n 0, 1) := by decide +kernel
theorem dX5_bodyOf_171 : decode cX5_bodyOf 171 = .ok (.bipush 20, 2) := by decide +kernel
theorem dX5_bodyOf_173 : decode cX5_bodyOf 173 = .ok (.aload_n 2, 1) := by decide +kernel
theorem dX5_bodyOf_174 : decode cX5_bodyOf 174 = .ok (.iload_n 3, 1) := by decide +kernel
theorem dX5_bodyOf_175 : decode cX5_bodyOf 175 = .ok (.iload 5, 2) := by decide +kernel
theorem dX5_bodyOf_177 : decode cX5_bodyOf 177 = .ok (.invokestatic 28, 3) := by decide +kernel
theorem dX5_bodyOf_180 : decode cX5_bodyOf 180 = .ok (.aload_n 2, 1) := by decide +kernel
theorem dX5_bodyOf_181 : decode cX5_bodyOf 181 = .ok (.getfield 39, 3) := by decide +kernel
theorem dX5_bodyOf_184 : decode cX5_bodyOf 184 = .ok (.iadd, 1) := by decide +kernel
theorem dX5_bodyOf_185 : decode cX5_bodyOf 185 = .ok (.ireturn, 1) := by decide +kernel
theorem dX5_bodyOf_186 : decode cX5_bodyOf 186 = .ok (.aload_n 0, 1) := by decide +kernel
theorem dX5_bodyOf_187 : decode cX5_bodyOf 187 = .ok (.bipush 21, 2) := by decide +kernel
theorem dX5_bodyOf_189 : decode cX5_bodyOf 189 = .ok (.aload_n 2, 1) := by decide +kernel
theorem dX5_bodyOf_190 : decode cX5_bodyOf 190 = .ok (.iload_n 3, 1) := by decide +kernel
theorem dX5_bodyOf_191 : decode cX5_bodyOf 191 = .ok (.iload 5, 2) := by decide +kernel
theorem dX5_bodyOf_193 : decode cX5_bodyOf 193 = .ok (.invokestatic 28, 3) := by decide +kernel
theorem dX5_bodyOf_196 : decode cX5_bodyOf 196 = .ok (.sipush 1000, 3) := by decide +kernel
theorem dX5_bodyOf_199 : decode cX5_bodyOf 199 = .ok (.isub, 1) := by decide +kernel
theorem dX5_bodyOf_200 : decode cX5_bodyOf 200 = .ok (.ireturn, 1) := by decide +kernel
theorem dX5_bodyOf_201 : decode cX5_bodyOf 201 = .ok (.aload_n 0, 1) := by decide +kernel
theorem dX5_bodyOf_202 : decode cX5_bodyOf 202 = .ok (.bipush 20, 2) := by decide +kernel
theorem dX5_bodyOf_204 : decode cX5_bodyOf 204 = .ok (.aload_n 2, 1) := by decide +kernel
theorem dX5_bodyOf_205 : decode cX5_bodyOf 205 = .ok (.iload_n 3, 1) := by decide +kernel
theorem dX5_bodyOf_206 : decode cX5_bodyOf 206 = .ok (.iload 5, 2) := by decide +kernel
theorem dX5_bodyOf_208 : decode cX5_bodyOf 208 = .ok (.invokestatic 28, 3) := by decide +kernel
theorem dX5_bodyOf_211 : decode cX5_bodyOf 211 = .ok (.aload_n 0, 1) := by decide +kernel
theorem dX5_bodyOf_212 : decode cX5_bodyOf 212 = .ok (.getstatic 17, 3) := by decide +kernel
theorem dX5_bodyOf_215 : decode cX5_bodyOf 215 = .ok (.aload_n 2, 1) := by decide +kernel
theorem dX5_bodyOf_216 : decode cX5_bodyOf 216 = .ok (.getfield 20, 3) := by decide +kernel
theorem dX5_bodyOf_219 : decode cX5_bodyOf 219 = .ok (.iaload, 1) := by decide +kernel
theorem dX5_bodyOf_220 : decode cX5_bodyOf 220 = .ok (.aload_n 2, 1) := by decide +kernel
theorem dX5_bodyOf_221 : decode cX5_bodyOf 221 = .ok (.iload_n 3, 1) := by decide +kernel
theorem dX5_bodyOf_222 : decode cX5_bodyOf 222 = .ok (.iload 5, 2) := by decide +kernel
theorem dX5_bodyOf_224 : decode cX5_bodyOf 224 = .ok (.invokestatic 28, 3) := by decide +kernel
theorem dX5_bodyOf_227 : decode cX5_bodyOf 227 = .ok (.isub, 1) := by decide +kernel
theorem dX5_bodyOf_228 : decode cX5_bodyOf 228 = .ok (.ireturn, 1) := by decide +kernel
theorem dX5_bodyOf_229 : decode cX5_bodyOf 229 = .ok (.iconst 2, 1) := by decide +kernel
theorem dX5_bodyOf_230 : decode cX5_bodyOf 230 = .ok (.aload_n 0, 1) := by decide +kernel
theorem dX5_bodyOf_231 : decode cX5_bodyOf 231 = .ok (.bipush 21, 2) := by decide +kernel
theorem dX5_bodyOf_233 : decode cX5_bodyOf 233 = .ok (.aload_n 2, 1) := by decide +kernel
theorem dX5_bodyOf_234 : decode cX5_bodyOf 234 = .ok (.iload_n 3, 1) := by decide +kernel
theorem dX5_bodyOf_235 : decode cX5_bodyOf 235 = .ok (.iload 5, 2) := by decide +kernel
theorem dX5_bodyOf_237 : decode cX5_bodyOf 237 = .ok (.invokestatic 28, 3) := by decide +kernel
theorem dX5_bodyOf_240 : decode cX5_bodyOf 240 = .ok (.imul, 1) := by decide +kernel
theorem dX5_bodyOf_241 : decode cX5_bodyOf 241 = .ok (.ireturn, 1) := by decide +kernel
theorem dX5_bodyOf_242 : decode cX5_bodyOf 242 = .ok (.iconst 0, 1) := by decide +kernel
theorem dX5_bodyOf_243 : decode cX5_bodyOf 243 = .ok (.ireturn, 1) := by decide +kernel
theorem dX5_leave_0 : decode cX5_leave 0 = .ok (.aload_n 0, 1) := by decide +kernel
theorem dX5_leave_1 : decode cX5_leave 1 = .ok (.getfield 13, 3) := by decide +kernel
theorem dX5_leave_4 : decode cX5_leave 4 = .ok (.bipush 16, 2) := by decide +kernel
theorem dX5_leave_6 : decode cX5_leave 6 = .ok (.if_icmp .ge 23, 3) := by decide +kernel
theorem dX5_leave_9 : decode cX5_leave 9 = .ok (.aload_n 0, 1) := by decide +kernel
theorem dX5_leave_10 : decode cX5_leave 10 = .ok (.getfield 9, 3) := by decide +kernel
theorem dX5_leave_13 : decode cX5_leave 13 = .ok (.aload_n 0, 1) := by decide +kernel
theorem dX5_leave_14 : decode cX5_leave 14 = .ok (.getfield 13, 3) := by decide +kernel
theorem dX5_leave_17 : decode cX5_leave 17 = .ok (.iload_n 1, 1) := by decide +kernel
theorem dX5_leave_18 : decode cX5_leave 18 = .ok (.iastore, 1) := by decide +kernel
theorem dX5_leave_19 : decode cX5_leave 19 = .ok (.aload_n 0, 1) := by decide +kernel
theorem dX5_leave_20 : decode cX5_leave 20 = .ok (.dup, 1) := by decide +kernel
theorem dX5_leave_21 : decode cX5_leave 21 = .ok (.getfield 13, 3) := by decide +kernel
theorem dX5_leave_24 : decode cX5_leave 24 = .ok (.iconst 1, 1) := by decide +kernel
theorem dX5_leave_25 : decode cX5_leave 25 = .ok (.iadd, 1) := by decide +kernel
theorem dX5_leave_26 : decode cX5_leave 26 = .ok (.putfield 13, 3) := by decide +kernel
theorem dX5_leave_29 : decode cX5_leave 29 = .ok (.return_, 1) := by decide +kernel
theorem dX6_init_0 : decode cX6_init 0 = .ok (.aload_n 0, 1) := by decide +kernel
theorem dX6_init_1 : decode cX6_init 1 = .ok (.invokespecial 3, 3) := by decide +kernel
theorem dX6_init_4 : decode cX6_init 4 = .ok (.aload_n 0, 1) := by decide +kernel
theorem dX6_init_5 : decode cX6_init 5 = .ok (.bipush 8, 2) := by decide +kernel
theorem dX6_init_7 : decode cX6_init 7 = .ok (.anewarray 9, 3) := by decide +kernel
theorem dX6_init_10 : decode cX6_init 10 = .ok (.putfield 11, 3) := by decide +kernel
theorem dX6_init_13 : decode cX6_init 13 = .ok (.aload_n 0, 1) := by decide +kernel
theorem dX6_init_14 : decode cX6_init 14 = .ok (.new 15, 3) := by decide +kernel
theorem dX6_init_17 : decode cX6_init 17 = .ok (.dup, 1) := by decide +kernel
theorem dX6_init_18 : decode cX6_init 18 = .ok (.invokespecial 17, 3) := by decide +kernel
theorem dX6_init_21 : decode cX6_init 21 = .ok (.putfield 18, 3) := by decide +kernel
theorem dX6_init_24 : decode cX6_init 24 = .ok (.aload_n 0, 1) := by decide +kernel
theorem dX6_init_25 : decode cX6_init 25 = .ok (.new 22, 3) := by decide +kernel
theorem dX6_init_28 : decode cX6_init 28 = .ok (.dup, 1) := by decide +kernel
theorem dX6_init_29 : decode cX6_init 29 = .ok (.invokespecial 24, 3) := by decide +kernel
theorem dX6_init_32 : decode cX6_init 32 = .ok (.putfield 25, 3) := by decide +kernel
theorem dX6_init_35 : decode cX6_init 35 = .ok (.aload_n 0, 1) := by decide +kernel
theorem dX6_init_36 : decode cX6_init 36 = .ok (.new 22, 3) := by decide +kernel
theorem dX6_init_39 : decode cX6_init 39 = .ok (.dup, 1) := by decide +kernel
theorem dX6_init_40 : decode cX6_init 40 = .ok (.invokespecial 24, 3) := by decide +kernel
theorem dX6_init_43 : decode cX6_init 43 = .ok (.putfield 29, 3) := by decide +kernel
theorem dX6_init_46 : decode cX6_init 46 = .ok (.aload_n 0, 1) := by decide +kernel
theorem dX6_init_47 : decode cX6_init 47 = .ok (.new 32, 3) := by decide +kernel
theorem dX6_init_50 : decode cX6_init 50 = .ok (.dup, 1) := by decide +kernel
theorem dX6_init_51 : decode cX6_init 51 = .ok (.invokespecial 34, 3) := by decide +kernel
theorem dX6_init_54 : decode cX6_init 54 = .ok (.putfield 35, 3) := by decide +kernel
theorem dX6_init_57 : decode cX6_init 57 = .ok (.aload_n 0, 1) := by decide +kernel
theorem dX6_init_58 : decode cX6_init 58 = .ok (.iconst 2, 1) := by decide +kernel
theorem dX6_init_59 : decode cX6_init 59 = .ok (.anewarray 22, 3) := by decide +kernel
theorem dX6_init_62 : decode cX6_init 62 = .ok (.putfield 39, 3) := by decide +kernel
theorem dX6_init_65 : decode cX6_init 65 = .ok (.aload_n 0, 1) := by decide +kernel
theorem dX6_init_66 : decode cX6_init 66 = .ok (.new 43, 3) := by decide +kernel
theorem dX6_init_69 : decode cX6_init 69 = .ok (.dup, 1) := by decide +kernel
theorem dX6_init_70 : decode cX6_init 70 = .ok (.invokespecial 45, 3) := by decide +kernel
theorem dX6_init_73 : decode cX6_init 73 = .ok (.putfield 46, 3) := by decide +kernel
theorem dX6_init_76 : decode cX6_init 76 = .ok (.aload_n 0, 1) := by decide +kernel
theorem dX6_init_77 : decode cX6_init 77 = .ok (.new 50, 3) := by decide +kernel
theorem dX6_init_80 : decode cX6_init 80 = .ok (.dup, 1) := by decide +kernel
theorem dX6_init_81 : decode cX6_init 81 = .ok (.invokespecial 52, 3) := by decide +kernel
theorem dX6_init_84 : decode cX6_init 84 = .ok (.putfield 53, 3) := by decide +kernel
theorem dX6_init_87 : decode cX6_init 87 = .ok (.aload_n 0, 1) := by decide +kernel
theorem dX6_init_88 : decode cX6_init 88 = .ok (.iconst 0, 1) := by decide +kernel
theorem dX6_init_89 : decode cX6_init 89 = .ok (.putfield 57, 3) := by decide +kernel
theorem dX6_init_92 : decode cX6_init 92 = .ok (.aload_n 0, 1) := by decide +kernel
theorem dX6_init_93 : decode cX6_init 93 = .ok (.iconst 0, 1) := by decide +kernel
theorem dX6_init_94 : decode cX6_init 94 = .ok (.putfield 61, 3) := by decide +kernel
theorem dX6_init_97 : decode cX6_init 97 = .ok (.iconst 0, 1) := by decide +kernel
theorem dX6_init_98 : decode cX6_init 98 = .ok (.istore_n 1, 1) := by decide +kernel
theorem dX6_init_99 : decode cX6_init 99 = .ok (.iload_n 1, 1) := by decide +kernel
theorem dX6_init_100 : decode cX6_init 100 = .ok (.bipush 8, 2) := by decide +kernel
theorem dX6_init_102 : decode cX6_init 102 = .ok (.if_icmp .ge 22, 3) := by decide +kernel
theorem dX6_init_105 : decode cX6_init 105 = .ok (.aload_n 0, 1) := by decide +kernel
theorem dX6_init_106 : decode cX6_init 106 = .ok (.getfield 11, 3) := by decide +kernel
theorem dX6_init_109 : decode cX6_init 109 = .ok (.iload_n 1, 1) := by decide +kernel
theorem dX6_init_110 : decode cX6_init 110 = .ok (.new 9, 3) := by decide +kernel
theorem dX6_init_113 : decode cX6_init 113 = .ok (.dup, 1) := by decide +kernel
theorem dX6_init_114 : decode cX6_init 114 = .ok (.invokespecial 64, 3) := by decide +kernel
theorem dX6_init_117 : decode cX6_init 117 = .ok (.aastore, 1) := by decide +kernel
theorem dX6_init_118 : decode cX6_init 118 = .ok (.iinc 1 1, 3) := by decide +kernel
theorem dX6_init_121 : decode cX6_init 121 = .ok (.goto (-22), 3) := by decide +kernel
theorem dX6_init_124 : decode cX6_init 124 = .ok (.iconst 0, 1) := by decide +kernel
theorem dX6_init_125 : decode cX6_init 125 = .ok (.istore_n 1, 1) := by decide +kernel
theorem dX6_init_126 : decode cX6_init 126 = .ok (.iload_n 1, 1) := by decide +kernel
theorem dX6_init_127 : decode cX6_init 127 = .ok (.iconst 2, 1) := by decide +kernel
theorem dX6_init_128 : decode cX6_init 128 = .ok (.if_icmp .ge 22, 3) := by decide +kernel
theorem dX6_init_131 : decode cX6_init 131 = .ok (.aload_n 0, 1) := by decide +kernel
theorem dX6_init_132 : decode cX6_init 132 = .ok (.getfield 39, 3) := by decide +kernel
theorem dX6_init_135 : decode cX6_init 135 = .ok (.iload_n 1, 1) := by decide +kernel
theorem dX6_init_136 : decode cX6_init 136 = .ok (.new 22, 3) := by decide +kernel
theorem dX6_init_139 : decode cX6_init 139 = .ok (.dup, 1) := by decide +kernel
theorem dX6_init_140 : decode cX6_init 140 = .ok (.invokespecial 24, 3) := by decide +kernel
theorem dX6_init_143 : decode cX6_init 143 = .ok (.aastore, 1) := by decide +kernel
theorem dX6_init_144 : decode cX6_init 144 = .ok (.iinc 1 1, 3) := by decide +kernel
theorem dX6_init_147 : decode cX6_init 147 = .ok (.goto (-21), 3) := by decide +kernel
theorem dX6_init_150 : decode cX6_init 150 = .ok (.return_, 1) := by decide +kernel
theorem dX6_row_0 : decode cX6_row 0 = .ok (.iload_n 1, 1) := by decide +kernel
theorem dX6_row_1 : decode cX6_row 1 = .ok (.invokestatic 65, 3) := by decide +kernel
theorem dX6_row_4 : decode cX6_row 4 = .ok (.ifCond .eq 18, 3) := by decide +kernel
theorem dX6_row_7 : decode cX6_row 7 = .ok (.iload_n 2, 1) := by decide +kernel
theorem dX6_row_8 : decode cX6_row 8 = .ok (.iconst 0, 1) := by decide +kernel
theorem dX6_row_9 : decode cX6_row 9 = .ok (.iconst 2, 1) := by decide +kernel
theorem dX6_row_10 : decode cX6_row 10 = .ok (.invokestatic 69, 3) := by decide +kernel
theorem dX6_row_13 : decode cX6_row 13 = .ok (.ifCond .eq 9, 3) := by decide +kernel
theorem dX6_row_16 : decode cX6_row 16 = .ok (.iload_n 3, 1) := by decide +kernel
theorem dX6_row_17 : decode cX6_row 17 = .ok (.bipush 40, 2) := by decide +kernel
theorem dX6_row_19 : decode cX6_row 19 = .ok (.if_icmp .le 6, 3) := by decide +kernel
theorem dX6_row_22 : decode cX6_row 22 = .ok (.ldc 73, 2) := by decide +kernel
theorem dX6_row_24 : decode cX6_row 24 = .ok (.ireturn, 1) := by decide +kernel
theorem dX6_row_25 : decode cX6_row 25 = .ok (.iload_n 3, 1) := by decide +kernel
theorem dX6_row_26 : decode cX6_row 26 = .ok (.ifCond .ge 9, 3) := by decide +kernel
theorem dX6_row_29 : decode cX6_row 29 = .ok (.aload_n 0, 1) := by decide +kernel
theorem dX6_row_30 : decode cX6_row 30 = .ok (.iconst 4, 1) := by decide +kernel
theorem dX6_row_31 : decode cX6_row 31 = .ok (.invokevirtual 74, 3) := by decide +kernel
theorem dX6_row_34 : decode cX6_row 34 = .ok (.ireturn, 1) := by decide +kernel
theorem dX6_row_35 : decode cX6_row 35 = .ok (.aload_n 0, 1) := by decide +kernel
theorem dX6_row_36 : decode cX6_row 36 = .ok (.getfield 11, 3) := by decide +kernel
theorem dX6_row_39 : decode cX6_row 39 = .ok (.iload_n 1, 1) := by decide +kernel
theorem dX6_row_40 : decode cX6_row 40 = .ok (.aaload, 1) := by decide +kernel
theorem dX6_row_41 : decode cX6_row 41 = .ok (.iload_n 2, 1) := by decide +kernel
theorem dX6_row_42 : decode cX6_row 42 = .ok (.iload_n 3, 1) := by decide +kernel
theorem dX6_row_43 : decode cX6_row 43 = .ok (.invokevirtual 78, 3) := by decide +kernel
theorem dX6_row_46 : decode cX6_row 46 = .ok (.aload_n 0, 1) := by decide +kernel
theorem dX6_row_47 : decode cX6_row 47 = .ok (.iload_n 3, 1) := by decide +kernel
theorem dX6_row_48 : decode cX6_row 48 = .ok (.invokevirtual 82, 3) := by decide +kernel
theorem dX6_row_51 : decode cX6_row 51 = .ok (.ireturn, 1) := by decide +kernel
theorem dX6_set_0 : decode cX6_set 0 = .ok (.iload_n 1, 1) := by decide +kernel
theorem dX6_set_1 : decode cX6_set 1 = .ok (.invokestatic 65, 3) := by decide +kernel
theorem dX6_set_4 : decode cX6_set 4 = .ok (.ifCond .ne 6, 3) := by decide +kernel
theorem dX6_set_7 : decode cX6_set 7 = .ok (.ldc 73, 2) := by decide +kernel
theorem dX6_set_9 : decode cX6_set 9 = .ok (.ireturn, 1) := by decide +kernel
theorem dX6_set_10 : decode cX6_set 10 = .ok (.aload_n 0, 1) := by decide +kernel
theorem dX6_set_11 : decode cX6_set 11 = .ok (.getfield 11, 3) := by decide +kernel
theorem dX6_set_14 : decode cX6_set 14 = .ok (.iload_n 1, 1) := by decide +kernel
theorem dX6_set_15 : decode cX6_set 15 = .ok (.aaload, 1) := by decide +kernel
theorem dX6_set_16 : decode cX6_set 16 = .ok (.iload_n 2, 1) := by decide +kernel
theorem dX6_set_17 : decode cX6_set 17 = .ok (.iconst 1, 1) := by decide +kernel
theorem dX6_set_18 : decode cX6_set 18 = .ok (.invokevirtual 85, 3) := by decide +kernel
theorem dX6_set_21 : decode cX6_set 21 = .ok (.istore 4, 2) := by decide +kernel
theorem dX6_set_23 : decode cX6_set 23 = .ok (.iload 4, 2) := by decide +kernel
theorem dX6_set_25 : decode cX6_set 25 = .ok (.ifCond .eq 12, 3) := by decide +kernel
theorem dX6_set_28 : decode cX6_set 28 = .ok (.aload_n 0, 1) := by decide +kernel
theorem dX6_set_29 : decode cX6_set 29 = .ok (.iload 4, 2) := by decide +kernel
theorem dX6_set_31 : decode cX6_set 31 = .ok (.invokevirtual 74, 3) := by decide +kernel
theorem dX6_set_34 : decode cX6_set 34 = .ok (.goto 18, 3) := by decide +kernel
theorem dX6_set_37 : decode cX6_set 37 = .ok (.aload_n 0, 1) := by decide +kernel
theorem dX6_set_38 : decode cX6_set 38 = .ok (.aload_n 0, 1) := by decide +kernel
theorem dX6_set_39 : decode cX6_set 39 = .ok (.getfield 11, 3) := by decide +kernel
theorem dX6_set_42 : decode cX6_set 42 = .ok (.iload_n 1, 1) := by decide +kernel
theorem dX6_set_43 : decode cX6_set 43 = .ok (.aaload, 1) := by decide +kernel
theorem dX6_set_44 : decode cX6_set 44 = .ok (.iload_n 2, 1) := by decide +kernel
theorem dX6_set_45 : decode cX6_set 45 = .ok (.iload_n 3, 1) := by decide +kernel
theorem dX6_set_46 : decode cX6_set 46 = .ok (.invokevirtual 89, 3) := by decide +kernel
theorem dX6_set_49 : decode cX6_set 49 = .ok (.invokevirtual 82, 3) := by decide +kernel
theorem dX6_set_52 : decode cX6_set 52 = .ok (.ireturn, 1) := by decide +kernel
theorem dX6_copy_0 : decode cX6_copy 0 = .ok (.iload_n 1, 1) := by decide +kernel
theorem dX6_copy_1 : decode cX6_copy 1 = .ok (.invokestatic 65, 3) := by decide +kernel
theorem dX6_copy_4 : decode cX6_copy 4 = .ok (.ifCond .eq 10, 3) := by decide +kernel
theorem dX6_copy_7 : decode cX6_copy 7 = .ok (.iload_n 3, 1) := by decide +kernel
theorem dX6_copy_8 : decode cX6_copy 8 = .ok (.invokestatic 65, 3) := by decide +kernel
theorem dX6_copy_11 : decode cX6_copy 11 = .ok (.ifCond .ne 6, 3) := by decide +kernel
theorem dX6_copy_14 : decode cX6_copy 14 = .ok (.ldc 73, 2) := by decide +kernel
theorem dX6_copy_16 : decode cX6_copy 16 = .ok (.ireturn, 1) := by decide +kernel
theorem dX6_copy_17 : decode cX6_copy 17 = .ok (.aload_n 0, 1) := by decide +kernel
theorem dX6_copy_18 : decode cX6_copy 18 = .ok (.getfield 11, 3) := by decide +kernel
theorem dX6_copy_21 : decode cX6_copy 21 = .ok (.iload_n 1, 1) := by decide +kernel
theorem dX6_copy_22 : decode cX6_copy 22 = .ok (.aaload, 1) := by decide +kernel
theorem dX6_copy_23 : decode cX6_copy 23 = .ok (.astore 6, 2) := by decide +kernel
theorem dX6_copy_25 : decode cX6_copy 25 = .ok (.aload_n 0, 1) := by decide +kernel
theorem dX6_copy_26 : decode cX6_copy 26 = .ok (.getfield 11, 3) := by decide +kernel
theorem dX6_copy_29 : decode cX6_copy 29 = .ok (.iload_n 3, 1) := by decide +kernel
theorem dX6_copy_30 : decode cX6_copy 30 = .ok (.aaload, 1) := by decide +kernel
theorem dX6_copy_31 : decode cX6_copy 31 = .ok (.astore 7, 2) := by decide +kernel
theorem dX6_copy_33 : decode cX6_copy 33 = .ok (.aload 6, 2) := by decide +kernel
theorem dX6_copy_35 : decode cX6_copy 35 = .ok (.getfield 92, 3) := by decide +kernel
theorem dX6_copy_38 : decode cX6_copy 38 = .ok (.ifCond .eq 11, 3) := by decide +kernel
theorem dX6_copy_41 : decode cX6_copy 41 = .ok (.aload 7, 2) := by decide +kernel
theorem dX6_copy_43 : decode cX6_copy 43 = .ok (.getfield 92, 3) := by decide +kernel
theorem dX6_copy_46 : decode cX6_copy 46 = .ok (.ifCond .ne 9, 3) := by decide +kernel
theorem dX6_copy_49 : decode cX6_copy 49 = .ok (.aload_n 0, 1) := by decide +kernel
theorem dX6_copy_50 : decode cX6_copy 50 = .ok (.iconst 1, 1) := by decide +kernel
theorem dX6_copy_51 : decode cX6_copy 51 = .ok (.invokevirtual 74, 3) := by decide +kernel
theorem dX6_copy_54 : decode cX6_copy 54 = .ok (.ireturn, 1) := by decide +kernel
theorem dX6_copy_55 : decode cX6_copy 55 = .ok (.aload 6, 2) := by decide +kernel
theorem dX6_copy_57 : decode cX6_copy 57 = .ok (.getfield 96, 3) := by decide +kernel
theorem dX6_copy_60 : decode cX6_copy 60 = .ok (.aload 7, 2) := by decide +kernel
theorem dX6_copy_62 : decode cX6_copy 62 = .ok (.getfield 96, 3) := by decide +kernel
theorem dX6_copy_65 : decode cX6_copy 65 = .ok (.if_icmp .eq 9, 3) := by decide +kernel
theorem dX6_copy_68 : decode cX6_copy 68 = .ok (.aload_n 0, 1) := by decide +kernel
theorem dX6_copy_69 : decode cX6_copy 69 = .ok (.iconst 5, 1) := by decide +kernel
theorem dX6_copy_70 : decode cX6_copy 70 = .ok (.invokevirtual 74, 3) := by decide +kernel
theorem dX6_copy_73 : decode cX6_copy 73 = .ok (.ireturn, 1) := by decide +kernel
theorem dX6_copy_74 : decode cX6_copy 74 = .ok (.aload 6, 2) := by decide +kernel
theorem dX6_copy_76 : decode cX6_copy 76 = .ok (.iload_n 2, 1) := by decide +kernel
theorem dX6_copy_77 : decode cX6_copy 77 = .ok (.iload 5, 2) := by decide +kernel
theorem dX6_copy_79 : decode cX6_copy 79 = .ok (.invokevirtual 99, 3) := by decide +kernel
theorem dX6_copy_82 : decode cX6_copy 82 = .ok (.ifCond .eq 15, 3) := by decide +kernel
theorem dX6_copy_85 : decode cX6_copy 85 = .ok (.aload 7, 2) := by decide +kernel
theorem dX6_copy_87 : decode cX6_copy 87 = .ok (.iload 4, 2) := by decide +kernel
theorem dX6_copy_89 : decode cX6_copy 89 = .ok (.iload 5, 2) := by decide +kernel
theorem dX6_copy_91 : decode cX6_copy 91 = .ok (.invokevirtual 99, 3) := by decide +kernel
theorem dX6_copy_94 : decode cX6_copy 94 = .ok (.ifCond .ne 9, 3) := by decide +kernel
theorem dX6_copy_97 : decode cX6_copy 97 = .ok (.aload_n 0, 1) := by decide +kernel
theorem dX6_copy_98 : decode cX6_copy 98 = .ok (.iconst 2, 1) := by decide +kernel
theorem dX6_copy_99 : decode cX6_copy 99 = .ok (.invokevirtual 74, 3) := by decide +kernel
theorem dX6_copy_102 : decode cX6_copy 102 = .ok (.ireturn, 1) := by decide +kernel
theorem dX6_copy_103 : decode cX6_copy 103 = .ok (.aload 6, 2) := by decide +kernel
theorem dX6_copy_105 : decode cX6_copy 105 = .ok (.getfield 103, 3) := by decide +kernel
theorem dX6_copy_108 : decode cX6_copy 108 = .ok (.iload_n 2, 1) := by decide +kernel
theorem dX6_copy_109 : decode cX6_copy 109 = .ok (.aload 7, 2) := by decide +kernel
theorem dX6_copy_111 : decode cX6_copy 111 = .ok (.getfield 103, 3) := by decide +kernel
theorem dX6_copy_114 : decode cX6_copy 114 = .ok (.iload 4, 2) := by decide +kernel
theorem dX6_copy_116 : decode cX6_copy 116 = .ok (.iload 5, 2) := by decide +kernel
theorem dX6_copy_118 : decode cX6_copy 118 = .ok (.invokestatic 107, 3) := by decide +kernel
theorem dX6_copy_121 : decode cX6_copy 121 = .ok (.aload_n 0, 1) := by decide +kernel
theorem dX6_copy_122 : decode cX6_copy 122 = .ok (.iload 5, 2) := by decide +kernel
theorem dX6_copy_124 : decode cX6_copy 124 = .ok (.invokevirtual 82, 3) := by decide +kernel
theorem dX6_copy_127 : decode cX6_copy 127 = .ok (.ireturn, 1) := by decide +kernel
theorem dX6_drop_0 : decode cX6_drop 0 = .ok (.iload_n 1, 1) := by decide +kernel
theorem dX6_drop_1 : decode cX6_drop 1 = .ok (.invokestatic 65, 3) := by decide +kernel
theorem dX6_drop_4 : decode cX6_drop 4 = .ok (.ifCond .ne 6, 3) := by decide +kernel
theorem dX6_drop_7 : decode cX6_drop 7 = .ok (.ldc 73, 2) := by decide +kernel
theorem dX6_drop_9 : decode cX6_drop 9 = .ok (.ireturn, 1) := by decide +kernel
theorem dX6_drop_10 : decode cX6_drop 10 = .ok (.aload_n 0, 1) := by decide +kernel
theorem dX6_drop_11 : decode cX6_drop 11 = .ok (.getfield 11, 3) := by decide +kernel
theorem dX6_drop_14 : decode cX6_drop 14 = .ok (.iload_n 1, 1) := by decide +kernel
theorem dX6_drop_15 : decode cX6_drop 15 = .ok (.aaload, 1) := by decide +kernel
theorem dX6_drop_16 : decode cX6_drop 16 = .ok (.getfield 92, 3) := by decide +kernel
theorem dX6_drop_19 : decode cX6_drop 19 = .ok (.ifCond .ne 9, 3) := by decide +kernel
theorem dX6_drop_22 : decode cX6_drop 22 = .ok (.aload_n 0, 1) := by decide +kernel
theorem dX6_drop_23 : decode cX6_drop 23 = .ok (.iconst 1, 1) := by decide +kernel
theorem dX6_drop_24 : decode cX6_drop 24 = .ok (.invokevirtual 74, 3) := by decide +kernel
theorem dX6_drop_27 : decode cX6_drop 27 = .ok (.ireturn, 1) := by decide +kernel
theorem dX6_drop_28 : decode cX6_drop 28 = .ok (.aload_n 0, 1) := by decide +kernel
theorem dX6_drop_29 : decode cX6_drop 29 = .ok (.getfield 11, 3) := by decide +kernel
theorem dX6_drop_32 : decode cX6_drop 32 = .ok (.iload_n 1, 1) := by decide +kernel
theorem dX6_drop_33 : decode cX6_drop 33 = .ok (.aaload, 1) := by decide +kernel
theorem dX6_drop_34 : decode cX6_drop 34 = .ok (.iconst 0, 1) := by decide +kernel
theorem dX6_drop_35 : decode cX6_drop 35 = .ok (.putfield 92, 3) := by decide +kernel
theorem dX6_drop_38 : decode cX6_drop 38 = .ok (.aload_n 0, 1) := by decide +kernel
theorem dX6_drop_39 : decode cX6_drop 39 = .ok (.aload_n 0, 1) := by decide +kernel
theorem dX6_drop_40 : decode cX6_drop 40 = .ok (.getfield 11, 3) := by decide +kernel
theorem dX6_drop_43 : decode cX6_drop 43 = .ok (.iload_n 1, 1) := by decide +kernel
theorem dX6_drop_44 : decode cX6_drop 44 = .ok (.aaload, 1) := by decide +kernel
theorem dX6_drop_45 : decode cX6_drop 45 = .ok (.getfield 113, 3) := by decide +kernel
theorem dX6_drop_48 : decode cX6_drop 48 = .ok (.invokevirtual 82, 3) := by decide +kernel
theorem dX6_drop_51 : decode cX6_drop 51 = .ok (.ireturn, 1) := by decide +kernel
theorem dX6_feed_0 : decode cX6_feed 0 = .ok (.iload_n 1, 1) := by decide +kernel
theorem dX6_feed_1 : decode cX6_feed 1 = .ok (.iconst 0, 1) := by decide +kernel
theorem dX6_feed_2 : decode cX6_feed 2 = .ok (.sipush 255, 3) := by decide +kernel
theorem dX6_feed_5 : decode cX6_feed 5 = .ok (.invokestatic 69, 3) := by decide +kernel
theorem dX6_feed_8 : decode cX6_feed 8 = .ok (.ifCond .ne 6, 3) := by decide +kernel
theorem dX6_feed_11 : decode cX6_feed 11 = .ok (.ldc 73, 2) := by decide +kernel
theorem dX6_feed_13 : decode cX6_feed 13 = .ok (.ireturn, 1) := by decide +kernel
theorem dX6_feed_14 : decode cX6_feed 14 = .ok (.aload_n 0, 1) := by decide +kernel
theorem dX6_feed_15 : decode cX6_feed 15 = .ok (.getfield 18, 3) := by decide +kernel
theorem dX6_feed_18 : decode cX6_feed 18 = .ok (.iload_n 1, 1) := by decide +kernel
theorem dX6_feed_19 : decode cX6_feed 19 = .ok (.invokevirtual 116, 3) := by decide +kernel
theorem dX6_feed_22 : decode cX6_feed 22 = .ok (.ifCond .eq 13, 3) := by decide +kernel
theorem dX6_feed_25 : decode cX6_feed 25 = .ok (.aload_n 0, 1) := by decide +kernel
theorem dX6_feed_26 : decode cX6_feed 26 = .ok (.getfield 18, 3) := by decide +kernel
theorem dX6_feed_29 : decode cX6_feed 29 = .ok (.getfield 119, 3) := by decide +kernel
theorem dX6_feed_32 : decode cX6_feed 32 = .ok (.goto 5, 3) := by decide +kernel
theorem dX6_feed_35 : decode cX6_feed 35 = .ok (.ldc 120, 2) := by decide +kernel
theorem dX6_feed_37 : decode cX6_feed 37 = .ok (.ireturn, 1) := by decide +kernel
theorem dX6_herd_0 : decode cX6_herd 0 = .ok (.aload_n 0, 1) := by decide +kernel
theorem dX6_herd_1 : decode cX6_herd 1 = .ok (.getfield 18, 3) := by decide +kernel
theorem dX6_herd_4 : decode cX6_herd 4 = .ok (.aload_n 0, 1) := by decide +kernel
theorem dX6_herd_5 : decode cX6_herd 5 = .ok (.getfield 29, 3) := by decide +kernel
theorem dX6_herd_8 : decode cX6_herd 8 = .ok (.invokevirtual 121, 3) := by decide +kernel
theorem dX6_herd_11 : decode cX6_herd 11 = .ok (.aload_n 0, 1) := by decide +kernel
theorem dX6_herd_12 : decode cX6_herd 12 = .ok (.getfield 18, 3) := by decide +kernel
theorem dX6_herd_15 : decode cX6_herd 15 = .ok (.iconst 0, 1) := by decide +kernel
theorem dX6_herd_16 : decode cX6_herd 16 = .ok (.putfield 119, 3) := by decide +kernel
theorem dX6_herd_19 : decode cX6_herd 19 = .ok (.aload_n 0, 1) := by decide +kernel
theorem dX6_herd_20 : decode cX6_herd 20 = .ok (.getfield 18, 3) := by decide +kernel
theorem dX6_herd_23 : decode cX6_herd 23 = .ok (.getfield 125, 3) := by decide +kernel
theorem dX6_herd_26 : decode cX6_herd 26 = .ok (.ifCond .eq 25, 3) := by decide +kernel
theorem dX6_herd_29 : decode cX6_herd 29 = .ok (.aload_n 0, 1) := by decide +kernel
theorem dX6_herd_30 : decode cX6_herd 30 = .ok (.aload_n 0, 1) := by decide +kernel
theorem dX6_herd_31 : decode cX6_herd 31 = .ok (.getfield 18, 3) := by decide +kernel
theorem dX6_herd_34 : decode cX6_herd 34 = .ok (.getfield 125, 3) := by decide +kernel
theorem dX6_herd_37 : decode cX6_herd 37 = .ok (.putfield 61, 3) := by decide +kernel
theorem dX6_herd_40 : decode cX6_herd 40 = .ok (.ldc 128, 2) := by decide +kernel
theorem dX6_herd_42 : decode cX6_herd 42 = .ok (.aload_n 0, 1) := by decide +kernel
theorem dX6_herd_43 : decode cX6_herd 43 = .ok (.getfield 18, 3) := by decide +kernel
theorem dX6_herd_46 : decode cX6_herd 46 = .ok (.getfield 129, 3) := by decide +kernel
theorem dX6_herd_49 : decode cX6_herd 49 = .ok (.isub, 1) := by decide +kernel
theorem dX6_herd_50 : decode cX6_herd 50 = .ok (.ireturn, 1) := by decide +kernel
theorem dX6_herd_51 : decode cX6_herd 51 = .ok (.aload_n 0, 1) := by decide +kernel
theorem dX6_herd_52 : decode cX6_herd 52 = .ok (.getfield 25, 3) := by decide +kernel
theorem dX6_herd_55 : decode cX6_herd 55 = .ok (.aload_n 0, 1) := by decide +kernel
theorem dX6_herd_56 : decode cX6_herd 56 = .ok (.getfield 29, 3) := by decide +kernel
theorem dX6_herd_59 : decode cX6_herd 59 = .ok (.invokevirtual 132, 3) := by decide +kernel
theorem dX6_herd_62 : decode cX6_herd 62 = .ok (.aload_n 0, 1) := by decide +kernel
theorem dX6_herd_63 : decode cX6_herd 63 = .ok (.getfield 46, 3) := by decide +kernel
theorem dX6_herd_66 : decode cX6_herd 66 = .ok (.invokevirtual 135, 3) := by decide +kernel
theorem dX6_herd_69 : decode cX6_herd 69 = .ok (.aload_n 0, 1) := by decide +kernel
theorem dX6_herd_70 : decode cX6_herd 70 = .ok (.getfield 25, 3) := by decide +kernel
theorem dX6_herd_73 : decode cX6_herd 73 = .ok (.getfield 138, 3) := by decide +kernel
theorem dX6_herd_76 : decode cX6_herd 76 = .ok (.ireturn, 1) := by decide +kernel
theorem dX6_fault_0 : decode cX6_fault 0 = .ok (.aload_n 0, 1) := by decide +kernel
theorem dX6_fault_1 : decode cX6_fault 1 = .ok (.getfield 61, 3) := by decide +kernel
theorem dX6_fault_4 : decode cX6_fault 4 = .ok (.ireturn, 1) := by decide +kernel
theorem dX6_undo_0 : decode cX6_undo 0 = .ok (.aload_n 0, 1) := by decide +kernel
theorem dX6_undo_1 : decode cX6_undo 1 = .ok (.getfield 46, 3) := by decide +kernel
theorem dX6_undo_4 : decode cX6_undo 4 = .ok (.getfield 141, 3) := by decide +kernel
theorem dX6_undo_7 : decode cX6_undo 7 = .ok (.ifCond .ne 6, 3) := by decide +kernel
theorem dX6_undo_10 : decode cX6_undo 10 = .ok (.ldc 142, 2) := by decide +kernel
theorem dX6_undo_12 : decode cX6_undo 12 = .ok (.ireturn, 1) := by decide +kernel
theorem dX6_undo_13 : decode cX6_undo 13 = .ok (.aload_n 0, 1) := by decide +kernel
theorem dX6_undo_14 : decode cX6_undo 14 = .ok (.getfield 46, 3) := by decide +kernel
theorem dX6_undo_17 : decode cX6_undo 17 = .ok (.aload_n 0, 1) := by decide +kernel
theorem dX6_undo_18 : decode cX6_undo 18 = .ok (.getfield 25, 3) := by decide +kernel
theorem dX6_undo_21 : decode cX6_undo 21 = .ok (.invokevirtual 143, 3) := by decide +kernel
theorem dX6_undo_24 : decode cX6_undo 24 = .ok (.aload_n 0, 1) := by decide +kernel
theorem dX6_undo_25 : decode cX6_undo 25 = .ok (.getfield 46, 3) := by decide +kernel
theorem dX6_undo_28 : decode cX6_undo 28 = .ok (.getfield 141, 3) := by decide +kernel
theorem dX6_undo_31 : decode cX6_undo 31 = .ok (.ireturn, 1) := by decide +kernel
theorem dX6_hours_0 : decode cX6_hours 0 = .ok (.aload_n 0, 1) := by decide +kernel
theorem dX6_hours_1 : decode cX6_hours 1 = .ok (.getfield 25, 3) := by decide +kernel
theorem dX6_hours_4 : decode cX6_hours 4 = .ok (.getfield 146, 3) := by decide +kernel
theorem dX6_hours_7 : decode cX6_hours 7 = .ok (.ifCond .ne 6, 3) := by decide +kernel
theorem dX6_hours_10 : decode cX6_hours 10 = .ok (.ldc 142, 2) := by decide +kernel
theorem dX6_hours_12 : decode cX6_hours 12 = .ok (.ireturn, 1) := by decide +kernel
theorem dX6_hours_13 : decode cX6_hours 13 = .ok (.iload_n 1, 1) := by decide +kernel
theorem dX6_hours_14 : decode cX6_hours 14 = .ok (.iconst 1, 1) := by decide +kernel
theorem dX6_hours_15 : decode cX6_hours 15 = .ok (.bipush 24, 2) := by decide +kernel
theorem dX6_hours_17 : decode cX6_hours 17 = .ok (.invokestatic 69, 3) := by decide +kernel
theorem dX6_hours_20 : decode cX6_hours 20 = .ok (.ifCond .ne 6, 3) := by decide +kernel
theorem dX6_hours_23 : decode cX6_hours 23 = .ok (.ldc 73, 2) := by decide +kernel
theorem dX6_hours_25 : decode cX6_hours 25 = .ok (.ireturn, 1) := by decide +kernel
theorem dX6_hours_26 : decode cX6_hours 26 = .ok (.aload_n 0, 1) := by decide +kernel
theorem dX6_hours_27 : decode cX6_hours 27 = .ok (.getfield 25, 3) := by decide +kernel
theorem dX6_hours_30 : decode cX6_hours 30 = .ok (.getfield 149, 3) := by decide +kernel
theorem dX6_hours_33 : decode cX6_hours 33 = .ok (.iload_n 1, 1) := by decide +kernel
theorem dX6_hours_34 : decode cX6_hours 34 = .ok (.iadd, 1) := by decide +kernel
theorem dX6_hours_35 : decode cX6_hours 35 = .ok (.sipush 999, 3) := by decide +kernel
theorem dX6_hours_38 : decode cX6_hours 38 = .ok (.if_icmp .le 6, 3) := by decide +kernel
theorem dX6_hours_41 : decode cX6_hours 41 = .ok (.ldc 120, 2) := by decide +kernel
theorem dX6_hours_43 : decode cX6_hours 43 = .ok (.ireturn, 1) := by decide +kernel
theorem dX6_hours_44 : decode cX6_hours 44 = .ok (.iconst 0, 1) := by decide +kernel
theorem dX6_hours_45 : decode cX6_hours 45 = .ok (.istore_n 2, 1) := by decide +kernel
theorem dX6_hours_46 : decode cX6_hours 46 = .ok (.iload_n 2, 1) := by decide +kernel
theorem dX6_hours_47 : decode cX6_hours 47 = .ok (.iload_n 1, 1) := by decide +kernel
theorem dX6_hours_48 : decode cX6_hours 48 = .ok (.if_icmp .ge 27, 3) := by decide +kernel
theorem dX6_hours_51 : decode cX6_hours 51 = .ok (.aload_n 0, 1) := by decide +kernel
theorem dX6_hours_52 : decode cX6_hours 52 = .ok (.getfield 46, 3) := by decide +kernel
theorem dX6_hours_55 : decode cX6_hours 55 = .ok (.aload_n 0, 1) := by decide +kernel
theorem dX6_hours_56 : decode cX6_hours 56 = .ok (.getfield 25, 3) := by decide +kernel
theorem dX6_hours_59 : decode cX6_hours 59 = .ok (.invokevirtual 152, 3) := by decide +kernel
theorem dX6_hours_62 : decode cX6_hours 62 = .ok (.aload_n 0, 1) := by decide +kernel
theorem dX6_hours_63 : decode cX6_hours 63 = .ok (.getfield 25, 3) := by decide +kernel
theorem dX6_hours_66 : decode cX6_hours 66 = .ok (.invokevirtual 155, 3) := by decide +kernel
theorem dX6_hours_69 : decode cX6_hours 69 = .ok (.iinc 2 1, 3) := by decide +kernel
theorem dX6_hours_72 : decode cX6_hours 72 = .ok (.goto (-26), 3) := by decide +kernel
theorem dX6_hours_75 : decode cX6_hours 75 = .ok (.aload_n 0, 1) := by decide +kernel
theorem dX6_hours_76 : decode cX6_hours 76 = .ok (.getfield 25, 3) := by decide +kernel
theorem dX6_hours_79 : decode cX6_hours 79 = .ok (.getfield 158, 3) := by decide +kernel
theorem dX6_hours_82 : decode cX6_hours 82 = .ok (.ireturn, 1) := by decide +kernel
theorem dX6_lift_0 : decode cX6_lift 0 = .ok (.aload_n 0, 1) := by decide +kernel
theorem dX6_lift_1 : decode cX6_lift 1 = .ok (.iload_n 1, 1) := by decide +kernel
theorem dX6_lift_2 : decode cX6_lift 2 = .ok (.invokevirtual 161, 3) := by decide +kernel
theorem dX6_lift_5 : decode cX6_lift 5 = .ok (.ifCond .eq 12, 3) := by decide +kernel
theorem dX6_lift_8 : decode cX6_lift 8 = .ok (.iload_n 2, 1) := by decide +kernel
theorem dX6_lift_9 : decode cX6_lift 9 = .ok (.iconst 0, 1) := by decide +kernel
theorem dX6_lift_10 : decode cX6_lift 10 = .ok (.iconst 1, 1) := by decide +kernel
theorem dX6_lift_11 : decode cX6_lift 11 = .ok (.invokestatic 69, 3) := by decide +kernel
theorem dX6_lift_14 : decode cX6_lift 14 = .ok (.ifCond .ne 6, 3) := by decide +kernel
theorem dX6_lift_17 : decode cX6_lift 17 = .ok (.ldc 73, 2) := by decide +kernel
theorem dX6_lift_19 : decode cX6_lift 19 = .ok (.ireturn, 1) := by decide +kernel
theorem dX6_lift_20 : decode cX6_lift 20 = .ok (.aload_n 0, 1) := by decide +kernel
theorem dX6_lift_21 : decode cX6_lift 21 = .ok (.getfield 25, 3) := by decide +kernel
theorem dX6_lift_24 : decode cX6_lift 24 = .ok (.getfield 164, 3) := by decide +kernel
theorem dX6_lift_27 : decode cX6_lift 27 = .ok (.iload_n 1, 1) := by decide +kernel
theorem dX6_lift_28 : decode cX6_lift 28 = .ok (.aaload, 1) := by decide +kernel
theorem dX6_lift_29 : decode cX6_lift 29 = .ok (.astore_n 3, 1) := by decide +kernel
theorem dX6_lift_30 : decode cX6_lift 30 = .ok (.aload_n 3, 1) := by decide +kernel
theorem dX6_lift_31 : decode cX6_lift 31 = .ok (.getfield 168, 3) := by decide +kernel
theorem dX6_lift_34 : decode cX6_lift 34 = .ok (.ifCond .ne 18, 3) := by decide +kernel
theorem dX6_lift_37 : decode cX6_lift 37 = .ok (.aload_n 3, 1) := by decide +kernel
theorem dX6_lift_38 : decode cX6_lift 38 = .ok (.invokevirtual 171, 3) := by decide +kernel
theorem dX6_lift_41 : decode cX6_lift 41 = .ok (.ifCond .eq 11, 3) := by decide +kernel
theorem dX6_lift_44 : decode cX6_lift 44 = .ok (.aload_n 3, 1) := by decide +kernel
theorem dX6_lift_45 : decode cX6_lift 45 = .ok (.getfield 175, 3) := by decide +kernel
theorem dX6_lift_48 : decode cX6_lift 48 = .ok (.iload_n 2, 1) := by decide +kernel
theorem dX6_lift_49 : decode cX6_lift 49 = .ok (.if_icmp .ne 6, 3) := by decide +kernel
theorem dX6_lift_52 : decode cX6_lift 52 = .ok (.ldc 142, 2) := by decide +kernel
theorem dX6_lift_54 : decode cX6_lift 54 = .ok (.ireturn, 1) := by decide +kernel
theorem dX6_lift_55 : decode cX6_lift 55 = .ok (.aload_n 0, 1) := by decide +kernel
theorem dX6_lift_56 : decode cX6_lift 56 = .ok (.getfield 46, 3) := by decide +kernel
theorem dX6_lift_59 : decode cX6_lift 59 = .ok (.aload_n 0, 1) := by decide +kernel
theorem dX6_lift_60 : decode cX6_lift 60 = .ok (.getfield 25, 3) := by decide +kernel
theorem dX6_lift_63 : decode cX6_lift 63 = .ok (.invokevirtual 152, 3) := by decide +kernel
theorem dX6_lift_66 : decode cX6_lift 66 = .ok (.aload_n 3, 1) := by decide +kernel
theorem dX6_lift_67 : decode cX6_lift 67 = .ok (.iload_n 2, 1) := by decide +kernel
theorem dX6_lift_68 : decode cX6_lift 68 = .ok (.invokevirtual 178, 3) := by decide +kernel
theorem dX6_lift_71 : decode cX6_lift 71 = .ok (.aload_n 3, 1) := by decide +kernel
theorem dX6_lift_72 : decode cX6_lift 72 = .ok (.getfield 182, 3) := by decide +kernel
theorem dX6_lift_75 : decode cX6_lift 75 = .ok (.ireturn, 1) := by decide +kernel
theorem dX6_rains_0 : decode cX6_rains 0 = .ok (.aload_n 0, 1) := by decide +kernel
theorem dX6_rains_1 : decode cX6_rains 1 = .ok (.iload_n 1, 1) := by decide +kernel
theorem dX6_rains_2 : decode cX6_rains 2 = .ok (.invokevirtual 161, 3) := by decide +kernel
theorem dX6_rains_5 : decode cX6_rains 5 = .ok (.ifCond .eq 12, 3) := by decide +kernel
theorem dX6_rains_8 : decode cX6_rains 8 = .ok (.iload_n 2, 1) := by decide +kernel
theorem dX6_rains_9 : decode cX6_rains 9 = .ok (.iconst 0, 1) := by decide +kernel
theorem dX6_rains_10 : decode cX6_rains 10 = .ok (.iconst 1, 1) := by decide +kernel
theorem dX6_rains_11 : decode cX6_rains 11 = .ok (.invokestatic 69, 3) := by decide +kernel
theorem dX6_rains_14 : decode cX6_rains 14 = .ok (.ifCond .ne 6, 3) := by decide +kernel
theorem dX6_rains_17 : decode cX6_rains 17 = .ok (.ldc 73, 2) := by decide +kernel
theorem dX6_rains_19 : decode cX6_rains 19 = .ok (.ireturn, 1) := by decide +kernel
theorem dX6_rains_20 : decode cX6_rains 20 = .ok (.aload_n 0, 1) := by decide +kernel
theorem dX6_rains_21 : decode cX6_rains 21 = .ok (.getfield 25, 3) := by decide +kernel
theorem dX6_rains_24 : decode cX6_rains 24 = .ok (.getfield 164, 3) := by decide +kernel
theorem dX6_rains_27 : decode cX6_rains 27 = .ok (.iload_n 1, 1) := by decide +kernel
theorem dX6_rains_28 : decode cX6_rains 28 = .ok (.aaload, 1) := by decide +kernel
theorem dX6_rains_29 : decode cX6_rains 29 = .ok (.astore_n 3, 1) := by decide +kernel
theorem dX6_rains_30 : decode cX6_rains 30 = .ok (.aload_n 3, 1) := by decide +kernel
theorem dX6_rains_31 : decode cX6_rains 31 = .ok (.getfield 168, 3) := by decide +kernel
theorem dX6_rains_34 : decode cX6_rains 34 = .ok (.ifCond .ne 19, 3) := by decide +kernel
theorem dX6_rains_37 : decode cX6_rains 37 = .ok (.aload_n 3, 1) := by decide +kernel
theorem dX6_rains_38 : decode cX6_rains 38 = .ok (.getfield 185, 3) := by decide +kernel
theorem dX6_rains_41 : decode cX6_rains 41 = .ok (.iconst 1, 1) := by decide +kernel
theorem dX6_rains_42 : decode cX6_rains 42 = .ok (.if_icmp .eq 14, 3) := by decide +kernel
theorem dX6_rains_45 : decode cX6_rains 45 = .ok (.aload_n 3, 1) := by decide +kernel
theorem dX6_rains_46 : decode cX6_rains 46 = .ok (.getfield 185, 3) := by decide +kernel
theorem dX6_rains_49 : decode cX6_rains 49 = .ok (.iconst 2, 1) := by decide +kernel
theorem dX6_rains_50 : decode cX6_rains 50 = .ok (.if_icmp .eq 6, 3) := by decide +kernel
theorem dX6_rains_53 : decode cX6_rains 53 = .ok (.ldc 142, 2) := by decide +kernel
theorem dX6_rains_55 : decode cX6_rains 55 = .ok (.ireturn, 1) := by decide +kernel
theorem dX6_rains_56 : decode cX6_rains 56 = .ok (.aload_n 3, 1) := by decide +kernel
theorem dX6_rains_57 : decode cX6_rains 57 = .ok (.getfield 188, 3) := by decide +kernel
theorem dX6_rains_60 : decode cX6_rains 60 = .ok (.invokestatic 191, 3) := by decide +kernel
theorem dX6_rains_63 : decode cX6_rains 63 = .ok (.istore 4, 2) := by decide +kernel
theorem dX6_rains_65 : decode cX6_rains 65 = .ok (.aload_n 0, 1) := by decide +kernel
theorem dX6_rains_66 : decode cX6_rains 66 = .ok (.getfield 46, 3) := by decide +kernel
theorem dX6_rains_69 : decode cX6_rains 69 = .ok (.aload_n 0, 1) := by decide +kernel
theorem dX6_rains_70 : decode cX6_rains 70 = .ok (.getfield 25, 3) := by decide +kernel
theorem dX6_rains_73 : decode cX6_rains 73 = .ok (.invokevirtual 152, 3) := by decide +kernel
theorem dX6_rains_76 : decode cX6_rains 76 = .ok (.aload_n 3, 1) := by decide +kernel
theorem dX6_rains_77 : decode cX6_rains 77 = .ok (.iload_n 2, 1) := by decide +kernel
theorem dX6_rains_78 : decode cX6_rains 78 = .ok (.iconst 1, 1) := by decide +kernel
theorem dX6_rains_79 : decode cX6_rains 79 = .ok (.if_icmp .ne 7, 3) := by decide +kernel
theorem dX6_rains_82 : decode cX6_rains 82 = .ok (.iconst 1, 1) := by decide +kernel
theorem dX6_rains_83 : decode cX6_rains 83 = .ok (.goto 4, 3) := by decide +kernel
theorem dX6_rains_86 : decode cX6_rains 86 = .ok (.iconst 0, 1) := by decide +kernel
theorem dX6_rains_87 : decode cX6_rains 87 = .ok (.putfield 188, 3) := by decide +kernel
theorem dX6_rains_90 : decode cX6_rains 90 = .ok (.iload 4, 2) := by decide +kernel
theorem dX6_rains_92 : decode cX6_rains 92 = .ok (.ireturn, 1) := by decide +kernel
theorem dX6_cloud_0 : decode cX6_cloud 0 = .ok (.aload_n 0, 1) := by decide +kernel
theorem dX6_cloud_1 : decode cX6_cloud 1 = .ok (.iload_n 1, 1) := by decide +kernel
theorem dX6_cloud_2 : decode cX6_cloud 2 = .ok (.invokevirtual 161, 3) := by decide +kernel
theorem dX6_cloud_5 : decode cX6_cloud 5 = .ok (.ifCond .eq 12, 3) := by decide +kernel
theorem dX6_cloud_8 : decode cX6_cloud 8 = .ok (.iload_n 2, 1) := by decide +kernel
theorem dX6_cloud_9 : decode cX6_cloud 9 = .ok (.iconst 0, 1) := by decide +kernel
theorem dX6_cloud_10 : decode cX6_cloud 10 = .ok (.iconst 4, 1) := by decide +kernel
theorem dX6_cloud_11 : decode cX6_cloud 11 = .ok (.invokestatic 69, 3) := by decide +kernel
theorem dX6_cloud_14 : decode cX6_cloud 14 = .ok (.ifCond .ne 6, 3) := by decide +kernel
theorem dX6_cloud_17 : decode cX6_cloud 17 = .ok (.ldc 73, 2) := by decide +kernel
theorem dX6_cloud_19 : decode cX6_cloud 19 = .ok (.ireturn, 1) := by decide +kernel
theorem dX6_cloud_20 : decode cX6_cloud 20 = .ok (.aload_n 0, 1) := by decide +kernel
theorem dX6_cloud_21 : decode cX6_cloud 21 = .ok (.getfield 25, 3) := by decide +kernel
theorem dX6_cloud_24 : decode cX6_cloud 24 = .ok (.getfield 164, 3) := by decide +kernel
theorem dX6_cloud_27 : decode cX6_cloud 27 = .ok (.iload_n 1, 1) := by decide +kernel
theorem dX6_cloud_28 : decode cX6_cloud 28 = .ok (.aaload, 1) := by decide +kernel
theorem dX6_cloud_29 : decode cX6_cloud 29 = .ok (.iload_n 2, 1) := by decide +kernel
theorem dX6_cloud_30 : decode cX6_cloud 30 = .ok (.invokevirtual 195, 3) := by decide +kernel
theorem dX6_cloud_33 : decode cX6_cloud 33 = .ok (.ireturn, 1) := by decide +kernel
theorem dX6_cell_0 : decode cX6_cell 0 = .ok (.aload_n 0, 1) := by decide +kernel
theorem dX6_cell_1 : decode cX6_cell 1 = .ok (.getfield 25, 3) := by decide +kernel
theorem dX6_cell_4 : decode cX6_cell 4 = .ok (.getfield 146, 3) := by decide +kernel
theorem dX6_cell_7 : decode cX6_cell 7 = .ok (.ifCond .ne 6, 3) := by decide +kernel
theorem dX6_cell_10 : decode cX6_cell 10 = .ok (.ldc 142, 2) := by decide +kernel
theorem dX6_cell_12 : decode cX6_cell 12 = .ok (.ireturn, 1) := by decide +kernel
theorem dX6_cell_13 : decode cX6_cell 13 = .ok (.iload_n 1, 1) := by decide +kernel
theorem dX6_cell_14 : decode cX6_cell 14 = .ok (.invokestatic 198, 3) := by decide +kernel
theorem dX6_cell_17 : decode cX6_cell 17 = .ok (.ifCond .eq 12, 3) := by decide +kernel
theorem dX6_cell_20 : decode cX6_cell 20 = .ok (.iload_n 2, 1) := by decide +kernel
theorem dX6_cell_21 : decode cX6_cell 21 = .ok (.iconst 0, 1) := by decide +kernel
theorem dX6_cell_22 : decode cX6_cell 22 = .ok (.iconst 1, 1) := by decide +kernel
theorem dX6_cell_23 : decode cX6_cell 23 = .ok (.invokestatic 69, 3) := by decide +kernel
theorem dX6_cell_26 : decode cX6_cell 26 = .ok (.ifCond .ne 6, 3) := by decide +kernel
theorem dX6_cell_29 : decode cX6_cell 29 = .ok (.ldc 73, 2) := by decide +kernel
theorem dX6_cell_31 : decode cX6_cell 31 = .ok (.ireturn, 1) := by decide +kernel
theorem dX6_cell_32 : decode cX6_cell 32 = .ok (.iload_n 2, 1) := by decide +kernel
theorem dX6_cell_33 : decode cX6_cell 33 = .ok (.ifCond .ne 15, 3) := by decide +kernel
theorem dX6_cell_36 : decode cX6_cell 36 = .ok (.aload_n 0, 1) := by decide +kernel
theorem dX6_cell_37 : decode cX6_cell 37 = .ok (.getfield 25, 3) := by decide +kernel
theorem dX6_cell_40 : decode cX6_cell 40 = .ok (.getfield 201, 3) := by decide +kernel
theorem dX6_cell_43 : decode cX6_cell 43 = .ok (.iload_n 1, 1) := by decide +kernel
theorem dX6_cell_44 : decode cX6_cell 44 = .ok (.iaload, 1) := by decide +kernel
theorem dX6_cell_45 : decode cX6_cell 45 = .ok (.goto 11, 3) := by decide +kernel
theorem dX6_cell_48 : decode cX6_cell 48 = .ok (.aload_n 0, 1) := by decide +kernel
theorem dX6_cell_49 : decode cX6_cell 49 = .ok (.getfield 25, 3) := by decide +kernel
theorem dX6_cell_52 : decode cX6_cell 52 = .ok (.iload_n 1, 1) := by decide +kernel
theorem dX6_cell_53 : decode cX6_cell 53 = .ok (.invokevirtual 204, 3) := by decide +kernel
theorem dX6_cell_56 : decode cX6_cell 56 = .ok (.ireturn, 1) := by decide +kernel
theorem dX6_wind_0 : decode cX6_wind 0 = .ok (.aload_n 0, 1) := by decide +kernel
theorem dX6_wind_1 : decode cX6_wind 1 = .ok (.getfield 25, 3) := by decide +kernel
theorem dX6_wind_4 : decode cX6_wind 4 = .ok (.getfield 146, 3) := by decide +kernel
theorem dX6_wind_7 : decode cX6_wind 7 = .ok (.ifCond .ne 6, 3) := by decide +kernel
theorem dX6_wind_10 : decode cX6_wind 10 = .ok (.ldc 142, 2) := by decide +kernel
theorem dX6_wind_12 : decode cX6_wind 12 = .ok (.ireturn, 1) := by decide +kernel
theorem dX6_wind_13 : decode cX6_wind 13 = .ok (.iload_n 1, 1) := by decide +kernel
theorem dX6_wind_14 : decode cX6_wind 14 = .ok (.iconst 0, 1) := by decide +kernel
theorem dX6_wind_15 : decode cX6_wind 15 = .ok (.iconst 1, 1) := by decide +kernel
theorem dX6_wind_16 : decode cX6_wind 16 = .ok (.invokestatic 69, 3) := by decide +kernel
theorem dX6_wind_19 : decode cX6_wind 19 = .ok (.ifCond .eq 12, 3) := by decide +kernel
theorem dX6_wind_22 : decode cX6_wind 22 = .ok (.iload_n 2, 1) := by decide +kernel
theorem dX6_wind_23 : decode cX6_wind 23 = .ok (.iconst 0, 1) := by decide +kernel
theorem dX6_wind_24 : decode cX6_wind 24 = .ok (.iconst 5, 1) := by decide +kernel
theorem dX6_wind_25 : decode cX6_wind 25 = .ok (.invokestatic 69, 3) := by decide +kernel
theorem dX6_wind_28 : decode cX6_wind 28 = .ok (.ifCond .ne 6, 3) := by decide +kernel
theorem dX6_wind_31 : decode cX6_wind 31 = .ok (.ldc 73, 2) := by decide +kernel
theorem dX6_wind_33 : decode cX6_wind 33 = .ok (.ireturn, 1) := by decide +kernel
theorem dX6_wind_34 : decode cX6_wind 34 = .ok (.aload_n 0, 1) := by decide +kernel
theorem dX6_wind_35 : decode cX6_wind 35 = .ok (.getfield 25, 3) := by decide +kernel
theorem dX6_wind_38 : decode cX6_wind 38 = .ok (.iload_n 1, 1) := by decide +kernel
theorem dX6_wind_39 : decode cX6_wind 39 = .ok (.iload_n 2, 1) := by decide +kernel
theorem dX6_wind_40 : decode cX6_wind 40 = .ok (.invokevirtual 207, 3) := by decide +kernel
theorem dX6_wind_43 : decode cX6_wind 43 = .ok (.ireturn, 1) := by decide +kernel
theorem dX6_ahead_0 : decode cX6_ahead 0 = .ok (.aload_n 0, 1) := by decide +kernel
theorem dX6_ahead_1 : decode cX6_ahead 1 = .ok (.iload_n 1, 1) := by decide +kernel
theorem dX6_ahead_2 : decode cX6_ahead 2 = .ok (.invokevirtual 161, 3) := by decide +kernel
theorem dX6_ahead_5 : decode cX6_ahead 5 = .ok (.ifCond .eq 22, 3) := by decide +kernel
theorem dX6_ahead_8 : decode cX6_ahead 8 = .ok (.iload_n 2, 1) := by decide +kernel
theorem dX6_ahead_9 : decode cX6_ahead 9 = .ok (.iconst 0, 1) := by decide +kernel
theorem dX6_ahead_10 : decode cX6_ahead 10 = .ok (.bipush 60, 2) := by decide +kernel
theorem dX6_ahead_12 : decode cX6_ahead 12 = .ok (.invokestatic 69, 3) := by decide +kernel
theorem dX6_ahead_15 : decode cX6_ahead 15 = .ok (.ifCond .eq 12, 3) := by decide +kernel
theorem dX6_ahead_18 : decode cX6_ahead 18 = .ok (.iload_n 3, 1) := by decide +kernel
theorem dX6_ahead_19 : decode cX6_ahead 19 = .ok (.iconst 0, 1) := by decide +kernel
theorem dX6_ahead_20 : decode cX6_ahead 20 = .ok (.iconst 3, 1) := by decide +kernel
theorem dX6_ahead_21 : decode cX6_ahead 21 = .ok (.invokestatic 69, 3) := by decide +kernel
theorem dX6_ahead_24 : decode cX6_ahead 24 = .ok (.ifCond .ne 6, 3) := by decide +kernel
theorem dX6_ahead_27 : decode cX6_ahead 27 = .ok (.ldc 73, 2) := by decide +kernel
theorem dX6_ahead_29 : decode cX6_ahead 29 = .ok (.ireturn, 1) := by decide +kernel
theorem dX6_ahead_30 : decode cX6_ahead 30 = .ok (.aload_n 0, 1) := by decide +kernel
theorem dX6_ahead_31 : decode cX6_ahead 31 = .ok (.iload_n 2, 1) := by decide +kernel
theorem dX6_ahead_32 : decode cX6_ahead 32 = .ok (.invokevirtual 210, 3) := by decide +kernel
theorem dX6_ahead_35 : decode cX6_ahead 35 = .ok (.aload_n 0, 1) := by decide +kernel
theorem dX6_ahead_36 : decode cX6_ahead 36 = .ok (.getfield 29, 3) := by decide +kernel
theorem dX6_ahead_39 : decode cX6_ahead 39 = .ok (.getfield 164, 3) := by decide +kernel
theorem dX6_ahead_42 : decode cX6_ahead 42 = .ok (.iload_n 1, 1) := by decide +kernel
theorem dX6_ahead_43 : decode cX6_ahead 43 = .ok (.aaload, 1) := by decide +kernel
theorem dX6_ahead_44 : decode cX6_ahead 44 = .ok (.iload_n 3, 1) := by decide +kernel
theorem dX6_ahead_45 : decode cX6_ahead 45 = .ok (.invokevirtual 195, 3) := by decide +kernel
theorem dX6_ahead_48 : decode cX6_ahead 48 = .ok (.ireturn, 1) := by decide +kernel
theorem dX6_earned_0 : decode cX6_earned 0 = .ok (.aload_n 0, 1) := by decide +kernel
theorem dX6_earned_1 : decode cX6_earned 1 = .ok (.getfield 25, 3) := by decide +kernel
theorem dX6_earned_4 : decode cX6_earned 4 = .ok (.getfield 146, 3) := by decide +kernel
theorem dX6_earned_7 : decode cX6_earned 7 = .ok (.ifCond .ne 6, 3) := by decide +kernel
theorem dX6_earned_10 : decode cX6_earned 10 = .ok (.ldc 142, 2) := by decide +kernel
theorem dX6_earned_12 : decode cX6_earned 12 = .ok (.ireturn, 1) := by decide +kernel
theorem dX6_earned_13 : decode cX6_earned 13 = .ok (.iload_n 1, 1) := by decide +kernel
theorem dX6_earned_14 : decode cX6_earned 14 = .ok (.iconst 0, 1) := by decide +kernel
theorem dX6_earned_15 : decode cX6_earned 15 = .ok (.bipush 60, 2) := by decide +kernel
theorem dX6_earned_17 : decode cX6_earned 17 = .ok (.invokestatic 69, 3) := by decide +kernel
theorem dX6_earned_20 : decode cX6_earned 20 = .ok (.ifCond .ne 6, 3) := by decide +kernel
theorem dX6_earned_23 : decode cX6_earned 23 = .ok (.ldc 73, 2) := by decide +kernel
theorem dX6_earned_25 : decode cX6_earned 25 = .ok (.ireturn, 1) := by decide +kernel
theorem dX6_earned_26 : decode cX6_earned 26 = .ok (.aload_n 0, 1) := by decide +kernel
theorem dX6_earned_27 : decode cX6_earned 27 = .ok (.iload_n 1, 1) := by decide +kernel
theorem dX6_earned_28 : decode cX6_earned 28 = .ok (.invokevirtual 210, 3) := by decide +kernel
theorem dX6_earned_31 : decode cX6_earned 31 = .ok (.aload_n 0, 1) := by decide +kernel
theorem dX6_earned_32 : decode cX6_earned 32 = .ok (.getfield 29, 3) := by decide +kernel
theorem dX6_earned_35 : decode cX6_earned 35 = .ok (.getfield 158, 3) := by decide +kernel
theorem dX6_earned_38 : decode cX6_earned 38 = .ok (.ireturn, 1) := by decide +kernel
theorem dX6_knot_0 : decode cX6_knot 0 = .ok (.aload_n 0, 1) := by decide +kernel
theorem dX6_knot_1 : decode cX6_knot 1 = .ok (.getfield 25, 3) := by decide +kernel
theorem dX6_knot_4 : decode cX6_knot 4 = .ok (.getfield 146, 3) := by decide +kernel
theorem dX6_knot_7 : decode cX6_knot 7 = .ok (.ifCond .ne 6, 3) := by decide +kernel
theorem dX6_knot_10 : decode cX6_knot 10 = .ok (.ldc 142, 2) := by decide +kernel
theorem dX6_knot_12 : decode cX6_knot 12 = .ok (.ireturn, 1) := by decide +kernel
theorem dX6_knot_13 : decode cX6_knot 13 = .ok (.iload_n 1, 1) := by decide +kernel
theorem dX6_knot_14 : decode cX6_knot 14 = .ok (.iconst 1, 1) := by decide +kernel
theorem dX6_knot_15 : decode cX6_knot 15 = .ok (.bipush 60, 2) := by decide +kernel
theorem dX6_knot_17 : decode cX6_knot 17 = .ok (.invokestatic 69, 3) := by decide +kernel
theorem dX6_knot_20 : decode cX6_knot 20 = .ok (.ifCond .eq 12, 3) := by decide +kernel
theorem dX6_knot_23 : decode cX6_knot 23 = .ok (.iload_n 2, 1) := by decide +kernel
theorem dX6_knot_24 : decode cX6_knot 24 = .ok (.iconst 0, 1) := by decide +kernel
theorem dX6_knot_25 : decode cX6_knot 25 = .ok (.iconst 1, 1) := by decide +kernel
theorem dX6_knot_26 : decode cX6_knot 26 = .ok (.invokestatic 69, 3) := by decide +kernel
theorem dX6_knot_29 : decode cX6_knot 29 = .ok (.ifCond .ne 6, 3) := by decide +kernel
theorem dX6_knot_32 : decode cX6_knot 32 = .ok (.ldc 73, 2) := by decide +kernel
theorem dX6_knot_34 : decode cX6_knot 34 = .ok (.ireturn, 1) := by decide +kernel
theorem dX6_knot_35 : decode cX6_knot 35 = .ok (.aload_n 0, 1) := by decide +kernel
theorem dX6_knot_36 : decode cX6_knot 36 = .ok (.getfield 29, 3) := by decide +kernel
theorem dX6_knot_39 : decode cX6_knot 39 = .ok (.aload_n 0, 1) := by decide +kernel
theorem dX6_knot_40 : decode cX6_knot 40 = .ok (.getfield 25, 3) := by decide +kernel
theorem dX6_knot_43 : decode cX6_knot 43 = .ok (.invokevirtual 132, 3) := by decide +kernel
theorem dX6_knot_46 : decode cX6_knot 46 = .ok (.iconst 0, 1) := by decide +kernel
theorem dX6_knot_47 : decode cX6_knot 47 = .ok (.istore_n 3, 1) := by decide +kernel
theorem dX6_knot_48 : decode cX6_knot 48 = .ok (.iload_n 3, 1) := by decide +kernel
theorem dX6_knot_49 : decode cX6_knot 49 = .ok (.iload_n 1, 1) := by decide +kernel
theorem dX6_knot_50 : decode cX6_knot 50 = .ok (.if_icmp .ge 42, 3) := by decide +kernel
theorem dX6_knot_53 : decode cX6_knot 53 = .ok (.aload_n 0, 1) := by decide +kernel
theorem dX6_knot_54 : decode cX6_knot 54 = .ok (.getfield 29, 3) := by decide +kernel
theorem dX6_knot_57 : decode cX6_knot 57 = .ok (.invokevirtual 155, 3) := by decide +kernel
theorem dX6_knot_60 : decode cX6_knot 60 = .ok (.aload_n 0, 1) := by decide +kernel
theorem dX6_knot_61 : decode cX6_knot 61 = .ok (.getfield 29, 3) := by decide +kernel
theorem dX6_knot_64 : decode cX6_knot 64 = .ok (.getfield 213, 3) := by decide +kernel
theorem dX6_knot_67 : decode cX6_knot 67 = .ok (.ifCond .eq 19, 3) := by decide +kernel
theorem dX6_knot_70 : decode cX6_knot 70 = .ok (.iload_n 2, 1) := by decide +kernel
theorem dX6_knot_71 : decode cX6_knot 71 = .ok (.ifCond .ne 7, 3) := by decide +kernel
theorem dX6_knot_74 : decode cX6_knot 74 = .ok (.iload_n 3, 1) := by decide +kernel
theorem dX6_knot_75 : decode cX6_knot 75 = .ok (.goto 10, 3) := by decide +kernel
theorem dX6_knot_78 : decode cX6_knot 78 = .ok (.aload_n 0, 1) := by decide +kernel
theorem dX6_knot_79 : decode cX6_knot 79 = .ok (.getfield 29, 3) := by decide +kernel
theorem dX6_knot_82 : decode cX6_knot 82 = .ok (.getfield 213, 3) := by decide +kernel
theorem dX6_knot_85 : decode cX6_knot 85 = .ok (.ireturn, 1) := by decide +kernel
theorem dX6_knot_86 : decode cX6_knot 86 = .ok (.iinc 3 1, 3) := by decide +kernel
theorem dX6_knot_89 : decode cX6_knot 89 = .ok (.goto (-41), 3) := by decide +kernel
theorem dX6_knot_92 : decode cX6_knot 92 = .ok (.ldc 216, 2) := by decide +kernel
theorem dX6_knot_94 : decode cX6_knot 94 = .ok (.ireturn, 1) := by decide +kernel
theorem dX6_wetHay_0 : decode cX6_wetHay 0 = .ok (.aload_n 0, 1) := by decide +kernel
theorem dX6_wetHay_1 : decode cX6_wetHay 1 = .ok (.getfield 25, 3) := by decide +kernel
theorem dX6_wetHay_4 : decode cX6_wetHay 4 = .ok (.getfield 146, 3) := by decide +kernel
theorem dX6_wetHay_7 : decode cX6_wetHay 7 = .ok (.ifCond .ne 6, 3) := by decide +kernel
theorem dX6_wetHay_10 : decode cX6_wetHay 10 = .ok (.ldc 142, 2) := by decide +kernel
theorem dX6_wetHay_12 : decode cX6_wetHay 12 = .ok (.ireturn, 1) := by decide +kernel
theorem dX6_wetHay_13 : decode cX6_wetHay 13 = .ok (.iload_n 1, 1) := by decide +kernel
theorem dX6_wetHay_14 : decode cX6_wetHay 14 = .ok (.iconst 1, 1) := by decide +kernel
theorem dX6_wetHay_15 : decode cX6_wetHay 15 = .ok (.bipush 60, 2) := by decide +kernel
theorem dX6_wetHay_17 : decode cX6_wetHay 17 = .ok (.invokestatic 69, 3) := by decide +kernel
theorem dX6_wetHay_20 : decode cX6_wetHay 20 = .ok (.ifCond .eq 12, 3) := by decide +kernel
theorem dX6_wetHay_23 : decode cX6_wetHay 23 = .ok (.iload_n 2, 1) := by decide +kernel
theorem dX6_wetHay_24 : decode cX6_wetHay 24 = .ok (.iconst 0, 1) := by decide +kernel
theorem dX6_wetHay_25 : decode cX6_wetHay 25 = .ok (.iconst 1, 1) := by decide +kernel
theorem dX6_wetHay_26 : decode cX6_wetHay 26 = .ok (.invokestatic 69, 3) := by decide +kernel
theorem dX6_wetHay_29 : decode cX6_wetHay 29 = .ok (.ifCond .ne 6, 3) := by decide +kernel
theorem dX6_wetHay_32 : decode cX6_wetHay 32 = .ok (.ldc 73, 2) := by decide +kernel
theorem dX6_wetHay_34 : decode cX6_wetHay 34 = .ok (.ireturn, 1) := by decide +kernel
theorem dX6_wetHay_35 : decode cX6_wetHay 35 = .ok (.ldc 216, 2) := by decide +kernel
theorem dX6_wetHay_37 : decode cX6_wetHay 37 = .ok (.istore_n 3, 1) := by decide +kernel
theorem dX6_wetHay_38 : decode cX6_wetHay 38 = .ok (.iconst 0, 1) := by decide +kernel
theorem dX6_wetHay_39 : decode cX6_wetHay 39 = .ok (.istore 4, 2) := by decide +kernel
theorem dX6_wetHay_41 : decode cX6_wetHay 41 = .ok (.aload_n 0, 1) := by decide +kernel
theorem dX6_wetHay_42 : decode cX6_wetHay 42 = .ok (.getfield 29, 3) := by decide +kernel
theorem dX6_wetHay_45 : decode cX6_wetHay 45 = .ok (.aload_n 0, 1) := by decide +kernel
theorem dX6_wetHay_46 : decode cX6_wetHay 46 = .ok (.getfield 25, 3) := by decide +kernel
theorem dX6_wetHay_49 : decode cX6_wetHay 49 = .ok (.invokevirtual 132, 3) := by decide +kernel
theorem dX6_wetHay_52 : decode cX6_wetHay 52 = .ok (.iconst 0, 1) := by decide +kernel
theorem dX6_wetHay_53 : decode cX6_wetHay 53 = .ok (.istore 5, 2) := by decide +kernel
theorem dX6_wetHay_55 : decode cX6_wetHay 55 = .ok (.iload 5, 2) := by decide +kernel
theorem dX6_wetHay_57 : decode cX6_wetHay 57 = .ok (.iload_n 1, 1) := by decide +kernel
theorem dX6_wetHay_58 : decode cX6_wetHay 58 = .ok (.if_icmp .ge 47, 3) := by decide +kernel
theorem dX6_wetHay_61 : decode cX6_wetHay 61 = .ok (.aload_n 0, 1) := by decide +kernel
theorem dX6_wetHay_62 : decode cX6_wetHay 62 = .ok (.getfield 29, 3) := by decide +kernel
theorem dX6_wetHay_65 : decode cX6_wetHay 65 = .ok (.invokevirtual 155, 3) := by decide +kernel
theorem dX6_wetHay_68 : decode cX6_wetHay 68 = .ok (.iload_n 3, 1) := by decide +kernel
theorem dX6_wetHay_69 : decode cX6_wetHay 69 = .ok (.ldc 216, 2) := by decide +kernel
theorem dX6_wetHay_71 : decode cX6_wetHay 71 = .ok (.if_icmp .ne 16, 3) := by decide +kernel
theorem dX6_wetHay_74 : decode cX6_wetHay 74 = .ok (.aload_n 0, 1) := by decide +kernel
theorem dX6_wetHay_75 : decode cX6_wetHay 75 = .ok (.getfield 29, 3) := by decide +kernel
theorem dX6_wetHay_78 : decode cX6_wetHay 78 = .ok (.getfield 217, 3) := by decide +kernel
theorem dX6_wetHay_81 : decode cX6_wetHay 81 = .ok (.ifCond .le 6, 3) := by decide +kernel
theorem dX6_wetHay_84 : decode cX6_wetHay 84 = .ok (.iload 5, 2) := by decide +kernel
theorem dX6_wetHay_86 : decode cX6_wetHay 86 = .ok (.istore_n 3, 1) := by decide +kernel
theorem dX6_wetHay_87 : decode cX6_wetHay 87 = .ok (.iload 4, 2) := by decide +kernel
theorem dX6_wetHay_89 : decode cX6_wetHay 89 = .ok (.aload_n 0, 1) := by decide +kernel
theorem dX6_wetHay_90 : decode cX6_wetHay 90 = .ok (.getfield 29, 3) := by decide +kernel
theorem dX6_wetHay_93 : decode cX6_wetHay 93 = .ok (.getfield 217, 3) := by decide +kernel
theorem dX6_wetHay_96 : decode cX6_wetHay 96 = .ok (.iadd, 1) := by decide +kernel
theorem dX6_wetHay_97 : decode cX6_wetHay 97 = .ok (.istore 4, 2) := by decide +kernel
theorem dX6_wetHay_99 : decode cX6_wetHay 99 = .ok (.iinc 5 1, 3) := by decide +kernel
theorem dX6_wetHay_102 : decode cX6_wetHay 102 = .ok (.goto (-47), 3) := by decide +kernel
theorem dX6_wetHay_105 : decode cX6_wetHay 105 = .ok (.iload_n 2, 1) := by decide +kernel
theorem dX6_wetHay_106 : decode cX6_wetHay 106 = .ok (.ifCond .ne 7, 3) := by decide +kernel
theorem dX6_wetHay_109 : decode cX6_wetHay 109 = .ok (.iload_n 3, 1) := by decide +kernel
theorem dX6_wetHay_110 : decode cX6_wetHay 110 = .ok (.goto 13, 3) := by decide +kernel
theorem dX6_wetHay_113 : decode cX6_wetHay 113 = .ok (.iload 4, 2) := by decide +kernel
theorem dX6_wetHay_115 : decode cX6_wetHay 115 = .ok (.aload_n 0, 1) := by decide +kernel
theorem dX6_wetHay_116 : decode cX6_wetHay 116 = .ok (.getfield 25, 3) := by decide +kernel
theorem dX6_wetHay_119 : decode cX6_wetHay 119 = .ok (.getfield 220, 3) := by decide +kernel
theorem dX6_wetHay_122 : decode cX6_wetHay 122 = .ok (.imul, 1) := by decide +kernel
theorem dX6_wetHay_123 : decode cX6_wetHay 123 = .ok (.ireturn, 1) := by decide +kernel
theorem dX6_soon_0 : decode cX6_soon 0 = .ok (.aload_n 0, 1) := by decide +kernel
theorem dX6_soon_1 : decode cX6_soon 1 = .ok (.iload_n 1, 1) := by decide +kernel
theorem dX6_soon_2 : decode cX6_soon 2 = .ok (.invokevirtual 161, 3) := by decide +kernel
theorem dX6_soon_5 : decode cX6_soon 5 = .ok (.ifCond .eq 10, 3) := by decide +kernel
theorem dX6_soon_8 : decode cX6_soon 8 = .ok (.iload_n 2, 1) := by decide +kernel
theorem dX6_soon_9 : decode cX6_soon 9 = .ok (.invokestatic 198, 3) := by decide +kernel
theorem dX6_soon_12 : decode cX6_soon 12 = .ok (.ifCond .ne 6, 3) := by decide +kernel
theorem dX6_soon_15 : decode cX6_soon 15 = .ok (.ldc 73, 2) := by decide +kernel
theorem dX6_soon_17 : decode cX6_soon 17 = .ok (.ireturn, 1) := by decide +kernel
theorem dX6_soon_18 : decode cX6_soon 18 = .ok (.aload_n 0, 1) := by decide +kernel
theorem dX6_soon_19 : decode cX6_soon 19 = .ok (.getfield 25, 3) := by decide +kernel
theorem dX6_soon_22 : decode cX6_soon 22 = .ok (.getfield 164, 3) := by decide +kernel
theorem dX6_soon_25 : decode cX6_soon 25 = .ok (.iload_n 1, 1) := by decide +kernel
theorem dX6_soon_26 : decode cX6_soon 26 = .ok (.aaload, 1) := by decide +kernel
theorem dX6_soon_27 : decode cX6_soon 27 = .ok (.astore_n 3, 1) := by decide +kernel
theorem dX6_soon_28 : decode cX6_soon 28 = .ok (.aload_n 3, 1) := by decide +kernel
theorem dX6_soon_29 : decode cX6_soon 29 = .ok (.getfield 168, 3) := by decide +kernel
theorem dX6_soon_32 : decode cX6_soon 32 = .ok (.ifCond .eq 6, 3) := by decide +kernel
theorem dX6_soon_35 : decode cX6_soon 35 = .ok (.ldc 142, 2) := by decide +kernel
theorem dX6_soon_37 : decode cX6_soon 37 = .ok (.ireturn, 1) := by decide +kernel
theorem dX6_soon_38 : decode cX6_soon 38 = .ok (.iconst 1, 1) := by decide +kernel
theorem dX6_soon_39 : decode cX6_soon 39 = .ok (.aload_n 3, 1) := by decide +kernel
theorem dX6_soon_40 : decode cX6_soon 40 = .ok (.getfield 223, 3) := by decide +kernel
theorem dX6_soon_43 : decode cX6_soon 43 = .ok (.ishl, 1) := by decide +kernel
theorem dX6_soon_44 : decode cX6_soon 44 = .ok (.istore 4, 2) := by decide +kernel
theorem dX6_soon_46 : decode cX6_soon 46 = .ok (.iconst 0, 1) := by decide +kernel
theorem dX6_soon_47 : decode cX6_soon 47 = .ok (.istore 5, 2) := by decide +kernel
theorem dX6_soon_49 : decode cX6_soon 49 = .ok (.iload 5, 2) := by decide +kernel
theorem dX6_soon_51 : decode cX6_soon 51 = .ok (.bipush 24, 2) := by decide +kernel
theorem dX6_soon_53 : decode cX6_soon 53 = .ok (.if_icmp .gt 40, 3) := by decide +kernel
theorem dX6_soon_56 : decode cX6_soon 56 = .ok (.iload 4, 2) := by decide +kernel
theorem dX6_soon_58 : decode cX6_soon 58 = .ok (.iload_n 2, 1) := by decide +kernel
theorem dX6_soon_59 : decode cX6_soon 59 = .ok (.iushr, 1) := by decide +kernel
theorem dX6_soon_60 : decode cX6_soon 60 = .ok (.iconst 1, 1) := by decide +kernel
theorem dX6_soon_61 : decode cX6_soon 61 = .ok (.iand, 1) := by decide +kernel
theorem dX6_soon_62 : decode cX6_soon 62 = .ok (.ifCond .eq 6, 3) := by decide +kernel
theorem dX6_soon_65 : decode cX6_soon 65 = .ok (.iload 5, 2) := by decide +kernel
theorem dX6_soon_67 : decode cX6_soon 67 = .ok (.ireturn, 1) := by decide +kernel
theorem dX6_soon_68 : decode cX6_soon 68 = .ok (.aload_n 0, 1) := by decide +kernel
theorem dX6_soon_69 : decode cX6_soon 69 = .ok (.aload_n 3, 1) := by decide +kernel
theorem dX6_soon_70 : decode cX6_soon 70 = .ok (.iload 4, 2) := by decide +kernel
theorem dX6_soon_72 : decode cX6_soon 72 = .ok (.aload_n 0, 1) := by decide +kernel
theorem dX6_soon_73 : decode cX6_soon 73 = .ok (.getfield 25, 3) := by decide +kernel
theorem dX6_soon_76 : decode cX6_soon 76 = .ok (.getfield 149, 3) := by decide +kernel
theorem dX6_soon_79 : decode cX6_soon 79 = .ok (.iload 5, 2) := by decide +kernel
theorem dX6_soon_81 : decode cX6_soon 81 = .ok (.iadd, 1) := by decide +kernel
theorem dX6_soon_82 : decode cX6_soon 82 = .ok (.invokevirtual 226, 3) := by decide +kernel
theorem dX6_soon_85 : decode cX6_soon 85 = .ok (.istore 4, 2) := by decide +kernel
theorem dX6_soon_87 : decode cX6_soon 87 = .ok (.iinc 5 1, 3) := by decide +kernel
theorem dX6_soon_90 : decode cX6_soon 90 = .ok (.goto (-41), 3) := by decide +kernel
theorem dX6_soon_93 : decode cX6_soon 93 = .ok (.ldc 216, 2) := by decide +kernel
theorem dX6_soon_95 : decode cX6_soon 95 = .ok (.ireturn, 1) := by decide +kernel
theorem dX6_heights_0 : decode cX6_heights 0 = .ok (.aload_n 0, 1) := by decide +kernel
theorem dX6_heights_1 : decode cX6_heights 1 = .ok (.iload_n 1, 1) := by decide +kernel
theorem dX6_heights_2 : decode cX6_heights 2 = .ok (.invokevirtual 161, 3) := by decide +kernel
theorem dX6_heights_5 : decode cX6_heights 5 = .ok (.ifCond .eq 22, 3) := by decide +kernel
theorem dX6_heights_8 : decode cX6_heights 8 = .ok (.iload_n 2, 1) := by decide +kernel
theorem dX6_heights_9 : decode cX6_heights 9 = .ok (.iconst 1, 1) := by decide +kernel
theorem dX6_heights_10 : decode cX6_heights 10 = .ok (.bipush 8, 2) := by decide +kernel
theorem dX6_heights_12 : decode cX6_heights 12 = .ok (.invokestatic 69, 3) := by decide +kernel
theorem dX6_heights_15 : decode cX6_heights 15 = .ok (.ifCond .eq 12, 3) := by decide +kernel
theorem dX6_heights_18 : decode cX6_heights 18 = .ok (.iload_n 3, 1) := by decide +kernel
theorem dX6_heights_19 : decode cX6_heights 19 = .ok (.iconst 0, 1) := by decide +kernel
theorem dX6_heights_20 : decode cX6_heights 20 = .ok (.iconst 1, 1) := by decide +kernel
theorem dX6_heights_21 : decode cX6_heights 21 = .ok (.invokestatic 69, 3) := by decide +kernel
theorem dX6_heights_24 : decode cX6_heights 24 = .ok (.ifCond .ne 6, 3) := by decide +kernel
theorem dX6_heights_27 : decode cX6_heights 27 = .ok (.ldc 73, 2) := by decide +kernel
theorem dX6_heights_29 : decode cX6_heights 29 = .ok (.ireturn, 1) := by decide +kernel
theorem dX6_heights_30 : decode cX6_heights 30 = .ok (.aload_n 0, 1) := by decide +kernel
theorem dX6_heights_31 : decode cX6_heights 31 = .ok (.getfield 25, 3) := by decide +kernel
theorem dX6_heights_34 : decode cX6_heights 34 = .ok (.getfield 164, 3) := by decide +kernel
theorem dX6_heights_37 : decode cX6_heights 37 = .ok (.iload_n 1, 1) := by decide +kernel
theorem dX6_heights_38 : decode cX6_heights 38 = .ok (.aaload, 1) := by decide +kernel
theorem dX6_heights_39 : decode cX6_heights 39 = .ok (.getfield 168, 3) := by decide +kernel
theorem dX6_heights_42 : decode cX6_heights 42 = .ok (.ifCond .eq 6, 3) := by decide +kernel
theorem dX6_heights_45 : decode cX6_heights 45 = .ok (.ldc 142, 2) := by decide +kernel
theorem dX6_heights_47 : decode cX6_heights 47 = .ok (.ireturn, 1) := by decide +kernel
theorem dX6_heights_48 : decode cX6_heights 48 = .ok (.aload_n 0, 1) := by decide +kernel
theorem dX6_heights_49 : decode cX6_heights 49 = .ok (.getfield 25, 3) := by decide +kernel
theorem dX6_heights_52 : decode cX6_heights 52 = .ok (.getfield 164, 3) := by decide +kernel
theorem dX6_heights_55 : decode cX6_heights 55 = .ok (.iload_n 1, 1) := by decide +kernel
theorem dX6_heights_56 : decode cX6_heights 56 = .ok (.aaload, 1) := by decide +kernel
theorem dX6_heights_57 : decode cX6_heights 57 = .ok (.invokevirtual 171, 3) := by decide +kernel
theorem dX6_heights_60 : decode cX6_heights 60 = .ok (.ifCond .eq 9, 3) := by decide +kernel
theorem dX6_heights_63 : decode cX6_heights 63 = .ok (.iconst 1, 1) := by decide +kernel
theorem dX6_heights_64 : decode cX6_heights 64 = .ok (.iload_n 2, 1) := by decide +kernel
theorem dX6_heights_65 : decode cX6_heights 65 = .ok (.ishl, 1) := by decide +kernel
theorem dX6_heights_66 : decode cX6_heights 66 = .ok (.goto 4, 3) := by decide +kernel
theorem dX6_heights_69 : decode cX6_heights 69 = .ok (.iconst 1, 1) := by decide +kernel
theorem dX6_heights_70 : decode cX6_heights 70 = .ok (.istore 4, 2) := by decide +kernel
theorem dX6_heights_72 : decode cX6_heights 72 = .ok (.iconst 0, 1) := by decide +kernel
theorem dX6_heights_73 : decode cX6_heights 73 = .ok (.istore 5, 2) := by decide +kernel
theorem dX6_heights_75 : decode cX6_heights 75 = .ok (.aload_n 0, 1) := by decide +kernel
theorem dX6_heights_76 : decode cX6_heights 76 = .ok (.iload_n 1, 1) := by decide +kernel
theorem dX6_heights_77 : decode cX6_heights 77 = .ok (.iload_n 2, 1) := by decide +kernel
theorem dX6_heights_78 : decode cX6_heights 78 = .ok (.iconst 0, 1) := by decide +kernel
theorem dX6_heights_79 : decode cX6_heights 79 = .ok (.invokevirtual 230, 3) := by decide +kernel
theorem dX6_heights_82 : decode cX6_heights 82 = .ok (.istore 6, 2) := by decide +kernel
theorem dX6_heights_84 : decode cX6_heights 84 = .ok (.iconst 1, 1) := by decide +kernel
theorem dX6_heights_85 : decode cX6_heights 85 = .ok (.istore 7, 2) := by decide +kernel
theorem dX6_heights_87 : decode cX6_heights 87 = .ok (.iload 7, 2) := by decide +kernel
theorem dX6_heights_89 : decode cX6_heights 89 = .ok (.iload 4, 2) := by decide +kernel
theorem dX6_heights_91 : decode cX6_heights 91 = .ok (.if_icmp .ge 34, 3) := by decide +kernel
theorem dX6_heights_94 : decode cX6_heights 94 = .ok (.aload_n 0, 1) := by decide +kernel
theorem dX6_heights_95 : decode cX6_heights 95 = .ok (.iload_n 1, 1) := by decide +kernel
theorem dX6_heights_96 : decode cX6_heights 96 = .ok (.iload_n 2, 1) := by decide +kernel
theorem dX6_heights_97 : decode cX6_heights 97 = .ok (.iload 7, 2) := by decide +kernel
theorem dX6_heights_99 : decode cX6_heights 99 = .ok (.invokevirtual 230, 3) := by decide +kernel
theorem dX6_heights_102 : decode cX6_heights 102 = .ok (.istore 8, 2) := by decide +kernel
theorem dX6_heights_104 : decode cX6_heights 104 = .ok (.iload 8, 2) := by decide +kernel
theorem dX6_heights_106 : decode cX6_heights 106 = .ok (.iload 6, 2) := by decide +kernel
theorem dX6_heights_108 : decode cX6_heights 108 = .ok (.if_icmp .le 11, 3) := by decide +kernel
theorem dX6_heights_111 : decode cX6_heights 111 = .ok (.iload 8, 2) := by decide +kernel
theorem dX6_heights_113 : decode cX6_heights 113 = .ok (.istore 6, 2) := by decide +kernel
theorem dX6_heights_115 : decode cX6_heights 115 = .ok (.iload 7, 2) := by decide +kernel
theorem dX6_heights_117 : decode cX6_heights 117 = .ok (.istore 5, 2) := by decide +kernel
theorem dX6_heights_119 : decode cX6_heights 119 = .ok (.iinc 7 1, 3) := by decide +kernel
theorem dX6_heights_122 : decode cX6_heights 122 = .ok (.goto (-35), 3) := by decide +kernel
theorem dX6_heights_125 : decode cX6_heights 125 = .ok (.iload_n 3, 1) := by decide +kernel
theorem dX6_heights_126 : decode cX6_heights 126 = .ok (.ifCond .ne 8, 3) := by decide +kernel
theorem dX6_heights_129 : decode cX6_heights 129 = .ok (.iload 5, 2) := by decide +kernel
theorem dX6_heights_131 : decode cX6_heights 131 = .ok (.goto 5, 3) := by decide +kernel
theorem dX6_heights_134 : decode cX6_heights 134 = .ok (.iload 6, 2) := by decide +kernel
theorem dX6_heights_136 : decode cX6_heights 136 = .ok (.ireturn, 1) := by decide +kernel
theorem dX6_shade_0 : decode cX6_shade 0 = .ok (.aload_n 0, 1) := by decide +kernel
theorem dX6_shade_1 : decode cX6_shade 1 = .ok (.getfield 25, 3) := by decide +kernel
theorem dX6_shade_4 : decode cX6_shade 4 = .ok (.getfield 146, 3) := by decide +kernel
theorem dX6_shade_7 : decode cX6_shade 7 = .ok (.ifCond .ne 6, 3) := by decide +kernel
theorem dX6_shade_10 : decode cX6_shade 10 = .ok (.ldc 142, 2) := by decide +kernel
theorem dX6_shade_12 : decode cX6_shade 12 = .ok (.ireturn, 1) := by decide +kernel
theorem dX6_shade_13 : decode cX6_shade 13 = .ok (.iload_n 1, 1) := by decide +kernel
theorem dX6_shade_14 : decode cX6_shade 14 = .ok (.invokestatic 198, 3) := by decide +kernel
theorem dX6_shade_17 : decode cX6_shade 17 = .ok (.ifCond .eq 13, 3) := by decide +kernel
theorem dX6_shade_20 : decode cX6_shade 20 = .ok (.iload_n 2, 1) := by decide +kernel
theorem dX6_shade_21 : decode cX6_shade 21 = .ok (.iconst 1, 1) := by decide +kernel
theorem dX6_shade_22 : decode cX6_shade 22 = .ok (.bipush 24, 2) := by decide +kernel
theorem dX6_shade_24 : decode cX6_shade 24 = .ok (.invokestatic 69, 3) := by decide +kernel
theorem dX6_shade_27 : decode cX6_shade 27 = .ok (.ifCond .ne 6, 3) := by decide +kernel
theorem dX6_shade_30 : decode cX6_shade 30 = .ok (.ldc 73, 2) := by decide +kernel
theorem dX6_shade_32 : decode cX6_shade 32 = .ok (.ireturn, 1) := by decide +kernel
theorem dX6_shade_33 : decode cX6_shade 33 = .ok (.iconst 0, 1) := by decide +kernel
theorem dX6_shade_34 : decode cX6_shade 34 = .ok (.istore_n 3, 1) := by decide +kernel
theorem dX6_shade_35 : decode cX6_shade 35 = .ok (.aload_n 0, 1) := by decide +kernel
theorem dX6_shade_36 : decode cX6_shade 36 = .ok (.getfield 29, 3) := by decide +kernel
theorem dX6_shade_39 : decode cX6_shade 39 = .ok (.aload_n 0, 1) := by decide +kernel
theorem dX6_shade_40 : decode cX6_shade 40 = .ok (.getfield 25, 3) := by decide +kernel
theorem dX6_shade_43 : decode cX6_shade 43 = .ok (.invokevirtual 132, 3) := by decide +kernel
theorem dX6_shade_46 : decode cX6_shade 46 = .ok (.iconst 0, 1) := by decide +kernel
theorem dX6_shade_47 : decode cX6_shade 47 = .ok (.istore 4, 2) := by decide +kernel
theorem dX6_shade_49 : decode cX6_shade 49 = .ok (.iload 4, 2) := by decide +kernel
theorem dX6_shade_51 : decode cX6_shade 51 = .ok (.iload_n 2, 1) := by decide +kernel
theorem dX6_shade_52 : decode cX6_shade 52 = .ok (.if_icmp .ge 34, 3) := by decide +kernel
theorem dX6_shade_55 : decode cX6_shade 55 = .ok (.aload_n 0, 1) := by decide +kernel
theorem dX6_shade_56 : decode cX6_shade 56 = .ok (.getfield 29, 3) := by decide +kernel
theorem dX6_shade_59 : decode cX6_shade 59 = .ok (.invokevirtual 155, 3) := by decide +kernel
theorem dX6_shade_62 : decode cX6_shade 62 = .ok (.aload_n 0, 1) := by decide +kernel
theorem dX6_shade_63 : decode cX6_shade 63 = .ok (.getfield 29, 3) := by decide +kernel
theorem dX6_shade_66 : decode cX6_shade 66 = .ok (.iload_n 1, 1) := by decide +kernel
theorem dX6_shade_67 : decode cX6_shade 67 = .ok (.invokevirtual 204, 3) := by decide +kernel
theorem dX6_shade_70 : decode cX6_shade 70 = .ok (.ifCond .eq 10, 3) := by decide +kernel
theorem dX6_shade_73 : decode cX6_shade 73 = .ok (.iload_n 3, 1) := by decide +kernel
theorem dX6_shade_74 : decode cX6_shade 74 = .ok (.iconst 1, 1) := by decide +kernel
theorem dX6_shade_75 : decode cX6_shade 75 = .ok (.iload 4, 2) := by decide +kernel
theorem dX6_shade_77 : decode cX6_shade 77 = .ok (.ishl, 1) := by decide +kernel
theorem dX6_shade_78 : decode cX6_shade 78 = .ok (.ior, 1) := by decide +kernel
theorem dX6_shade_79 : decode cX6_shade 79 = .ok (.istore_n 3, 1) := by decide +kernel
theorem dX6_shade_80 : decode cX6_shade 80 = .ok (.iinc 4 1, 3) := by decide +kernel
theorem dX6_shade_83 : decode cX6_shade 83 = .ok (.goto (-34), 3) := by decide +kernel
theorem dX6_shade_86 : decode cX6_shade 86 = .ok (.iload_n 3, 1) := by decide +kernel
theorem dX6_shade_87 : decode cX6_shade 87 = .ok (.ireturn, 1) := by decide +kernel
theorem dX6_dew_0 : decode cX6_dew 0 = .ok (.aload_n 0, 1) := by decide +kernel
theorem dX6_dew_1 : decode cX6_dew 1 = .ok (.getfield 25, 3) := by decide +kernel
theorem dX6_dew_4 : decode cX6_dew 4 = .ok (.getfield 146, 3) := by decide +kernel
theorem dX6_dew_7 : decode cX6_dew 7 = .ok (.ifCond .ne 6, 3) := by decide +kernel
theorem dX6_dew_10 : decode cX6_dew 10 = .ok (.ldc 142, 2) := by decide +kernel
theorem dX6_dew_12 : decode cX6_dew 12 = .ok (.ireturn, 1) := by decide +kernel
theorem dX6_dew_13 : decode cX6_dew 13 = .ok (.iload_n 1, 1) := by decide +kernel
theorem dX6_dew_14 : decode cX6_dew 14 = .ok (.invokestatic 65, 3) := by decide +kernel
theorem dX6_dew_17 : decode cX6_dew 17 = .ok (.ifCond .eq 13, 3) := by decide +kernel
theorem dX6_dew_20 : decode cX6_dew 20 = .ok (.iload_n 3, 1) := by decide +kernel
theorem dX6_dew_21 : decode cX6_dew 21 = .ok (.iconst 1, 1) := by decide +kernel
theorem dX6_dew_22 : decode cX6_dew 22 = .ok (.bipush 12, 2) := by decide +kernel
theorem dX6_dew_24 : decode cX6_dew 24 = .ok (.invokestatic 69, 3) := by decide +kernel
theorem dX6_dew_27 : decode cX6_dew 27 = .ok (.ifCond .ne 6, 3) := by decide +kernel
theorem dX6_dew_30 : decode cX6_dew 30 = .ok (.ldc 73, 2) := by decide +kernel
theorem dX6_dew_32 : decode cX6_dew 32 = .ok (.ireturn, 1) := by decide +kernel
theorem dX6_dew_33 : decode cX6_dew 33 = .ok (.aload_n 0, 1) := by decide +kernel
theorem dX6_dew_34 : decode cX6_dew 34 = .ok (.getfield 11, 3) := by decide +kernel
theorem dX6_dew_37 : decode cX6_dew 37 = .ok (.iload_n 1, 1) := by decide +kernel
theorem dX6_dew_38 : decode cX6_dew 38 = .ok (.aaload, 1) := by decide +kernel
theorem dX6_dew_39 : decode cX6_dew 39 = .ok (.iload_n 2, 1) := by decide +kernel
theorem dX6_dew_40 : decode cX6_dew 40 = .ok (.iload_n 3, 1) := by decide +kernel
theorem dX6_dew_41 : decode cX6_dew 41 = .ok (.invokevirtual 85, 3) := by decide +kernel
theorem dX6_dew_44 : decode cX6_dew 44 = .ok (.istore 4, 2) := by decide +kernel
theorem dX6_dew_46 : decode cX6_dew 46 = .ok (.iload 4, 2) := by decide +kernel
theorem dX6_dew_48 : decode cX6_dew 48 = .ok (.ifCond .eq 10, 3) := by decide +kernel
theorem dX6_dew_51 : decode cX6_dew 51 = .ok (.aload_n 0, 1) := by decide +kernel
theorem dX6_dew_52 : decode cX6_dew 52 = .ok (.iload 4, 2) := by decide +kernel
theorem dX6_dew_54 : decode cX6_dew 54 = .ok (.invokevirtual 74, 3) := by decide +kernel
theorem dX6_dew_57 : decode cX6_dew 57 = .ok (.ireturn, 1) := by decide +kernel
theorem dX6_dew_58 : decode cX6_dew 58 = .ok (.iconst 0, 1) := by decide +kernel
theorem dX6_dew_59 : decode cX6_dew 59 = .ok (.istore 5, 2) := by decide +kernel
theorem dX6_dew_61 : decode cX6_dew 61 = .ok (.iconst 0, 1) := by decide +kernel
theorem dX6_dew_62 : decode cX6_dew 62 = .ok (.istore 6, 2) := by decide +kernel
theorem dX6_dew_64 : decode cX6_dew 64 = .ok (.iload 6, 2) := by decide +kernel
theorem dX6_dew_66 : decode cX6_dew 66 = .ok (.aload_n 0, 1) := by decide +kernel
theorem dX6_dew_67 : decode cX6_dew 67 = .ok (.getfield 25, 3) := by decide +kernel
theorem dX6_dew_70 : decode cX6_dew 70 = .ok (.getfield 138, 3) := by decide +kernel
theorem dX6_dew_73 : decode cX6_dew 73 = .ok (.if_icmp .ge 51, 3) := by decide +kernel
theorem dX6_dew_76 : decode cX6_dew 76 = .ok (.aload_n 0, 1) := by decide +kernel
theorem dX6_dew_77 : decode cX6_dew 77 = .ok (.getfield 25, 3) := by decide +kernel
theorem dX6_dew_80 : decode cX6_dew 80 = .ok (.getfield 164, 3) := by decide +kernel
theorem dX6_dew_83 : decode cX6_dew 83 = .ok (.iload 6, 2) := by decide +kernel
theorem dX6_dew_85 : decode cX6_dew 85 = .ok (.aaload, 1) := by decide +kernel
theorem dX6_dew_86 : decode cX6_dew 86 = .ok (.getfield 168, 3) := by decide +kernel
theorem dX6_dew_89 : decode cX6_dew 89 = .ok (.ifCond .ne 29, 3) := by decide +kernel
theorem dX6_dew_92 : decode cX6_dew 92 = .ok (.aload_n 0, 1) := by decide +kernel
theorem dX6_dew_93 : decode cX6_dew 93 = .ok (.iload 6, 2) := by decide +kernel
theorem dX6_dew_95 : decode cX6_dew 95 = .ok (.aload_n 0, 1) := by decide +kernel
theorem dX6_dew_96 : decode cX6_dew 96 = .ok (.getfield 11, 3) := by decide +kernel
theorem dX6_dew_99 : decode cX6_dew 99 = .ok (.iload_n 1, 1) := by decide +kernel
theorem dX6_dew_100 : decode cX6_dew 100 = .ok (.aaload, 1) := by decide +kernel
theorem dX6_dew_101 : decode cX6_dew 101 = .ok (.iload_n 2, 1) := by decide +kernel
theorem dX6_dew_102 : decode cX6_dew 102 = .ok (.iload_n 3, 1) := by decide +kernel
theorem dX6_dew_103 : decode cX6_dew 103 = .ok (.invokevirtual 234, 3) := by decide +kernel
theorem dX6_dew_106 : decode cX6_dew 106 = .ok (.ifCond .eq 12, 3) := by decide +kernel
theorem dX6_dew_109 : decode cX6_dew 109 = .ok (.iload 5, 2) := by decide +kernel
theorem dX6_dew_111 : decode cX6_dew 111 = .ok (.iconst 1, 1) := by decide +kernel
theorem dX6_dew_112 : decode cX6_dew 112 = .ok (.iload 6, 2) := by decide +kernel
theorem dX6_dew_114 : decode cX6_dew 114 = .ok (.ishl, 1) := by decide +kernel
theorem dX6_dew_115 : decode cX6_dew 115 = .ok (.ior, 1) := by decide +kernel
theorem dX6_dew_116 : decode cX6_dew 116 = .ok (.istore 5, 2) := by decide +kernel
theorem dX6_dew_118 : decode cX6_dew 118 = .ok (.iinc 6 1, 3) := by decide +kernel
theorem dX6_dew_121 : decode cX6_dew 121 = .ok (.goto (-57), 3) := by decide +kernel
theorem dX6_dew_124 : decode cX6_dew 124 = .ok (.aload_n 0, 1) := by decide +kernel
theorem dX6_dew_125 : decode cX6_dew 125 = .ok (.iload 5, 2) := by decide +kernel
theorem dX6_dew_127 : decode cX6_dew 127 = .ok (.invokevirtual 82, 3) := by decide +kernel
theorem dX6_dew_130 : decode cX6_dew 130 = .ok (.ireturn, 1) := by decide +kernel
theorem dX6_lost_0 : decode cX6_lost 0 = .ok (.aload_n 0, 1) := by decide +kernel
theorem dX6_lost_1 : decode cX6_lost 1 = .ok (.iload_n 1, 1) := by decide +kernel
theorem dX6_lost_2 : decode cX6_lost 2 = .ok (.invokevirtual 161, 3) := by decide +kernel
theorem dX6_lost_5 : decode cX6_lost 5 = .ok (.ifCond .eq 40, 3) := by decide +kernel
theorem dX6_lost_8 : decode cX6_lost 8 = .ok (.iload_n 2, 1) := by decide +kernel
theorem dX6_lost_9 : decode cX6_lost 9 = .ok (.iconst 0, 1) := by decide +kernel
theorem dX6_lost_10 : decode cX6_lost 10 = .ok (.iconst 1, 1) := by decide +kernel
theorem dX6_lost_11 : decode cX6_lost 11 = .ok (.invokestatic 69, 3) := by decide +kernel
theorem dX6_lost_14 : decode cX6_lost 14 = .ok (.ifCond .eq 31, 3) := by decide +kernel
theorem dX6_lost_17 : decode cX6_lost 17 = .ok (.iload_n 3, 1) := by decide +kernel
theorem dX6_lost_18 : decode cX6_lost 18 = .ok (.invokestatic 65, 3) := by decide +kernel
theorem dX6_lost_21 : decode cX6_lost 21 = .ok (.ifCond .eq 24, 3) := by decide +kernel
theorem dX6_lost_24 : decode cX6_lost 24 = .ok (.iload 5, 2) := by decide +kernel
theorem dX6_lost_26 : decode cX6_lost 26 = .ok (.iconst 1, 1) := by decide +kernel
theorem dX6_lost_27 : decode cX6_lost 27 = .ok (.bipush 12, 2) := by decide +kernel
theorem dX6_lost_29 : decode cX6_lost 29 = .ok (.invokestatic 69, 3) := by decide +kernel
theorem dX6_lost_32 : decode cX6_lost 32 = .ok (.ifCond .eq 13, 3) := by decide +kernel
theorem dX6_lost_35 : decode cX6_lost 35 = .ok (.iload 6, 2) := by decide +kernel
theorem dX6_lost_37 : decode cX6_lost 37 = .ok (.iconst 0, 1) := by decide +kernel
theorem dX6_lost_38 : decode cX6_lost 38 = .ok (.iconst 1, 1) := by decide +kernel
theorem dX6_lost_39 : decode cX6_lost 39 = .ok (.invokestatic 69, 3) := by decide +kernel
theorem dX6_lost_42 : decode cX6_lost 42 = .ok (.ifCond .ne 6, 3) := by decide +kernel
theorem dX6_lost_45 : decode cX6_lost 45 = .ok (.ldc 73, 2) := by decide +kernel
theorem dX6_lost_47 : decode cX6_lost 47 = .ok (.ireturn, 1) := by decide +kernel
theorem dX6_lost_48 : decode cX6_lost 48 = .ok (.aload_n 0, 1) := by decide +kernel
theorem dX6_lost_49 : decode cX6_lost 49 = .ok (.getfield 11, 3) := by decide +kernel
theorem dX6_lost_52 : decode cX6_lost 52 = .ok (.iload_n 3, 1) := by decide +kernel
theorem dX6_lost_53 : decode cX6_lost 53 = .ok (.aaload, 1) := by decide +kernel
theorem dX6_lost_54 : decode cX6_lost 54 = .ok (.iload 4, 2) := by decide +kernel
theorem dX6_lost_56 : decode cX6_lost 56 = .ok (.iload 5, 2) := by decide +kernel
theorem dX6_lost_58 : decode cX6_lost 58 = .ok (.invokevirtual 85, 3) := by decide +kernel
theorem dX6_lost_61 : decode cX6_lost 61 = .ok (.istore 7, 2) := by decide +kernel
theorem dX6_lost_63 : decode cX6_lost 63 = .ok (.iload 7, 2) := by decide +kernel
theorem dX6_lost_65 : decode cX6_lost 65 = .ok (.ifCond .eq 10, 3) := by decide +kernel
theorem dX6_lost_68 : decode cX6_lost 68 = .ok (.aload_n 0, 1) := by decide +kernel
theorem dX6_lost_69 : decode cX6_lost 69 = .ok (.iload 7, 2) := by decide +kernel
theorem dX6_lost_71 : decode cX6_lost 71 = .ok (.invokevirtual 74, 3) := by decide +kernel
theorem dX6_lost_74 : decode cX6_lost 74 = .ok (.ireturn, 1) := by decide +kernel
theorem dX6_lost_75 : decode cX6_lost 75 = .ok (.iconst 0, 1) := by decide +kernel
theorem dX6_lost_76 : decode cX6_lost 76 = .ok (.istore 8, 2) := by decide +kernel
theorem dX6_lost_78 : decode cX6_lost 78 = .ok (.ldc 216, 2) := by decide +kernel
theorem dX6_lost_80 : decode cX6_lost 80 = .ok (.istore 9, 2) := by decide +kernel
theorem dX6_lost_82 : decode cX6_lost 82 = .ok (.bipush 31, 2) := by decide +kernel
theorem dX6_lost_84 : decode cX6_lost 84 = .ok (.istore 10, 2) := by decide +kernel
theorem dX6_lost_86 : decode cX6_lost 86 = .ok (.iload 10, 2) := by decide +kernel
theorem dX6_lost_88 : decode cX6_lost 88 = .ok (.ifCond .lt 37, 3) := by decide +kernel
theorem dX6_lost_91 : decode cX6_lost 91 = .ok (.aload_n 0, 1) := by decide +kernel
theorem dX6_lost_92 : decode cX6_lost 92 = .ok (.iload_n 1, 1) := by decide +kernel
theorem dX6_lost_93 : decode cX6_lost 93 = .ok (.iload 10, 2) := by decide +kernel
theorem dX6_lost_95 : decode cX6_lost 95 = .ok (.iload_n 2, 1) := by decide +kernel
theorem dX6_lost_96 : decode cX6_lost 96 = .ok (.aload_n 0, 1) := by decide +kernel
theorem dX6_lost_97 : decode cX6_lost 97 = .ok (.getfield 11, 3) := by decide +kernel
theorem dX6_lost_100 : decode cX6_lost 100 = .ok (.iload_n 3, 1) := by decide +kernel
theorem dX6_lost_101 : decode cX6_lost 101 = .ok (.aaload, 1) := by decide +kernel
theorem dX6_lost_102 : decode cX6_lost 102 = .ok (.iload 4, 2) := by decide +kernel
theorem dX6_lost_104 : decode cX6_lost 104 = .ok (.iload 5, 2) := by decide +kernel
theorem dX6_lost_106 : decode cX6_lost 106 = .ok (.invokevirtual 238, 3) := by decide +kernel
theorem dX6_lost_109 : decode cX6_lost 109 = .ok (.ifCond .eq 10, 3) := by decide +kernel
theorem dX6_lost_112 : decode cX6_lost 112 = .ok (.iinc 8 1, 3) := by decide +kernel
theorem dX6_lost_115 : decode cX6_lost 115 = .ok (.iload 10, 2) := by decide +kernel
theorem dX6_lost_117 : decode cX6_lost 117 = .ok (.istore 9, 2) := by decide +kernel
theorem dX6_lost_119 : decode cX6_lost 119 = .ok (.iinc 10 (-1), 3) := by decide +kernel
theorem dX6_lost_122 : decode cX6_lost 122 = .ok (.goto (-36), 3) := by decide +kernel
theorem dX6_lost_125 : decode cX6_lost 125 = .ok (.aload_n 0, 1) := by decide +kernel
theorem dX6_lost_126 : decode cX6_lost 126 = .ok (.iload 6, 2) := by decide +kernel
theorem dX6_lost_128 : decode cX6_lost 128 = .ok (.ifCond .ne 8, 3) := by decide +kernel
theorem dX6_lost_131 : decode cX6_lost 131 = .ok (.iload 8, 2) := by decide +kernel
theorem dX6_lost_133 : decode cX6_lost 133 = .ok (.goto 5, 3) := by decide +kernel
theorem dX6_lost_136 : decode cX6_lost 136 = .ok (.iload 9, 2) := by decide +kernel
theorem dX6_lost_138 : decode cX6_lost 138 = .ok (.invokevirtual 82, 3) := by decide +kernel
theorem dX6_lost_141 : decode cX6_lost 141 = .ok (.ireturn, 1) := by decide +kernel
theorem dX6_kite_0 : decode cX6_kite 0 = .ok (.aload_n 0, 1) := by decide +kernel
theorem dX6_kite_1 : decode cX6_kite 1 = .ok (.getfield 25, 3) := by decide +kernel
theorem dX6_kite_4 : decode cX6_kite 4 = .ok (.getfield 146, 3) := by decide +kernel
theorem dX6_kite_7 : decode cX6_kite 7 = .ok (.ifCond .ne 6, 3) := by decide +kernel
theorem dX6_kite_10 : decode cX6_kite 10 = .ok (.ldc 142, 2) := by decide +kernel
theorem dX6_kite_12 : decode cX6_kite 12 = .ok (.ireturn, 1) := by decide +kernel
theorem dX6_kite_13 : decode cX6_kite 13 = .ok (.iload_n 1, 1) := by decide +kernel
theorem dX6_kite_14 : decode cX6_kite 14 = .ok (.invokestatic 65, 3) := by decide +kernel
theorem dX6_kite_17 : decode cX6_kite 17 = .ok (.ifCond .eq 23, 3) := by decide +kernel
theorem dX6_kite_20 : decode cX6_kite 20 = .ok (.iload_n 3, 1) := by decide +kernel
theorem dX6_kite_21 : decode cX6_kite 21 = .ok (.iconst 1, 1) := by decide +kernel
theorem dX6_kite_22 : decode cX6_kite 22 = .ok (.bipush 12, 2) := by decide +kernel
theorem dX6_kite_24 : decode cX6_kite 24 = .ok (.invokestatic 69, 3) := by decide +kernel
theorem dX6_kite_27 : decode cX6_kite 27 = .ok (.ifCond .eq 13, 3) := by decide +kernel
theorem dX6_kite_30 : decode cX6_kite 30 = .ok (.iload 4, 2) := by decide +kernel
theorem dX6_kite_32 : decode cX6_kite 32 = .ok (.iconst 0, 1) := by decide +kernel
theorem dX6_kite_33 : decode cX6_kite 33 = .ok (.iconst 1, 1) := by decide +kernel
theorem dX6_kite_34 : decode cX6_kite 34 = .ok (.invokestatic 69, 3) := by decide +kernel
theorem dX6_kite_37 : decode cX6_kite 37 = .ok (.ifCond .ne 6, 3) := by decide +kernel
theorem dX6_kite_40 : decode cX6_kite 40 = .ok (.ldc 73, 2) := by decide +kernel
theorem dX6_kite_42 : decode cX6_kite 42 = .ok (.ireturn, 1) := by decide +kernel
theorem dX6_kite_43 : decode cX6_kite 43 = .ok (.aload_n 0, 1) := by decide +kernel
theorem dX6_kite_44 : decode cX6_kite 44 = .ok (.getfield 11, 3) := by decide +kernel
theorem dX6_kite_47 : decode cX6_kite 47 = .ok (.iload_n 1, 1) := by decide +kernel
theorem dX6_kite_48 : decode cX6_kite 48 = .ok (.aaload, 1) := by decide +kernel
theorem dX6_kite_49 : decode cX6_kite 49 = .ok (.iload_n 2, 1) := by decide +kernel
theorem dX6_kite_50 : decode cX6_kite 50 = .ok (.iload_n 3, 1) := by decide +kernel
theorem dX6_kite_51 : decode cX6_kite 51 = .ok (.invokevirtual 85, 3) := by decide +kernel
theorem dX6_kite_54 : decode cX6_kite 54 = .ok (.istore 5, 2) := by decide +kernel
theorem dX6_kite_56 : decode cX6_kite 56 = .ok (.iload 5, 2) := by decide +kernel
theorem dX6_kite_58 : decode cX6_kite 58 = .ok (.ifCond .eq 10, 3) := by decide +kernel
theorem dX6_kite_61 : decode cX6_kite 61 = .ok (.aload_n 0, 1) := by decide +kernel
theorem dX6_kite_62 : decode cX6_kite 62 = .ok (.iload 5, 2) := by decide +kernel
theorem dX6_kite_64 : decode cX6_kite 64 = .ok (.invokevirtual 74, 3) := by decide +kernel
theorem dX6_kite_67 : decode cX6_kite 67 = .ok (.ireturn, 1) := by decide +kernel
theorem dX6_kite_68 : decode cX6_kite 68 = .ok (.iconst 0, 1) := by decide +kernel
theorem dX6_kite_69 : decode cX6_kite 69 = .ok (.istore 6, 2) := by decide +kernel
theorem dX6_kite_71 : decode cX6_kite 71 = .ok (.ldc 216, 2) := by decide +kernel
theorem dX6_kite_73 : decode cX6_kite 73 = .ok (.istore 7, 2) := by decide +kernel
theorem dX6_kite_75 : decode cX6_kite 75 = .ok (.bipush 11, 2) := by decide +kernel
theorem dX6_kite_77 : decode cX6_kite 77 = .ok (.istore 8, 2) := by decide +kernel
theorem dX6_kite_79 : decode cX6_kite 79 = .ok (.iload 8, 2) := by decide +kernel
theorem dX6_kite_81 : decode cX6_kite 81 = .ok (.ifCond .lt 41, 3) := by decide +kernel
theorem dX6_kite_84 : decode cX6_kite 84 = .ok (.aload_n 0, 1) := by decide +kernel
theorem dX6_kite_85 : decode cX6_kite 85 = .ok (.iload 8, 2) := by decide +kernel
theorem dX6_kite_87 : decode cX6_kite 87 = .ok (.bipush 6, 2) := by decide +kernel
theorem dX6_kite_89 : decode cX6_kite 89 = .ok (.idiv, 1) := by decide +kernel
theorem dX6_kite_90 : decode cX6_kite 90 = .ok (.iload 8, 2) := by decide +kernel
theorem dX6_kite_92 : decode cX6_kite 92 = .ok (.bipush 6, 2) := by decide +kernel
theorem dX6_kite_94 : decode cX6_kite 94 = .ok (.irem, 1) := by decide +kernel
theorem dX6_kite_95 : decode cX6_kite 95 = .ok (.aload_n 0, 1) := by decide +kernel
theorem dX6_kite_96 : decode cX6_kite 96 = .ok (.getfield 11, 3) := by decide +kernel
theorem dX6_kite_99 : decode cX6_kite 99 = .ok (.iload_n 1, 1) := by decide +kernel
theorem dX6_kite_100 : decode cX6_kite 100 = .ok (.aaload, 1) := by decide +kernel
theorem dX6_kite_101 : decode cX6_kite 101 = .ok (.iload_n 2, 1) := by decide +kernel
theorem dX6_kite_102 : decode cX6_kite 102 = .ok (.iload_n 3, 1) := by decide +kernel
theorem dX6_kite_103 : decode cX6_kite 103 = .ok (.invokevirtual 242, 3) := by decide +kernel
theorem dX6_kite_106 : decode cX6_kite 106 = .ok (.ifCond .eq 10, 3) := by decide +kernel
theorem dX6_kite_109 : decode cX6_kite 109 = .ok (.iinc 6 1, 3) := by decide +kernel
theorem dX6_kite_112 : decode cX6_kite 112 = .ok (.iload 8, 2) := by decide +kernel
theorem dX6_kite_114 : decode cX6_kite 114 = .ok (.istore 7, 2) := by decide +kernel
theorem dX6_kite_116 : decode cX6_kite 116 = .ok (.iinc 8 (-1), 3) := by decide +kernel
theorem dX6_kite_119 : decode cX6_kite 119 = .ok (.goto (-40), 3) := by decide +kernel
theorem dX6_kite_122 : decode cX6_kite 122 = .ok (.aload_n 0, 1) := by decide +kernel
theorem dX6_kite_123 : decode cX6_kite 123 = .ok (.iload 4, 2) := by decide +kernel
theorem dX6_kite_125 : decode cX6_kite 125 = .ok (.ifCond .ne 8, 3) := by decide +kernel
theorem dX6_kite_128 : decode cX6_kite 128 = .ok (.iload 6, 2) := by decide +kernel
theorem dX6_kite_130 : decode cX6_kite 130 = .ok (.goto 5, 3) := by decide +kernel
theorem dX6_kite_133 : decode cX6_kite 133 = .ok (.iload 7, 2) := by decide +kernel
theorem dX6_kite_135 : decode cX6_kite 135 = .ok (.invokevirtual 82, 3) := by decide +kernel
theorem dX6_kite_138 : decode cX6_kite 138 = .ok (.ireturn, 1) := by decide +kernel
theorem dX6_tuesday_0 : decode cX6_tuesday 0 = .ok (.aload_n 0, 1) := by decide +kernel
theorem dX6_tuesday_1 : decode cX6_tuesday 1 = .ok (.iload_n 1, 1) := by decide +kernel
theorem dX6_tuesday_2 : decode cX6_tuesday 2 = .ok (.invokevirtual 161, 3) := by decide +kernel
theorem dX6_tuesday_5 : decode cX6_tuesday 5 = .ok (.ifCond .eq 30, 3) := by decide +kernel
theorem dX6_tuesday_8 : decode cX6_tuesday 8 = .ok (.iload_n 2, 1) := by decide +kernel
theorem dX6_tuesday_9 : decode cX6_tuesday 9 = .ok (.iconst 0, 1) := by decide +kernel
theorem dX6_tuesday_10 : decode cX6_tuesday 10 = .ok (.bipush 60, 2) := by decide +kernel
theorem dX6_tuesday_12 : decode cX6_tuesday 12 = .ok (.invokestatic 69, 3) := by decide +kernel
theorem dX6_tuesday_15 : decode cX6_tuesday 15 = .ok (.ifCond .eq 20, 3) := by decide +kernel
theorem dX6_tuesday_18 : decode cX6_tuesday 18 = .ok (.iload_n 3, 1) := by decide +kernel
theorem dX6_tuesday_19 : decode cX6_tuesday 19 = .ok (.invokestatic 198, 3) := by decide +kernel
theorem dX6_tuesday_22 : decode cX6_tuesday 22 = .ok (.ifCond .eq 13, 3) := by decide +kernel
theorem dX6_tuesday_25 : decode cX6_tuesday 25 = .ok (.iload 4, 2) := by decide +kernel
theorem dX6_tuesday_27 : decode cX6_tuesday 27 = .ok (.iconst 0, 1) := by decide +kernel
theorem dX6_tuesday_28 : decode cX6_tuesday 28 = .ok (.iconst 1, 1) := by decide +kernel
theorem dX6_tuesday_29 : decode cX6_tuesday 29 = .ok (.invokestatic 69, 3) := by decide +kernel
theorem dX6_tuesday_32 : decode cX6_tuesday 32 = .ok (.ifCond .ne 6, 3) := by decide +kernel
theorem dX6_tuesday_35 : decode cX6_tuesday 35 = .ok (.ldc 73, 2) := by decide +kernel
theorem dX6_tuesday_37 : decode cX6_tuesday 37 = .ok (.ireturn, 1) := by decide +kernel
theorem dX6_tuesday_38 : decode cX6_tuesday 38 = .ok (.aload_n 0, 1) := by decide +kernel
theorem dX6_tuesday_39 : decode cX6_tuesday 39 = .ok (.getfield 25, 3) := by decide +kernel
theorem dX6_tuesday_42 : decode cX6_tuesday 42 = .ok (.getfield 164, 3) := by decide +kernel
theorem dX6_tuesday_45 : decode cX6_tuesday 45 = .ok (.iload_n 1, 1) := by decide +kernel
theorem dX6_tuesday_46 : decode cX6_tuesday 46 = .ok (.aaload, 1) := by decide +kernel
theorem dX6_tuesday_47 : decode cX6_tuesday 47 = .ok (.getfield 168, 3) := by decide +kernel
theorem dX6_tuesday_50 : decode cX6_tuesday 50 = .ok (.ifCond .eq 6, 3) := by decide +kernel
theorem dX6_tuesday_53 : decode cX6_tuesday 53 = .ok (.ldc 142, 2) := by decide +kernel
theorem dX6_tuesday_55 : decode cX6_tuesday 55 = .ok (.ireturn, 1) := by decide +kernel
theorem dX6_tuesday_56 : decode cX6_tuesday 56 = .ok (.iconst 0, 1) := by decide +kernel
theorem dX6_tuesday_57 : decode cX6_tuesday 57 = .ok (.istore 5, 2) := by decide +kernel
theorem dX6_tuesday_59 : decode cX6_tuesday 59 = .ok (.iconst 0, 1) := by decide +kernel
theorem dX6_tuesday_60 : decode cX6_tuesday 60 = .ok (.istore 6, 2) := by decide +kernel
theorem dX6_tuesday_62 : decode cX6_tuesday 62 = .ok (.iload 6, 2) := by decide +kernel
theorem dX6_tuesday_64 : decode cX6_tuesday 64 = .ok (.bipush 6, 2) := by decide +kernel
theorem dX6_tuesday_66 : decode cX6_tuesday 66 = .ok (.if_icmp .ge 32, 3) := by decide +kernel
theorem dX6_tuesday_69 : decode cX6_tuesday 69 = .ok (.aload_n 0, 1) := by decide +kernel
theorem dX6_tuesday_70 : decode cX6_tuesday 70 = .ok (.aload_n 0, 1) := by decide +kernel
theorem dX6_tuesday_71 : decode cX6_tuesday 71 = .ok (.getfield 25, 3) := by decide +kernel
theorem dX6_tuesday_74 : decode cX6_tuesday 74 = .ok (.getfield 164, 3) := by decide +kernel
theorem dX6_tuesday_77 : decode cX6_tuesday 77 = .ok (.iload_n 1, 1) := by decide +kernel
theorem dX6_tuesday_78 : decode cX6_tuesday 78 = .ok (.aaload, 1) := by decide +kernel
theorem dX6_tuesday_79 : decode cX6_tuesday 79 = .ok (.iload 6, 2) := by decide +kernel
theorem dX6_tuesday_81 : decode cX6_tuesday 81 = .ok (.iload_n 2, 1) := by decide +kernel
theorem dX6_tuesday_82 : decode cX6_tuesday 82 = .ok (.invokevirtual 246, 3) := by decide +kernel
theorem dX6_tuesday_85 : decode cX6_tuesday 85 = .ok (.iload_n 3, 1) := by decide +kernel
theorem dX6_tuesday_86 : decode cX6_tuesday 86 = .ok (.if_icmp .ne 6, 3) := by decide +kernel
theorem dX6_tuesday_89 : decode cX6_tuesday 89 = .ok (.iinc 5 1, 3) := by decide +kernel
theorem dX6_tuesday_92 : decode cX6_tuesday 92 = .ok (.iinc 6 1, 3) := by decide +kernel
theorem dX6_tuesday_95 : decode cX6_tuesday 95 = .ok (.goto (-33), 3) := by decide +kernel
theorem dX6_tuesday_98 : decode cX6_tuesday 98 = .ok (.iload 5, 2) := by decide +kernel
theorem dX6_tuesday_100 : decode cX6_tuesday 100 = .ok (.i2l, 1) := by decide +kernel
theorem dX6_tuesday_101 : decode cX6_tuesday 101 = .ok (.ldc2_w 249, 3) := by decide +kernel
theorem dX6_tuesday_104 : decode cX6_tuesday 104 = .ok (.iload 4, 2) := by decide +kernel
theorem dX6_tuesday_106 : decode cX6_tuesday 106 = .ok (.invokestatic 251, 3) := by decide +kernel
theorem dX6_tuesday_109 : decode cX6_tuesday 109 = .ok (.l2i, 1) := by decide +kernel
theorem dX6_tuesday_110 : decode cX6_tuesday 110 = .ok (.ireturn, 1) := by decide +kernel
theorem dX6_guards_0 : decode cX6_guards 0 = .ok (.iload_n 1, 1) := by decide +kernel
theorem dX6_guards_1 : decode cX6_guards 1 = .ok (.invokestatic 65, 3) := by decide +kernel
theorem dX6_guards_4 : decode cX6_guards 4 = .ok (.ifCond .ne 6, 3) := by decide +kernel
theorem dX6_guards_7 : decode cX6_guards 7 = .ok (.ldc 73, 2) := by decide +kernel
theorem dX6_guards_9 : decode cX6_guards 9 = .ok (.ireturn, 1) := by decide +kernel
theorem dX6_guards_10 : decode cX6_guards 10 = .ok (.aload_n 0, 1) := by decide +kernel
theorem dX6_guards_11 : decode cX6_guards 11 = .ok (.aload_n 0, 1) := by decide +kernel
theorem dX6_guards_12 : decode cX6_guards 12 = .ok (.getfield 11, 3) := by decide +kernel
theorem dX6_guards_15 : decode cX6_guards 15 = .ok (.iload_n 1, 1) := by decide +kernel
theorem dX6_guards_16 : decode cX6_guards 16 = .ok (.aaload, 1) := by decide +kernel
theorem dX6_guards_17 : decode cX6_guards 17 = .ok (.iload_n 2, 1) := by decide +kernel
theorem dX6_guards_18 : decode cX6_guards 18 = .ok (.invokevirtual 255, 3) := by decide +kernel
theorem dX6_guards_21 : decode cX6_guards 21 = .ok (.istore_n 3, 1) := by decide +kernel
