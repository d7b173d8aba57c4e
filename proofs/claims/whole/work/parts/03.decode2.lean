theorem dX6_guards_22 : decode cX6_guards 22 = .ok (.iload_n 3, 1) := by decide +kernel
theorem dX6_guards_23 : decode cX6_guards 23 = .ok (.ifCond .eq 7, 3) := by decide +kernel
theorem dX6_guards_26 : decode cX6_guards 26 = .ok (.iload_n 3, 1) := by decide +kernel
theorem dX6_guards_27 : decode cX6_guards 27 = .ok (.goto 13, 3) := by decide +kernel
theorem dX6_guards_30 : decode cX6_guards 30 = .ok (.aload_n 0, 1) := by decide +kernel
theorem dX6_guards_31 : decode cX6_guards 31 = .ok (.getfield 11, 3) := by decide +kernel
theorem dX6_guards_34 : decode cX6_guards 34 = .ok (.iload_n 1, 1) := by decide +kernel
theorem dX6_guards_35 : decode cX6_guards 35 = .ok (.aaload, 1) := by decide +kernel
theorem dX6_guards_36 : decode cX6_guards 36 = .ok (.iload_n 2, 1) := by decide +kernel
theorem dX6_guards_37 : decode cX6_guards 37 = .ok (.invokestatic 259, 3) := by decide +kernel
theorem dX6_guards_40 : decode cX6_guards 40 = .ok (.ireturn, 1) := by decide +kernel
theorem dX6_guardsValue_0 : decode cX6_guardsValue 0 = .ok (.iload_n 1, 1) := by decide +kernel
theorem dX6_guardsValue_1 : decode cX6_guardsValue 1 = .ok (.invokestatic 65, 3) := by decide +kernel
theorem dX6_guardsValue_4 : decode cX6_guardsValue 4 = .ok (.ifCond .eq 12, 3) := by decide +kernel
theorem dX6_guardsValue_7 : decode cX6_guardsValue 7 = .ok (.iload_n 3, 1) := by decide +kernel
theorem dX6_guardsValue_8 : decode cX6_guardsValue 8 = .ok (.iconst 0, 1) := by decide +kernel
theorem dX6_guardsValue_9 : decode cX6_guardsValue 9 = .ok (.iconst 1, 1) := by decide +kernel
theorem dX6_guardsValue_10 : decode cX6_guardsValue 10 = .ok (.invokestatic 69, 3) := by decide +kernel
theorem dX6_guardsValue_13 : decode cX6_guardsValue 13 = .ok (.ifCond .ne 7, 3) := by decide +kernel
theorem dX6_guardsValue_16 : decode cX6_guardsValue 16 = .ok (.ldc2_w 262, 3) := by decide +kernel
theorem dX6_guardsValue_19 : decode cX6_guardsValue 19 = .ok (.lreturn, 1) := by decide +kernel
theorem dX6_guardsValue_20 : decode cX6_guardsValue 20 = .ok (.aload_n 0, 1) := by decide +kernel
theorem dX6_guardsValue_21 : decode cX6_guardsValue 21 = .ok (.aload_n 0, 1) := by decide +kernel
theorem dX6_guardsValue_22 : decode cX6_guardsValue 22 = .ok (.getfield 11, 3) := by decide +kernel
theorem dX6_guardsValue_25 : decode cX6_guardsValue 25 = .ok (.iload_n 1, 1) := by decide +kernel
theorem dX6_guardsValue_26 : decode cX6_guardsValue 26 = .ok (.aaload, 1) := by decide +kernel
theorem dX6_guardsValue_27 : decode cX6_guardsValue 27 = .ok (.iload_n 2, 1) := by decide +kernel
theorem dX6_guardsValue_28 : decode cX6_guardsValue 28 = .ok (.invokevirtual 255, 3) := by decide +kernel
theorem dX6_guardsValue_31 : decode cX6_guardsValue 31 = .ok (.istore 4, 2) := by decide +kernel
theorem dX6_guardsValue_33 : decode cX6_guardsValue 33 = .ok (.iload 4, 2) := by decide +kernel
theorem dX6_guardsValue_35 : decode cX6_guardsValue 35 = .ok (.ifCond .eq 7, 3) := by decide +kernel
theorem dX6_guardsValue_38 : decode cX6_guardsValue 38 = .ok (.iload 4, 2) := by decide +kernel
theorem dX6_guardsValue_40 : decode cX6_guardsValue 40 = .ok (.i2l, 1) := by decide +kernel
theorem dX6_guardsValue_41 : decode cX6_guardsValue 41 = .ok (.lreturn, 1) := by decide +kernel
theorem dX6_guardsValue_42 : decode cX6_guardsValue 42 = .ok (.aload_n 0, 1) := by decide +kernel
theorem dX6_guardsValue_43 : decode cX6_guardsValue 43 = .ok (.getfield 11, 3) := by decide +kernel
theorem dX6_guardsValue_46 : decode cX6_guardsValue 46 = .ok (.iload_n 1, 1) := by decide +kernel
theorem dX6_guardsValue_47 : decode cX6_guardsValue 47 = .ok (.aaload, 1) := by decide +kernel
theorem dX6_guardsValue_48 : decode cX6_guardsValue 48 = .ok (.iload_n 2, 1) := by decide +kernel
theorem dX6_guardsValue_49 : decode cX6_guardsValue 49 = .ok (.invokestatic 259, 3) := by decide +kernel
theorem dX6_guardsValue_52 : decode cX6_guardsValue 52 = .ok (.istore 5, 2) := by decide +kernel
theorem dX6_guardsValue_54 : decode cX6_guardsValue 54 = .ok (.aload_n 0, 1) := by decide +kernel
theorem dX6_guardsValue_55 : decode cX6_guardsValue 55 = .ok (.getfield 11, 3) := by decide +kernel
theorem dX6_guardsValue_58 : decode cX6_guardsValue 58 = .ok (.iload_n 1, 1) := by decide +kernel
theorem dX6_guardsValue_59 : decode cX6_guardsValue 59 = .ok (.aaload, 1) := by decide +kernel
theorem dX6_guardsValue_60 : decode cX6_guardsValue 60 = .ok (.iload_n 2, 1) := by decide +kernel
theorem dX6_guardsValue_61 : decode cX6_guardsValue 61 = .ok (.iload 5, 2) := by decide +kernel
theorem dX6_guardsValue_63 : decode cX6_guardsValue 63 = .ok (.invokestatic 264, 3) := by decide +kernel
theorem dX6_guardsValue_66 : decode cX6_guardsValue 66 = .ok (.aload_n 0, 1) := by decide +kernel
theorem dX6_guardsValue_67 : decode cX6_guardsValue 67 = .ok (.getfield 11, 3) := by decide +kernel
theorem dX6_guardsValue_70 : decode cX6_guardsValue 70 = .ok (.iload_n 1, 1) := by decide +kernel
theorem dX6_guardsValue_71 : decode cX6_guardsValue 71 = .ok (.aaload, 1) := by decide +kernel
theorem dX6_guardsValue_72 : decode cX6_guardsValue 72 = .ok (.iload_n 2, 1) := by decide +kernel
theorem dX6_guardsValue_73 : decode cX6_guardsValue 73 = .ok (.iload 5, 2) := by decide +kernel
theorem dX6_guardsValue_75 : decode cX6_guardsValue 75 = .ok (.invokestatic 268, 3) := by decide +kernel
theorem dX6_guardsValue_78 : decode cX6_guardsValue 78 = .ok (.iload_n 3, 1) := by decide +kernel
theorem dX6_guardsValue_79 : decode cX6_guardsValue 79 = .ok (.invokestatic 251, 3) := by decide +kernel
theorem dX6_guardsValue_82 : decode cX6_guardsValue 82 = .ok (.lreturn, 1) := by decide +kernel
theorem dX6_dues_0 : decode cX6_dues 0 = .ok (.aload_n 0, 1) := by decide +kernel
theorem dX6_dues_1 : decode cX6_dues 1 = .ok (.getfield 25, 3) := by decide +kernel
theorem dX6_dues_4 : decode cX6_dues 4 = .ok (.getfield 146, 3) := by decide +kernel
theorem dX6_dues_7 : decode cX6_dues 7 = .ok (.ifCond .ne 6, 3) := by decide +kernel
theorem dX6_dues_10 : decode cX6_dues 10 = .ok (.ldc 142, 2) := by decide +kernel
theorem dX6_dues_12 : decode cX6_dues 12 = .ok (.ireturn, 1) := by decide +kernel
theorem dX6_dues_13 : decode cX6_dues 13 = .ok (.iload_n 1, 1) := by decide +kernel
theorem dX6_dues_14 : decode cX6_dues 14 = .ok (.iconst 0, 1) := by decide +kernel
theorem dX6_dues_15 : decode cX6_dues 15 = .ok (.bipush 60, 2) := by decide +kernel
theorem dX6_dues_17 : decode cX6_dues 17 = .ok (.invokestatic 69, 3) := by decide +kernel
theorem dX6_dues_20 : decode cX6_dues 20 = .ok (.ifCond .ne 6, 3) := by decide +kernel
theorem dX6_dues_23 : decode cX6_dues 23 = .ok (.ldc 73, 2) := by decide +kernel
theorem dX6_dues_25 : decode cX6_dues 25 = .ok (.ireturn, 1) := by decide +kernel
theorem dX6_dues_26 : decode cX6_dues 26 = .ok (.aload_n 0, 1) := by decide +kernel
theorem dX6_dues_27 : decode cX6_dues 27 = .ok (.iload_n 1, 1) := by decide +kernel
theorem dX6_dues_28 : decode cX6_dues 28 = .ok (.invokevirtual 210, 3) := by decide +kernel
theorem dX6_dues_31 : decode cX6_dues 31 = .ok (.aload_n 0, 1) := by decide +kernel
theorem dX6_dues_32 : decode cX6_dues 32 = .ok (.getfield 29, 3) := by decide +kernel
theorem dX6_dues_35 : decode cX6_dues 35 = .ok (.getfield 271, 3) := by decide +kernel
theorem dX6_dues_38 : decode cX6_dues 38 = .ok (.aload_n 0, 1) := by decide +kernel
theorem dX6_dues_39 : decode cX6_dues 39 = .ok (.getfield 25, 3) := by decide +kernel
theorem dX6_dues_42 : decode cX6_dues 42 = .ok (.getfield 271, 3) := by decide +kernel
theorem dX6_dues_45 : decode cX6_dues 45 = .ok (.isub, 1) := by decide +kernel
theorem dX6_dues_46 : decode cX6_dues 46 = .ok (.ireturn, 1) := by decide +kernel
theorem dX6_image_0 : decode cX6_image 0 = .ok (.iload_n 1, 1) := by decide +kernel
theorem dX6_image_1 : decode cX6_image 1 = .ok (.iconst 0, 1) := by decide +kernel
theorem dX6_image_2 : decode cX6_image 2 = .ok (.iconst 1, 1) := by decide +kernel
theorem dX6_image_3 : decode cX6_image 3 = .ok (.invokestatic 69, 3) := by decide +kernel
theorem dX6_image_6 : decode cX6_image 6 = .ok (.ifCond .ne 6, 3) := by decide +kernel
theorem dX6_image_9 : decode cX6_image 9 = .ok (.ldc 73, 2) := by decide +kernel
theorem dX6_image_11 : decode cX6_image 11 = .ok (.ireturn, 1) := by decide +kernel
theorem dX6_image_12 : decode cX6_image 12 = .ok (.aload_n 0, 1) := by decide +kernel
theorem dX6_image_13 : decode cX6_image 13 = .ok (.getfield 25, 3) := by decide +kernel
theorem dX6_image_16 : decode cX6_image 16 = .ok (.getfield 146, 3) := by decide +kernel
theorem dX6_image_19 : decode cX6_image 19 = .ok (.ifCond .ne 6, 3) := by decide +kernel
theorem dX6_image_22 : decode cX6_image 22 = .ok (.ldc 142, 2) := by decide +kernel
theorem dX6_image_24 : decode cX6_image 24 = .ok (.ireturn, 1) := by decide +kernel
theorem dX6_image_25 : decode cX6_image 25 = .ok (.aload_n 0, 1) := by decide +kernel
theorem dX6_image_26 : decode cX6_image 26 = .ok (.getfield 39, 3) := by decide +kernel
theorem dX6_image_29 : decode cX6_image 29 = .ok (.iload_n 1, 1) := by decide +kernel
theorem dX6_image_30 : decode cX6_image 30 = .ok (.aaload, 1) := by decide +kernel
theorem dX6_image_31 : decode cX6_image 31 = .ok (.aload_n 0, 1) := by decide +kernel
theorem dX6_image_32 : decode cX6_image 32 = .ok (.getfield 25, 3) := by decide +kernel
theorem dX6_image_35 : decode cX6_image 35 = .ok (.invokevirtual 132, 3) := by decide +kernel
theorem dX6_image_38 : decode cX6_image 38 = .ok (.iconst 1, 1) := by decide +kernel
theorem dX6_image_39 : decode cX6_image 39 = .ok (.ireturn, 1) := by decide +kernel
theorem dX6_restore_0 : decode cX6_restore 0 = .ok (.iload_n 1, 1) := by decide +kernel
theorem dX6_restore_1 : decode cX6_restore 1 = .ok (.iconst 0, 1) := by decide +kernel
theorem dX6_restore_2 : decode cX6_restore 2 = .ok (.iconst 1, 1) := by decide +kernel
theorem dX6_restore_3 : decode cX6_restore 3 = .ok (.invokestatic 69, 3) := by decide +kernel
theorem dX6_restore_6 : decode cX6_restore 6 = .ok (.ifCond .ne 6, 3) := by decide +kernel
theorem dX6_restore_9 : decode cX6_restore 9 = .ok (.ldc 73, 2) := by decide +kernel
theorem dX6_restore_11 : decode cX6_restore 11 = .ok (.ireturn, 1) := by decide +kernel
theorem dX6_restore_12 : decode cX6_restore 12 = .ok (.aload_n 0, 1) := by decide +kernel
theorem dX6_restore_13 : decode cX6_restore 13 = .ok (.getfield 39, 3) := by decide +kernel
theorem dX6_restore_16 : decode cX6_restore 16 = .ok (.iload_n 1, 1) := by decide +kernel
theorem dX6_restore_17 : decode cX6_restore 17 = .ok (.aaload, 1) := by decide +kernel
theorem dX6_restore_18 : decode cX6_restore 18 = .ok (.getfield 146, 3) := by decide +kernel
theorem dX6_restore_21 : decode cX6_restore 21 = .ok (.ifCond .ne 6, 3) := by decide +kernel
theorem dX6_restore_24 : decode cX6_restore 24 = .ok (.ldc 142, 2) := by decide +kernel
theorem dX6_restore_26 : decode cX6_restore 26 = .ok (.ireturn, 1) := by decide +kernel
theorem dX6_restore_27 : decode cX6_restore 27 = .ok (.aload_n 0, 1) := by decide +kernel
theorem dX6_restore_28 : decode cX6_restore 28 = .ok (.getfield 25, 3) := by decide +kernel
theorem dX6_restore_31 : decode cX6_restore 31 = .ok (.aload_n 0, 1) := by decide +kernel
theorem dX6_restore_32 : decode cX6_restore 32 = .ok (.getfield 39, 3) := by decide +kernel
theorem dX6_restore_35 : decode cX6_restore 35 = .ok (.iload_n 1, 1) := by decide +kernel
theorem dX6_restore_36 : decode cX6_restore 36 = .ok (.aaload, 1) := by decide +kernel
theorem dX6_restore_37 : decode cX6_restore 37 = .ok (.invokevirtual 132, 3) := by decide +kernel
theorem dX6_restore_40 : decode cX6_restore 40 = .ok (.aload_n 0, 1) := by decide +kernel
theorem dX6_restore_41 : decode cX6_restore 41 = .ok (.getfield 46, 3) := by decide +kernel
theorem dX6_restore_44 : decode cX6_restore 44 = .ok (.invokevirtual 135, 3) := by decide +kernel
theorem dX6_restore_47 : decode cX6_restore 47 = .ok (.iconst 1, 1) := by decide +kernel
theorem dX6_restore_48 : decode cX6_restore 48 = .ok (.ireturn, 1) := by decide +kernel
theorem dX6_kind_0 : decode cX6_kind 0 = .ok (.aload_n 0, 1) := by decide +kernel
theorem dX6_kind_1 : decode cX6_kind 1 = .ok (.iload_n 1, 1) := by decide +kernel
theorem dX6_kind_2 : decode cX6_kind 2 = .ok (.invokevirtual 161, 3) := by decide +kernel
theorem dX6_kind_5 : decode cX6_kind 5 = .ok (.ifCond .eq 18, 3) := by decide +kernel
theorem dX6_kind_8 : decode cX6_kind 8 = .ok (.aload_n 0, 1) := by decide +kernel
theorem dX6_kind_9 : decode cX6_kind 9 = .ok (.getfield 25, 3) := by decide +kernel
theorem dX6_kind_12 : decode cX6_kind 12 = .ok (.getfield 164, 3) := by decide +kernel
theorem dX6_kind_15 : decode cX6_kind 15 = .ok (.iload_n 1, 1) := by decide +kernel
theorem dX6_kind_16 : decode cX6_kind 16 = .ok (.aaload, 1) := by decide +kernel
theorem dX6_kind_17 : decode cX6_kind 17 = .ok (.getfield 185, 3) := by decide +kernel
theorem dX6_kind_20 : decode cX6_kind 20 = .ok (.goto 5, 3) := by decide +kernel
theorem dX6_kind_23 : decode cX6_kind 23 = .ok (.ldc 73, 2) := by decide +kernel
theorem dX6_kind_25 : decode cX6_kind 25 = .ok (.ireturn, 1) := by decide +kernel
theorem dX6_as_0 : decode cX6_as 0 = .ok (.aload_n 0, 1) := by decide +kernel
theorem dX6_as_1 : decode cX6_as 1 = .ok (.iload_n 1, 1) := by decide +kernel
theorem dX6_as_2 : decode cX6_as 2 = .ok (.invokevirtual 161, 3) := by decide +kernel
theorem dX6_as_5 : decode cX6_as 5 = .ok (.ifCond .eq 12, 3) := by decide +kernel
theorem dX6_as_8 : decode cX6_as 8 = .ok (.iload_n 2, 1) := by decide +kernel
theorem dX6_as_9 : decode cX6_as 9 = .ok (.iconst 0, 1) := by decide +kernel
theorem dX6_as_10 : decode cX6_as 10 = .ok (.iconst 5, 1) := by decide +kernel
theorem dX6_as_11 : decode cX6_as 11 = .ok (.invokestatic 69, 3) := by decide +kernel
theorem dX6_as_14 : decode cX6_as 14 = .ok (.ifCond .ne 6, 3) := by decide +kernel
theorem dX6_as_17 : decode cX6_as 17 = .ok (.ldc 73, 2) := by decide +kernel
theorem dX6_as_19 : decode cX6_as 19 = .ok (.ireturn, 1) := by decide +kernel
theorem dX6_as_20 : decode cX6_as 20 = .ok (.aload_n 0, 1) := by decide +kernel
theorem dX6_as_21 : decode cX6_as 21 = .ok (.getfield 25, 3) := by decide +kernel
theorem dX6_as_24 : decode cX6_as 24 = .ok (.getfield 164, 3) := by decide +kernel
theorem dX6_as_27 : decode cX6_as 27 = .ok (.iload_n 1, 1) := by decide +kernel
theorem dX6_as_28 : decode cX6_as 28 = .ok (.aaload, 1) := by decide +kernel
theorem dX6_as_29 : decode cX6_as 29 = .ok (.getfield 185, 3) := by decide +kernel
theorem dX6_as_32 : decode cX6_as 32 = .ok (.istore_n 3, 1) := by decide +kernel
theorem dX6_as_33 : decode cX6_as 33 = .ok (.iload_n 2, 1) := by decide +kernel
theorem dX6_as_34 : decode cX6_as 34 = .ok (.iload_n 3, 1) := by decide +kernel
theorem dX6_as_35 : decode cX6_as 35 = .ok (.if_icmp .eq 16, 3) := by decide +kernel
theorem dX6_as_38 : decode cX6_as 38 = .ok (.iload_n 2, 1) := by decide +kernel
theorem dX6_as_39 : decode cX6_as 39 = .ok (.getstatic 274, 3) := by decide +kernel
theorem dX6_as_42 : decode cX6_as 42 = .ok (.iload_n 3, 1) := by decide +kernel
theorem dX6_as_43 : decode cX6_as 43 = .ok (.iaload, 1) := by decide +kernel
theorem dX6_as_44 : decode cX6_as 44 = .ok (.if_icmp .eq 7, 3) := by decide +kernel
theorem dX6_as_47 : decode cX6_as 47 = .ok (.iload_n 2, 1) := by decide +kernel
theorem dX6_as_48 : decode cX6_as 48 = .ok (.ifCond .ne 7, 3) := by decide +kernel
theorem dX6_as_51 : decode cX6_as 51 = .ok (.iconst 1, 1) := by decide +kernel
theorem dX6_as_52 : decode cX6_as 52 = .ok (.goto 4, 3) := by decide +kernel
theorem dX6_as_55 : decode cX6_as 55 = .ok (.iconst 0, 1) := by decide +kernel
theorem dX6_as_56 : decode cX6_as 56 = .ok (.istore 4, 2) := by decide +kernel
theorem dX6_as_58 : decode cX6_as 58 = .ok (.iload 4, 2) := by decide +kernel
theorem dX6_as_60 : decode cX6_as 60 = .ok (.ifCond .eq 11, 3) := by decide +kernel
theorem dX6_as_63 : decode cX6_as 63 = .ok (.aload_n 0, 1) := by decide +kernel
theorem dX6_as_64 : decode cX6_as 64 = .ok (.iload_n 1, 1) := by decide +kernel
theorem dX6_as_65 : decode cX6_as 65 = .ok (.invokevirtual 82, 3) := by decide +kernel
theorem dX6_as_68 : decode cX6_as 68 = .ok (.goto 8, 3) := by decide +kernel
theorem dX6_as_71 : decode cX6_as 71 = .ok (.aload_n 0, 1) := by decide +kernel
theorem dX6_as_72 : decode cX6_as 72 = .ok (.iconst 3, 1) := by decide +kernel
theorem dX6_as_73 : decode cX6_as 73 = .ok (.invokevirtual 74, 3) := by decide +kernel
theorem dX6_as_76 : decode cX6_as 76 = .ok (.ireturn, 1) := by decide +kernel
theorem dX6_ask_0 : decode cX6_ask 0 = .ok (.aload_n 0, 1) := by decide +kernel
theorem dX6_ask_1 : decode cX6_ask 1 = .ok (.iload_n 1, 1) := by decide +kernel
theorem dX6_ask_2 : decode cX6_ask 2 = .ok (.invokevirtual 161, 3) := by decide +kernel
theorem dX6_ask_5 : decode cX6_ask 5 = .ok (.ifCond .eq 12, 3) := by decide +kernel
theorem dX6_ask_8 : decode cX6_ask 8 = .ok (.iload_n 2, 1) := by decide +kernel
theorem dX6_ask_9 : decode cX6_ask 9 = .ok (.iconst 0, 1) := by decide +kernel
theorem dX6_ask_10 : decode cX6_ask 10 = .ok (.iconst 1, 1) := by decide +kernel
theorem dX6_ask_11 : decode cX6_ask 11 = .ok (.invokestatic 69, 3) := by decide +kernel
theorem dX6_ask_14 : decode cX6_ask 14 = .ok (.ifCond .ne 6, 3) := by decide +kernel
theorem dX6_ask_17 : decode cX6_ask 17 = .ok (.ldc 73, 2) := by decide +kernel
theorem dX6_ask_19 : decode cX6_ask 19 = .ok (.ireturn, 1) := by decide +kernel
theorem dX6_ask_20 : decode cX6_ask 20 = .ok (.aload_n 0, 1) := by decide +kernel
theorem dX6_ask_21 : decode cX6_ask 21 = .ok (.getfield 53, 3) := by decide +kernel
theorem dX6_ask_24 : decode cX6_ask 24 = .ok (.aload_n 0, 1) := by decide +kernel
theorem dX6_ask_25 : decode cX6_ask 25 = .ok (.getfield 25, 3) := by decide +kernel
theorem dX6_ask_28 : decode cX6_ask 28 = .ok (.getfield 164, 3) := by decide +kernel
theorem dX6_ask_31 : decode cX6_ask 31 = .ok (.iload_n 1, 1) := by decide +kernel
theorem dX6_ask_32 : decode cX6_ask 32 = .ok (.aaload, 1) := by decide +kernel
theorem dX6_ask_33 : decode cX6_ask 33 = .ok (.iload_n 1, 1) := by decide +kernel
theorem dX6_ask_34 : decode cX6_ask 34 = .ok (.iload_n 2, 1) := by decide +kernel
theorem dX6_ask_35 : decode cX6_ask 35 = .ok (.invokevirtual 277, 3) := by decide +kernel
theorem dX6_ask_38 : decode cX6_ask 38 = .ok (.ireturn, 1) := by decide +kernel
theorem dX6_trace_0 : decode cX6_trace 0 = .ok (.iload_n 1, 1) := by decide +kernel
theorem dX6_trace_1 : decode cX6_trace 1 = .ok (.iconst 0, 1) := by decide +kernel
theorem dX6_trace_2 : decode cX6_trace 2 = .ok (.aload_n 0, 1) := by decide +kernel
theorem dX6_trace_3 : decode cX6_trace 3 = .ok (.getfield 53, 3) := by decide +kernel
theorem dX6_trace_6 : decode cX6_trace 6 = .ok (.getfield 280, 3) := by decide +kernel
theorem dX6_trace_9 : decode cX6_trace 9 = .ok (.iconst 1, 1) := by decide +kernel
theorem dX6_trace_10 : decode cX6_trace 10 = .ok (.isub, 1) := by decide +kernel
theorem dX6_trace_11 : decode cX6_trace 11 = .ok (.invokestatic 69, 3) := by decide +kernel
theorem dX6_trace_14 : decode cX6_trace 14 = .ok (.ifCond .eq 15, 3) := by decide +kernel
theorem dX6_trace_17 : decode cX6_trace 17 = .ok (.aload_n 0, 1) := by decide +kernel
theorem dX6_trace_18 : decode cX6_trace 18 = .ok (.getfield 53, 3) := by decide +kernel
theorem dX6_trace_21 : decode cX6_trace 21 = .ok (.getfield 281, 3) := by decide +kernel
theorem dX6_trace_24 : decode cX6_trace 24 = .ok (.iload_n 1, 1) := by decide +kernel
theorem dX6_trace_25 : decode cX6_trace 25 = .ok (.iaload, 1) := by decide +kernel
theorem dX6_trace_26 : decode cX6_trace 26 = .ok (.goto 5, 3) := by decide +kernel
theorem dX6_trace_29 : decode cX6_trace 29 = .ok (.ldc 216, 2) := by decide +kernel
theorem dX6_trace_31 : decode cX6_trace 31 = .ok (.ireturn, 1) := by decide +kernel
theorem dX6_count_0 : decode cX6_count 0 = .ok (.iload_n 1, 1) := by decide +kernel
theorem dX6_count_1 : decode cX6_count 1 = .ok (.tableswitch 120 0 8 #[51, 56, 64, 72, 80, 88, 96, 104, 112], 51) := by decide +kernel
theorem dX6_count_52 : decode cX6_count 52 = .ok (.aload_n 0, 1) := by decide +kernel
theorem dX6_count_53 : decode cX6_count 53 = .ok (.invokevirtual 284, 3) := by decide +kernel
theorem dX6_count_56 : decode cX6_count 56 = .ok (.ireturn, 1) := by decide +kernel
theorem dX6_count_57 : decode cX6_count 57 = .ok (.aload_n 0, 1) := by decide +kernel
theorem dX6_count_58 : decode cX6_count 58 = .ok (.getfield 25, 3) := by decide +kernel
theorem dX6_count_61 : decode cX6_count 61 = .ok (.getfield 138, 3) := by decide +kernel
theorem dX6_count_64 : decode cX6_count 64 = .ok (.ireturn, 1) := by decide +kernel
theorem dX6_count_65 : decode cX6_count 65 = .ok (.aload_n 0, 1) := by decide +kernel
theorem dX6_count_66 : decode cX6_count 66 = .ok (.getfield 25, 3) := by decide +kernel
theorem dX6_count_69 : decode cX6_count 69 = .ok (.getfield 288, 3) := by decide +kernel
theorem dX6_count_72 : decode cX6_count 72 = .ok (.ireturn, 1) := by decide +kernel
theorem dX6_count_73 : decode cX6_count 73 = .ok (.aload_n 0, 1) := by decide +kernel
theorem dX6_count_74 : decode cX6_count 74 = .ok (.getfield 25, 3) := by decide +kernel
theorem dX6_count_77 : decode cX6_count 77 = .ok (.getfield 149, 3) := by decide +kernel
theorem dX6_count_80 : decode cX6_count 80 = .ok (.ireturn, 1) := by decide +kernel
theorem dX6_count_81 : decode cX6_count 81 = .ok (.aload_n 0, 1) := by decide +kernel
theorem dX6_count_82 : decode cX6_count 82 = .ok (.getfield 25, 3) := by decide +kernel
theorem dX6_count_85 : decode cX6_count 85 = .ok (.getfield 158, 3) := by decide +kernel
theorem dX6_count_88 : decode cX6_count 88 = .ok (.ireturn, 1) := by decide +kernel
theorem dX6_count_89 : decode cX6_count 89 = .ok (.aload_n 0, 1) := by decide +kernel
theorem dX6_count_90 : decode cX6_count 90 = .ok (.getfield 25, 3) := by decide +kernel
theorem dX6_count_93 : decode cX6_count 93 = .ok (.getfield 271, 3) := by decide +kernel
theorem dX6_count_96 : decode cX6_count 96 = .ok (.ireturn, 1) := by decide +kernel
theorem dX6_count_97 : decode cX6_count 97 = .ok (.aload_n 0, 1) := by decide +kernel
theorem dX6_count_98 : decode cX6_count 98 = .ok (.getfield 25, 3) := by decide +kernel
theorem dX6_count_101 : decode cX6_count 101 = .ok (.invokevirtual 291, 3) := by decide +kernel
theorem dX6_count_104 : decode cX6_count 104 = .ok (.ireturn, 1) := by decide +kernel
theorem dX6_count_105 : decode cX6_count 105 = .ok (.aload_n 0, 1) := by decide +kernel
theorem dX6_count_106 : decode cX6_count 106 = .ok (.getfield 46, 3) := by decide +kernel
theorem dX6_count_109 : decode cX6_count 109 = .ok (.getfield 141, 3) := by decide +kernel
theorem dX6_count_112 : decode cX6_count 112 = .ok (.ireturn, 1) := by decide +kernel
theorem dX6_count_113 : decode cX6_count 113 = .ok (.aload_n 0, 1) := by decide +kernel
theorem dX6_count_114 : decode cX6_count 114 = .ok (.getfield 18, 3) := by decide +kernel
theorem dX6_count_117 : decode cX6_count 117 = .ok (.getfield 119, 3) := by decide +kernel
theorem dX6_count_120 : decode cX6_count 120 = .ok (.ireturn, 1) := by decide +kernel
theorem dX6_count_121 : decode cX6_count 121 = .ok (.ldc 73, 2) := by decide +kernel
theorem dX6_count_123 : decode cX6_count 123 = .ok (.ireturn, 1) := by decide +kernel
theorem dX6_status_0 : decode cX6_status 0 = .ok (.aload_n 0, 1) := by decide +kernel
theorem dX6_status_1 : decode cX6_status 1 = .ok (.getfield 57, 3) := by decide +kernel
theorem dX6_status_4 : decode cX6_status 4 = .ok (.ireturn, 1) := by decide +kernel
theorem dX6_within_0 : decode cX6_within 0 = .ok (.iload_n 0, 1) := by decide +kernel
theorem dX6_within_1 : decode cX6_within 1 = .ok (.iload_n 1, 1) := by decide +kernel
theorem dX6_within_2 : decode cX6_within 2 = .ok (.if_icmp .lt 12, 3) := by decide +kernel
theorem dX6_within_5 : decode cX6_within 5 = .ok (.iload_n 0, 1) := by decide +kernel
theorem dX6_within_6 : decode cX6_within 6 = .ok (.iload_n 2, 1) := by decide +kernel
theorem dX6_within_7 : decode cX6_within 7 = .ok (.if_icmp .gt 7, 3) := by decide +kernel
theorem dX6_within_10 : decode cX6_within 10 = .ok (.iconst 1, 1) := by decide +kernel
theorem dX6_within_11 : decode cX6_within 11 = .ok (.goto 4, 3) := by decide +kernel
theorem dX6_within_14 : decode cX6_within 14 = .ok (.iconst 0, 1) := by decide +kernel
theorem dX6_within_15 : decode cX6_within 15 = .ok (.ireturn, 1) := by decide +kernel
theorem dX6_isRow_0 : decode cX6_isRow 0 = .ok (.iload_n 0, 1) := by decide +kernel
theorem dX6_isRow_1 : decode cX6_isRow 1 = .ok (.iconst 0, 1) := by decide +kernel
theorem dX6_isRow_2 : decode cX6_isRow 2 = .ok (.bipush 7, 2) := by decide +kernel
theorem dX6_isRow_4 : decode cX6_isRow 4 = .ok (.invokestatic 69, 3) := by decide +kernel
theorem dX6_isRow_7 : decode cX6_isRow 7 = .ok (.ireturn, 1) := by decide +kernel
theorem dX6_isCell_0 : decode cX6_isCell 0 = .ok (.iload_n 0, 1) := by decide +kernel
theorem dX6_isCell_1 : decode cX6_isCell 1 = .ok (.iconst 0, 1) := by decide +kernel
theorem dX6_isCell_2 : decode cX6_isCell 2 = .ok (.bipush 31, 2) := by decide +kernel
theorem dX6_isCell_4 : decode cX6_isCell 4 = .ok (.invokestatic 69, 3) := by decide +kernel
theorem dX6_isCell_7 : decode cX6_isCell 7 = .ok (.ireturn, 1) := by decide +kernel
theorem dX6_isCloud_0 : decode cX6_isCloud 0 = .ok (.iload_n 1, 1) := by decide +kernel
theorem dX6_isCloud_1 : decode cX6_isCloud 1 = .ok (.iconst 0, 1) := by decide +kernel
theorem dX6_isCloud_2 : decode cX6_isCloud 2 = .ok (.aload_n 0, 1) := by decide +kernel
theorem dX6_isCloud_3 : decode cX6_isCloud 3 = .ok (.getfield 25, 3) := by decide +kernel
theorem dX6_isCloud_6 : decode cX6_isCloud 6 = .ok (.getfield 138, 3) := by decide +kernel
theorem dX6_isCloud_9 : decode cX6_isCloud 9 = .ok (.iconst 1, 1) := by decide +kernel
theorem dX6_isCloud_10 : decode cX6_isCloud 10 = .ok (.isub, 1) := by decide +kernel
theorem dX6_isCloud_11 : decode cX6_isCloud 11 = .ok (.invokestatic 69, 3) := by decide +kernel
theorem dX6_isCloud_14 : decode cX6_isCloud 14 = .ok (.ireturn, 1) := by decide +kernel
theorem dX6_bit_0 : decode cX6_bit 0 = .ok (.iload_n 0, 1) := by decide +kernel
theorem dX6_bit_1 : decode cX6_bit 1 = .ok (.ifCond .eq 7, 3) := by decide +kernel
theorem dX6_bit_4 : decode cX6_bit 4 = .ok (.iconst 1, 1) := by decide +kernel
theorem dX6_bit_5 : decode cX6_bit 5 = .ok (.goto 4, 3) := by decide +kernel
theorem dX6_bit_8 : decode cX6_bit 8 = .ok (.iconst 0, 1) := by decide +kernel
theorem dX6_bit_9 : decode cX6_bit 9 = .ok (.ireturn, 1) := by decide +kernel
theorem dX6_found_0 : decode cX6_found 0 = .ok (.aload_n 0, 1) := by decide +kernel
theorem dX6_found_1 : decode cX6_found 1 = .ok (.iload_n 1, 1) := by decide +kernel
theorem dX6_found_2 : decode cX6_found 2 = .ok (.putfield 57, 3) := by decide +kernel
theorem dX6_found_5 : decode cX6_found 5 = .ok (.ldc_w 294, 3) := by decide +kernel
theorem dX6_found_8 : decode cX6_found 8 = .ok (.iload_n 1, 1) := by decide +kernel
theorem dX6_found_9 : decode cX6_found 9 = .ok (.isub, 1) := by decide +kernel
theorem dX6_found_10 : decode cX6_found 10 = .ok (.ireturn, 1) := by decide +kernel
theorem dX6_clean_0 : decode cX6_clean 0 = .ok (.aload_n 0, 1) := by decide +kernel
theorem dX6_clean_1 : decode cX6_clean 1 = .ok (.iconst 0, 1) := by decide +kernel
theorem dX6_clean_2 : decode cX6_clean 2 = .ok (.putfield 57, 3) := by decide +kernel
theorem dX6_clean_5 : decode cX6_clean 5 = .ok (.iload_n 1, 1) := by decide +kernel
theorem dX6_clean_6 : decode cX6_clean 6 = .ok (.ireturn, 1) := by decide +kernel
theorem dX6_rowsThere_0 : decode cX6_rowsThere 0 = .ok (.iconst 0, 1) := by decide +kernel
theorem dX6_rowsThere_1 : decode cX6_rowsThere 1 = .ok (.istore_n 1, 1) := by decide +kernel
theorem dX6_rowsThere_2 : decode cX6_rowsThere 2 = .ok (.iconst 0, 1) := by decide +kernel
theorem dX6_rowsThere_3 : decode cX6_rowsThere 3 = .ok (.istore_n 2, 1) := by decide +kernel
theorem dX6_rowsThere_4 : decode cX6_rowsThere 4 = .ok (.iload_n 2, 1) := by decide +kernel
theorem dX6_rowsThere_5 : decode cX6_rowsThere 5 = .ok (.bipush 8, 2) := by decide +kernel
theorem dX6_rowsThere_7 : decode cX6_rowsThere 7 = .ok (.if_icmp .ge 24, 3) := by decide +kernel
theorem dX6_rowsThere_10 : decode cX6_rowsThere 10 = .ok (.iload_n 1, 1) := by decide +kernel
theorem dX6_rowsThere_11 : decode cX6_rowsThere 11 = .ok (.aload_n 0, 1) := by decide +kernel
theorem dX6_rowsThere_12 : decode cX6_rowsThere 12 = .ok (.getfield 11, 3) := by decide +kernel
theorem dX6_rowsThere_15 : decode cX6_rowsThere 15 = .ok (.iload_n 2, 1) := by decide +kernel
theorem dX6_rowsThere_16 : decode cX6_rowsThere 16 = .ok (.aaload, 1) := by decide +kernel
theorem dX6_rowsThere_17 : decode cX6_rowsThere 17 = .ok (.getfield 92, 3) := by decide +kernel
theorem dX6_rowsThere_20 : decode cX6_rowsThere 20 = .ok (.invokestatic 191, 3) := by decide +kernel
theorem dX6_rowsThere_23 : decode cX6_rowsThere 23 = .ok (.iadd, 1) := by decide +kernel
theorem dX6_rowsThere_24 : decode cX6_rowsThere 24 = .ok (.istore_n 1, 1) := by decide +kernel
theorem dX6_rowsThere_25 : decode cX6_rowsThere 25 = .ok (.iinc 2 1, 3) := by decide +kernel
theorem dX6_rowsThere_28 : decode cX6_rowsThere 28 = .ok (.goto (-24), 3) := by decide +kernel
theorem dX6_rowsThere_31 : decode cX6_rowsThere 31 = .ok (.iload_n 1, 1) := by decide +kernel
theorem dX6_rowsThere_32 : decode cX6_rowsThere 32 = .ok (.ireturn, 1) := by decide +kernel
theorem dX6_tryHours_0 : decode cX6_tryHours 0 = .ok (.aload_n 0, 1) := by decide +kernel
theorem dX6_tryHours_1 : decode cX6_tryHours 1 = .ok (.getfield 29, 3) := by decide +kernel
theorem dX6_tryHours_4 : decode cX6_tryHours 4 = .ok (.aload_n 0, 1) := by decide +kernel
theorem dX6_tryHours_5 : decode cX6_tryHours 5 = .ok (.getfield 25, 3) := by decide +kernel
theorem dX6_tryHours_8 : decode cX6_tryHours 8 = .ok (.invokevirtual 132, 3) := by decide +kernel
theorem dX6_tryHours_11 : decode cX6_tryHours 11 = .ok (.iconst 0, 1) := by decide +kernel
theorem dX6_tryHours_12 : decode cX6_tryHours 12 = .ok (.istore_n 2, 1) := by decide +kernel
theorem dX6_tryHours_13 : decode cX6_tryHours 13 = .ok (.iload_n 2, 1) := by decide +kernel
theorem dX6_tryHours_14 : decode cX6_tryHours 14 = .ok (.iload_n 1, 1) := by decide +kernel
theorem dX6_tryHours_15 : decode cX6_tryHours 15 = .ok (.if_icmp .ge 16, 3) := by decide +kernel
theorem dX6_tryHours_18 : decode cX6_tryHours 18 = .ok (.aload_n 0, 1) := by decide +kernel
theorem dX6_tryHours_19 : decode cX6_tryHours 19 = .ok (.getfield 29, 3) := by decide +kernel
theorem dX6_tryHours_22 : decode cX6_tryHours 22 = .ok (.invokevirtual 155, 3) := by decide +kernel
theorem dX6_tryHours_25 : decode cX6_tryHours 25 = .ok (.iinc 2 1, 3) := by decide +kernel
theorem dX6_tryHours_28 : decode cX6_tryHours 28 = .ok (.goto (-15), 3) := by decide +kernel
theorem dX6_tryHours_31 : decode cX6_tryHours 31 = .ok (.return_, 1) := by decide +kernel
theorem dX6_spread_0 : decode cX6_spread 0 = .ok (.iconst 0, 1) := by decide +kernel
theorem dX6_spread_1 : decode cX6_spread 1 = .ok (.istore 4, 2) := by decide +kernel
theorem dX6_spread_3 : decode cX6_spread 3 = .ok (.iconst 0, 1) := by decide +kernel
theorem dX6_spread_4 : decode cX6_spread 4 = .ok (.istore 5, 2) := by decide +kernel
theorem dX6_spread_6 : decode cX6_spread 6 = .ok (.iload 5, 2) := by decide +kernel
theorem dX6_spread_8 : decode cX6_spread 8 = .ok (.bipush 32, 2) := by decide +kernel
theorem dX6_spread_10 : decode cX6_spread 10 = .ok (.if_icmp .ge 69, 3) := by decide +kernel
theorem dX6_spread_13 : decode cX6_spread 13 = .ok (.iload_n 2, 1) := by decide +kernel
theorem dX6_spread_14 : decode cX6_spread 14 = .ok (.iload 5, 2) := by decide +kernel
theorem dX6_spread_16 : decode cX6_spread 16 = .ok (.iushr, 1) := by decide +kernel
theorem dX6_spread_17 : decode cX6_spread 17 = .ok (.iconst 1, 1) := by decide +kernel
theorem dX6_spread_18 : decode cX6_spread 18 = .ok (.iand, 1) := by decide +kernel
theorem dX6_spread_19 : decode cX6_spread 19 = .ok (.ifCond .eq 54, 3) := by decide +kernel
theorem dX6_spread_22 : decode cX6_spread 22 = .ok (.iload 4, 2) := by decide +kernel
theorem dX6_spread_24 : decode cX6_spread 24 = .ok (.iconst 1, 1) := by decide +kernel
theorem dX6_spread_25 : decode cX6_spread 25 = .ok (.aload_n 1, 1) := by decide +kernel
theorem dX6_spread_26 : decode cX6_spread 26 = .ok (.iload 5, 2) := by decide +kernel
theorem dX6_spread_28 : decode cX6_spread 28 = .ok (.aload_n 0, 1) := by decide +kernel
theorem dX6_spread_29 : decode cX6_spread 29 = .ok (.getfield 25, 3) := by decide +kernel
theorem dX6_spread_32 : decode cX6_spread 32 = .ok (.iconst 0, 1) := by decide +kernel
theorem dX6_spread_33 : decode cX6_spread 33 = .ok (.iload_n 3, 1) := by decide +kernel
theorem dX6_spread_34 : decode cX6_spread 34 = .ok (.invokevirtual 207, 3) := by decide +kernel
theorem dX6_spread_37 : decode cX6_spread 37 = .ok (.invokevirtual 295, 3) := by decide +kernel
theorem dX6_spread_40 : decode cX6_spread 40 = .ok (.ishl, 1) := by decide +kernel
theorem dX6_spread_41 : decode cX6_spread 41 = .ok (.ior, 1) := by decide +kernel
theorem dX6_spread_42 : decode cX6_spread 42 = .ok (.istore 4, 2) := by decide +kernel
theorem dX6_spread_44 : decode cX6_spread 44 = .ok (.aload_n 1, 1) := by decide +kernel
theorem dX6_spread_45 : decode cX6_spread 45 = .ok (.invokevirtual 171, 3) := by decide +kernel
theorem dX6_spread_48 : decode cX6_spread 48 = .ok (.ifCond .eq 25, 3) := by decide +kernel
theorem dX6_spread_51 : decode cX6_spread 51 = .ok (.iload 4, 2) := by decide +kernel
theorem dX6_spread_53 : decode cX6_spread 53 = .ok (.iconst 1, 1) := by decide +kernel
theorem dX6_spread_54 : decode cX6_spread 54 = .ok (.aload_n 1, 1) := by decide +kernel
theorem dX6_spread_55 : decode cX6_spread 55 = .ok (.iload 5, 2) := by decide +kernel
theorem dX6_spread_57 : decode cX6_spread 57 = .ok (.aload_n 0, 1) := by decide +kernel
theorem dX6_spread_58 : decode cX6_spread 58 = .ok (.getfield 25, 3) := by decide +kernel
theorem dX6_spread_61 : decode cX6_spread 61 = .ok (.iconst 1, 1) := by decide +kernel
theorem dX6_spread_62 : decode cX6_spread 62 = .ok (.iload_n 3, 1) := by decide +kernel
theorem dX6_spread_63 : decode cX6_spread 63 = .ok (.invokevirtual 207, 3) := by decide +kernel
theorem dX6_spread_66 : decode cX6_spread 66 = .ok (.invokevirtual 295, 3) := by decide +kernel
theorem dX6_spread_69 : decode cX6_spread 69 = .ok (.ishl, 1) := by decide +kernel
theorem dX6_spread_70 : decode cX6_spread 70 = .ok (.ior, 1) := by decide +kernel
theorem dX6_spread_71 : decode cX6_spread 71 = .ok (.istore 4, 2) := by decide +kernel
theorem dX6_spread_73 : decode cX6_spread 73 = .ok (.iinc 5 1, 3) := by decide +kernel
theorem dX6_spread_76 : decode cX6_spread 76 = .ok (.goto (-70), 3) := by decide +kernel
theorem dX6_spread_79 : decode cX6_spread 79 = .ok (.iload 4, 2) := by decide +kernel
theorem dX6_spread_81 : decode cX6_spread 81 = .ok (.ireturn, 1) := by decide +kernel
theorem dX6_earnedAt_0 : decode cX6_earnedAt 0 = .ok (.iconst 0, 1) := by decide +kernel
theorem dX6_earnedAt_1 : decode cX6_earnedAt 1 = .ok (.istore 4, 2) := by decide +kernel
theorem dX6_earnedAt_3 : decode cX6_earnedAt 3 = .ok (.aload_n 0, 1) := by decide +kernel
theorem dX6_earnedAt_4 : decode cX6_earnedAt 4 = .ok (.getfield 35, 3) := by decide +kernel
theorem dX6_earnedAt_7 : decode cX6_earnedAt 7 = .ok (.aload_n 0, 1) := by decide +kernel
theorem dX6_earnedAt_8 : decode cX6_earnedAt 8 = .ok (.getfield 25, 3) := by decide +kernel
theorem dX6_earnedAt_11 : decode cX6_earnedAt 11 = .ok (.getfield 164, 3) := by decide +kernel
theorem dX6_earnedAt_14 : decode cX6_earnedAt 14 = .ok (.iload_n 1, 1) := by decide +kernel
theorem dX6_earnedAt_15 : decode cX6_earnedAt 15 = .ok (.aaload, 1) := by decide +kernel
theorem dX6_earnedAt_16 : decode cX6_earnedAt 16 = .ok (.invokevirtual 298, 3) := by decide +kernel
theorem dX6_earnedAt_19 : decode cX6_earnedAt 19 = .ok (.iconst 0, 1) := by decide +kernel
theorem dX6_earnedAt_20 : decode cX6_earnedAt 20 = .ok (.istore 5, 2) := by decide +kernel
theorem dX6_earnedAt_22 : decode cX6_earnedAt 22 = .ok (.iload 5, 2) := by decide +kernel
theorem dX6_earnedAt_24 : decode cX6_earnedAt 24 = .ok (.iload_n 2, 1) := by decide +kernel
theorem dX6_earnedAt_25 : decode cX6_earnedAt 25 = .ok (.if_icmp .ge 48, 3) := by decide +kernel
theorem dX6_earnedAt_28 : decode cX6_earnedAt 28 = .ok (.aload_n 0, 1) := by decide +kernel
theorem dX6_earnedAt_29 : decode cX6_earnedAt 29 = .ok (.getfield 35, 3) := by decide +kernel
theorem dX6_earnedAt_32 : decode cX6_earnedAt 32 = .ok (.iload_n 3, 1) := by decide +kernel
theorem dX6_earnedAt_33 : decode cX6_earnedAt 33 = .ok (.iload 5, 2) := by decide +kernel
theorem dX6_earnedAt_35 : decode cX6_earnedAt 35 = .ok (.iushr, 1) := by decide +kernel
theorem dX6_earnedAt_36 : decode cX6_earnedAt 36 = .ok (.iconst 1, 1) := by decide +kernel
theorem dX6_earnedAt_37 : decode cX6_earnedAt 37 = .ok (.iand, 1) := by decide +kernel
theorem dX6_earnedAt_38 : decode cX6_earnedAt 38 = .ok (.invokevirtual 178, 3) := by decide +kernel
theorem dX6_earnedAt_41 : decode cX6_earnedAt 41 = .ok (.iload 4, 2) := by decide +kernel
theorem dX6_earnedAt_43 : decode cX6_earnedAt 43 = .ok (.aload_n 0, 1) := by decide +kernel
theorem dX6_earnedAt_44 : decode cX6_earnedAt 44 = .ok (.getfield 25, 3) := by decide +kernel
theorem dX6_earnedAt_47 : decode cX6_earnedAt 47 = .ok (.aload_n 0, 1) := by decide +kernel
theorem dX6_earnedAt_48 : decode cX6_earnedAt 48 = .ok (.getfield 35, 3) := by decide +kernel
theorem dX6_earnedAt_51 : decode cX6_earnedAt 51 = .ok (.aload_n 0, 1) := by decide +kernel
theorem dX6_earnedAt_52 : decode cX6_earnedAt 52 = .ok (.getfield 25, 3) := by decide +kernel
theorem dX6_earnedAt_55 : decode cX6_earnedAt 55 = .ok (.getfield 149, 3) := by decide +kernel
theorem dX6_earnedAt_58 : decode cX6_earnedAt 58 = .ok (.iload 5, 2) := by decide +kernel
theorem dX6_earnedAt_60 : decode cX6_earnedAt 60 = .ok (.iadd, 1) := by decide +kernel
theorem dX6_earnedAt_61 : decode cX6_earnedAt 61 = .ok (.invokevirtual 301, 3) := by decide +kernel
theorem dX6_earnedAt_64 : decode cX6_earnedAt 64 = .ok (.iadd, 1) := by decide +kernel
theorem dX6_earnedAt_65 : decode cX6_earnedAt 65 = .ok (.istore 4, 2) := by decide +kernel
theorem dX6_earnedAt_67 : decode cX6_earnedAt 67 = .ok (.iinc 5 1, 3) := by decide +kernel
theorem dX6_earnedAt_70 : decode cX6_earnedAt 70 = .ok (.goto (-48), 3) := by decide +kernel
theorem dX6_earnedAt_73 : decode cX6_earnedAt 73 = .ok (.iload 4, 2) := by decide +kernel
theorem dX6_earnedAt_75 : decode cX6_earnedAt 75 = .ok (.ireturn, 1) := by decide +kernel
theorem dX6_leavesDew_0 : decode cX6_leavesDew 0 = .ok (.aload_n 0, 1) := by decide +kernel
theorem dX6_leavesDew_1 : decode cX6_leavesDew 1 = .ok (.getfield 35, 3) := by decide +kernel
theorem dX6_leavesDew_4 : decode cX6_leavesDew 4 = .ok (.aload_n 0, 1) := by decide +kernel
theorem dX6_leavesDew_5 : decode cX6_leavesDew 5 = .ok (.getfield 25, 3) := by decide +kernel
theorem dX6_leavesDew_8 : decode cX6_leavesDew 8 = .ok (.getfield 164, 3) := by decide +kernel
theorem dX6_leavesDew_11 : decode cX6_leavesDew 11 = .ok (.iload_n 1, 1) := by decide +kernel
theorem dX6_leavesDew_12 : decode cX6_leavesDew 12 = .ok (.aaload, 1) := by decide +kernel
theorem dX6_leavesDew_13 : decode cX6_leavesDew 13 = .ok (.invokevirtual 298, 3) := by decide +kernel
theorem dX6_leavesDew_16 : decode cX6_leavesDew 16 = .ok (.iconst 0, 1) := by decide +kernel
theorem dX6_leavesDew_17 : decode cX6_leavesDew 17 = .ok (.istore 5, 2) := by decide +kernel
theorem dX6_leavesDew_19 : decode cX6_leavesDew 19 = .ok (.iload 5, 2) := by decide +kernel
theorem dX6_leavesDew_21 : decode cX6_leavesDew 21 = .ok (.iload 4, 2) := by decide +kernel
theorem dX6_leavesDew_23 : decode cX6_leavesDew 23 = .ok (.if_icmp .ge 66, 3) := by decide +kernel
theorem dX6_leavesDew_26 : decode cX6_leavesDew 26 = .ok (.aload_n 0, 1) := by decide +kernel
theorem dX6_leavesDew_27 : decode cX6_leavesDew 27 = .ok (.getfield 25, 3) := by decide +kernel
theorem dX6_leavesDew_30 : decode cX6_leavesDew 30 = .ok (.aload_n 0, 1) := by decide +kernel
theorem dX6_leavesDew_31 : decode cX6_leavesDew 31 = .ok (.getfield 35, 3) := by decide +kernel
theorem dX6_leavesDew_34 : decode cX6_leavesDew 34 = .ok (.aload_n 0, 1) := by decide +kernel
theorem dX6_leavesDew_35 : decode cX6_leavesDew 35 = .ok (.getfield 25, 3) := by decide +kernel
theorem dX6_leavesDew_38 : decode cX6_leavesDew 38 = .ok (.getfield 149, 3) := by decide +kernel
theorem dX6_leavesDew_41 : decode cX6_leavesDew 41 = .ok (.iload 5, 2) := by decide +kernel
theorem dX6_leavesDew_43 : decode cX6_leavesDew 43 = .ok (.iadd, 1) := by decide +kernel
theorem dX6_leavesDew_44 : decode cX6_leavesDew 44 = .ok (.invokevirtual 301, 3) := by decide +kernel
theorem dX6_leavesDew_47 : decode cX6_leavesDew 47 = .ok (.pop, 1) := by decide +kernel
theorem dX6_leavesDew_48 : decode cX6_leavesDew 48 = .ok (.aload_n 2, 1) := by decide +kernel
theorem dX6_leavesDew_49 : decode cX6_leavesDew 49 = .ok (.getfield 103, 3) := by decide +kernel
theorem dX6_leavesDew_52 : decode cX6_leavesDew 52 = .ok (.iload_n 3, 1) := by decide +kernel
theorem dX6_leavesDew_53 : decode cX6_leavesDew 53 = .ok (.iload 5, 2) := by decide +kernel
theorem dX6_leavesDew_55 : decode cX6_leavesDew 55 = .ok (.iadd, 1) := by decide +kernel
theorem dX6_leavesDew_56 : decode cX6_leavesDew 56 = .ok (.iaload, 1) := by decide +kernel
theorem dX6_leavesDew_57 : decode cX6_leavesDew 57 = .ok (.aload_n 0, 1) := by decide +kernel
theorem dX6_leavesDew_58 : decode cX6_leavesDew 58 = .ok (.getfield 35, 3) := by decide +kernel
theorem dX6_leavesDew_61 : decode cX6_leavesDew 61 = .ok (.getfield 305, 3) := by decide +kernel
theorem dX6_leavesDew_64 : decode cX6_leavesDew 64 = .ok (.ifCond .le 13, 3) := by decide +kernel
theorem dX6_leavesDew_67 : decode cX6_leavesDew 67 = .ok (.aload_n 0, 1) := by decide +kernel
theorem dX6_leavesDew_68 : decode cX6_leavesDew 68 = .ok (.getfield 35, 3) := by decide +kernel
theorem dX6_leavesDew_71 : decode cX6_leavesDew 71 = .ok (.getfield 223, 3) := by decide +kernel
theorem dX6_leavesDew_74 : decode cX6_leavesDew 74 = .ok (.goto 4, 3) := by decide +kernel
theorem dX6_leavesDew_77 : decode cX6_leavesDew 77 = .ok (.iconst (-1), 1) := by decide +kernel
theorem dX6_leavesDew_78 : decode cX6_leavesDew 78 = .ok (.if_icmp .eq 5, 3) := by decide +kernel
theorem dX6_leavesDew_81 : decode cX6_leavesDew 81 = .ok (.iconst 0, 1) := by decide +kernel
theorem dX6_leavesDew_82 : decode cX6_leavesDew 82 = .ok (.ireturn, 1) := by decide +kernel
theorem dX6_leavesDew_83 : decode cX6_leavesDew 83 = .ok (.iinc 5 1, 3) := by decide +kernel
theorem dX6_leavesDew_86 : decode cX6_leavesDew 86 = .ok (.goto (-67), 3) := by decide +kernel
theorem dX6_leavesDew_89 : decode cX6_leavesDew 89 = .ok (.iconst 1, 1) := by decide +kernel
theorem dX6_leavesDew_90 : decode cX6_leavesDew 90 = .ok (.ireturn, 1) := by decide +kernel
theorem dX6_tookWay_0 : decode cX6_tookWay 0 = .ok (.iload_n 2, 1) := by decide +kernel
theorem dX6_tookWay_1 : decode cX6_tookWay 1 = .ok (.istore 7, 2) := by decide +kernel
theorem dX6_tookWay_3 : decode cX6_tookWay 3 = .ok (.iconst 0, 1) := by decide +kernel
theorem dX6_tookWay_4 : decode cX6_tookWay 4 = .ok (.istore 8, 2) := by decide +kernel
theorem dX6_tookWay_6 : decode cX6_tookWay 6 = .ok (.iload 8, 2) := by decide +kernel
theorem dX6_tookWay_8 : decode cX6_tookWay 8 = .ok (.iload 6, 2) := by decide +kernel
theorem dX6_tookWay_10 : decode cX6_tookWay 10 = .ok (.if_icmp .ge 61, 3) := by decide +kernel
theorem dX6_tookWay_13 : decode cX6_tookWay 13 = .ok (.aload_n 0, 1) := by decide +kernel
theorem dX6_tookWay_14 : decode cX6_tookWay 14 = .ok (.getfield 25, 3) := by decide +kernel
theorem dX6_tookWay_17 : decode cX6_tookWay 17 = .ok (.getfield 164, 3) := by decide +kernel
theorem dX6_tookWay_20 : decode cX6_tookWay 20 = .ok (.iload_n 1, 1) := by decide +kernel
theorem dX6_tookWay_21 : decode cX6_tookWay 21 = .ok (.aaload, 1) := by decide +kernel
theorem dX6_tookWay_22 : decode cX6_tookWay 22 = .ok (.iload 7, 2) := by decide +kernel
theorem dX6_tookWay_24 : decode cX6_tookWay 24 = .ok (.aload_n 0, 1) := by decide +kernel
theorem dX6_tookWay_25 : decode cX6_tookWay 25 = .ok (.getfield 25, 3) := by decide +kernel
theorem dX6_tookWay_28 : decode cX6_tookWay 28 = .ok (.iload_n 3, 1) := by decide +kernel
theorem dX6_tookWay_29 : decode cX6_tookWay 29 = .ok (.aload_n 0, 1) := by decide +kernel
theorem dX6_tookWay_30 : decode cX6_tookWay 30 = .ok (.getfield 25, 3) := by decide +kernel
theorem dX6_tookWay_33 : decode cX6_tookWay 33 = .ok (.getfield 149, 3) := by decide +kernel
theorem dX6_tookWay_36 : decode cX6_tookWay 36 = .ok (.iload 8, 2) := by decide +kernel
theorem dX6_tookWay_38 : decode cX6_tookWay 38 = .ok (.iadd, 1) := by decide +kernel
theorem dX6_tookWay_39 : decode cX6_tookWay 39 = .ok (.invokevirtual 207, 3) := by decide +kernel
theorem dX6_tookWay_42 : decode cX6_tookWay 42 = .ok (.invokevirtual 295, 3) := by decide +kernel
theorem dX6_tookWay_45 : decode cX6_tookWay 45 = .ok (.istore 7, 2) := by decide +kernel
theorem dX6_tookWay_47 : decode cX6_tookWay 47 = .ok (.aload 4, 2) := by decide +kernel
theorem dX6_tookWay_49 : decode cX6_tookWay 49 = .ok (.getfield 103, 3) := by decide +kernel
theorem dX6_tookWay_52 : decode cX6_tookWay 52 = .ok (.iload 5, 2) := by decide +kernel
theorem dX6_tookWay_54 : decode cX6_tookWay 54 = .ok (.iload 8, 2) := by decide +kernel
theorem dX6_tookWay_56 : decode cX6_tookWay 56 = .ok (.iadd, 1) := by decide +kernel
theorem dX6_tookWay_57 : decode cX6_tookWay 57 = .ok (.iaload, 1) := by decide +kernel
theorem dX6_tookWay_58 : decode cX6_tookWay 58 = .ok (.iload 7, 2) := by decide +kernel
theorem dX6_tookWay_60 : decode cX6_tookWay 60 = .ok (.if_icmp .eq 5, 3) := by decide +kernel
theorem dX6_tookWay_63 : decode cX6_tookWay 63 = .ok (.iconst 0, 1) := by decide +kernel
theorem dX6_tookWay_64 : decode cX6_tookWay 64 = .ok (.ireturn, 1) := by decide +kernel
theorem dX6_tookWay_65 : decode cX6_tookWay 65 = .ok (.iinc 8 1, 3) := by decide +kernel
theorem dX6_tookWay_68 : decode cX6_tookWay 68 = .ok (.goto (-62), 3) := by decide +kernel
theorem dX6_tookWay_71 : decode cX6_tookWay 71 = .ok (.iconst 1, 1) := by decide +kernel
theorem dX6_tookWay_72 : decode cX6_tookWay 72 = .ok (.ireturn, 1) := by decide +kernel
theorem dX6_flewSo_0 : decode cX6_flewSo 0 = .ok (.iconst 0, 1) := by decide +kernel
theorem dX6_flewSo_1 : decode cX6_flewSo 1 = .ok (.istore 6, 2) := by decide +kernel
theorem dX6_flewSo_3 : decode cX6_flewSo 3 = .ok (.iload 6, 2) := by decide +kernel
theorem dX6_flewSo_5 : decode cX6_flewSo 5 = .ok (.iload 5, 2) := by decide +kernel
theorem dX6_flewSo_7 : decode cX6_flewSo 7 = .ok (.if_icmp .ge 36, 3) := by decide +kernel
theorem dX6_flewSo_10 : decode cX6_flewSo 10 = .ok (.aload_n 3, 1) := by decide +kernel
theorem dX6_flewSo_11 : decode cX6_flewSo 11 = .ok (.getfield 103, 3) := by decide +kernel
theorem dX6_flewSo_14 : decode cX6_flewSo 14 = .ok (.iload 4, 2) := by decide +kernel
theorem dX6_flewSo_16 : decode cX6_flewSo 16 = .ok (.iload 6, 2) := by decide +kernel
theorem dX6_flewSo_18 : decode cX6_flewSo 18 = .ok (.iadd, 1) := by decide +kernel
theorem dX6_flewSo_19 : decode cX6_flewSo 19 = .ok (.iaload, 1) := by decide +kernel
theorem dX6_flewSo_20 : decode cX6_flewSo 20 = .ok (.aload_n 0, 1) := by decide +kernel
theorem dX6_flewSo_21 : decode cX6_flewSo 21 = .ok (.getfield 25, 3) := by decide +kernel
theorem dX6_flewSo_24 : decode cX6_flewSo 24 = .ok (.iload_n 1, 1) := by decide +kernel
theorem dX6_flewSo_25 : decode cX6_flewSo 25 = .ok (.iload_n 2, 1) := by decide +kernel
theorem dX6_flewSo_26 : decode cX6_flewSo 26 = .ok (.iload 6, 2) := by decide +kernel
theorem dX6_flewSo_28 : decode cX6_flewSo 28 = .ok (.iadd, 1) := by decide +kernel
theorem dX6_flewSo_29 : decode cX6_flewSo 29 = .ok (.invokevirtual 207, 3) := by decide +kernel
theorem dX6_flewSo_32 : decode cX6_flewSo 32 = .ok (.if_icmp .eq 5, 3) := by decide +kernel
theorem dX6_flewSo_35 : decode cX6_flewSo 35 = .ok (.iconst 0, 1) := by decide +kernel
theorem dX6_flewSo_36 : decode cX6_flewSo 36 = .ok (.ireturn, 1) := by decide +kernel
theorem dX6_flewSo_37 : decode cX6_flewSo 37 = .ok (.iinc 6 1, 3) := by decide +kernel
theorem dX6_flewSo_40 : decode cX6_flewSo 40 = .ok (.goto (-37), 3) := by decide +kernel
theorem dX6_flewSo_43 : decode cX6_flewSo 43 = .ok (.iconst 1, 1) := by decide +kernel
theorem dX6_flewSo_44 : decode cX6_flewSo 44 = .ok (.ireturn, 1) := by decide +kernel
theorem dX6_cellBehind_0 : decode cX6_cellBehind 0 = .ok (.aload_n 1, 1) := by decide +kernel
theorem dX6_cellBehind_1 : decode cX6_cellBehind 1 = .ok (.getfield 223, 3) := by decide +kernel
theorem dX6_cellBehind_4 : decode cX6_cellBehind 4 = .ok (.istore 4, 2) := by decide +kernel
theorem dX6_cellBehind_6 : decode cX6_cellBehind 6 = .ok (.iconst 0, 1) := by decide +kernel
theorem dX6_cellBehind_7 : decode cX6_cellBehind 7 = .ok (.istore 5, 2) := by decide +kernel
theorem dX6_cellBehind_9 : decode cX6_cellBehind 9 = .ok (.iload 5, 2) := by decide +kernel
theorem dX6_cellBehind_11 : decode cX6_cellBehind 11 = .ok (.iload_n 3, 1) := by decide +kernel
theorem dX6_cellBehind_12 : decode cX6_cellBehind 12 = .ok (.if_icmp .ge 40, 3) := by decide +kernel
theorem dX6_cellBehind_15 : decode cX6_cellBehind 15 = .ok (.aload_n 1, 1) := by decide +kernel
theorem dX6_cellBehind_16 : decode cX6_cellBehind 16 = .ok (.iload 4, 2) := by decide +kernel
theorem dX6_cellBehind_18 : decode cX6_cellBehind 18 = .ok (.aload_n 0, 1) := by decide +kernel
theorem dX6_cellBehind_19 : decode cX6_cellBehind 19 = .ok (.getfield 25, 3) := by decide +kernel
theorem dX6_cellBehind_22 : decode cX6_cellBehind 22 = .ok (.aload_n 1, 1) := by decide +kernel
theorem dX6_cellBehind_23 : decode cX6_cellBehind 23 = .ok (.getfield 175, 3) := by decide +kernel
theorem dX6_cellBehind_26 : decode cX6_cellBehind 26 = .ok (.aload_n 0, 1) := by decide +kernel
theorem dX6_cellBehind_27 : decode cX6_cellBehind 27 = .ok (.getfield 25, 3) := by decide +kernel
theorem dX6_cellBehind_30 : decode cX6_cellBehind 30 = .ok (.getfield 149, 3) := by decide +kernel
theorem dX6_cellBehind_33 : decode cX6_cellBehind 33 = .ok (.iload_n 2, 1) := by decide +kernel
theorem dX6_cellBehind_34 : decode cX6_cellBehind 34 = .ok (.iadd, 1) := by decide +kernel
theorem dX6_cellBehind_35 : decode cX6_cellBehind 35 = .ok (.iload 5, 2) := by decide +kernel
theorem dX6_cellBehind_37 : decode cX6_cellBehind 37 = .ok (.iadd, 1) := by decide +kernel
theorem dX6_cellBehind_38 : decode cX6_cellBehind 38 = .ok (.invokevirtual 207, 3) := by decide +kernel
theorem dX6_cellBehind_41 : decode cX6_cellBehind 41 = .ok (.invokevirtual 295, 3) := by decide +kernel
theorem dX6_cellBehind_44 : decode cX6_cellBehind 44 = .ok (.istore 4, 2) := by decide +kernel
theorem dX6_cellBehind_46 : decode cX6_cellBehind 46 = .ok (.iinc 5 1, 3) := by decide +kernel
theorem dX6_cellBehind_49 : decode cX6_cellBehind 49 = .ok (.goto (-40), 3) := by decide +kernel
theorem dX6_cellBehind_52 : decode cX6_cellBehind 52 = .ok (.iload 4, 2) := by decide +kernel
theorem dX6_cellBehind_54 : decode cX6_cellBehind 54 = .ok (.ireturn, 1) := by decide +kernel
theorem dX6_lineRefusal_0 : decode cX6_lineRefusal 0 = .ok (.aload_n 1, 1) := by decide +kernel
theorem dX6_lineRefusal_1 : decode cX6_lineRefusal 1 = .ok (.iload_n 2, 1) := by decide +kernel
theorem dX6_lineRefusal_2 : decode cX6_lineRefusal 2 = .ok (.iconst 5, 1) := by decide +kernel
theorem dX6_lineRefusal_3 : decode cX6_lineRefusal 3 = .ok (.invokevirtual 85, 3) := by decide +kernel
theorem dX6_lineRefusal_6 : decode cX6_lineRefusal 6 = .ok (.istore_n 3, 1) := by decide +kernel
theorem dX6_lineRefusal_7 : decode cX6_lineRefusal 7 = .ok (.iload_n 3, 1) := by decide +kernel
theorem dX6_lineRefusal_8 : decode cX6_lineRefusal 8 = .ok (.ifCond .eq 9, 3) := by decide +kernel
theorem dX6_lineRefusal_11 : decode cX6_lineRefusal 11 = .ok (.aload_n 0, 1) := by decide +kernel
theorem dX6_lineRefusal_12 : decode cX6_lineRefusal 12 = .ok (.iload_n 3, 1) := by decide +kernel
theorem dX6_lineRefusal_13 : decode cX6_lineRefusal 13 = .ok (.invokevirtual 74, 3) := by decide +kernel
theorem dX6_lineRefusal_16 : decode cX6_lineRefusal 16 = .ok (.ireturn, 1) := by decide +kernel
theorem dX6_lineRefusal_17 : decode cX6_lineRefusal 17 = .ok (.iconst 0, 1) := by decide +kernel
theorem dX6_lineRefusal_18 : decode cX6_lineRefusal 18 = .ok (.istore 4, 2) := by decide +kernel
theorem dX6_lineRefusal_20 : decode cX6_lineRefusal 20 = .ok (.iload 4, 2) := by decide +kernel
theorem dX6_lineRefusal_22 : decode cX6_lineRefusal 22 = .ok (.iconst 5, 1) := by decide +kernel
theorem dX6_lineRefusal_23 : decode cX6_lineRefusal 23 = .ok (.if_icmp .ge 30, 3) := by decide +kernel
theorem dX6_lineRefusal_26 : decode cX6_lineRefusal 26 = .ok (.aload_n 1, 1) := by decide +kernel
theorem dX6_lineRefusal_27 : decode cX6_lineRefusal 27 = .ok (.getfield 103, 3) := by decide +kernel
theorem dX6_lineRefusal_30 : decode cX6_lineRefusal 30 = .ok (.iload_n 2, 1) := by decide +kernel
theorem dX6_lineRefusal_31 : decode cX6_lineRefusal 31 = .ok (.iload 4, 2) := by decide +kernel
theorem dX6_lineRefusal_33 : decode cX6_lineRefusal 33 = .ok (.iadd, 1) := by decide +kernel
theorem dX6_lineRefusal_34 : decode cX6_lineRefusal 34 = .ok (.iaload, 1) := by decide +kernel
theorem dX6_lineRefusal_35 : decode cX6_lineRefusal 35 = .ok (.iconst 1, 1) := by decide +kernel
theorem dX6_lineRefusal_36 : decode cX6_lineRefusal 36 = .ok (.bipush 20, 2) := by decide +kernel
theorem dX6_lineRefusal_38 : decode cX6_lineRefusal 38 = .ok (.invokestatic 69, 3) := by decide +kernel
theorem dX6_lineRefusal_41 : decode cX6_lineRefusal 41 = .ok (.ifCond .ne 6, 3) := by decide +kernel
theorem dX6_lineRefusal_44 : decode cX6_lineRefusal 44 = .ok (.ldc 73, 2) := by decide +kernel
theorem dX6_lineRefusal_46 : decode cX6_lineRefusal 46 = .ok (.ireturn, 1) := by decide +kernel
theorem dX6_lineRefusal_47 : decode cX6_lineRefusal 47 = .ok (.iinc 4 1, 3) := by decide +kernel
theorem dX6_lineRefusal_50 : decode cX6_lineRefusal 50 = .ok (.goto (-30), 3) := by decide +kernel
theorem dX6_lineRefusal_53 : decode cX6_lineRefusal 53 = .ok (.aload_n 0, 1) := by decide +kernel
theorem dX6_lineRefusal_54 : decode cX6_lineRefusal 54 = .ok (.iconst 0, 1) := by decide +kernel
theorem dX6_lineRefusal_55 : decode cX6_lineRefusal 55 = .ok (.invokevirtual 82, 3) := by decide +kernel
theorem dX6_lineRefusal_58 : decode cX6_lineRefusal 58 = .ok (.ireturn, 1) := by decide +kernel
theorem dX6_bestPlaces_0 : decode cX6_bestPlaces 0 = .ok (.iconst 1, 1) := by decide +kernel
theorem dX6_bestPlaces_1 : decode cX6_bestPlaces 1 = .ok (.istore_n 2, 1) := by decide +kernel
theorem dX6_bestPlaces_2 : decode cX6_bestPlaces 2 = .ok (.iconst 2, 1) := by decide +kernel
theorem dX6_bestPlaces_3 : decode cX6_bestPlaces 3 = .ok (.istore_n 3, 1) := by decide +kernel
theorem dX6_bestPlaces_4 : decode cX6_bestPlaces 4 = .ok (.iload_n 3, 1) := by decide +kernel
theorem dX6_bestPlaces_5 : decode cX6_bestPlaces 5 = .ok (.bipush 32, 2) := by decide +kernel
theorem dX6_bestPlaces_7 : decode cX6_bestPlaces 7 = .ok (.if_icmp .ge 49, 3) := by decide +kernel
theorem dX6_bestPlaces_10 : decode cX6_bestPlaces 10 = .ok (.aload_n 0, 1) := by decide +kernel
theorem dX6_bestPlaces_11 : decode cX6_bestPlaces 11 = .ok (.iload_n 1, 1) := by decide +kernel
theorem dX6_bestPlaces_12 : decode cX6_bestPlaces 12 = .ok (.iload_n 3, 1) := by decide +kernel
theorem dX6_bestPlaces_13 : decode cX6_bestPlaces 13 = .ok (.invokestatic 264, 3) := by decide +kernel
theorem dX6_bestPlaces_16 : decode cX6_bestPlaces 16 = .ok (.aload_n 0, 1) := by decide +kernel
theorem dX6_bestPlaces_17 : decode cX6_bestPlaces 17 = .ok (.iload_n 1, 1) := by decide +kernel
theorem dX6_bestPlaces_18 : decode cX6_bestPlaces 18 = .ok (.iload_n 2, 1) := by decide +kernel
theorem dX6_bestPlaces_19 : decode cX6_bestPlaces 19 = .ok (.invokestatic 268, 3) := by decide +kernel
theorem dX6_bestPlaces_22 : decode cX6_bestPlaces 22 = .ok (.lmul, 1) := by decide +kernel
theorem dX6_bestPlaces_23 : decode cX6_bestPlaces 23 = .ok (.lstore 4, 2) := by decide +kernel
theorem dX6_bestPlaces_25 : decode cX6_bestPlaces 25 = .ok (.aload_n 0, 1) := by decide +kernel
theorem dX6_bestPlaces_26 : decode cX6_bestPlaces 26 = .ok (.iload_n 1, 1) := by decide +kernel
theorem dX6_bestPlaces_27 : decode cX6_bestPlaces 27 = .ok (.iload_n 2, 1) := by decide +kernel
theorem dX6_bestPlaces_28 : decode cX6_bestPlaces 28 = .ok (.invokestatic 264, 3) := by decide +kernel
theorem dX6_bestPlaces_31 : decode cX6_bestPlaces 31 = .ok (.aload_n 0, 1) := by decide +kernel
theorem dX6_bestPlaces_32 : decode cX6_bestPlaces 32 = .ok (.iload_n 1, 1) := by decide +kernel
theorem dX6_bestPlaces_33 : decode cX6_bestPlaces 33 = .ok (.iload_n 3, 1) := by decide +kernel
theorem dX6_bestPlaces_34 : decode cX6_bestPlaces 34 = .ok (.invokestatic 268, 3) := by decide +kernel
theorem dX6_bestPlaces_37 : decode cX6_bestPlaces 37 = .ok (.lmul, 1) := by decide +kernel
theorem dX6_bestPlaces_38 : decode cX6_bestPlaces 38 = .ok (.lstore 6, 2) := by decide +kernel
theorem dX6_bestPlaces_40 : decode cX6_bestPlaces 40 = .ok (.lload 4, 2) := by decide +kernel
theorem dX6_bestPlaces_42 : decode cX6_bestPlaces 42 = .ok (.lload 6, 2) := by decide +kernel
theorem dX6_bestPlaces_44 : decode cX6_bestPlaces 44 = .ok (.lcmp, 1) := by decide +kernel
theorem dX6_bestPlaces_45 : decode cX6_bestPlaces 45 = .ok (.ifCond .le 5, 3) := by decide +kernel
theorem dX6_bestPlaces_48 : decode cX6_bestPlaces 48 = .ok (.iload_n 3, 1) := by decide +kernel
theorem dX6_bestPlaces_49 : decode cX6_bestPlaces 49 = .ok (.istore_n 2, 1) := by decide +kernel
theorem dX6_bestPlaces_50 : decode cX6_bestPlaces 50 = .ok (.iinc 3 1, 3) := by decide +kernel
theorem dX6_bestPlaces_53 : decode cX6_bestPlaces 53 = .ok (.goto (-49), 3) := by decide +kernel
theorem dX6_bestPlaces_56 : decode cX6_bestPlaces 56 = .ok (.iload_n 2, 1) := by decide +kernel
theorem dX6_bestPlaces_57 : decode cX6_bestPlaces 57 = .ok (.ireturn, 1) := by decide +kernel
theorem dX6_valueAbove_0 : decode cX6_valueAbove 0 = .ok (.iload_n 2, 1) := by decide +kernel
theorem dX6_valueAbove_1 : decode cX6_valueAbove 1 = .ok (.invokestatic 308, 3) := by decide +kernel
theorem dX6_valueAbove_4 : decode cX6_valueAbove 4 = .ok (.iconst 1, 1) := by decide +kernel
theorem dX6_valueAbove_5 : decode cX6_valueAbove 5 = .ok (.isub, 1) := by decide +kernel
theorem dX6_valueAbove_6 : decode cX6_valueAbove 6 = .ok (.i2l, 1) := by decide +kernel
theorem dX6_valueAbove_7 : decode cX6_valueAbove 7 = .ok (.lstore_n 3, 1) := by decide +kernel
theorem dX6_valueAbove_8 : decode cX6_valueAbove 8 = .ok (.iconst 0, 1) := by decide +kernel
theorem dX6_valueAbove_9 : decode cX6_valueAbove 9 = .ok (.istore 5, 2) := by decide +kernel
theorem dX6_valueAbove_11 : decode cX6_valueAbove 11 = .ok (.iload 5, 2) := by decide +kernel
theorem dX6_valueAbove_13 : decode cX6_valueAbove 13 = .ok (.iconst 5, 1) := by decide +kernel
theorem dX6_valueAbove_14 : decode cX6_valueAbove 14 = .ok (.if_icmp .ge 31, 3) := by decide +kernel
theorem dX6_valueAbove_17 : decode cX6_valueAbove 17 = .ok (.iload_n 2, 1) := by decide +kernel
theorem dX6_valueAbove_18 : decode cX6_valueAbove 18 = .ok (.iload 5, 2) := by decide +kernel
theorem dX6_valueAbove_20 : decode cX6_valueAbove 20 = .ok (.iushr, 1) := by decide +kernel
theorem dX6_valueAbove_21 : decode cX6_valueAbove 21 = .ok (.iconst 1, 1) := by decide +kernel
theorem dX6_valueAbove_22 : decode cX6_valueAbove 22 = .ok (.iand, 1) := by decide +kernel
theorem dX6_valueAbove_23 : decode cX6_valueAbove 23 = .ok (.ifCond .eq 16, 3) := by decide +kernel
theorem dX6_valueAbove_26 : decode cX6_valueAbove 26 = .ok (.lload_n 3, 1) := by decide +kernel
theorem dX6_valueAbove_27 : decode cX6_valueAbove 27 = .ok (.aload_n 0, 1) := by decide +kernel
theorem dX6_valueAbove_28 : decode cX6_valueAbove 28 = .ok (.getfield 103, 3) := by decide +kernel
theorem dX6_valueAbove_31 : decode cX6_valueAbove 31 = .ok (.iload_n 1, 1) := by decide +kernel
theorem dX6_valueAbove_32 : decode cX6_valueAbove 32 = .ok (.iload 5, 2) := by decide +kernel
theorem dX6_valueAbove_34 : decode cX6_valueAbove 34 = .ok (.iadd, 1) := by decide +kernel
theorem dX6_valueAbove_35 : decode cX6_valueAbove 35 = .ok (.iaload, 1) := by decide +kernel
theorem dX6_valueAbove_36 : decode cX6_valueAbove 36 = .ok (.i2l, 1) := by decide +kernel
theorem dX6_valueAbove_37 : decode cX6_valueAbove 37 = .ok (.lmul, 1) := by decide +kernel
theorem dX6_valueAbove_38 : decode cX6_valueAbove 38 = .ok (.lstore_n 3, 1) := by decide +kernel
theorem dX6_valueAbove_39 : decode cX6_valueAbove 39 = .ok (.iinc 5 1, 3) := by decide +kernel
theorem dX6_valueAbove_42 : decode cX6_valueAbove 42 = .ok (.goto (-31), 3) := by decide +kernel
theorem dX6_valueAbove_45 : decode cX6_valueAbove 45 = .ok (.lload_n 3, 1) := by decide +kernel
theorem dX6_valueAbove_46 : decode cX6_valueAbove 46 = .ok (.lreturn, 1) := by decide +kernel
theorem dX6_valueBelow_0 : decode cX6_valueBelow 0 = .ok (.lconst 1, 1) := by decide +kernel
theorem dX6_valueBelow_1 : decode cX6_valueBelow 1 = .ok (.lstore_n 3, 1) := by decide +kernel
theorem dX6_valueBelow_2 : decode cX6_valueBelow 2 = .ok (.lconst 0, 1) := by decide +kernel
theorem dX6_valueBelow_3 : decode cX6_valueBelow 3 = .ok (.lstore 5, 2) := by decide +kernel
theorem dX6_valueBelow_5 : decode cX6_valueBelow 5 = .ok (.iconst 0, 1) := by decide +kernel
theorem dX6_valueBelow_6 : decode cX6_valueBelow 6 = .ok (.istore 7, 2) := by decide +kernel
theorem dX6_valueBelow_8 : decode cX6_valueBelow 8 = .ok (.iload 7, 2) := by decide +kernel
theorem dX6_valueBelow_10 : decode cX6_valueBelow 10 = .ok (.iconst 5, 1) := by decide +kernel
theorem dX6_valueBelow_11 : decode cX6_valueBelow 11 = .ok (.if_icmp .ge 48, 3) := by decide +kernel
theorem dX6_valueBelow_14 : decode cX6_valueBelow 14 = .ok (.iload_n 2, 1) := by decide +kernel
theorem dX6_valueBelow_15 : decode cX6_valueBelow 15 = .ok (.iload 7, 2) := by decide +kernel
theorem dX6_valueBelow_17 : decode cX6_valueBelow 17 = .ok (.iushr, 1) := by decide +kernel
theorem dX6_valueBelow_18 : decode cX6_valueBelow 18 = .ok (.iconst 1, 1) := by decide +kernel
theorem dX6_valueBelow_19 : decode cX6_valueBelow 19 = .ok (.iand, 1) := by decide +kernel
theorem dX6_valueBelow_20 : decode cX6_valueBelow 20 = .ok (.ifCond .eq 33, 3) := by decide +kernel
theorem dX6_valueBelow_23 : decode cX6_valueBelow 23 = .ok (.lload 5, 2) := by decide +kernel
theorem dX6_valueBelow_25 : decode cX6_valueBelow 25 = .ok (.aload_n 0, 1) := by decide +kernel
theorem dX6_valueBelow_26 : decode cX6_valueBelow 26 = .ok (.getfield 103, 3) := by decide +kernel
theorem dX6_valueBelow_29 : decode cX6_valueBelow 29 = .ok (.iload_n 1, 1) := by decide +kernel
theorem dX6_valueBelow_30 : decode cX6_valueBelow 30 = .ok (.iload 7, 2) := by decide +kernel
theorem dX6_valueBelow_32 : decode cX6_valueBelow 32 = .ok (.iadd, 1) := by decide +kernel
theorem dX6_valueBelow_33 : decode cX6_valueBelow 33 = .ok (.iaload, 1) := by decide +kernel
theorem dX6_valueBelow_34 : decode cX6_valueBelow 34 = .ok (.i2l, 1) := by decide +kernel
theorem dX6_valueBelow_35 : decode cX6_valueBelow 35 = .ok (.lmul, 1) := by decide +kernel
theorem dX6_valueBelow_36 : decode cX6_valueBelow 36 = .ok (.lload_n 3, 1) := by decide +kernel
theorem dX6_valueBelow_37 : decode cX6_valueBelow 37 = .ok (.ladd, 1) := by decide +kernel
theorem dX6_valueBelow_38 : decode cX6_valueBelow 38 = .ok (.lstore 5, 2) := by decide +kernel
theorem dX6_valueBelow_40 : decode cX6_valueBelow 40 = .ok (.lload_n 3, 1) := by decide +kernel
theorem dX6_valueBelow_41 : decode cX6_valueBelow 41 = .ok (.aload_n 0, 1) := by decide +kernel
theorem dX6_valueBelow_42 : decode cX6_valueBelow 42 = .ok (.getfield 103, 3) := by decide +kernel
theorem dX6_valueBelow_45 : decode cX6_valueBelow 45 = .ok (.iload_n 1, 1) := by decide +kernel
theorem dX6_valueBelow_46 : decode cX6_valueBelow 46 = .ok (.iload 7, 2) := by decide +kernel
theorem dX6_valueBelow_48 : decode cX6_valueBelow 48 = .ok (.iadd, 1) := by decide +kernel
theorem dX6_valueBelow_49 : decode cX6_valueBelow 49 = .ok (.iaload, 1) := by decide +kernel
theorem dX6_valueBelow_50 : decode cX6_valueBelow 50 = .ok (.i2l, 1) := by decide +kernel
theorem dX6_valueBelow_51 : decode cX6_valueBelow 51 = .ok (.lmul, 1) := by decide +kernel
theorem dX6_valueBelow_52 : decode cX6_valueBelow 52 = .ok (.lstore_n 3, 1) := by decide +kernel
theorem dX6_valueBelow_53 : decode cX6_valueBelow 53 = .ok (.iinc 7 1, 3) := by decide +kernel
theorem dX6_valueBelow_56 : decode cX6_valueBelow 56 = .ok (.goto (-48), 3) := by decide +kernel
theorem dX6_valueBelow_59 : decode cX6_valueBelow 59 = .ok (.lload 5, 2) := by decide +kernel
theorem dX6_valueBelow_61 : decode cX6_valueBelow 61 = .ok (.lreturn, 1) := by decide +kernel
theorem dX6_lowest_0 : decode cX6_lowest 0 = .ok (.lload_n 0, 1) := by decide +kernel
theorem dX6_lowest_1 : decode cX6_lowest 1 = .ok (.lstore 5, 2) := by decide +kernel
theorem dX6_lowest_3 : decode cX6_lowest 3 = .ok (.lload_n 2, 1) := by decide +kernel
theorem dX6_lowest_4 : decode cX6_lowest 4 = .ok (.lstore 7, 2) := by decide +kernel
theorem dX6_lowest_6 : decode cX6_lowest 6 = .ok (.iconst 0, 1) := by decide +kernel
theorem dX6_lowest_7 : decode cX6_lowest 7 = .ok (.istore 9, 2) := by decide +kernel
theorem dX6_lowest_9 : decode cX6_lowest 9 = .ok (.iload 9, 2) := by decide +kernel
theorem dX6_lowest_11 : decode cX6_lowest 11 = .ok (.bipush 100, 2) := by decide +kernel
theorem dX6_lowest_13 : decode cX6_lowest 13 = .ok (.if_icmp .ge 31, 3) := by decide +kernel
theorem dX6_lowest_16 : decode cX6_lowest 16 = .ok (.lload 7, 2) := by decide +kernel
theorem dX6_lowest_18 : decode cX6_lowest 18 = .ok (.lconst 0, 1) := by decide +kernel
theorem dX6_lowest_19 : decode cX6_lowest 19 = .ok (.lcmp, 1) := by decide +kernel
theorem dX6_lowest_20 : decode cX6_lowest 20 = .ok (.ifCond .eq 24, 3) := by decide +kernel
theorem dX6_lowest_23 : decode cX6_lowest 23 = .ok (.lload 5, 2) := by decide +kernel
theorem dX6_lowest_25 : decode cX6_lowest 25 = .ok (.lload 7, 2) := by decide +kernel
theorem dX6_lowest_27 : decode cX6_lowest 27 = .ok (.lrem, 1) := by decide +kernel
theorem dX6_lowest_28 : decode cX6_lowest 28 = .ok (.lstore 10, 2) := by decide +kernel
theorem dX6_lowest_30 : decode cX6_lowest 30 = .ok (.lload 7, 2) := by decide +kernel
theorem dX6_lowest_32 : decode cX6_lowest 32 = .ok (.lstore 5, 2) := by decide +kernel
theorem dX6_lowest_34 : decode cX6_lowest 34 = .ok (.lload 10, 2) := by decide +kernel
theorem dX6_lowest_36 : decode cX6_lowest 36 = .ok (.lstore 7, 2) := by decide +kernel
theorem dX6_lowest_38 : decode cX6_lowest 38 = .ok (.iinc 9 1, 3) := by decide +kernel
theorem dX6_lowest_41 : decode cX6_lowest 41 = .ok (.goto (-32), 3) := by decide +kernel
theorem dX6_lowest_44 : decode cX6_lowest 44 = .ok (.iload 4, 2) := by decide +kernel
theorem dX6_lowest_46 : decode cX6_lowest 46 = .ok (.ifCond .ne 7, 3) := by decide +kernel
theorem dX6_lowest_49 : decode cX6_lowest 49 = .ok (.lload_n 0, 1) := by decide +kernel
theorem dX6_lowest_50 : decode cX6_lowest 50 = .ok (.goto 4, 3) := by decide +kernel
theorem dX6_lowest_53 : decode cX6_lowest 53 = .ok (.lload_n 2, 1) := by decide +kernel
theorem dX6_lowest_54 : decode cX6_lowest 54 = .ok (.lstore 9, 2) := by decide +kernel
theorem dX6_lowest_56 : decode cX6_lowest 56 = .ok (.lload 5, 2) := by decide +kernel
theorem dX6_lowest_58 : decode cX6_lowest 58 = .ok (.lconst 0, 1) := by decide +kernel
theorem dX6_lowest_59 : decode cX6_lowest 59 = .ok (.lcmp, 1) := by decide +kernel
theorem dX6_lowest_60 : decode cX6_lowest 60 = .ok (.ifCond .ne 8, 3) := by decide +kernel
theorem dX6_lowest_63 : decode cX6_lowest 63 = .ok (.lload 9, 2) := by decide +kernel
theorem dX6_lowest_65 : decode cX6_lowest 65 = .ok (.goto 8, 3) := by decide +kernel
theorem dX6_lowest_68 : decode cX6_lowest 68 = .ok (.lload 9, 2) := by decide +kernel
theorem dX6_lowest_70 : decode cX6_lowest 70 = .ok (.lload 5, 2) := by decide +kernel
theorem dX6_lowest_72 : decode cX6_lowest 72 = .ok (.ldiv, 1) := by decide +kernel
theorem dX6_lowest_73 : decode cX6_lowest 73 = .ok (.lreturn, 1) := by decide +kernel
theorem dX7_init_0 : decode cX7_init 0 = .ok (.aload_n 0, 1) := by decide +kernel
theorem dX7_init_1 : decode cX7_init 1 = .ok (.invokespecial 1, 3) := by decide +kernel
theorem dX7_init_4 : decode cX7_init 4 = .ok (.aload_n 0, 1) := by decide +kernel
theorem dX7_init_5 : decode cX7_init 5 = .ok (.bipush 8, 2) := by decide +kernel
theorem dX7_init_7 : decode cX7_init 7 = .ok (.newarray .int, 2) := by decide +kernel
theorem dX7_init_9 : decode cX7_init 9 = .ok (.putfield 7, 3) := by decide +kernel
theorem dX7_init_12 : decode cX7_init 12 = .ok (.aload_n 0, 1) := by decide +kernel
theorem dX7_init_13 : decode cX7_init 13 = .ok (.bipush 8, 2) := by decide +kernel
theorem dX7_init_15 : decode cX7_init 15 = .ok (.newarray .int, 2) := by decide +kernel
theorem dX7_init_17 : decode cX7_init 17 = .ok (.putfield 13, 3) := by decide +kernel
theorem dX7_init_20 : decode cX7_init 20 = .ok (.aload_n 0, 1) := by decide +kernel
theorem dX7_init_21 : decode cX7_init 21 = .ok (.sipush 320, 3) := by decide +kernel
theorem dX7_init_24 : decode cX7_init 24 = .ok (.newarray .int, 2) := by decide +kernel
theorem dX7_init_26 : decode cX7_init 26 = .ok (.putfield 16, 3) := by decide +kernel
theorem dX7_init_29 : decode cX7_init 29 = .ok (.aload_n 0, 1) := by decide +kernel
theorem dX7_init_30 : decode cX7_init 30 = .ok (.bipush 82, 2) := by decide +kernel
theorem dX7_init_32 : decode cX7_init 32 = .ok (.newarray .int, 2) := by decide +kernel
theorem dX7_init_34 : decode cX7_init 34 = .ok (.putfield 19, 3) := by decide +kernel
theorem dX7_init_37 : decode cX7_init 37 = .ok (.aload_n 0, 1) := by decide +kernel
theorem dX7_init_38 : decode cX7_init 38 = .ok (.bipush 40, 2) := by decide +kernel
theorem dX7_init_40 : decode cX7_init 40 = .ok (.newarray .int, 2) := by decide +kernel
theorem dX7_init_42 : decode cX7_init 42 = .ok (.putfield 22, 3) := by decide +kernel
theorem dX7_init_45 : decode cX7_init 45 = .ok (.aload_n 0, 1) := by decide +kernel
theorem dX7_init_46 : decode cX7_init 46 = .ok (.bipush 120, 2) := by decide +kernel
theorem dX7_init_48 : decode cX7_init 48 = .ok (.newarray .int, 2) := by decide +kernel
theorem dX7_init_50 : decode cX7_init 50 = .ok (.putfield 25, 3) := by decide +kernel
theorem dX7_init_53 : decode cX7_init 53 = .ok (.aload_n 0, 1) := by decide +kernel
theorem dX7_init_54 : decode cX7_init 54 = .ok (.bipush 82, 2) := by decide +kernel
theorem dX7_init_56 : decode cX7_init 56 = .ok (.newarray .int, 2) := by decide +kernel
theorem dX7_init_58 : decode cX7_init 58 = .ok (.putfield 28, 3) := by decide +kernel
theorem dX7_init_61 : decode cX7_init 61 = .ok (.aload_n 0, 1) := by decide +kernel
theorem dX7_init_62 : decode cX7_init 62 = .ok (.sipush 1968, 3) := by decide +kernel
theorem dX7_init_65 : decode cX7_init 65 = .ok (.newarray .int, 2) := by decide +kernel
theorem dX7_init_67 : decode cX7_init 67 = .ok (.putfield 31, 3) := by decide +kernel
theorem dX7_init_70 : decode cX7_init 70 = .ok (.aload_n 0, 1) := by decide +kernel
theorem dX7_init_71 : decode cX7_init 71 = .ok (.bipush 82, 2) := by decide +kernel
theorem dX7_init_73 : decode cX7_init 73 = .ok (.newarray .int, 2) := by decide +kernel
theorem dX7_init_75 : decode cX7_init 75 = .ok (.putfield 34, 3) := by decide +kernel
theorem dX7_init_78 : decode cX7_init 78 = .ok (.aload_n 0, 1) := by decide +kernel
theorem dX7_init_79 : decode cX7_init 79 = .ok (.bipush 32, 2) := by decide +kernel
theorem dX7_init_81 : decode cX7_init 81 = .ok (.newarray .boolean, 2) := by decide +kernel
theorem dX7_init_83 : decode cX7_init 83 = .ok (.putfield 37, 3) := by decide +kernel
theorem dX7_init_86 : decode cX7_init 86 = .ok (.aload_n 0, 1) := by decide +kernel
theorem dX7_init_87 : decode cX7_init 87 = .ok (.bipush 32, 2) := by decide +kernel
theorem dX7_init_89 : decode cX7_init 89 = .ok (.newarray .boolean, 2) := by decide +kernel
theorem dX7_init_91 : decode cX7_init 91 = .ok (.putfield 41, 3) := by decide +kernel
theorem dX7_init_94 : decode cX7_init 94 = .ok (.aload_n 0, 1) := by decide +kernel
theorem dX7_init_95 : decode cX7_init 95 = .ok (.iconst 2, 1) := by decide +kernel
theorem dX7_init_96 : decode cX7_init 96 = .ok (.newarray .boolean, 2) := by decide +kernel
theorem dX7_init_98 : decode cX7_init 98 = .ok (.putfield 44, 3) := by decide +kernel
theorem dX7_init_101 : decode cX7_init 101 = .ok (.aload_n 0, 1) := by decide +kernel
theorem dX7_init_102 : decode cX7_init 102 = .ok (.sipush 164, 3) := by decide +kernel
theorem dX7_init_105 : decode cX7_init 105 = .ok (.newarray .int, 2) := by decide +kernel
theorem dX7_init_107 : decode cX7_init 107 = .ok (.putfield 47, 3) := by decide +kernel
theorem dX7_init_110 : decode cX7_init 110 = .ok (.aload_n 0, 1) := by decide +kernel
theorem dX7_init_111 : decode cX7_init 111 = .ok (.bipush 16, 2) := by decide +kernel
theorem dX7_init_113 : decode cX7_init 113 = .ok (.newarray .int, 2) := by decide +kernel
theorem dX7_init_115 : decode cX7_init 115 = .ok (.putfield 50, 3) := by decide +kernel
theorem dX7_init_118 : decode cX7_init 118 = .ok (.iconst 0, 1) := by decide +kernel
theorem dX7_init_119 : decode cX7_init 119 = .ok (.istore_n 1, 1) := by decide +kernel
theorem dX7_init_120 : decode cX7_init 120 = .ok (.iload_n 1, 1) := by decide +kernel
theorem dX7_init_121 : decode cX7_init 121 = .ok (.bipush 8, 2) := by decide +kernel
theorem dX7_init_123 : decode cX7_init 123 = .ok (.if_icmp .ge 16, 3) := by decide +kernel
theorem dX7_init_126 : decode cX7_init 126 = .ok (.aload_n 0, 1) := by decide +kernel
theorem dX7_init_127 : decode cX7_init 127 = .ok (.getfield 13, 3) := by decide +kernel
theorem dX7_init_130 : decode cX7_init 130 = .ok (.iload_n 1, 1) := by decide +kernel
theorem dX7_init_131 : decode cX7_init 131 = .ok (.iconst (-1), 1) := by decide +kernel
theorem dX7_init_132 : decode cX7_init 132 = .ok (.iastore, 1) := by decide +kernel
theorem dX7_init_133 : decode cX7_init 133 = .ok (.iinc 1 1, 3) := by decide +kernel
theorem dX7_init_136 : decode cX7_init 136 = .ok (.goto (-16), 3) := by decide +kernel
theorem dX7_init_139 : decode cX7_init 139 = .ok (.return_, 1) := by decide +kernel
theorem dX7_in_0 : decode cX7_in 0 = .ok (.lload_n 0, 1) := by decide +kernel
theorem dX7_in_1 : decode cX7_in 1 = .ok (.lload_n 2, 1) := by decide +kernel
theorem dX7_in_2 : decode cX7_in 2 = .ok (.lcmp, 1) := by decide +kernel
theorem dX7_in_3 : decode cX7_in 3 = .ok (.ifCond .lt 14, 3) := by decide +kernel
theorem dX7_in_6 : decode cX7_in 6 = .ok (.lload_n 0, 1) := by decide +kernel
theorem dX7_in_7 : decode cX7_in 7 = .ok (.lload 4, 2) := by decide +kernel
theorem dX7_in_9 : decode cX7_in 9 = .ok (.lcmp, 1) := by decide +kernel
theorem dX7_in_10 : decode cX7_in 10 = .ok (.ifCond .gt 7, 3) := by decide +kernel
theorem dX7_in_13 : decode cX7_in 13 = .ok (.iconst 1, 1) := by decide +kernel
theorem dX7_in_14 : decode cX7_in 14 = .ok (.goto 4, 3) := by decide +kernel
theorem dX7_in_17 : decode cX7_in 17 = .ok (.iconst 0, 1) := by decide +kernel
theorem dX7_in_18 : decode cX7_in 18 = .ok (.ireturn, 1) := by decide +kernel
theorem dX7_find_0 : decode cX7_find 0 = .ok (.aload_n 0, 1) := by decide +kernel
theorem dX7_find_1 : decode cX7_find 1 = .ok (.iload_n 1, 1) := by decide +kernel
theorem dX7_find_2 : decode cX7_find 2 = .ok (.putfield 53, 3) := by decide +kernel
theorem dX7_find_5 : decode cX7_find 5 = .ok (.ldc 57, 2) := by decide +kernel
theorem dX7_find_7 : decode cX7_find 7 = .ok (.iload_n 1, 1) := by decide +kernel
theorem dX7_find_8 : decode cX7_find 8 = .ok (.isub, 1) := by decide +kernel
theorem dX7_find_9 : decode cX7_find 9 = .ok (.ireturn, 1) := by decide +kernel
theorem dX7_well_0 : decode cX7_well 0 = .ok (.aload_n 0, 1) := by decide +kernel
theorem dX7_well_1 : decode cX7_well 1 = .ok (.iconst 0, 1) := by decide +kernel
theorem dX7_well_2 : decode cX7_well 2 = .ok (.putfield 53, 3) := by decide +kernel
theorem dX7_well_5 : decode cX7_well 5 = .ok (.iload_n 1, 1) := by decide +kernel
theorem dX7_well_6 : decode cX7_well 6 = .ok (.ireturn, 1) := by decide +kernel
theorem dX7_isRow_0 : decode cX7_isRow 0 = .ok (.iload_n 0, 1) := by decide +kernel
theorem dX7_isRow_1 : decode cX7_isRow 1 = .ok (.i2l, 1) := by decide +kernel
theorem dX7_isRow_2 : decode cX7_isRow 2 = .ok (.lconst 0, 1) := by decide +kernel
theorem dX7_isRow_3 : decode cX7_isRow 3 = .ok (.ldc2_w 58, 3) := by decide +kernel
theorem dX7_isRow_6 : decode cX7_isRow 6 = .ok (.invokestatic 60, 3) := by decide +kernel
theorem dX7_isRow_9 : decode cX7_isRow 9 = .ok (.ireturn, 1) := by decide +kernel
theorem dX7_row_0 : decode cX7_row 0 = .ok (.iload_n 1, 1) := by decide +kernel
theorem dX7_row_1 : decode cX7_row 1 = .ok (.invokestatic 64, 3) := by decide +kernel
theorem dX7_row_4 : decode cX7_row 4 = .ok (.ifCond .eq 21, 3) := by decide +kernel
theorem dX7_row_7 : decode cX7_row 7 = .ok (.iload_n 2, 1) := by decide +kernel
theorem dX7_row_8 : decode cX7_row 8 = .ok (.i2l, 1) := by decide +kernel
theorem dX7_row_9 : decode cX7_row 9 = .ok (.lconst 0, 1) := by decide +kernel
theorem dX7_row_10 : decode cX7_row 10 = .ok (.ldc2_w 68, 3) := by decide +kernel
theorem dX7_row_13 : decode cX7_row 13 = .ok (.invokestatic 60, 3) := by decide +kernel
theorem dX7_row_16 : decode cX7_row 16 = .ok (.ifCond .eq 9, 3) := by decide +kernel
theorem dX7_row_19 : decode cX7_row 19 = .ok (.iload_n 3, 1) := by decide +kernel
theorem dX7_row_20 : decode cX7_row 20 = .ok (.bipush 40, 2) := by decide +kernel
theorem dX7_row_22 : decode cX7_row 22 = .ok (.if_icmp .le 6, 3) := by decide +kernel
theorem dX7_row_25 : decode cX7_row 25 = .ok (.ldc 70, 2) := by decide +kernel
theorem dX7_row_27 : decode cX7_row 27 = .ok (.ireturn, 1) := by decide +kernel
theorem dX7_row_28 : decode cX7_row 28 = .ok (.iload_n 3, 1) := by decide +kernel
theorem dX7_row_29 : decode cX7_row 29 = .ok (.ifCond .ge 9, 3) := by decide +kernel
theorem dX7_row_32 : decode cX7_row 32 = .ok (.aload_n 0, 1) := by decide +kernel
theorem dX7_row_33 : decode cX7_row 33 = .ok (.iconst 4, 1) := by decide +kernel
theorem dX7_row_34 : decode cX7_row 34 = .ok (.invokevirtual 71, 3) := by decide +kernel
theorem dX7_row_37 : decode cX7_row 37 = .ok (.ireturn, 1) := by decide +kernel
theorem dX7_row_38 : decode cX7_row 38 = .ok (.aload_n 0, 1) := by decide +kernel
theorem dX7_row_39 : decode cX7_row 39 = .ok (.getfield 7, 3) := by decide +kernel
theorem dX7_row_42 : decode cX7_row 42 = .ok (.iload_n 1, 1) := by decide +kernel
theorem dX7_row_43 : decode cX7_row 43 = .ok (.iload_n 2, 1) := by decide +kernel
theorem dX7_row_44 : decode cX7_row 44 = .ok (.iastore, 1) := by decide +kernel
theorem dX7_row_45 : decode cX7_row 45 = .ok (.aload_n 0, 1) := by decide +kernel
theorem dX7_row_46 : decode cX7_row 46 = .ok (.getfield 13, 3) := by decide +kernel
theorem dX7_row_49 : decode cX7_row 49 = .ok (.iload_n 1, 1) := by decide +kernel
theorem dX7_row_50 : decode cX7_row 50 = .ok (.iload_n 3, 1) := by decide +kernel
theorem dX7_row_51 : decode cX7_row 51 = .ok (.iastore, 1) := by decide +kernel
theorem dX7_row_52 : decode cX7_row 52 = .ok (.iconst 0, 1) := by decide +kernel
theorem dX7_row_53 : decode cX7_row 53 = .ok (.istore 4, 2) := by decide +kernel
theorem dX7_row_55 : decode cX7_row 55 = .ok (.iload 4, 2) := by decide +kernel
theorem dX7_row_57 : decode cX7_row 57 = .ok (.bipush 40, 2) := by decide +kernel
theorem dX7_row_59 : decode cX7_row 59 = .ok (.if_icmp .ge 22, 3) := by decide +kernel
theorem dX7_row_62 : decode cX7_row 62 = .ok (.aload_n 0, 1) := by decide +kernel
theorem dX7_row_63 : decode cX7_row 63 = .ok (.getfield 16, 3) := by decide +kernel
theorem dX7_row_66 : decode cX7_row 66 = .ok (.bipush 40, 2) := by decide +kernel
theorem dX7_row_68 : decode cX7_row 68 = .ok (.iload_n 1, 1) := by decide +kernel
theorem dX7_row_69 : decode cX7_row 69 = .ok (.imul, 1) := by decide +kernel
theorem dX7_row_70 : decode cX7_row 70 = .ok (.iload 4, 2) := by decide +kernel
theorem dX7_row_72 : decode cX7_row 72 = .ok (.iadd, 1) := by decide +kernel
theorem dX7_row_73 : decode cX7_row 73 = .ok (.iconst 0, 1) := by decide +kernel
theorem dX7_row_74 : decode cX7_row 74 = .ok (.iastore, 1) := by decide +kernel
theorem dX7_row_75 : decode cX7_row 75 = .ok (.iinc 4 1, 3) := by decide +kernel
theorem dX7_row_78 : decode cX7_row 78 = .ok (.goto (-23), 3) := by decide +kernel
theorem dX7_row_81 : decode cX7_row 81 = .ok (.aload_n 0, 1) := by decide +kernel
theorem dX7_row_82 : decode cX7_row 82 = .ok (.iload_n 3, 1) := by decide +kernel
theorem dX7_row_83 : decode cX7_row 83 = .ok (.invokevirtual 75, 3) := by decide +kernel
theorem dX7_row_86 : decode cX7_row 86 = .ok (.ireturn, 1) := by decide +kernel
theorem dX7_asLane_0 : decode cX7_asLane 0 = .ok (.iload_n 0, 1) := by decide +kernel
theorem dX7_asLane_1 : decode cX7_asLane 1 = .ok (.ifCond .ne 13, 3) := by decide +kernel
theorem dX7_asLane_4 : decode cX7_asLane 4 = .ok (.iload_n 1, 1) := by decide +kernel
theorem dX7_asLane_5 : decode cX7_asLane 5 = .ok (.bipush 24, 2) := by decide +kernel
theorem dX7_asLane_7 : decode cX7_asLane 7 = .ok (.ishl, 1) := by decide +kernel
theorem dX7_asLane_8 : decode cX7_asLane 8 = .ok (.bipush 24, 2) := by decide +kernel
theorem dX7_asLane_10 : decode cX7_asLane 10 = .ok (.ishr, 1) := by decide +kernel
theorem dX7_asLane_11 : decode cX7_asLane 11 = .ok (.goto 19, 3) := by decide +kernel
theorem dX7_asLane_14 : decode cX7_asLane 14 = .ok (.iload_n 0, 1) := by decide +kernel
theorem dX7_asLane_15 : decode cX7_asLane 15 = .ok (.iconst 1, 1) := by decide +kernel
theorem dX7_asLane_16 : decode cX7_asLane 16 = .ok (.if_icmp .ne 13, 3) := by decide +kernel
theorem dX7_asLane_19 : decode cX7_asLane 19 = .ok (.iload_n 1, 1) := by decide +kernel
theorem dX7_asLane_20 : decode cX7_asLane 20 = .ok (.bipush 16, 2) := by decide +kernel
theorem dX7_asLane_22 : decode cX7_asLane 22 = .ok (.ishl, 1) := by decide +kernel
theorem dX7_asLane_23 : decode cX7_asLane 23 = .ok (.bipush 16, 2) := by decide +kernel
theorem dX7_asLane_25 : decode cX7_asLane 25 = .ok (.ishr, 1) := by decide +kernel
theorem dX7_asLane_26 : decode cX7_asLane 26 = .ok (.goto 4, 3) := by decide +kernel
theorem dX7_asLane_29 : decode cX7_asLane 29 = .ok (.iload_n 1, 1) := by decide +kernel
theorem dX7_asLane_30 : decode cX7_asLane 30 = .ok (.ireturn, 1) := by decide +kernel
theorem dX7_set_0 : decode cX7_set 0 = .ok (.iload_n 1, 1) := by decide +kernel
theorem dX7_set_1 : decode cX7_set 1 = .ok (.invokestatic 64, 3) := by decide +kernel
theorem dX7_set_4 : decode cX7_set 4 = .ok (.ifCond .ne 6, 3) := by decide +kernel
theorem dX7_set_7 : decode cX7_set 7 = .ok (.ldc 70, 2) := by decide +kernel
theorem dX7_set_9 : decode cX7_set 9 = .ok (.ireturn, 1) := by decide +kernel
theorem dX7_set_10 : decode cX7_set 10 = .ok (.aload_n 0, 1) := by decide +kernel
theorem dX7_set_11 : decode cX7_set 11 = .ok (.getfield 13, 3) := by decide +kernel
theorem dX7_set_14 : decode cX7_set 14 = .ok (.iload_n 1, 1) := by decide +kernel
theorem dX7_set_15 : decode cX7_set 15 = .ok (.iaload, 1) := by decide +kernel
theorem dX7_set_16 : decode cX7_set 16 = .ok (.ifCond .ge 9, 3) := by decide +kernel
theorem dX7_set_19 : decode cX7_set 19 = .ok (.aload_n 0, 1) := by decide +kernel
theorem dX7_set_20 : decode cX7_set 20 = .ok (.iconst 1, 1) := by decide +kernel
theorem dX7_set_21 : decode cX7_set 21 = .ok (.invokevirtual 71, 3) := by decide +kernel
theorem dX7_set_24 : decode cX7_set 24 = .ok (.ireturn, 1) := by decide +kernel
theorem dX7_set_25 : decode cX7_set 25 = .ok (.iload_n 2, 1) := by decide +kernel
theorem dX7_set_26 : decode cX7_set 26 = .ok (.i2l, 1) := by decide +kernel
theorem dX7_set_27 : decode cX7_set 27 = .ok (.lconst 0, 1) := by decide +kernel
theorem dX7_set_28 : decode cX7_set 28 = .ok (.aload_n 0, 1) := by decide +kernel
theorem dX7_set_29 : decode cX7_set 29 = .ok (.getfield 13, 3) := by decide +kernel
theorem dX7_set_32 : decode cX7_set 32 = .ok (.iload_n 1, 1) := by decide +kernel
theorem dX7_set_33 : decode cX7_set 33 = .ok (.iaload, 1) := by decide +kernel
theorem dX7_set_34 : decode cX7_set 34 = .ok (.iconst 1, 1) := by decide +kernel
theorem dX7_set_35 : decode cX7_set 35 = .ok (.isub, 1) := by decide +kernel
theorem dX7_set_36 : decode cX7_set 36 = .ok (.i2l, 1) := by decide +kernel
theorem dX7_set_37 : decode cX7_set 37 = .ok (.invokestatic 60, 3) := by decide +kernel
theorem dX7_set_40 : decode cX7_set 40 = .ok (.ifCond .ne 9, 3) := by decide +kernel
theorem dX7_set_43 : decode cX7_set 43 = .ok (.aload_n 0, 1) := by decide +kernel
theorem dX7_set_44 : decode cX7_set 44 = .ok (.iconst 2, 1) := by decide +kernel
theorem dX7_set_45 : decode cX7_set 45 = .ok (.invokevirtual 71, 3) := by decide +kernel
theorem dX7_set_48 : decode cX7_set 48 = .ok (.ireturn, 1) := by decide +kernel
theorem dX7_set_49 : decode cX7_set 49 = .ok (.aload_n 0, 1) := by decide +kernel
theorem dX7_set_50 : decode cX7_set 50 = .ok (.getfield 16, 3) := by decide +kernel
theorem dX7_set_53 : decode cX7_set 53 = .ok (.bipush 40, 2) := by decide +kernel
theorem dX7_set_55 : decode cX7_set 55 = .ok (.iload_n 1, 1) := by decide +kernel
theorem dX7_set_56 : decode cX7_set 56 = .ok (.imul, 1) := by decide +kernel
theorem dX7_set_57 : decode cX7_set 57 = .ok (.iload_n 2, 1) := by decide +kernel
theorem dX7_set_58 : decode cX7_set 58 = .ok (.iadd, 1) := by decide +kernel
theorem dX7_set_59 : decode cX7_set 59 = .ok (.aload_n 0, 1) := by decide +kernel
theorem dX7_set_60 : decode cX7_set 60 = .ok (.getfield 7, 3) := by decide +kernel
theorem dX7_set_63 : decode cX7_set 63 = .ok (.iload_n 1, 1) := by decide +kernel
theorem dX7_set_64 : decode cX7_set 64 = .ok (.iaload, 1) := by decide +kernel
theorem dX7_set_65 : decode cX7_set 65 = .ok (.iload_n 3, 1) := by decide +kernel
theorem dX7_set_66 : decode cX7_set 66 = .ok (.invokestatic 78, 3) := by decide +kernel
theorem dX7_set_69 : decode cX7_set 69 = .ok (.iastore, 1) := by decide +kernel
theorem dX7_set_70 : decode cX7_set 70 = .ok (.aload_n 0, 1) := by decide +kernel
theorem dX7_set_71 : decode cX7_set 71 = .ok (.aload_n 0, 1) := by decide +kernel
theorem dX7_set_72 : decode cX7_set 72 = .ok (.getfield 16, 3) := by decide +kernel
theorem dX7_set_75 : decode cX7_set 75 = .ok (.bipush 40, 2) := by decide +kernel
theorem dX7_set_77 : decode cX7_set 77 = .ok (.iload_n 1, 1) := by decide +kernel
theorem dX7_set_78 : decode cX7_set 78 = .ok (.imul, 1) := by decide +kernel
theorem dX7_set_79 : decode cX7_set 79 = .ok (.iload_n 2, 1) := by decide +kernel
theorem dX7_set_80 : decode cX7_set 80 = .ok (.iadd, 1) := by decide +kernel
theorem dX7_set_81 : decode cX7_set 81 = .ok (.iaload, 1) := by decide +kernel
theorem dX7_set_82 : decode cX7_set 82 = .ok (.invokevirtual 75, 3) := by decide +kernel
theorem dX7_set_85 : decode cX7_set 85 = .ok (.ireturn, 1) := by decide +kernel
theorem dX7_copy_0 : decode cX7_copy 0 = .ok (.iload_n 1, 1) := by decide +kernel
theorem dX7_copy_1 : decode cX7_copy 1 = .ok (.invokestatic 64, 3) := by decide +kernel
theorem dX7_copy_4 : decode cX7_copy 4 = .ok (.ifCond .eq 10, 3) := by decide +kernel
theorem dX7_copy_7 : decode cX7_copy 7 = .ok (.iload_n 3, 1) := by decide +kernel
theorem dX7_copy_8 : decode cX7_copy 8 = .ok (.invokestatic 64, 3) := by decide +kernel
theorem dX7_copy_11 : decode cX7_copy 11 = .ok (.ifCond .ne 6, 3) := by decide +kernel
theorem dX7_copy_14 : decode cX7_copy 14 = .ok (.ldc 70, 2) := by decide +kernel
theorem dX7_copy_16 : decode cX7_copy 16 = .ok (.ireturn, 1) := by decide +kernel
theorem dX7_copy_17 : decode cX7_copy 17 = .ok (.aload_n 0, 1) := by decide +kernel
theorem dX7_copy_18 : decode cX7_copy 18 = .ok (.getfield 13, 3) := by decide +kernel
theorem dX7_copy_21 : decode cX7_copy 21 = .ok (.iload_n 1, 1) := by decide +kernel
theorem dX7_copy_22 : decode cX7_copy 22 = .ok (.iaload, 1) := by decide +kernel
theorem dX7_copy_23 : decode cX7_copy 23 = .ok (.ifCond .lt 12, 3) := by decide +kernel
theorem dX7_copy_26 : decode cX7_copy 26 = .ok (.aload_n 0, 1) := by decide +kernel
theorem dX7_copy_27 : decode cX7_copy 27 = .ok (.getfield 13, 3) := by decide +kernel
theorem dX7_copy_30 : decode cX7_copy 30 = .ok (.iload_n 3, 1) := by decide +kernel
theorem dX7_copy_31 : decode cX7_copy 31 = .ok (.iaload, 1) := by decide +kernel
theorem dX7_copy_32 : decode cX7_copy 32 = .ok (.ifCond .ge 9, 3) := by decide +kernel
theorem dX7_copy_35 : decode cX7_copy 35 = .ok (.aload_n 0, 1) := by decide +kernel
theorem dX7_copy_36 : decode cX7_copy 36 = .ok (.iconst 1, 1) := by decide +kernel
theorem dX7_copy_37 : decode cX7_copy 37 = .ok (.invokevirtual 71, 3) := by decide +kernel
theorem dX7_copy_40 : decode cX7_copy 40 = .ok (.ireturn, 1) := by decide +kernel
theorem dX7_copy_41 : decode cX7_copy 41 = .ok (.aload_n 0, 1) := by decide +kernel
theorem dX7_copy_42 : decode cX7_copy 42 = .ok (.getfield 7, 3) := by decide +kernel
theorem dX7_copy_45 : decode cX7_copy 45 = .ok (.iload_n 1, 1) := by decide +kernel
theorem dX7_copy_46 : decode cX7_copy 46 = .ok (.iaload, 1) := by decide +kernel
theorem dX7_copy_47 : decode cX7_copy 47 = .ok (.aload_n 0, 1) := by decide +kernel
theorem dX7_copy_48 : decode cX7_copy 48 = .ok (.getfield 7, 3) := by decide +kernel
theorem dX7_copy_51 : decode cX7_copy 51 = .ok (.iload_n 3, 1) := by decide +kernel
theorem dX7_copy_52 : decode cX7_copy 52 = .ok (.iaload, 1) := by decide +kernel
theorem dX7_copy_53 : decode cX7_copy 53 = .ok (.if_icmp .eq 9, 3) := by decide +kernel
theorem dX7_copy_56 : decode cX7_copy 56 = .ok (.aload_n 0, 1) := by decide +kernel
theorem dX7_copy_57 : decode cX7_copy 57 = .ok (.iconst 5, 1) := by decide +kernel
theorem dX7_copy_58 : decode cX7_copy 58 = .ok (.invokevirtual 71, 3) := by decide +kernel
theorem dX7_copy_61 : decode cX7_copy 61 = .ok (.ireturn, 1) := by decide +kernel
theorem dX7_copy_62 : decode cX7_copy 62 = .ok (.iload 5, 2) := by decide +kernel
theorem dX7_copy_64 : decode cX7_copy 64 = .ok (.ifCond .lt 44, 3) := by decide +kernel
theorem dX7_copy_67 : decode cX7_copy 67 = .ok (.iload_n 2, 1) := by decide +kernel
theorem dX7_copy_68 : decode cX7_copy 68 = .ok (.i2l, 1) := by decide +kernel
theorem dX7_copy_69 : decode cX7_copy 69 = .ok (.lconst 0, 1) := by decide +kernel
theorem dX7_copy_70 : decode cX7_copy 70 = .ok (.aload_n 0, 1) := by decide +kernel
theorem dX7_copy_71 : decode cX7_copy 71 = .ok (.getfield 13, 3) := by decide +kernel
theorem dX7_copy_74 : decode cX7_copy 74 = .ok (.iload_n 1, 1) := by decide +kernel
theorem dX7_copy_75 : decode cX7_copy 75 = .ok (.iaload, 1) := by decide +kernel
theorem dX7_copy_76 : decode cX7_copy 76 = .ok (.i2l, 1) := by decide +kernel
theorem dX7_copy_77 : decode cX7_copy 77 = .ok (.iload 5, 2) := by decide +kernel
theorem dX7_copy_79 : decode cX7_copy 79 = .ok (.i2l, 1) := by decide +kernel
theorem dX7_copy_80 : decode cX7_copy 80 = .ok (.lsub, 1) := by decide +kernel
theorem dX7_copy_81 : decode cX7_copy 81 = .ok (.invokestatic 60, 3) := by decide +kernel
theorem dX7_copy_84 : decode cX7_copy 84 = .ok (.ifCond .eq 24, 3) := by decide +kernel
theorem dX7_copy_87 : decode cX7_copy 87 = .ok (.iload 4, 2) := by decide +kernel
theorem dX7_copy_89 : decode cX7_copy 89 = .ok (.i2l, 1) := by decide +kernel
theorem dX7_copy_90 : decode cX7_copy 90 = .ok (.lconst 0, 1) := by decide +kernel
theorem dX7_copy_91 : decode cX7_copy 91 = .ok (.aload_n 0, 1) := by decide +kernel
theorem dX7_copy_92 : decode cX7_copy 92 = .ok (.getfield 13, 3) := by decide +kernel
theorem dX7_copy_95 : decode cX7_copy 95 = .ok (.iload_n 3, 1) := by decide +kernel
theorem dX7_copy_96 : decode cX7_copy 96 = .ok (.iaload, 1) := by decide +kernel
theorem dX7_copy_97 : decode cX7_copy 97 = .ok (.i2l, 1) := by decide +kernel
theorem dX7_copy_98 : decode cX7_copy 98 = .ok (.iload 5, 2) := by decide +kernel
theorem dX7_copy_100 : decode cX7_copy 100 = .ok (.i2l, 1) := by decide +kernel
theorem dX7_copy_101 : decode cX7_copy 101 = .ok (.lsub, 1) := by decide +kernel
theorem dX7_copy_102 : decode cX7_copy 102 = .ok (.invokestatic 60, 3) := by decide +kernel
theorem dX7_copy_105 : decode cX7_copy 105 = .ok (.ifCond .ne 9, 3) := by decide +kernel
theorem dX7_copy_108 : decode cX7_copy 108 = .ok (.aload_n 0, 1) := by decide +kernel
theorem dX7_copy_109 : decode cX7_copy 109 = .ok (.iconst 2, 1) := by decide +kernel
theorem dX7_copy_110 : decode cX7_copy 110 = .ok (.invokevirtual 71, 3) := by decide +kernel
theorem dX7_copy_113 : decode cX7_copy 113 = .ok (.ireturn, 1) := by decide +kernel
theorem dX7_copy_114 : decode cX7_copy 114 = .ok (.iconst 0, 1) := by decide +kernel
theorem dX7_copy_115 : decode cX7_copy 115 = .ok (.istore 6, 2) := by decide +kernel
theorem dX7_copy_117 : decode cX7_copy 117 = .ok (.iload 6, 2) := by decide +kernel
theorem dX7_copy_119 : decode cX7_copy 119 = .ok (.iload 5, 2) := by decide +kernel
theorem dX7_copy_121 : decode cX7_copy 121 = .ok (.if_icmp .ge 30, 3) := by decide +kernel
theorem dX7_copy_124 : decode cX7_copy 124 = .ok (.aload_n 0, 1) := by decide +kernel
theorem dX7_copy_125 : decode cX7_copy 125 = .ok (.getfield 22, 3) := by decide +kernel
theorem dX7_copy_128 : decode cX7_copy 128 = .ok (.iload 6, 2) := by decide +kernel
theorem dX7_copy_130 : decode cX7_copy 130 = .ok (.aload_n 0, 1) := by decide +kernel
theorem dX7_copy_131 : decode cX7_copy 131 = .ok (.getfield 16, 3) := by decide +kernel
theorem dX7_copy_134 : decode cX7_copy 134 = .ok (.bipush 40, 2) := by decide +kernel
theorem dX7_copy_136 : decode cX7_copy 136 = .ok (.iload_n 1, 1) := by decide +kernel
theorem dX7_copy_137 : decode cX7_copy 137 = .ok (.imul, 1) := by decide +kernel
theorem dX7_copy_138 : decode cX7_copy 138 = .ok (.iload_n 2, 1) := by decide +kernel
theorem dX7_copy_139 : decode cX7_copy 139 = .ok (.iadd, 1) := by decide +kernel
theorem dX7_copy_140 : decode cX7_copy 140 = .ok (.iload 6, 2) := by decide +kernel
theorem dX7_copy_142 : decode cX7_copy 142 = .ok (.iadd, 1) := by decide +kernel
theorem dX7_copy_143 : decode cX7_copy 143 = .ok (.iaload, 1) := by decide +kernel
theorem dX7_copy_144 : decode cX7_copy 144 = .ok (.iastore, 1) := by decide +kernel
theorem dX7_copy_145 : decode cX7_copy 145 = .ok (.iinc 6 1, 3) := by decide +kernel
theorem dX7_copy_148 : decode cX7_copy 148 = .ok (.goto (-31), 3) := by decide +kernel
theorem dX7_copy_151 : decode cX7_copy 151 = .ok (.iconst 0, 1) := by decide +kernel
theorem dX7_copy_152 : decode cX7_copy 152 = .ok (.istore 6, 2) := by decide +kernel
theorem dX7_copy_154 : decode cX7_copy 154 = .ok (.iload 6, 2) := by decide +kernel
theorem dX7_copy_156 : decode cX7_copy 156 = .ok (.iload 5, 2) := by decide +kernel
theorem dX7_copy_158 : decode cX7_copy 158 = .ok (.if_icmp .ge 31, 3) := by decide +kernel
theorem dX7_copy_161 : decode cX7_copy 161 = .ok (.aload_n 0, 1) := by decide +kernel
theorem dX7_copy_162 : decode cX7_copy 162 = .ok (.getfield 16, 3) := by decide +kernel
theorem dX7_copy_165 : decode cX7_copy 165 = .ok (.bipush 40, 2) := by decide +kernel
theorem dX7_copy_167 : decode cX7_copy 167 = .ok (.iload_n 3, 1) := by decide +kernel
theorem dX7_copy_168 : decode cX7_copy 168 = .ok (.imul, 1) := by decide +kernel
theorem dX7_copy_169 : decode cX7_copy 169 = .ok (.iload 4, 2) := by decide +kernel
theorem dX7_copy_171 : decode cX7_copy 171 = .ok (.iadd, 1) := by decide +kernel
theorem dX7_copy_172 : decode cX7_copy 172 = .ok (.iload 6, 2) := by decide +kernel
theorem dX7_copy_174 : decode cX7_copy 174 = .ok (.iadd, 1) := by decide +kernel
theorem dX7_copy_175 : decode cX7_copy 175 = .ok (.aload_n 0, 1) := by decide +kernel
theorem dX7_copy_176 : decode cX7_copy 176 = .ok (.getfield 22, 3) := by decide +kernel
theorem dX7_copy_179 : decode cX7_copy 179 = .ok (.iload 6, 2) := by decide +kernel
theorem dX7_copy_181 : decode cX7_copy 181 = .ok (.iaload, 1) := by decide +kernel
theorem dX7_copy_182 : decode cX7_copy 182 = .ok (.iastore, 1) := by decide +kernel
theorem dX7_copy_183 : decode cX7_copy 183 = .ok (.iinc 6 1, 3) := by decide +kernel
theorem dX7_copy_186 : decode cX7_copy 186 = .ok (.goto (-32), 3) := by decide +kernel
theorem dX7_copy_189 : decode cX7_copy 189 = .ok (.aload_n 0, 1) := by decide +kernel
theorem dX7_copy_190 : decode cX7_copy 190 = .ok (.iload 5, 2) := by decide +kernel
theorem dX7_copy_192 : decode cX7_copy 192 = .ok (.invokevirtual 75, 3) := by decide +kernel
theorem dX7_copy_195 : decode cX7_copy 195 = .ok (.ireturn, 1) := by decide +kernel
theorem dX7_drop_0 : decode cX7_drop 0 = .ok (.iload_n 1, 1) := by decide +kernel
theorem dX7_drop_1 : decode cX7_drop 1 = .ok (.invokestatic 64, 3) := by decide +kernel
theorem dX7_drop_4 : decode cX7_drop 4 = .ok (.ifCond .ne 6, 3) := by decide +kernel
theorem dX7_drop_7 : decode cX7_drop 7 = .ok (.ldc 70, 2) := by decide +kernel
theorem dX7_drop_9 : decode cX7_drop 9 = .ok (.ireturn, 1) := by decide +kernel
theorem dX7_drop_10 : decode cX7_drop 10 = .ok (.aload_n 0, 1) := by decide +kernel
theorem dX7_drop_11 : decode cX7_drop 11 = .ok (.getfield 13, 3) := by decide +kernel
theorem dX7_drop_14 : decode cX7_drop 14 = .ok (.iload_n 1, 1) := by decide +kernel
theorem dX7_drop_15 : decode cX7_drop 15 = .ok (.iaload, 1) := by decide +kernel
theorem dX7_drop_16 : decode cX7_drop 16 = .ok (.ifCond .ge 9, 3) := by decide +kernel
theorem dX7_drop_19 : decode cX7_drop 19 = .ok (.aload_n 0, 1) := by decide +kernel
theorem dX7_drop_20 : decode cX7_drop 20 = .ok (.iconst 1, 1) := by decide +kernel
theorem dX7_drop_21 : decode cX7_drop 21 = .ok (.invokevirtual 71, 3) := by decide +kernel
theorem dX7_drop_24 : decode cX7_drop 24 = .ok (.ireturn, 1) := by decide +kernel
theorem dX7_drop_25 : decode cX7_drop 25 = .ok (.aload_n 0, 1) := by decide +kernel
theorem dX7_drop_26 : decode cX7_drop 26 = .ok (.getfield 13, 3) := by decide +kernel
theorem dX7_drop_29 : decode cX7_drop 29 = .ok (.iload_n 1, 1) := by decide +kernel
theorem dX7_drop_30 : decode cX7_drop 30 = .ok (.iaload, 1) := by decide +kernel
theorem dX7_drop_31 : decode cX7_drop 31 = .ok (.istore_n 2, 1) := by decide +kernel
theorem dX7_drop_32 : decode cX7_drop 32 = .ok (.aload_n 0, 1) := by decide +kernel
theorem dX7_drop_33 : decode cX7_drop 33 = .ok (.getfield 13, 3) := by decide +kernel
theorem dX7_drop_36 : decode cX7_drop 36 = .ok (.iload_n 1, 1) := by decide +kernel
theorem dX7_drop_37 : decode cX7_drop 37 = .ok (.iconst (-1), 1) := by decide +kernel
theorem dX7_drop_38 : decode cX7_drop 38 = .ok (.iastore, 1) := by decide +kernel
theorem dX7_drop_39 : decode cX7_drop 39 = .ok (.aload_n 0, 1) := by decide +kernel
theorem dX7_drop_40 : decode cX7_drop 40 = .ok (.iload_n 2, 1) := by decide +kernel
theorem dX7_drop_41 : decode cX7_drop 41 = .ok (.invokevirtual 75, 3) := by decide +kernel
theorem dX7_drop_44 : decode cX7_drop 44 = .ok (.ireturn, 1) := by decide +kernel
theorem dX7_feed_0 : decode cX7_feed 0 = .ok (.iload_n 1, 1) := by decide +kernel
theorem dX7_feed_1 : decode cX7_feed 1 = .ok (.i2l, 1) := by decide +kernel
theorem dX7_feed_2 : decode cX7_feed 2 = .ok (.lconst 0, 1) := by decide +kernel
theorem dX7_feed_3 : decode cX7_feed 3 = .ok (.ldc2_w 82, 3) := by decide +kernel
theorem dX7_feed_6 : decode cX7_feed 6 = .ok (.invokestatic 60, 3) := by decide +kernel
theorem dX7_feed_9 : decode cX7_feed 9 = .ok (.ifCond .ne 6, 3) := by decide +kernel
theorem dX7_feed_12 : decode cX7_feed 12 = .ok (.ldc 70, 2) := by decide +kernel
theorem dX7_feed_14 : decode cX7_feed 14 = .ok (.ireturn, 1) := by decide +kernel
theorem dX7_feed_15 : decode cX7_feed 15 = .ok (.aload_n 0, 1) := by decide +kernel
theorem dX7_feed_16 : decode cX7_feed 16 = .ok (.getfield 84, 3) := by decide +kernel
theorem dX7_feed_19 : decode cX7_feed 19 = .ok (.bipush 120, 2) := by decide +kernel
theorem dX7_feed_21 : decode cX7_feed 21 = .ok (.if_icmp .ne 6, 3) := by decide +kernel
theorem dX7_feed_24 : decode cX7_feed 24 = .ok (.ldc 87, 2) := by decide +kernel
theorem dX7_feed_26 : decode cX7_feed 26 = .ok (.ireturn, 1) := by decide +kernel
theorem dX7_feed_27 : decode cX7_feed 27 = .ok (.aload_n 0, 1) := by decide +kernel
theorem dX7_feed_28 : decode cX7_feed 28 = .ok (.getfield 25, 3) := by decide +kernel
theorem dX7_feed_31 : decode cX7_feed 31 = .ok (.aload_n 0, 1) := by decide +kernel
theorem dX7_feed_32 : decode cX7_feed 32 = .ok (.getfield 84, 3) := by decide +kernel
theorem dX7_feed_35 : decode cX7_feed 35 = .ok (.iload_n 1, 1) := by decide +kernel
theorem dX7_feed_36 : decode cX7_feed 36 = .ok (.iastore, 1) := by decide +kernel
theorem dX7_feed_37 : decode cX7_feed 37 = .ok (.aload_n 0, 1) := by decide +kernel
theorem dX7_feed_38 : decode cX7_feed 38 = .ok (.dup, 1) := by decide +kernel
theorem dX7_feed_39 : decode cX7_feed 39 = .ok (.getfield 84, 3) := by decide +kernel
theorem dX7_feed_42 : decode cX7_feed 42 = .ok (.iconst 1, 1) := by decide +kernel
theorem dX7_feed_43 : decode cX7_feed 43 = .ok (.iadd, 1) := by decide +kernel
theorem dX7_feed_44 : decode cX7_feed 44 = .ok (.putfield 84, 3) := by decide +kernel
theorem dX7_feed_47 : decode cX7_feed 47 = .ok (.aload_n 0, 1) := by decide +kernel
theorem dX7_feed_48 : decode cX7_feed 48 = .ok (.getfield 84, 3) := by decide +kernel
theorem dX7_feed_51 : decode cX7_feed 51 = .ok (.ireturn, 1) := by decide +kernel
theorem dX7_nextToken_0 : decode cX7_nextToken 0 = .ok (.aload_n 0, 1) := by decide +kernel
theorem dX7_nextToken_1 : decode cX7_nextToken 1 = .ok (.aload_n 0, 1) := by decide +kernel
theorem dX7_nextToken_2 : decode cX7_nextToken 2 = .ok (.getfield 88, 3) := by decide +kernel
theorem dX7_nextToken_5 : decode cX7_nextToken 5 = .ok (.putfield 91, 3) := by decide +kernel
theorem dX7_nextToken_8 : decode cX7_nextToken 8 = .ok (.aload_n 0, 1) := by decide +kernel
theorem dX7_nextToken_9 : decode cX7_nextToken 9 = .ok (.aload_n 0, 1) := by decide +kernel
theorem dX7_nextToken_10 : decode cX7_nextToken 10 = .ok (.getfield 88, 3) := by decide +kernel
theorem dX7_nextToken_13 : decode cX7_nextToken 13 = .ok (.aload_n 0, 1) := by decide +kernel
theorem dX7_nextToken_14 : decode cX7_nextToken 14 = .ok (.getfield 84, 3) := by decide +kernel
theorem dX7_nextToken_17 : decode cX7_nextToken 17 = .ok (.if_icmp .ne 7, 3) := by decide +kernel
theorem dX7_nextToken_20 : decode cX7_nextToken 20 = .ok (.iconst 3, 1) := by decide +kernel
theorem dX7_nextToken_21 : decode cX7_nextToken 21 = .ok (.goto 4, 3) := by decide +kernel
theorem dX7_nextToken_24 : decode cX7_nextToken 24 = .ok (.iconst 0, 1) := by decide +kernel
theorem dX7_nextToken_25 : decode cX7_nextToken 25 = .ok (.putfield 94, 3) := by decide +kernel
theorem dX7_nextToken_28 : decode cX7_nextToken 28 = .ok (.aload_n 0, 1) := by decide +kernel
theorem dX7_nextToken_29 : decode cX7_nextToken 29 = .ok (.iconst 0, 1) := by decide +kernel
theorem dX7_nextToken_30 : decode cX7_nextToken 30 = .ok (.putfield 97, 3) := by decide +kernel
theorem dX7_nextToken_33 : decode cX7_nextToken 33 = .ok (.aload_n 0, 1) := by decide +kernel
theorem dX7_nextToken_34 : decode cX7_nextToken 34 = .ok (.getfield 88, 3) := by decide +kernel
theorem dX7_nextToken_37 : decode cX7_nextToken 37 = .ok (.aload_n 0, 1) := by decide +kernel
theorem dX7_nextToken_38 : decode cX7_nextToken 38 = .ok (.getfield 84, 3) := by decide +kernel
theorem dX7_nextToken_41 : decode cX7_nextToken 41 = .ok (.if_icmp .ge 78, 3) := by decide +kernel
theorem dX7_nextToken_44 : decode cX7_nextToken 44 = .ok (.aload_n 0, 1) := by decide +kernel
theorem dX7_nextToken_45 : decode cX7_nextToken 45 = .ok (.getfield 25, 3) := by decide +kernel
theorem dX7_nextToken_48 : decode cX7_nextToken 48 = .ok (.aload_n 0, 1) := by decide +kernel
theorem dX7_nextToken_49 : decode cX7_nextToken 49 = .ok (.getfield 88, 3) := by decide +kernel
theorem dX7_nextToken_52 : decode cX7_nextToken 52 = .ok (.iaload, 1) := by decide +kernel
theorem dX7_nextToken_53 : decode cX7_nextToken 53 = .ok (.i2l, 1) := by decide +kernel
theorem dX7_nextToken_54 : decode cX7_nextToken 54 = .ok (.ldc2_w 100, 3) := by decide +kernel
theorem dX7_nextToken_57 : decode cX7_nextToken 57 = .ok (.ldc2_w 102, 3) := by decide +kernel
theorem dX7_nextToken_60 : decode cX7_nextToken 60 = .ok (.invokestatic 60, 3) := by decide +kernel
theorem dX7_nextToken_63 : decode cX7_nextToken 63 = .ok (.ifCond .eq 56, 3) := by decide +kernel
theorem dX7_nextToken_66 : decode cX7_nextToken 66 = .ok (.aload_n 0, 1) := by decide +kernel
theorem dX7_nextToken_67 : decode cX7_nextToken 67 = .ok (.aload_n 0, 1) := by decide +kernel
theorem dX7_nextToken_68 : decode cX7_nextToken 68 = .ok (.getfield 97, 3) := by decide +kernel
theorem dX7_nextToken_71 : decode cX7_nextToken 71 = .ok (.bipush 99, 2) := by decide +kernel
theorem dX7_nextToken_73 : decode cX7_nextToken 73 = .ok (.if_icmp .le 10, 3) := by decide +kernel
theorem dX7_nextToken_76 : decode cX7_nextToken 76 = .ok (.aload_n 0, 1) := by decide +kernel
theorem dX7_nextToken_77 : decode cX7_nextToken 77 = .ok (.getfield 97, 3) := by decide +kernel
theorem dX7_nextToken_80 : decode cX7_nextToken 80 = .ok (.goto 23, 3) := by decide +kernel
theorem dX7_nextToken_83 : decode cX7_nextToken 83 = .ok (.bipush 10, 2) := by decide +kernel
theorem dX7_nextToken_85 : decode cX7_nextToken 85 = .ok (.aload_n 0, 1) := by decide +kernel
theorem dX7_nextToken_86 : decode cX7_nextToken 86 = .ok (.getfield 97, 3) := by decide +kernel
theorem dX7_nextToken_89 : decode cX7_nextToken 89 = .ok (.imul, 1) := by decide +kernel
theorem dX7_nextToken_90 : decode cX7_nextToken 90 = .ok (.aload_n 0, 1) := by decide +kernel
theorem dX7_nextToken_91 : decode cX7_nextToken 91 = .ok (.getfield 25, 3) := by decide +kernel
theorem dX7_nextToken_94 : decode cX7_nextToken 94 = .ok (.aload_n 0, 1) := by decide +kernel
theorem dX7_nextToken_95 : decode cX7_nextToken 95 = .ok (.getfield 88, 3) := by decide +kernel
theorem dX7_nextToken_98 : decode cX7_nextToken 98 = .ok (.iaload, 1) := by decide +kernel
theorem dX7_nextToken_99 : decode cX7_nextToken 99 = .ok (.iadd, 1) := by decide +kernel
theorem dX7_nextToken_100 : decode cX7_nextToken 100 = .ok (.bipush 48, 2) := by decide +kernel
theorem dX7_nextToken_102 : decode cX7_nextToken 102 = .ok (.isub, 1) := by decide +kernel
theorem dX7_nextToken_103 : decode cX7_nextToken 103 = .ok (.putfield 97, 3) := by decide +kernel
theorem dX7_nextToken_106 : decode cX7_nextToken 106 = .ok (.aload_n 0, 1) := by decide +kernel
theorem dX7_nextToken_107 : decode cX7_nextToken 107 = .ok (.dup, 1) := by decide +kernel
theorem dX7_nextToken_108 : decode cX7_nextToken 108 = .ok (.getfield 88, 3) := by decide +kernel
theorem dX7_nextToken_111 : decode cX7_nextToken 111 = .ok (.iconst 1, 1) := by decide +kernel
theorem dX7_nextToken_112 : decode cX7_nextToken 112 = .ok (.iadd, 1) := by decide +kernel
theorem dX7_nextToken_113 : decode cX7_nextToken 113 = .ok (.putfield 88, 3) := by decide +kernel
theorem dX7_nextToken_116 : decode cX7_nextToken 116 = .ok (.goto (-83), 3) := by decide +kernel
theorem dX7_nextToken_119 : decode cX7_nextToken 119 = .ok (.aload_n 0, 1) := by decide +kernel
theorem dX7_nextToken_120 : decode cX7_nextToken 120 = .ok (.getfield 88, 3) := by decide +kernel
theorem dX7_nextToken_123 : decode cX7_nextToken 123 = .ok (.aload_n 0, 1) := by decide +kernel
theorem dX7_nextToken_124 : decode cX7_nextToken 124 = .ok (.getfield 91, 3) := by decide +kernel
theorem dX7_nextToken_127 : decode cX7_nextToken 127 = .ok (.if_icmp .le 28, 3) := by decide +kernel
theorem dX7_nextToken_130 : decode cX7_nextToken 130 = .ok (.aload_n 0, 1) := by decide +kernel
theorem dX7_nextToken_131 : decode cX7_nextToken 131 = .ok (.aload_n 0, 1) := by decide +kernel
theorem dX7_nextToken_132 : decode cX7_nextToken 132 = .ok (.getfield 88, 3) := by decide +kernel
theorem dX7_nextToken_135 : decode cX7_nextToken 135 = .ok (.aload_n 0, 1) := by decide +kernel
theorem dX7_nextToken_136 : decode cX7_nextToken 136 = .ok (.getfield 91, 3) := by decide +kernel
theorem dX7_nextToken_139 : decode cX7_nextToken 139 = .ok (.isub, 1) := by decide +kernel
theorem dX7_nextToken_140 : decode cX7_nextToken 140 = .ok (.iconst 2, 1) := by decide +kernel
theorem dX7_nextToken_141 : decode cX7_nextToken 141 = .ok (.if_icmp .le 7, 3) := by decide +kernel
theorem dX7_nextToken_144 : decode cX7_nextToken 144 = .ok (.iconst 0, 1) := by decide +kernel
theorem dX7_nextToken_145 : decode cX7_nextToken 145 = .ok (.goto 4, 3) := by decide +kernel
theorem dX7_nextToken_148 : decode cX7_nextToken 148 = .ok (.iconst 2, 1) := by decide +kernel
theorem dX7_nextToken_149 : decode cX7_nextToken 149 = .ok (.putfield 94, 3) := by decide +kernel
theorem dX7_nextToken_152 : decode cX7_nextToken 152 = .ok (.goto 77, 3) := by decide +kernel
theorem dX7_nextToken_155 : decode cX7_nextToken 155 = .ok (.aload_n 0, 1) := by decide +kernel
theorem dX7_nextToken_156 : decode cX7_nextToken 156 = .ok (.getfield 94, 3) := by decide +kernel
theorem dX7_nextToken_159 : decode cX7_nextToken 159 = .ok (.ifCond .ne 70, 3) := by decide +kernel
theorem dX7_nextToken_162 : decode cX7_nextToken 162 = .ok (.aload_n 0, 1) := by decide +kernel
theorem dX7_nextToken_163 : decode cX7_nextToken 163 = .ok (.aload_n 0, 1) := by decide +kernel
theorem dX7_nextToken_164 : decode cX7_nextToken 164 = .ok (.getfield 25, 3) := by decide +kernel
theorem dX7_nextToken_167 : decode cX7_nextToken 167 = .ok (.aload_n 0, 1) := by decide +kernel
theorem dX7_nextToken_168 : decode cX7_nextToken 168 = .ok (.getfield 88, 3) := by decide +kernel
theorem dX7_nextToken_171 : decode cX7_nextToken 171 = .ok (.iaload, 1) := by decide +kernel
theorem dX7_nextToken_172 : decode cX7_nextToken 172 = .ok (.putfield 97, 3) := by decide +kernel
theorem dX7_nextToken_175 : decode cX7_nextToken 175 = .ok (.aload_n 0, 1) := by decide +kernel
theorem dX7_nextToken_176 : decode cX7_nextToken 176 = .ok (.aload_n 0, 1) := by decide +kernel
theorem dX7_nextToken_177 : decode cX7_nextToken 177 = .ok (.getfield 97, 3) := by decide +kernel
theorem dX7_nextToken_180 : decode cX7_nextToken 180 = .ok (.i2l, 1) := by decide +kernel
theorem dX7_nextToken_181 : decode cX7_nextToken 181 = .ok (.ldc2_w 104, 3) := by decide +kernel
theorem dX7_nextToken_184 : decode cX7_nextToken 184 = .ok (.ldc2_w 106, 3) := by decide +kernel
theorem dX7_nextToken_187 : decode cX7_nextToken 187 = .ok (.invokestatic 60, 3) := by decide +kernel
theorem dX7_nextToken_190 : decode cX7_nextToken 190 = .ok (.ifCond .ne 21, 3) := by decide +kernel
theorem dX7_nextToken_193 : decode cX7_nextToken 193 = .ok (.aload_n 0, 1) := by decide +kernel
theorem dX7_nextToken_194 : decode cX7_nextToken 194 = .ok (.getfield 97, 3) := by decide +kernel
theorem dX7_nextToken_197 : decode cX7_nextToken 197 = .ok (.bipush 44, 2) := by decide +kernel
theorem dX7_nextToken_199 : decode cX7_nextToken 199 = .ok (.if_icmp .eq 12, 3) := by decide +kernel
theorem dX7_nextToken_202 : decode cX7_nextToken 202 = .ok (.aload_n 0, 1) := by decide +kernel
theorem dX7_nextToken_203 : decode cX7_nextToken 203 = .ok (.getfield 97, 3) := by decide +kernel
theorem dX7_nextToken_206 : decode cX7_nextToken 206 = .ok (.bipush 59, 2) := by decide +kernel
theorem dX7_nextToken_208 : decode cX7_nextToken 208 = .ok (.if_icmp .ne 7, 3) := by decide +kernel
theorem dX7_nextToken_211 : decode cX7_nextToken 211 = .ok (.iconst 1, 1) := by decide +kernel
theorem dX7_nextToken_212 : decode cX7_nextToken 212 = .ok (.goto 4, 3) := by decide +kernel
theorem dX7_nextToken_215 : decode cX7_nextToken 215 = .ok (.iconst 0, 1) := by decide +kernel
theorem dX7_nextToken_216 : decode cX7_nextToken 216 = .ok (.putfield 94, 3) := by decide +kernel
theorem dX7_nextToken_219 : decode cX7_nextToken 219 = .ok (.aload_n 0, 1) := by decide +kernel
theorem dX7_nextToken_220 : decode cX7_nextToken 220 = .ok (.dup, 1) := by decide +kernel
theorem dX7_nextToken_221 : decode cX7_nextToken 221 = .ok (.getfield 88, 3) := by decide +kernel
theorem dX7_nextToken_224 : decode cX7_nextToken 224 = .ok (.iconst 1, 1) := by decide +kernel
theorem dX7_nextToken_225 : decode cX7_nextToken 225 = .ok (.iadd, 1) := by decide +kernel
theorem dX7_nextToken_226 : decode cX7_nextToken 226 = .ok (.putfield 88, 3) := by decide +kernel
theorem dX7_nextToken_229 : decode cX7_nextToken 229 = .ok (.return_, 1) := by decide +kernel
theorem dX7_faults_0 : decode cX7_faults 0 = .ok (.aload_n 0, 1) := by decide +kernel
theorem dX7_faults_1 : decode cX7_faults 1 = .ok (.iload_n 1, 1) := by decide +kernel
theorem dX7_faults_2 : decode cX7_faults 2 = .ok (.putfield 108, 3) := by decide +kernel
theorem dX7_faults_5 : decode cX7_faults 5 = .ok (.iconst 0, 1) := by decide +kernel
theorem dX7_faults_6 : decode cX7_faults 6 = .ok (.ireturn, 1) := by decide +kernel
theorem dX7_isLetter_0 : decode cX7_isLetter 0 = .ok (.aload_n 0, 1) := by decide +kernel
theorem dX7_isLetter_1 : decode cX7_isLetter 1 = .ok (.getfield 94, 3) := by decide +kernel
theorem dX7_isLetter_4 : decode cX7_isLetter 4 = .ok (.iconst 1, 1) := by decide +kernel
theorem dX7_isLetter_5 : decode cX7_isLetter 5 = .ok (.if_icmp .ne 15, 3) := by decide +kernel
theorem dX7_isLetter_8 : decode cX7_isLetter 8 = .ok (.aload_n 0, 1) := by decide +kernel
theorem dX7_isLetter_9 : decode cX7_isLetter 9 = .ok (.getfield 97, 3) := by decide +kernel
theorem dX7_isLetter_12 : decode cX7_isLetter 12 = .ok (.iload_n 1, 1) := by decide +kernel
theorem dX7_isLetter_13 : decode cX7_isLetter 13 = .ok (.if_icmp .ne 7, 3) := by decide +kernel
theorem dX7_isLetter_16 : decode cX7_isLetter 16 = .ok (.iconst 1, 1) := by decide +kernel
theorem dX7_isLetter_17 : decode cX7_isLetter 17 = .ok (.goto 4, 3) := by decide +kernel
theorem dX7_isLetter_20 : decode cX7_isLetter 20 = .ok (.iconst 0, 1) := by decide +kernel
theorem dX7_isLetter_21 : decode cX7_isLetter 21 = .ok (.ireturn, 1) := by decide +kernel
theorem dX7_takes_0 : decode cX7_takes 0 = .ok (.aload_n 0, 1) := by decide +kernel
theorem dX7_takes_1 : decode cX7_takes 1 = .ok (.iload_n 1, 1) := by decide +kernel
theorem dX7_takes_2 : decode cX7_takes 2 = .ok (.invokevirtual 111, 3) := by decide +kernel
theorem dX7_takes_5 : decode cX7_takes 5 = .ok (.ifCond .ne 9, 3) := by decide +kernel
theorem dX7_takes_8 : decode cX7_takes 8 = .ok (.aload_n 0, 1) := by decide +kernel
theorem dX7_takes_9 : decode cX7_takes 9 = .ok (.iconst 1, 1) := by decide +kernel
theorem dX7_takes_10 : decode cX7_takes 10 = .ok (.invokevirtual 114, 3) := by decide +kernel
theorem dX7_takes_13 : decode cX7_takes 13 = .ok (.ireturn, 1) := by decide +kernel
theorem dX7_takes_14 : decode cX7_takes 14 = .ok (.aload_n 0, 1) := by decide +kernel
theorem dX7_takes_15 : decode cX7_takes 15 = .ok (.invokevirtual 117, 3) := by decide +kernel
theorem dX7_takes_18 : decode cX7_takes 18 = .ok (.iconst 1, 1) := by decide +kernel
theorem dX7_takes_19 : decode cX7_takes 19 = .ok (.ireturn, 1) := by decide +kernel
theorem dX7_isNumber_0 : decode cX7_isNumber 0 = .ok (.aload_n 0, 1) := by decide +kernel
theorem dX7_isNumber_1 : decode cX7_isNumber 1 = .ok (.getfield 94, 3) := by decide +kernel
theorem dX7_isNumber_4 : decode cX7_isNumber 4 = .ok (.iconst 2, 1) := by decide +kernel
theorem dX7_isNumber_5 : decode cX7_isNumber 5 = .ok (.if_icmp .ne 34, 3) := by decide +kernel
theorem dX7_isNumber_8 : decode cX7_isNumber 8 = .ok (.aload_n 0, 1) := by decide +kernel
theorem dX7_isNumber_9 : decode cX7_isNumber 9 = .ok (.getfield 97, 3) := by decide +kernel
theorem dX7_isNumber_12 : decode cX7_isNumber 12 = .ok (.i2l, 1) := by decide +kernel
theorem dX7_isNumber_13 : decode cX7_isNumber 13 = .ok (.iload_n 1, 1) := by decide +kernel
theorem dX7_isNumber_14 : decode cX7_isNumber 14 = .ok (.i2l, 1) := by decide +kernel
theorem dX7_isNumber_15 : decode cX7_isNumber 15 = .ok (.iload_n 2, 1) := by decide +kernel
theorem dX7_isNumber_16 : decode cX7_isNumber 16 = .ok (.i2l, 1) := by decide +kernel
theorem dX7_isNumber_17 : decode cX7_isNumber 17 = .ok (.invokestatic 60, 3) := by decide +kernel
theorem dX7_isNumber_20 : decode cX7_isNumber 20 = .ok (.ifCond .ne 11, 3) := by decide +kernel
theorem dX7_isNumber_23 : decode cX7_isNumber 23 = .ok (.aload_n 0, 1) := by decide +kernel
theorem dX7_isNumber_24 : decode cX7_isNumber 24 = .ok (.iconst 2, 1) := by decide +kernel
theorem dX7_isNumber_25 : decode cX7_isNumber 25 = .ok (.invokevirtual 114, 3) := by decide +kernel
theorem dX7_isNumber_28 : decode cX7_isNumber 28 = .ok (.ifCond .eq 7, 3) := by decide +kernel
theorem dX7_isNumber_31 : decode cX7_isNumber 31 = .ok (.iconst 1, 1) := by decide +kernel
theorem dX7_isNumber_32 : decode cX7_isNumber 32 = .ok (.goto 12, 3) := by decide +kernel
theorem dX7_isNumber_35 : decode cX7_isNumber 35 = .ok (.iconst 0, 1) := by decide +kernel
theorem dX7_isNumber_36 : decode cX7_isNumber 36 = .ok (.goto 8, 3) := by decide +kernel
theorem dX7_isNumber_39 : decode cX7_isNumber 39 = .ok (.aload_n 0, 1) := by decide +kernel
theorem dX7_isNumber_40 : decode cX7_isNumber 40 = .ok (.iconst 1, 1) := by decide +kernel
theorem dX7_isNumber_41 : decode cX7_isNumber 41 = .ok (.invokevirtual 114, 3) := by decide +kernel
theorem dX7_isNumber_44 : decode cX7_isNumber 44 = .ok (.ireturn, 1) := by decide +kernel
theorem dX7_taken_0 : decode cX7_taken 0 = .ok (.aload_n 0, 1) := by decide +kernel
theorem dX7_taken_1 : decode cX7_taken 1 = .ok (.getfield 97, 3) := by decide +kernel
theorem dX7_taken_4 : decode cX7_taken 4 = .ok (.istore_n 1, 1) := by decide +kernel
theorem dX7_taken_5 : decode cX7_taken 5 = .ok (.aload_n 0, 1) := by decide +kernel
theorem dX7_taken_6 : decode cX7_taken 6 = .ok (.invokevirtual 117, 3) := by decide +kernel
theorem dX7_taken_9 : decode cX7_taken 9 = .ok (.iload_n 1, 1) := by decide +kernel
theorem dX7_taken_10 : decode cX7_taken 10 = .ok (.ireturn, 1) := by decide +kernel
theorem dX7_readWind_0 : decode cX7_readWind 0 = .ok (.aload_n 0, 1) := by decide +kernel
theorem dX7_readWind_1 : decode cX7_readWind 1 = .ok (.iload_n 1, 1) := by decide +kernel
theorem dX7_readWind_2 : decode cX7_readWind 2 = .ok (.invokevirtual 120, 3) := by decide +kernel
theorem dX7_readWind_5 : decode cX7_readWind 5 = .ok (.ifCond .ne 5, 3) := by decide +kernel
theorem dX7_readWind_8 : decode cX7_readWind 8 = .ok (.iconst 0, 1) := by decide +kernel
theorem dX7_readWind_9 : decode cX7_readWind 9 = .ok (.ireturn, 1) := by decide +kernel
theorem dX7_readWind_10 : decode cX7_readWind 10 = .ok (.iconst 0, 1) := by decide +kernel
theorem dX7_readWind_11 : decode cX7_readWind 11 = .ok (.istore_n 3, 1) := by decide +kernel
theorem dX7_readWind_12 : decode cX7_readWind 12 = .ok (.iload_n 3, 1) := by decide +kernel
theorem dX7_readWind_13 : decode cX7_readWind 13 = .ok (.bipush 6, 2) := by decide +kernel
theorem dX7_readWind_15 : decode cX7_readWind 15 = .ok (.if_icmp .ge 102, 3) := by decide +kernel
theorem dX7_readWind_18 : decode cX7_readWind 18 = .ok (.aload_n 0, 1) := by decide +kernel
theorem dX7_readWind_19 : decode cX7_readWind 19 = .ok (.bipush 111, 2) := by decide +kernel
theorem dX7_readWind_21 : decode cX7_readWind 21 = .ok (.invokevirtual 111, 3) := by decide +kernel
theorem dX7_readWind_24 : decode cX7_readWind 24 = .ok (.ifCond .eq 7, 3) := by decide +kernel
theorem dX7_readWind_27 : decode cX7_readWind 27 = .ok (.iconst 0, 1) := by decide +kernel
theorem dX7_readWind_28 : decode cX7_readWind 28 = .ok (.goto 56, 3) := by decide +kernel
theorem dX7_readWind_31 : decode cX7_readWind 31 = .ok (.aload_n 0, 1) := by decide +kernel
theorem dX7_readWind_32 : decode cX7_readWind 32 = .ok (.bipush 101, 2) := by decide +kernel
theorem dX7_readWind_34 : decode cX7_readWind 34 = .ok (.invokevirtual 111, 3) := by decide +kernel
theorem dX7_readWind_37 : decode cX7_readWind 37 = .ok (.ifCond .eq 7, 3) := by decide +kernel
theorem dX7_readWind_40 : decode cX7_readWind 40 = .ok (.iconst 1, 1) := by decide +kernel
theorem dX7_readWind_41 : decode cX7_readWind 41 = .ok (.goto 43, 3) := by decide +kernel
theorem dX7_readWind_44 : decode cX7_readWind 44 = .ok (.aload_n 0, 1) := by decide +kernel
theorem dX7_readWind_45 : decode cX7_readWind 45 = .ok (.bipush 119, 2) := by decide +kernel
theorem dX7_readWind_47 : decode cX7_readWind 47 = .ok (.invokevirtual 111, 3) := by decide +kernel
theorem dX7_readWind_50 : decode cX7_readWind 50 = .ok (.ifCond .eq 7, 3) := by decide +kernel
theorem dX7_readWind_53 : decode cX7_readWind 53 = .ok (.iconst 2, 1) := by decide +kernel
theorem dX7_readWind_54 : decode cX7_readWind 54 = .ok (.goto 30, 3) := by decide +kernel
theorem dX7_readWind_57 : decode cX7_readWind 57 = .ok (.aload_n 0, 1) := by decide +kernel
theorem dX7_readWind_58 : decode cX7_readWind 58 = .ok (.bipush 115, 2) := by decide +kernel
theorem dX7_readWind_60 : decode cX7_readWind 60 = .ok (.invokevirtual 111, 3) := by decide +kernel
theorem dX7_readWind_63 : decode cX7_readWind 63 = .ok (.ifCond .eq 7, 3) := by decide +kernel
theorem dX7_readWind_66 : decode cX7_readWind 66 = .ok (.iconst 3, 1) := by decide +kernel
theorem dX7_readWind_67 : decode cX7_readWind 67 = .ok (.goto 17, 3) := by decide +kernel
theorem dX7_readWind_70 : decode cX7_readWind 70 = .ok (.aload_n 0, 1) := by decide +kernel
theorem dX7_readWind_71 : decode cX7_readWind 71 = .ok (.bipush 110, 2) := by decide +kernel
theorem dX7_readWind_73 : decode cX7_readWind 73 = .ok (.invokevirtual 111, 3) := by decide +kernel
theorem dX7_readWind_76 : decode cX7_readWind 76 = .ok (.ifCond .eq 7, 3) := by decide +kernel
theorem dX7_readWind_79 : decode cX7_readWind 79 = .ok (.iconst 4, 1) := by decide +kernel
theorem dX7_readWind_80 : decode cX7_readWind 80 = .ok (.goto 4, 3) := by decide +kernel
theorem dX7_readWind_83 : decode cX7_readWind 83 = .ok (.iconst (-1), 1) := by decide +kernel
theorem dX7_readWind_84 : decode cX7_readWind 84 = .ok (.istore 4, 2) := by decide +kernel
theorem dX7_readWind_86 : decode cX7_readWind 86 = .ok (.iload 4, 2) := by decide +kernel
theorem dX7_readWind_88 : decode cX7_readWind 88 = .ok (.ifCond .ge 9, 3) := by decide +kernel
theorem dX7_readWind_91 : decode cX7_readWind 91 = .ok (.aload_n 0, 1) := by decide +kernel
theorem dX7_readWind_92 : decode cX7_readWind 92 = .ok (.iconst 1, 1) := by decide +kernel
theorem dX7_readWind_93 : decode cX7_readWind 93 = .ok (.invokevirtual 114, 3) := by decide +kernel
theorem dX7_readWind_96 : decode cX7_readWind 96 = .ok (.ireturn, 1) := by decide +kernel
theorem dX7_readWind_97 : decode cX7_readWind 97 = .ok (.aload_n 0, 1) := by decide +kernel
theorem dX7_readWind_98 : decode cX7_readWind 98 = .ok (.getfield 28, 3) := by decide +kernel
theorem dX7_readWind_101 : decode cX7_readWind 101 = .ok (.iload_n 2, 1) := by decide +kernel
theorem dX7_readWind_102 : decode cX7_readWind 102 = .ok (.iload_n 3, 1) := by decide +kernel
theorem dX7_readWind_103 : decode cX7_readWind 103 = .ok (.iadd, 1) := by decide +kernel
theorem dX7_readWind_104 : decode cX7_readWind 104 = .ok (.iload 4, 2) := by decide +kernel
theorem dX7_readWind_106 : decode cX7_readWind 106 = .ok (.iastore, 1) := by decide +kernel
theorem dX7_readWind_107 : decode cX7_readWind 107 = .ok (.aload_n 0, 1) := by decide +kernel
theorem dX7_readWind_108 : decode cX7_readWind 108 = .ok (.invokevirtual 117, 3) := by decide +kernel
theorem dX7_readWind_111 : decode cX7_readWind 111 = .ok (.iinc 3 1, 3) := by decide +kernel
theorem dX7_readWind_114 : decode cX7_readWind 114 = .ok (.goto (-102), 3) := by decide +kernel
theorem dX7_readWind_117 : decode cX7_readWind 117 = .ok (.aload_n 0, 1) := by decide +kernel
theorem dX7_readWind_118 : decode cX7_readWind 118 = .ok (.bipush 59, 2) := by decide +kernel
theorem dX7_readWind_120 : decode cX7_readWind 120 = .ok (.invokevirtual 120, 3) := by decide +kernel
theorem dX7_readWind_123 : decode cX7_readWind 123 = .ok (.ireturn, 1) := by decide +kernel
theorem dX7_readLaw_0 : decode cX7_readLaw 0 = .ok (.aload_n 0, 1) := by decide +kernel
theorem dX7_readLaw_1 : decode cX7_readLaw 1 = .ok (.bipush 107, 2) := by decide +kernel
theorem dX7_readLaw_3 : decode cX7_readLaw 3 = .ok (.invokevirtual 120, 3) := by decide +kernel
theorem dX7_readLaw_6 : decode cX7_readLaw 6 = .ok (.ifCond .eq 13, 3) := by decide +kernel
theorem dX7_readLaw_9 : decode cX7_readLaw 9 = .ok (.aload_n 0, 1) := by decide +kernel
theorem dX7_readLaw_10 : decode cX7_readLaw 10 = .ok (.iconst 1, 1) := by decide +kernel
theorem dX7_readLaw_11 : decode cX7_readLaw 11 = .ok (.bipush 9, 2) := by decide +kernel
theorem dX7_readLaw_13 : decode cX7_readLaw 13 = .ok (.invokevirtual 123, 3) := by decide +kernel
theorem dX7_readLaw_16 : decode cX7_readLaw 16 = .ok (.ifCond .ne 5, 3) := by decide +kernel
theorem dX7_readLaw_19 : decode cX7_readLaw 19 = .ok (.iconst 0, 1) := by decide +kernel
theorem dX7_readLaw_20 : decode cX7_readLaw 20 = .ok (.ireturn, 1) := by decide +kernel
theorem dX7_readLaw_21 : decode cX7_readLaw 21 = .ok (.aload_n 0, 1) := by decide +kernel
theorem dX7_readLaw_22 : decode cX7_readLaw 22 = .ok (.getfield 28, 3) := by decide +kernel
theorem dX7_readLaw_25 : decode cX7_readLaw 25 = .ok (.bipush 44, 2) := by decide +kernel
theorem dX7_readLaw_27 : decode cX7_readLaw 27 = .ok (.aload_n 0, 1) := by decide +kernel
theorem dX7_readLaw_28 : decode cX7_readLaw 28 = .ok (.invokevirtual 127, 3) := by decide +kernel
theorem dX7_readLaw_31 : decode cX7_readLaw 31 = .ok (.iastore, 1) := by decide +kernel
theorem dX7_readLaw_32 : decode cX7_readLaw 32 = .ok (.aload_n 0, 1) := by decide +kernel
theorem dX7_readLaw_33 : decode cX7_readLaw 33 = .ok (.bipush 44, 2) := by decide +kernel
theorem dX7_readLaw_35 : decode cX7_readLaw 35 = .ok (.invokevirtual 120, 3) := by decide +kernel
theorem dX7_readLaw_38 : decode cX7_readLaw 38 = .ok (.ifCond .eq 13, 3) := by decide +kernel
theorem dX7_readLaw_41 : decode cX7_readLaw 41 = .ok (.aload_n 0, 1) := by decide +kernel
theorem dX7_readLaw_42 : decode cX7_readLaw 42 = .ok (.iconst 0, 1) := by decide +kernel
theorem dX7_readLaw_43 : decode cX7_readLaw 43 = .ok (.bipush 9, 2) := by decide +kernel
theorem dX7_readLaw_45 : decode cX7_readLaw 45 = .ok (.invokevirtual 123, 3) := by decide +kernel
theorem dX7_readLaw_48 : decode cX7_readLaw 48 = .ok (.ifCond .ne 5, 3) := by decide +kernel
theorem dX7_readLaw_51 : decode cX7_readLaw 51 = .ok (.iconst 0, 1) := by decide +kernel
theorem dX7_readLaw_52 : decode cX7_readLaw 52 = .ok (.ireturn, 1) := by decide +kernel
theorem dX7_readLaw_53 : decode cX7_readLaw 53 = .ok (.aload_n 0, 1) := by decide +kernel
theorem dX7_readLaw_54 : decode cX7_readLaw 54 = .ok (.getfield 28, 3) := by decide +kernel
theorem dX7_readLaw_57 : decode cX7_readLaw 57 = .ok (.bipush 45, 2) := by decide +kernel
theorem dX7_readLaw_59 : decode cX7_readLaw 59 = .ok (.aload_n 0, 1) := by decide +kernel
theorem dX7_readLaw_60 : decode cX7_readLaw 60 = .ok (.invokevirtual 127, 3) := by decide +kernel
theorem dX7_readLaw_63 : decode cX7_readLaw 63 = .ok (.iastore, 1) := by decide +kernel
theorem dX7_readLaw_64 : decode cX7_readLaw 64 = .ok (.aload_n 0, 1) := by decide +kernel
theorem dX7_readLaw_65 : decode cX7_readLaw 65 = .ok (.bipush 59, 2) := by decide +kernel
theorem dX7_readLaw_67 : decode cX7_readLaw 67 = .ok (.invokevirtual 120, 3) := by decide +kernel
theorem dX7_readLaw_70 : decode cX7_readLaw 70 = .ok (.ireturn, 1) := by decide +kernel
theorem dX7_readParish_0 : decode cX7_readParish 0 = .ok (.aload_n 0, 1) := by decide +kernel
theorem dX7_readParish_1 : decode cX7_readParish 1 = .ok (.getfield 28, 3) := by decide +kernel
theorem dX7_readParish_4 : decode cX7_readParish 4 = .ok (.bipush 49, 2) := by decide +kernel
theorem dX7_readParish_6 : decode cX7_readParish 6 = .ok (.iaload, 1) := by decide +kernel
theorem dX7_readParish_7 : decode cX7_readParish 7 = .ok (.bipush 8, 2) := by decide +kernel
theorem dX7_readParish_9 : decode cX7_readParish 9 = .ok (.if_icmp .ne 9, 3) := by decide +kernel
theorem dX7_readParish_12 : decode cX7_readParish 12 = .ok (.aload_n 0, 1) := by decide +kernel
theorem dX7_readParish_13 : decode cX7_readParish 13 = .ok (.iconst 3, 1) := by decide +kernel
theorem dX7_readParish_14 : decode cX7_readParish 14 = .ok (.invokevirtual 114, 3) := by decide +kernel
theorem dX7_readParish_17 : decode cX7_readParish 17 = .ok (.ireturn, 1) := by decide +kernel
theorem dX7_readParish_18 : decode cX7_readParish 18 = .ok (.aload_n 0, 1) := by decide +kernel
theorem dX7_readParish_19 : decode cX7_readParish 19 = .ok (.invokevirtual 117, 3) := by decide +kernel
theorem dX7_readParish_22 : decode cX7_readParish 22 = .ok (.aload_n 0, 1) := by decide +kernel
theorem dX7_readParish_23 : decode cX7_readParish 23 = .ok (.iconst 0, 1) := by decide +kernel
theorem dX7_readParish_24 : decode cX7_readParish 24 = .ok (.bipush 31, 2) := by decide +kernel
theorem dX7_readParish_26 : decode cX7_readParish 26 = .ok (.invokevirtual 123, 3) := by decide +kernel
theorem dX7_readParish_29 : decode cX7_readParish 29 = .ok (.ifCond .eq 26, 3) := by decide +kernel
theorem dX7_readParish_32 : decode cX7_readParish 32 = .ok (.aload_n 0, 1) := by decide +kernel
theorem dX7_readParish_33 : decode cX7_readParish 33 = .ok (.getfield 28, 3) := by decide +kernel
theorem dX7_readParish_36 : decode cX7_readParish 36 = .ok (.bipush 12, 2) := by decide +kernel
theorem dX7_readParish_38 : decode cX7_readParish 38 = .ok (.aload_n 0, 1) := by decide +kernel
theorem dX7_readParish_39 : decode cX7_readParish 39 = .ok (.getfield 97, 3) := by decide +kernel
theorem dX7_readParish_42 : decode cX7_readParish 42 = .ok (.iadd, 1) := by decide +kernel
theorem dX7_readParish_43 : decode cX7_readParish 43 = .ok (.iaload, 1) := by decide +kernel
theorem dX7_readParish_44 : decode cX7_readParish 44 = .ok (.ifCond .le 13, 3) := by decide +kernel
theorem dX7_readParish_47 : decode cX7_readParish 47 = .ok (.aload_n 0, 1) := by decide +kernel
theorem dX7_readParish_48 : decode cX7_readParish 48 = .ok (.iconst 2, 1) := by decide +kernel
theorem dX7_readParish_49 : decode cX7_readParish 49 = .ok (.invokevirtual 114, 3) := by decide +kernel
theorem dX7_readParish_52 : decode cX7_readParish 52 = .ok (.ifCond .ne 5, 3) := by decide +kernel
theorem dX7_readParish_55 : decode cX7_readParish 55 = .ok (.iconst 0, 1) := by decide +kernel
theorem dX7_readParish_56 : decode cX7_readParish 56 = .ok (.ireturn, 1) := by decide +kernel
theorem dX7_readParish_57 : decode cX7_readParish 57 = .ok (.aload_n 0, 1) := by decide +kernel
theorem dX7_readParish_58 : decode cX7_readParish 58 = .ok (.getfield 28, 3) := by decide +kernel
theorem dX7_readParish_61 : decode cX7_readParish 61 = .ok (.bipush 12, 2) := by decide +kernel
theorem dX7_readParish_63 : decode cX7_readParish 63 = .ok (.aload_n 0, 1) := by decide +kernel
theorem dX7_readParish_64 : decode cX7_readParish 64 = .ok (.invokevirtual 127, 3) := by decide +kernel
theorem dX7_readParish_67 : decode cX7_readParish 67 = .ok (.iadd, 1) := by decide +kernel
theorem dX7_readParish_68 : decode cX7_readParish 68 = .ok (.iload_n 1, 1) := by decide +kernel
theorem dX7_readParish_69 : decode cX7_readParish 69 = .ok (.iastore, 1) := by decide +kernel
theorem dX7_readParish_70 : decode cX7_readParish 70 = .ok (.aload_n 0, 1) := by decide +kernel
theorem dX7_readParish_71 : decode cX7_readParish 71 = .ok (.getfield 28, 3) := by decide +kernel
theorem dX7_readParish_74 : decode cX7_readParish 74 = .ok (.bipush 49, 2) := by decide +kernel
theorem dX7_readParish_76 : decode cX7_readParish 76 = .ok (.dup2, 1) := by decide +kernel
theorem dX7_readParish_77 : decode cX7_readParish 77 = .ok (.iaload, 1) := by decide +kernel
theorem dX7_readParish_78 : decode cX7_readParish 78 = .ok (.iconst 1, 1) := by decide +kernel
theorem dX7_readParish_79 : decode cX7_readParish 79 = .ok (.iadd, 1) := by decide +kernel
theorem dX7_readParish_80 : decode cX7_readParish 80 = .ok (.iastore, 1) := by decide +kernel
theorem dX7_readParish_81 : decode cX7_readParish 81 = .ok (.aload_n 0, 1) := by decide +kernel
theorem dX7_readParish_82 : decode cX7_readParish 82 = .ok (.bipush 59, 2) := by decide +kernel
theorem dX7_readParish_84 : decode cX7_readParish 84 = .ok (.invokevirtual 120, 3) := by decide +kernel
theorem dX7_readParish_87 : decode cX7_readParish 87 = .ok (.ireturn, 1) := by decide +kernel
theorem dX7_isTaken_0 : decode cX7_isTaken 0 = .ok (.iconst 0, 1) := by decide +kernel
theorem dX7_isTaken_1 : decode cX7_isTaken 1 = .ok (.istore_n 2, 1) := by decide +kernel
theorem dX7_isTaken_2 : decode cX7_isTaken 2 = .ok (.iconst 0, 1) := by decide +kernel
theorem dX7_isTaken_3 : decode cX7_isTaken 3 = .ok (.istore_n 3, 1) := by decide +kernel
theorem dX7_isTaken_4 : decode cX7_isTaken 4 = .ok (.iload_n 3, 1) := by decide +kernel
theorem dX7_isTaken_5 : decode cX7_isTaken 5 = .ok (.aload_n 0, 1) := by decide +kernel
theorem dX7_isTaken_6 : decode cX7_isTaken 6 = .ok (.getfield 28, 3) := by decide +kernel
theorem dX7_isTaken_9 : decode cX7_isTaken 9 = .ok (.bipush 50, 2) := by decide +kernel
theorem dX7_isTaken_11 : decode cX7_isTaken 11 = .ok (.iaload, 1) := by decide +kernel
theorem dX7_isTaken_12 : decode cX7_isTaken 12 = .ok (.if_icmp .ge 32, 3) := by decide +kernel
theorem dX7_isTaken_15 : decode cX7_isTaken 15 = .ok (.iload_n 2, 1) := by decide +kernel
theorem dX7_isTaken_16 : decode cX7_isTaken 16 = .ok (.ifCond .ne 16, 3) := by decide +kernel
theorem dX7_isTaken_19 : decode cX7_isTaken 19 = .ok (.aload_n 0, 1) := by decide +kernel
theorem dX7_isTaken_20 : decode cX7_isTaken 20 = .ok (.getfield 28, 3) := by decide +kernel
theorem dX7_isTaken_23 : decode cX7_isTaken 23 = .ok (.bipush 56, 2) := by decide +kernel
theorem dX7_isTaken_25 : decode cX7_isTaken 25 = .ok (.iload_n 3, 1) := by decide +kernel
theorem dX7_isTaken_26 : decode cX7_isTaken 26 = .ok (.iadd, 1) := by decide +kernel
theorem dX7_isTaken_27 : decode cX7_isTaken 27 = .ok (.iaload, 1) := by decide +kernel
theorem dX7_isTaken_28 : decode cX7_isTaken 28 = .ok (.iload_n 1, 1) := by decide +kernel
theorem dX7_isTaken_29 : decode cX7_isTaken 29 = .ok (.if_icmp .ne 7, 3) := by decide +kernel
theorem dX7_isTaken_32 : decode cX7_isTaken 32 = .ok (.iconst 1, 1) := by decide +kernel
theorem dX7_isTaken_33 : decode cX7_isTaken 33 = .ok (.goto 4, 3) := by decide +kernel
theorem dX7_isTaken_36 : decode cX7_isTaken 36 = .ok (.iconst 0, 1) := by decide +kernel
theorem dX7_isTaken_37 : decode cX7_isTaken 37 = .ok (.istore_n 2, 1) := by decide +kernel
theorem dX7_isTaken_38 : decode cX7_isTaken 38 = .ok (.iinc 3 1, 3) := by decide +kernel
theorem dX7_isTaken_41 : decode cX7_isTaken 41 = .ok (.goto (-37), 3) := by decide +kernel
theorem dX7_isTaken_44 : decode cX7_isTaken 44 = .ok (.iload_n 2, 1) := by decide +kernel
theorem dX7_isTaken_45 : decode cX7_isTaken 45 = .ok (.ireturn, 1) := by decide +kernel
theorem dX7_readCloud_0 : decode cX7_readCloud 0 = .ok (.aload_n 0, 1) := by decide +kernel
theorem dX7_readCloud_1 : decode cX7_readCloud 1 = .ok (.getfield 28, 3) := by decide +kernel
theorem dX7_readCloud_4 : decode cX7_readCloud 4 = .ok (.bipush 50, 2) := by decide +kernel
theorem dX7_readCloud_6 : decode cX7_readCloud 6 = .ok (.iaload, 1) := by decide +kernel
theorem dX7_readCloud_7 : decode cX7_readCloud 7 = .ok (.istore_n 2, 1) := by decide +kernel
theorem dX7_readCloud_8 : decode cX7_readCloud 8 = .ok (.iload_n 2, 1) := by decide +kernel
theorem dX7_readCloud_9 : decode cX7_readCloud 9 = .ok (.iconst 5, 1) := by decide +kernel
theorem dX7_readCloud_10 : decode cX7_readCloud 10 = .ok (.if_icmp .ne 9, 3) := by decide +kernel
theorem dX7_readCloud_13 : decode cX7_readCloud 13 = .ok (.aload_n 0, 1) := by decide +kernel
theorem dX7_readCloud_14 : decode cX7_readCloud 14 = .ok (.iconst 3, 1) := by decide +kernel
theorem dX7_readCloud_15 : decode cX7_readCloud 15 = .ok (.invokevirtual 114, 3) := by decide +kernel
theorem dX7_readCloud_18 : decode cX7_readCloud 18 = .ok (.ireturn, 1) := by decide +kernel
theorem dX7_readCloud_19 : decode cX7_readCloud 19 = .ok (.aload_n 0, 1) := by decide +kernel
theorem dX7_readCloud_20 : decode cX7_readCloud 20 = .ok (.invokevirtual 117, 3) := by decide +kernel
theorem dX7_readCloud_23 : decode cX7_readCloud 23 = .ok (.aload_n 0, 1) := by decide +kernel
theorem dX7_readCloud_24 : decode cX7_readCloud 24 = .ok (.iconst 0, 1) := by decide +kernel
theorem dX7_readCloud_25 : decode cX7_readCloud 25 = .ok (.bipush 31, 2) := by decide +kernel
theorem dX7_readCloud_27 : decode cX7_readCloud 27 = .ok (.invokevirtual 123, 3) := by decide +kernel
theorem dX7_readCloud_30 : decode cX7_readCloud 30 = .ok (.ifCond .eq 22, 3) := by decide +kernel
theorem dX7_readCloud_33 : decode cX7_readCloud 33 = .ok (.aload_n 0, 1) := by decide +kernel
theorem dX7_readCloud_34 : decode cX7_readCloud 34 = .ok (.aload_n 0, 1) := by decide +kernel
theorem dX7_readCloud_35 : decode cX7_readCloud 35 = .ok (.getfield 97, 3) := by decide +kernel
theorem dX7_readCloud_38 : decode cX7_readCloud 38 = .ok (.invokevirtual 131, 3) := by decide +kernel
theorem dX7_readCloud_41 : decode cX7_readCloud 41 = .ok (.ifCond .eq 13, 3) := by decide +kernel
theorem dX7_readCloud_44 : decode cX7_readCloud 44 = .ok (.aload_n 0, 1) := by decide +kernel
theorem dX7_readCloud_45 : decode cX7_readCloud 45 = .ok (.iconst 2, 1) := by decide +kernel
theorem dX7_readCloud_46 : decode cX7_readCloud 46 = .ok (.invokevirtual 114, 3) := by decide +kernel
theorem dX7_readCloud_49 : decode cX7_readCloud 49 = .ok (.ifCond .ne 5, 3) := by decide +kernel
theorem dX7_readCloud_52 : decode cX7_readCloud 52 = .ok (.iconst 0, 1) := by decide +kernel
theorem dX7_readCloud_53 : decode cX7_readCloud 53 = .ok (.ireturn, 1) := by decide +kernel
theorem dX7_readCloud_54 : decode cX7_readCloud 54 = .ok (.aload_n 0, 1) := by decide +kernel
theorem dX7_readCloud_55 : decode cX7_readCloud 55 = .ok (.getfield 28, 3) := by decide +kernel
theorem dX7_readCloud_58 : decode cX7_readCloud 58 = .ok (.bipush 51, 2) := by decide +kernel
theorem dX7_readCloud_60 : decode cX7_readCloud 60 = .ok (.iload_n 2, 1) := by decide +kernel
theorem dX7_readCloud_61 : decode cX7_readCloud 61 = .ok (.iadd, 1) := by decide +kernel
theorem dX7_readCloud_62 : decode cX7_readCloud 62 = .ok (.iload_n 1, 1) := by decide +kernel
theorem dX7_readCloud_63 : decode cX7_readCloud 63 = .ok (.iastore, 1) := by decide +kernel
theorem dX7_readCloud_64 : decode cX7_readCloud 64 = .ok (.aload_n 0, 1) := by decide +kernel
theorem dX7_readCloud_65 : decode cX7_readCloud 65 = .ok (.getfield 28, 3) := by decide +kernel
theorem dX7_readCloud_68 : decode cX7_readCloud 68 = .ok (.bipush 56, 2) := by decide +kernel
theorem dX7_readCloud_70 : decode cX7_readCloud 70 = .ok (.iload_n 2, 1) := by decide +kernel
theorem dX7_readCloud_71 : decode cX7_readCloud 71 = .ok (.iadd, 1) := by decide +kernel
theorem dX7_readCloud_72 : decode cX7_readCloud 72 = .ok (.aload_n 0, 1) := by decide +kernel
theorem dX7_readCloud_73 : decode cX7_readCloud 73 = .ok (.invokevirtual 127, 3) := by decide +kernel
theorem dX7_readCloud_76 : decode cX7_readCloud 76 = .ok (.iastore, 1) := by decide +kernel
theorem dX7_readCloud_77 : decode cX7_readCloud 77 = .ok (.aload_n 0, 1) := by decide +kernel
theorem dX7_readCloud_78 : decode cX7_readCloud 78 = .ok (.bipush 44, 2) := by decide +kernel
theorem dX7_readCloud_80 : decode cX7_readCloud 80 = .ok (.invokevirtual 120, 3) := by decide +kernel
theorem dX7_readCloud_83 : decode cX7_readCloud 83 = .ok (.ifCond .eq 13, 3) := by decide +kernel
theorem dX7_readCloud_86 : decode cX7_readCloud 86 = .ok (.aload_n 0, 1) := by decide +kernel
theorem dX7_readCloud_87 : decode cX7_readCloud 87 = .ok (.iconst 0, 1) := by decide +kernel
theorem dX7_readCloud_88 : decode cX7_readCloud 88 = .ok (.bipush 20, 2) := by decide +kernel
theorem dX7_readCloud_90 : decode cX7_readCloud 90 = .ok (.invokevirtual 123, 3) := by decide +kernel
theorem dX7_readCloud_93 : decode cX7_readCloud 93 = .ok (.ifCond .ne 5, 3) := by decide +kernel
theorem dX7_readCloud_96 : decode cX7_readCloud 96 = .ok (.iconst 0, 1) := by decide +kernel
theorem dX7_readCloud_97 : decode cX7_readCloud 97 = .ok (.ireturn, 1) := by decide +kernel
theorem dX7_readCloud_98 : decode cX7_readCloud 98 = .ok (.aload_n 0, 1) := by decide +kernel
theorem dX7_readCloud_99 : decode cX7_readCloud 99 = .ok (.getfield 28, 3) := by decide +kernel
theorem dX7_readCloud_102 : decode cX7_readCloud 102 = .ok (.bipush 66, 2) := by decide +kernel
theorem dX7_readCloud_104 : decode cX7_readCloud 104 = .ok (.iload_n 2, 1) := by decide +kernel
theorem dX7_readCloud_105 : decode cX7_readCloud 105 = .ok (.iadd, 1) := by decide +kernel
theorem dX7_readCloud_106 : decode cX7_readCloud 106 = .ok (.aload_n 0, 1) := by decide +kernel
theorem dX7_readCloud_107 : decode cX7_readCloud 107 = .ok (.invokevirtual 127, 3) := by decide +kernel
theorem dX7_readCloud_110 : decode cX7_readCloud 110 = .ok (.iastore, 1) := by decide +kernel
theorem dX7_readCloud_111 : decode cX7_readCloud 111 = .ok (.aload_n 0, 1) := by decide +kernel
theorem dX7_readCloud_112 : decode cX7_readCloud 112 = .ok (.getfield 28, 3) := by decide +kernel
theorem dX7_readCloud_115 : decode cX7_readCloud 115 = .ok (.bipush 76, 2) := by decide +kernel
theorem dX7_readCloud_117 : decode cX7_readCloud 117 = .ok (.iload_n 2, 1) := by decide +kernel
theorem dX7_readCloud_118 : decode cX7_readCloud 118 = .ok (.iadd, 1) := by decide +kernel
theorem dX7_readCloud_119 : decode cX7_readCloud 119 = .ok (.iconst 1, 1) := by decide +kernel
theorem dX7_readCloud_120 : decode cX7_readCloud 120 = .ok (.iastore, 1) := by decide +kernel
theorem dX7_readCloud_121 : decode cX7_readCloud 121 = .ok (.aload_n 0, 1) := by decide +kernel
theorem dX7_readCloud_122 : decode cX7_readCloud 122 = .ok (.getfield 28, 3) := by decide +kernel
theorem dX7_readCloud_125 : decode cX7_readCloud 125 = .ok (.bipush 50, 2) := by decide +kernel
theorem dX7_readCloud_127 : decode cX7_readCloud 127 = .ok (.dup2, 1) := by decide +kernel
theorem dX7_readCloud_128 : decode cX7_readCloud 128 = .ok (.iaload, 1) := by decide +kernel
theorem dX7_readCloud_129 : decode cX7_readCloud 129 = .ok (.iconst 1, 1) := by decide +kernel
theorem dX7_readCloud_130 : decode cX7_readCloud 130 = .ok (.iadd, 1) := by decide +kernel
theorem dX7_readCloud_131 : decode cX7_readCloud 131 = .ok (.iastore, 1) := by decide +kernel
theorem dX7_readCloud_132 : decode cX7_readCloud 132 = .ok (.aload_n 0, 1) := by decide +kernel
theorem dX7_readCloud_133 : decode cX7_readCloud 133 = .ok (.bipush 59, 2) := by decide +kernel
theorem dX7_readCloud_135 : decode cX7_readCloud 135 = .ok (.invokevirtual 120, 3) := by decide +kernel
theorem dX7_readCloud_138 : decode cX7_readCloud 138 = .ok (.ireturn, 1) := by decide +kernel
theorem dX7_readHerd_0 : decode cX7_readHerd 0 = .ok (.aload_n 0, 1) := by decide +kernel
theorem dX7_readHerd_1 : decode cX7_readHerd 1 = .ok (.iconst 0, 1) := by decide +kernel
theorem dX7_readHerd_2 : decode cX7_readHerd 2 = .ok (.putfield 88, 3) := by decide +kernel
theorem dX7_readHerd_5 : decode cX7_readHerd 5 = .ok (.iconst 0, 1) := by decide +kernel
theorem dX7_readHerd_6 : decode cX7_readHerd 6 = .ok (.istore_n 1, 1) := by decide +kernel
theorem dX7_readHerd_7 : decode cX7_readHerd 7 = .ok (.iload_n 1, 1) := by decide +kernel
theorem dX7_readHerd_8 : decode cX7_readHerd 8 = .ok (.bipush 82, 2) := by decide +kernel
theorem dX7_readHerd_10 : decode cX7_readHerd 10 = .ok (.if_icmp .ge 16, 3) := by decide +kernel
theorem dX7_readHerd_13 : decode cX7_readHerd 13 = .ok (.aload_n 0, 1) := by decide +kernel
theorem dX7_readHerd_14 : decode cX7_readHerd 14 = .ok (.getfield 28, 3) := by decide +kernel
theorem dX7_readHerd_17 : decode cX7_readHerd 17 = .ok (.iload_n 1, 1) := by decide +kernel
theorem dX7_readHerd_18 : decode cX7_readHerd 18 = .ok (.iconst 0, 1) := by decide +kernel
theorem dX7_readHerd_19 : decode cX7_readHerd 19 = .ok (.iastore, 1) := by decide +kernel
theorem dX7_readHerd_20 : decode cX7_readHerd 20 = .ok (.iinc 1 1, 3) := by decide +kernel
theorem dX7_readHerd_23 : decode cX7_readHerd 23 = .ok (.goto (-16), 3) := by decide +kernel
theorem dX7_readHerd_26 : decode cX7_readHerd 26 = .ok (.aload_n 0, 1) := by decide +kernel
theorem dX7_readHerd_27 : decode cX7_readHerd 27 = .ok (.invokevirtual 117, 3) := by decide +kernel
theorem dX7_readHerd_30 : decode cX7_readHerd 30 = .ok (.aload_n 0, 1) := by decide +kernel
theorem dX7_readHerd_31 : decode cX7_readHerd 31 = .ok (.invokevirtual 134, 3) := by decide +kernel
theorem dX7_readHerd_34 : decode cX7_readHerd 34 = .ok (.ifCond .eq 24, 3) := by decide +kernel
theorem dX7_readHerd_37 : decode cX7_readHerd 37 = .ok (.aload_n 0, 1) := by decide +kernel
theorem dX7_readHerd_38 : decode cX7_readHerd 38 = .ok (.bipush 108, 2) := by decide +kernel
theorem dX7_readHerd_40 : decode cX7_readHerd 40 = .ok (.iconst 0, 1) := by decide +kernel
theorem dX7_readHerd_41 : decode cX7_readHerd 41 = .ok (.invokevirtual 138, 3) := by decide +kernel
theorem dX7_readHerd_44 : decode cX7_readHerd 44 = .ok (.ifCond .eq 14, 3) := by decide +kernel
theorem dX7_readHerd_47 : decode cX7_readHerd 47 = .ok (.aload_n 0, 1) := by decide +kernel
theorem dX7_readHerd_48 : decode cX7_readHerd 48 = .ok (.bipush 117, 2) := by decide +kernel
theorem dX7_readHerd_50 : decode cX7_readHerd 50 = .ok (.bipush 6, 2) := by decide +kernel
theorem dX7_readHerd_52 : decode cX7_readHerd 52 = .ok (.invokevirtual 138, 3) := by decide +kernel
theorem dX7_readHerd_55 : decode cX7_readHerd 55 = .ok (.ifCond .ne 5, 3) := by decide +kernel
theorem dX7_readHerd_58 : decode cX7_readHerd 58 = .ok (.iconst 0, 1) := by decide +kernel
theorem dX7_readHerd_59 : decode cX7_readHerd 59 = .ok (.ireturn, 1) := by decide +kernel
theorem dX7_readHerd_60 : decode cX7_readHerd 60 = .ok (.iconst 1, 1) := by decide +kernel
theorem dX7_readHerd_61 : decode cX7_readHerd 61 = .ok (.istore_n 1, 1) := by decide +kernel
theorem dX7_readHerd_62 : decode cX7_readHerd 62 = .ok (.iload_n 1, 1) := by decide +kernel
theorem dX7_readHerd_63 : decode cX7_readHerd 63 = .ok (.ifCond .eq 162, 3) := by decide +kernel
theorem dX7_readHerd_66 : decode cX7_readHerd 66 = .ok (.aload_n 0, 1) := by decide +kernel
theorem dX7_readHerd_67 : decode cX7_readHerd 67 = .ok (.getfield 94, 3) := by decide +kernel
theorem dX7_readHerd_70 : decode cX7_readHerd 70 = .ok (.iconst 3, 1) := by decide +kernel
theorem dX7_readHerd_71 : decode cX7_readHerd 71 = .ok (.if_icmp .eq 154, 3) := by decide +kernel
theorem dX7_readHerd_74 : decode cX7_readHerd 74 = .ok (.aload_n 0, 1) := by decide +kernel
theorem dX7_readHerd_75 : decode cX7_readHerd 75 = .ok (.bipush 102, 2) := by decide +kernel
theorem dX7_readHerd_77 : decode cX7_readHerd 77 = .ok (.invokevirtual 111, 3) := by decide +kernel
theorem dX7_readHerd_80 : decode cX7_readHerd 80 = .ok (.ifCond .eq 7, 3) := by decide +kernel
theorem dX7_readHerd_83 : decode cX7_readHerd 83 = .ok (.iconst 1, 1) := by decide +kernel
theorem dX7_readHerd_84 : decode cX7_readHerd 84 = .ok (.goto 30, 3) := by decide +kernel
theorem dX7_readHerd_87 : decode cX7_readHerd 87 = .ok (.aload_n 0, 1) := by decide +kernel
theorem dX7_readHerd_88 : decode cX7_readHerd 88 = .ok (.bipush 104, 2) := by decide +kernel
theorem dX7_readHerd_90 : decode cX7_readHerd 90 = .ok (.invokevirtual 111, 3) := by decide +kernel
theorem dX7_readHerd_93 : decode cX7_readHerd 93 = .ok (.ifCond .eq 7, 3) := by decide +kernel
theorem dX7_readHerd_96 : decode cX7_readHerd 96 = .ok (.iconst 2, 1) := by decide +kernel
theorem dX7_readHerd_97 : decode cX7_readHerd 97 = .ok (.goto 17, 3) := by decide +kernel
theorem dX7_readHerd_100 : decode cX7_readHerd 100 = .ok (.aload_n 0, 1) := by decide +kernel
theorem dX7_readHerd_101 : decode cX7_readHerd 101 = .ok (.bipush 109, 2) := by decide +kernel
theorem dX7_readHerd_103 : decode cX7_readHerd 103 = .ok (.invokevirtual 111, 3) := by decide +kernel
theorem dX7_readHerd_106 : decode cX7_readHerd 106 = .ok (.ifCond .eq 7, 3) := by decide +kernel
theorem dX7_readHerd_109 : decode cX7_readHerd 109 = .ok (.iconst 3, 1) := by decide +kernel
theorem dX7_readHerd_110 : decode cX7_readHerd 110 = .ok (.goto 4, 3) := by decide +kernel
theorem dX7_readHerd_113 : decode cX7_readHerd 113 = .ok (.iconst 0, 1) := by decide +kernel
theorem dX7_readHerd_114 : decode cX7_readHerd 114 = .ok (.istore_n 2, 1) := by decide +kernel
theorem dX7_readHerd_115 : decode cX7_readHerd 115 = .ok (.aload_n 0, 1) := by decide +kernel
theorem dX7_readHerd_116 : decode cX7_readHerd 116 = .ok (.bipush 97, 2) := by decide +kernel
theorem dX7_readHerd_118 : decode cX7_readHerd 118 = .ok (.invokevirtual 111, 3) := by decide +kernel
theorem dX7_readHerd_121 : decode cX7_readHerd 121 = .ok (.ifCond .eq 7, 3) := by decide +kernel
theorem dX7_readHerd_124 : decode cX7_readHerd 124 = .ok (.iconst 1, 1) := by decide +kernel
theorem dX7_readHerd_125 : decode cX7_readHerd 125 = .ok (.goto 56, 3) := by decide +kernel
theorem dX7_readHerd_128 : decode cX7_readHerd 128 = .ok (.aload_n 0, 1) := by decide +kernel
theorem dX7_readHerd_129 : decode cX7_readHerd 129 = .ok (.bipush 112, 2) := by decide +kernel
theorem dX7_readHerd_131 : decode cX7_readHerd 131 = .ok (.invokevirtual 111, 3) := by decide +kernel
theorem dX7_readHerd_134 : decode cX7_readHerd 134 = .ok (.ifCond .eq 7, 3) := by decide +kernel
theorem dX7_readHerd_137 : decode cX7_readHerd 137 = .ok (.iconst 2, 1) := by decide +kernel
theorem dX7_readHerd_138 : decode cX7_readHerd 138 = .ok (.goto 43, 3) := by decide +kernel
theorem dX7_readHerd_141 : decode cX7_readHerd 141 = .ok (.aload_n 0, 1) := by decide +kernel
theorem dX7_readHerd_142 : decode cX7_readHerd 142 = .ok (.bipush 98, 2) := by decide +kernel
theorem dX7_readHerd_144 : decode cX7_readHerd 144 = .ok (.invokevirtual 111, 3) := by decide +kernel
theorem dX7_readHerd_147 : decode cX7_readHerd 147 = .ok (.ifCond .eq 7, 3) := by decide +kernel
theorem dX7_readHerd_150 : decode cX7_readHerd 150 = .ok (.iconst 3, 1) := by decide +kernel
theorem dX7_readHerd_151 : decode cX7_readHerd 151 = .ok (.goto 30, 3) := by decide +kernel
theorem dX7_readHerd_154 : decode cX7_readHerd 154 = .ok (.aload_n 0, 1) := by decide +kernel
theorem dX7_readHerd_155 : decode cX7_readHerd 155 = .ok (.bipush 103, 2) := by decide +kernel
theorem dX7_readHerd_157 : decode cX7_readHerd 157 = .ok (.invokevirtual 111, 3) := by decide +kernel
theorem dX7_readHerd_160 : decode cX7_readHerd 160 = .ok (.ifCond .eq 7, 3) := by decide +kernel
theorem dX7_readHerd_163 : decode cX7_readHerd 163 = .ok (.iconst 4, 1) := by decide +kernel
theorem dX7_readHerd_164 : decode cX7_readHerd 164 = .ok (.goto 17, 3) := by decide +kernel
theorem dX7_readHerd_167 : decode cX7_readHerd 167 = .ok (.aload_n 0, 1) := by decide +kernel
theorem dX7_readHerd_168 : decode cX7_readHerd 168 = .ok (.bipush 121, 2) := by decide +kernel
theorem dX7_readHerd_170 : decode cX7_readHerd 170 = .ok (.invokevirtual 111, 3) := by decide +kernel
theorem dX7_readHerd_173 : decode cX7_readHerd 173 = .ok (.ifCond .eq 7, 3) := by decide +kernel
theorem dX7_readHerd_176 : decode cX7_readHerd 176 = .ok (.iconst 5, 1) := by decide +kernel
theorem dX7_readHerd_177 : decode cX7_readHerd 177 = .ok (.goto 4, 3) := by decide +kernel
theorem dX7_readHerd_180 : decode cX7_readHerd 180 = .ok (.iconst 0, 1) := by decide +kernel
theorem dX7_readHerd_181 : decode cX7_readHerd 181 = .ok (.istore_n 3, 1) := by decide +kernel
theorem dX7_readHerd_182 : decode cX7_readHerd 182 = .ok (.iload_n 2, 1) := by decide +kernel
theorem dX7_readHerd_183 : decode cX7_readHerd 183 = .ok (.ifCond .le 21, 3) := by decide +kernel
theorem dX7_readHerd_186 : decode cX7_readHerd 186 = .ok (.aload_n 0, 1) := by decide +kernel
theorem dX7_readHerd_187 : decode cX7_readHerd 187 = .ok (.getfield 28, 3) := by decide +kernel
theorem dX7_readHerd_190 : decode cX7_readHerd 190 = .ok (.bipush 50, 2) := by decide +kernel
theorem dX7_readHerd_192 : decode cX7_readHerd 192 = .ok (.iaload, 1) := by decide +kernel
theorem dX7_readHerd_193 : decode cX7_readHerd 193 = .ok (.ifCond .ne 11, 3) := by decide +kernel
theorem dX7_readHerd_196 : decode cX7_readHerd 196 = .ok (.aload_n 0, 1) := by decide +kernel
theorem dX7_readHerd_197 : decode cX7_readHerd 197 = .ok (.iload_n 2, 1) := by decide +kernel
theorem dX7_readHerd_198 : decode cX7_readHerd 198 = .ok (.invokevirtual 141, 3) := by decide +kernel
theorem dX7_readHerd_201 : decode cX7_readHerd 201 = .ok (.goto 20, 3) := by decide +kernel
theorem dX7_readHerd_204 : decode cX7_readHerd 204 = .ok (.iload_n 3, 1) := by decide +kernel
theorem dX7_readHerd_205 : decode cX7_readHerd 205 = .ok (.ifCond .le 11, 3) := by decide +kernel
theorem dX7_readHerd_208 : decode cX7_readHerd 208 = .ok (.aload_n 0, 1) := by decide +kernel
theorem dX7_readHerd_209 : decode cX7_readHerd 209 = .ok (.iload_n 3, 1) := by decide +kernel
theorem dX7_readHerd_210 : decode cX7_readHerd 210 = .ok (.invokevirtual 144, 3) := by decide +kernel
theorem dX7_readHerd_213 : decode cX7_readHerd 213 = .ok (.goto 8, 3) := by decide +kernel
theorem dX7_readHerd_216 : decode cX7_readHerd 216 = .ok (.aload_n 0, 1) := by decide +kernel
theorem dX7_readHerd_217 : decode cX7_readHerd 217 = .ok (.iconst 1, 1) := by decide +kernel
theorem dX7_readHerd_218 : decode cX7_readHerd 218 = .ok (.invokevirtual 114, 3) := by decide +kernel
theorem dX7_readHerd_221 : decode cX7_readHerd 221 = .ok (.istore_n 1, 1) := by decide +kernel
theorem dX7_readHerd_222 : decode cX7_readHerd 222 = .ok (.goto (-160), 3) := by decide +kernel
theorem dX7_readHerd_225 : decode cX7_readHerd 225 = .ok (.iload_n 1, 1) := by decide +kernel
theorem dX7_readHerd_226 : decode cX7_readHerd 226 = .ok (.ireturn, 1) := by decide +kernel
theorem dX7_herd_0 : decode cX7_herd 0 = .ok (.aload_n 0, 1) := by decide +kernel
theorem dX7_herd_1 : decode cX7_herd 1 = .ok (.invokevirtual 147, 3) := by decide +kernel
theorem dX7_herd_4 : decode cX7_herd 4 = .ok (.istore_n 1, 1) := by decide +kernel
theorem dX7_herd_5 : decode cX7_herd 5 = .ok (.aload_n 0, 1) := by decide +kernel
theorem dX7_herd_6 : decode cX7_herd 6 = .ok (.iconst 0, 1) := by decide +kernel
theorem dX7_herd_7 : decode cX7_herd 7 = .ok (.putfield 84, 3) := by decide +kernel
theorem dX7_herd_10 : decode cX7_herd 10 = .ok (.iload_n 1, 1) := by decide +kernel
theorem dX7_herd_11 : decode cX7_herd 11 = .ok (.ifCond .ne 19, 3) := by decide +kernel
theorem dX7_herd_14 : decode cX7_herd 14 = .ok (.aload_n 0, 1) := by decide +kernel
theorem dX7_herd_15 : decode cX7_herd 15 = .ok (.aload_n 0, 1) := by decide +kernel
theorem dX7_herd_16 : decode cX7_herd 16 = .ok (.getfield 108, 3) := by decide +kernel
theorem dX7_herd_19 : decode cX7_herd 19 = .ok (.putfield 150, 3) := by decide +kernel
theorem dX7_herd_22 : decode cX7_herd 22 = .ok (.ldc 153, 2) := by decide +kernel
theorem dX7_herd_24 : decode cX7_herd 24 = .ok (.aload_n 0, 1) := by decide +kernel
theorem dX7_herd_25 : decode cX7_herd 25 = .ok (.getfield 91, 3) := by decide +kernel
theorem dX7_herd_28 : decode cX7_herd 28 = .ok (.isub, 1) := by decide +kernel
theorem dX7_herd_29 : decode cX7_herd 29 = .ok (.ireturn, 1) := by decide +kernel
theorem dX7_herd_30 : decode cX7_herd 30 = .ok (.iconst 0, 1) := by decide +kernel
theorem dX7_herd_31 : decode cX7_herd 31 = .ok (.istore_n 2, 1) := by decide +kernel
theorem dX7_herd_32 : decode cX7_herd 32 = .ok (.iload_n 2, 1) := by decide +kernel
theorem dX7_herd_33 : decode cX7_herd 33 = .ok (.bipush 82, 2) := by decide +kernel
theorem dX7_herd_35 : decode cX7_herd 35 = .ok (.if_icmp .ge 21, 3) := by decide +kernel
theorem dX7_herd_38 : decode cX7_herd 38 = .ok (.aload_n 0, 1) := by decide +kernel
theorem dX7_herd_39 : decode cX7_herd 39 = .ok (.getfield 19, 3) := by decide +kernel
theorem dX7_herd_42 : decode cX7_herd 42 = .ok (.iload_n 2, 1) := by decide +kernel
theorem dX7_herd_43 : decode cX7_herd 43 = .ok (.aload_n 0, 1) := by decide +kernel
theorem dX7_herd_44 : decode cX7_herd 44 = .ok (.getfield 28, 3) := by decide +kernel
theorem dX7_herd_47 : decode cX7_herd 47 = .ok (.iload_n 2, 1) := by decide +kernel
theorem dX7_herd_48 : decode cX7_herd 48 = .ok (.iaload, 1) := by decide +kernel
theorem dX7_herd_49 : decode cX7_herd 49 = .ok (.iastore, 1) := by decide +kernel
theorem dX7_herd_50 : decode cX7_herd 50 = .ok (.iinc 2 1, 3) := by decide +kernel
theorem dX7_herd_53 : decode cX7_herd 53 = .ok (.goto (-21), 3) := by decide +kernel
theorem dX7_herd_56 : decode cX7_herd 56 = .ok (.aload_n 0, 1) := by decide +kernel
theorem dX7_herd_57 : decode cX7_herd 57 = .ok (.iconst 1, 1) := by decide +kernel
theorem dX7_herd_58 : decode cX7_herd 58 = .ok (.putfield 154, 3) := by decide +kernel
theorem dX7_herd_61 : decode cX7_herd 61 = .ok (.aload_n 0, 1) := by decide +kernel
theorem dX7_herd_62 : decode cX7_herd 62 = .ok (.iconst 0, 1) := by decide +kernel
theorem dX7_herd_63 : decode cX7_herd 63 = .ok (.putfield 158, 3) := by decide +kernel
theorem dX7_herd_66 : decode cX7_herd 66 = .ok (.aload_n 0, 1) := by decide +kernel
theorem dX7_herd_67 : decode cX7_herd 67 = .ok (.getfield 19, 3) := by decide +kernel
theorem dX7_herd_70 : decode cX7_herd 70 = .ok (.bipush 50, 2) := by decide +kernel
theorem dX7_herd_72 : decode cX7_herd 72 = .ok (.iaload, 1) := by decide +kernel
theorem dX7_herd_73 : decode cX7_herd 73 = .ok (.ireturn, 1) := by decide +kernel
theorem dX7_fault_0 : decode cX7_fault 0 = .ok (.aload_n 0, 1) := by decide +kernel
theorem dX7_fault_1 : decode cX7_fault 1 = .ok (.getfield 150, 3) := by decide +kernel
theorem dX7_fault_4 : decode cX7_fault 4 = .ok (.ireturn, 1) := by decide +kernel
theorem dX7_beside_0 : decode cX7_beside 0 = .ok (.iload_n 0, 1) := by decide +kernel
theorem dX7_beside_1 : decode cX7_beside 1 = .ok (.bipush 8, 2) := by decide +kernel
theorem dX7_beside_3 : decode cX7_beside 3 = .ok (.irem, 1) := by decide +kernel
theorem dX7_beside_4 : decode cX7_beside 4 = .ok (.istore_n 2, 1) := by decide +kernel
theorem dX7_beside_5 : decode cX7_beside 5 = .ok (.iload_n 0, 1) := by decide +kernel
theorem dX7_beside_6 : decode cX7_beside 6 = .ok (.bipush 8, 2) := by decide +kernel
theorem dX7_beside_8 : decode cX7_beside 8 = .ok (.idiv, 1) := by decide +kernel
theorem dX7_beside_9 : decode cX7_beside 9 = .ok (.istore_n 3, 1) := by decide +kernel
theorem dX7_beside_10 : decode cX7_beside 10 = .ok (.iload_n 1, 1) := by decide +kernel
theorem dX7_beside_11 : decode cX7_beside 11 = .ok (.iconst 1, 1) := by decide +kernel
theorem dX7_beside_12 : decode cX7_beside 12 = .ok (.if_icmp .ne 17, 3) := by decide +kernel
theorem dX7_beside_15 : decode cX7_beside 15 = .ok (.iload_n 2, 1) := by decide +kernel
theorem dX7_beside_16 : decode cX7_beside 16 = .ok (.bipush 7, 2) := by decide +kernel
theorem dX7_beside_18 : decode cX7_beside 18 = .ok (.if_icmp .ge 9, 3) := by decide +kernel
theorem dX7_beside_21 : decode cX7_beside 21 = .ok (.iload_n 0, 1) := by decide +kernel
theorem dX7_beside_22 : decode cX7_beside 22 = .ok (.iconst 1, 1) := by decide +kernel
theorem dX7_beside_23 : decode cX7_beside 23 = .ok (.iadd, 1) := by decide +kernel
theorem dX7_beside_24 : decode cX7_beside 24 = .ok (.goto 4, 3) := by decide +kernel
theorem dX7_beside_27 : decode cX7_beside 27 = .ok (.iload_n 0, 1) := by decide +kernel
theorem dX7_beside_28 : decode cX7_beside 28 = .ok (.ireturn, 1) := by decide +kernel
theorem dX7_beside_29 : decode cX7_beside 29 = .ok (.iload_n 1, 1) := by decide +kernel
theorem dX7_beside_30 : decode cX7_beside 30 = .ok (.iconst 2, 1) := by decide +kernel
theorem dX7_beside_31 : decode cX7_beside 31 = .ok (.if_icmp .ne 15, 3) := by decide +kernel
theorem dX7_beside_34 : decode cX7_beside 34 = .ok (.iload_n 2, 1) := by decide +kernel
theorem dX7_beside_35 : decode cX7_beside 35 = .ok (.ifCond .le 9, 3) := by decide +kernel
theorem dX7_beside_38 : decode cX7_beside 38 = .ok (.iload_n 0, 1) := by decide +kernel
theorem dX7_beside_39 : decode cX7_beside 39 = .ok (.iconst 1, 1) := by decide +kernel
theorem dX7_beside_40 : decode cX7_beside 40 = .ok (.isub, 1) := by decide +kernel
theorem dX7_beside_41 : decode cX7_beside 41 = .ok (.goto 4, 3) := by decide +kernel
theorem dX7_beside_44 : decode cX7_beside 44 = .ok (.iload_n 0, 1) := by decide +kernel
theorem dX7_beside_45 : decode cX7_beside 45 = .ok (.ireturn, 1) := by decide +kernel
theorem dX7_beside_46 : decode cX7_beside 46 = .ok (.iload_n 1, 1) := by decide +kernel
theorem dX7_beside_47 : decode cX7_beside 47 = .ok (.iconst 3, 1) := by decide +kernel
theorem dX7_beside_48 : decode cX7_beside 48 = .ok (.if_icmp .ne 17, 3) := by decide +kernel
theorem dX7_beside_51 : decode cX7_beside 51 = .ok (.iload_n 3, 1) := by decide +kernel
theorem dX7_beside_52 : decode cX7_beside 52 = .ok (.iconst 3, 1) := by decide +kernel
theorem dX7_beside_53 : decode cX7_beside 53 = .ok (.if_icmp .ge 10, 3) := by decide +kernel
theorem dX7_beside_56 : decode cX7_beside 56 = .ok (.iload_n 0, 1) := by decide +kernel
theorem dX7_beside_57 : decode cX7_beside 57 = .ok (.bipush 8, 2) := by decide +kernel
theorem dX7_beside_59 : decode cX7_beside 59 = .ok (.iadd, 1) := by decide +kernel
theorem dX7_beside_60 : decode cX7_beside 60 = .ok (.goto 4, 3) := by decide +kernel
theorem dX7_beside_63 : decode cX7_beside 63 = .ok (.iload_n 0, 1) := by decide +kernel
theorem dX7_beside_64 : decode cX7_beside 64 = .ok (.ireturn, 1) := by decide +kernel
theorem dX7_beside_65 : decode cX7_beside 65 = .ok (.iload_n 1, 1) := by decide +kernel
theorem dX7_beside_66 : decode cX7_beside 66 = .ok (.iconst 4, 1) := by decide +kernel
theorem dX7_beside_67 : decode cX7_beside 67 = .ok (.if_icmp .ne 14, 3) := by decide +kernel
theorem dX7_beside_70 : decode cX7_beside 70 = .ok (.iload_n 3, 1) := by decide +kernel
theorem dX7_beside_71 : decode cX7_beside 71 = .ok (.ifCond .le 10, 3) := by decide +kernel
theorem dX7_beside_74 : decode cX7_beside 74 = .ok (.iload_n 0, 1) := by decide +kernel
theorem dX7_beside_75 : decode cX7_beside 75 = .ok (.bipush 8, 2) := by decide +kernel
theorem dX7_beside_77 : decode cX7_beside 77 = .ok (.isub, 1) := by decide +kernel
theorem dX7_beside_78 : decode cX7_beside 78 = .ok (.goto 4, 3) := by decide +kernel
theorem dX7_beside_81 : decode cX7_beside 81 = .ok (.iload_n 0, 1) := by decide +kernel
theorem dX7_beside_82 : decode cX7_beside 82 = .ok (.ireturn, 1) := by decide +kernel
theorem dX7_other_0 : decode cX7_other 0 = .ok (.iload_n 0, 1) := by decide +kernel
theorem dX7_other_1 : decode cX7_other 1 = .ok (.ifCond .ne 7, 3) := by decide +kernel
theorem dX7_other_4 : decode cX7_other 4 = .ok (.iconst 0, 1) := by decide +kernel
theorem dX7_other_5 : decode cX7_other 5 = .ok (.goto 31, 3) := by decide +kernel
theorem dX7_other_8 : decode cX7_other 8 = .ok (.iload_n 0, 1) := by decide +kernel
theorem dX7_other_9 : decode cX7_other 9 = .ok (.iconst 1, 1) := by decide +kernel
theorem dX7_other_10 : decode cX7_other 10 = .ok (.if_icmp .ne 7, 3) := by decide +kernel
theorem dX7_other_13 : decode cX7_other 13 = .ok (.iconst 2, 1) := by decide +kernel
theorem dX7_other_14 : decode cX7_other 14 = .ok (.goto 22, 3) := by decide +kernel
theorem dX7_other_17 : decode cX7_other 17 = .ok (.iload_n 0, 1) := by decide +kernel
theorem dX7_other_18 : decode cX7_other 18 = .ok (.iconst 2, 1) := by decide +kernel
theorem dX7_other_19 : decode cX7_other 19 = .ok (.if_icmp .ne 7, 3) := by decide +kernel
theorem dX7_other_22 : decode cX7_other 22 = .ok (.iconst 1, 1) := by decide +kernel
theorem dX7_other_23 : decode cX7_other 23 = .ok (.goto 13, 3) := by decide +kernel
theorem dX7_other_26 : decode cX7_other 26 = .ok (.iload_n 0, 1) := by decide +kernel
theorem dX7_other_27 : decode cX7_other 27 = .ok (.iconst 3, 1) := by decide +kernel
theorem dX7_other_28 : decode cX7_other 28 = .ok (.if_icmp .ne 7, 3) := by decide +kernel
theorem dX7_other_31 : decode cX7_other 31 = .ok (.iconst 4, 1) := by decide +kernel
theorem dX7_other_32 : decode cX7_other 32 = .ok (.goto 4, 3) := by decide +kernel
theorem dX7_other_35 : decode cX7_other 35 = .ok (.iconst 3, 1) := by decide +kernel
theorem dX7_other_36 : decode cX7_other 36 = .ok (.ireturn, 1) := by decide +kernel
theorem dX7_drifts_0 : decode cX7_drifts 0 = .ok (.aload_n 0, 1) := by decide +kernel
theorem dX7_drifts_1 : decode cX7_drifts 1 = .ok (.getfield 19, 3) := by decide +kernel
theorem dX7_drifts_4 : decode cX7_drifts 4 = .ok (.iconst 0, 1) := by decide +kernel
theorem dX7_drifts_5 : decode cX7_drifts 5 = .ok (.bipush 6, 2) := by decide +kernel
theorem dX7_drifts_7 : decode cX7_drifts 7 = .ok (.iload_n 3, 1) := by decide +kernel
theorem dX7_drifts_8 : decode cX7_drifts 8 = .ok (.imul, 1) := by decide +kernel
theorem dX7_drifts_9 : decode cX7_drifts 9 = .ok (.iadd, 1) := by decide +kernel
theorem dX7_drifts_10 : decode cX7_drifts 10 = .ok (.iload 4, 2) := by decide +kernel
theorem dX7_drifts_12 : decode cX7_drifts 12 = .ok (.bipush 6, 2) := by decide +kernel
theorem dX7_drifts_14 : decode cX7_drifts 14 = .ok (.irem, 1) := by decide +kernel
theorem dX7_drifts_15 : decode cX7_drifts 15 = .ok (.iadd, 1) := by decide +kernel
theorem dX7_drifts_16 : decode cX7_drifts 16 = .ok (.iaload, 1) := by decide +kernel
theorem dX7_drifts_17 : decode cX7_drifts 17 = .ok (.istore 5, 2) := by decide +kernel
theorem dX7_drifts_19 : decode cX7_drifts 19 = .ok (.iload_n 1, 1) := by decide +kernel
theorem dX7_drifts_20 : decode cX7_drifts 20 = .ok (.iconst 4, 1) := by decide +kernel
theorem dX7_drifts_21 : decode cX7_drifts 21 = .ok (.if_icmp .ne 7, 3) := by decide +kernel
theorem dX7_drifts_24 : decode cX7_drifts 24 = .ok (.iload_n 2, 1) := by decide +kernel
theorem dX7_drifts_25 : decode cX7_drifts 25 = .ok (.goto 22, 3) := by decide +kernel
theorem dX7_drifts_28 : decode cX7_drifts 28 = .ok (.iload_n 2, 1) := by decide +kernel
theorem dX7_drifts_29 : decode cX7_drifts 29 = .ok (.iload_n 1, 1) := by decide +kernel
theorem dX7_drifts_30 : decode cX7_drifts 30 = .ok (.iconst 5, 1) := by decide +kernel
theorem dX7_drifts_31 : decode cX7_drifts 31 = .ok (.if_icmp .ne 11, 3) := by decide +kernel
theorem dX7_drifts_34 : decode cX7_drifts 34 = .ok (.iload 5, 2) := by decide +kernel
theorem dX7_drifts_36 : decode cX7_drifts 36 = .ok (.invokestatic 161, 3) := by decide +kernel
theorem dX7_drifts_39 : decode cX7_drifts 39 = .ok (.goto 5, 3) := by decide +kernel
theorem dX7_drifts_42 : decode cX7_drifts 42 = .ok (.iload 5, 2) := by decide +kernel
theorem dX7_drifts_44 : decode cX7_drifts 44 = .ok (.invokestatic 164, 3) := by decide +kernel
theorem dX7_drifts_47 : decode cX7_drifts 47 = .ok (.ireturn, 1) := by decide +kernel
theorem dX7_drift_0 : decode cX7_drift 0 = .ok (.aload_n 0, 1) := by decide +kernel
theorem dX7_drift_1 : decode cX7_drift 1 = .ok (.getfield 19, 3) := by decide +kernel
theorem dX7_drift_4 : decode cX7_drift 4 = .ok (.bipush 56, 2) := by decide +kernel
theorem dX7_drift_6 : decode cX7_drift 6 = .ok (.iload_n 1, 1) := by decide +kernel
theorem dX7_drift_7 : decode cX7_drift 7 = .ok (.iadd, 1) := by decide +kernel
theorem dX7_drift_8 : decode cX7_drift 8 = .ok (.aload_n 0, 1) := by decide +kernel
theorem dX7_drift_9 : decode cX7_drift 9 = .ok (.aload_n 0, 1) := by decide +kernel
theorem dX7_drift_10 : decode cX7_drift 10 = .ok (.getfield 19, 3) := by decide +kernel
theorem dX7_drift_13 : decode cX7_drift 13 = .ok (.bipush 51, 2) := by decide +kernel
theorem dX7_drift_15 : decode cX7_drift 15 = .ok (.iload_n 1, 1) := by decide +kernel
theorem dX7_drift_16 : decode cX7_drift 16 = .ok (.iadd, 1) := by decide +kernel
theorem dX7_drift_17 : decode cX7_drift 17 = .ok (.iaload, 1) := by decide +kernel
theorem dX7_drift_18 : decode cX7_drift 18 = .ok (.aload_n 0, 1) := by decide +kernel
theorem dX7_drift_19 : decode cX7_drift 19 = .ok (.getfield 19, 3) := by decide +kernel
theorem dX7_drift_22 : decode cX7_drift 22 = .ok (.bipush 56, 2) := by decide +kernel
theorem dX7_drift_24 : decode cX7_drift 24 = .ok (.iload_n 1, 1) := by decide +kernel
theorem dX7_drift_25 : decode cX7_drift 25 = .ok (.iadd, 1) := by decide +kernel
theorem dX7_drift_26 : decode cX7_drift 26 = .ok (.iaload, 1) := by decide +kernel
theorem dX7_drift_27 : decode cX7_drift 27 = .ok (.aload_n 0, 1) := by decide +kernel
theorem dX7_drift_28 : decode cX7_drift 28 = .ok (.getfield 19, 3) := by decide +kernel
theorem dX7_drift_31 : decode cX7_drift 31 = .ok (.bipush 61, 2) := by decide +kernel
theorem dX7_drift_33 : decode cX7_drift 33 = .ok (.iload_n 1, 1) := by decide +kernel
theorem dX7_drift_34 : decode cX7_drift 34 = .ok (.iadd, 1) := by decide +kernel
theorem dX7_drift_35 : decode cX7_drift 35 = .ok (.iaload, 1) := by decide +kernel
theorem dX7_drift_36 : decode cX7_drift 36 = .ok (.aload_n 0, 1) := by decide +kernel
theorem dX7_drift_37 : decode cX7_drift 37 = .ok (.getfield 19, 3) := by decide +kernel
theorem dX7_drift_40 : decode cX7_drift 40 = .ok (.bipush 46, 2) := by decide +kernel
theorem dX7_drift_42 : decode cX7_drift 42 = .ok (.iaload, 1) := by decide +kernel
theorem dX7_drift_43 : decode cX7_drift 43 = .ok (.invokevirtual 167, 3) := by decide +kernel
theorem dX7_drift_46 : decode cX7_drift 46 = .ok (.iastore, 1) := by decide +kernel
theorem dX7_drift_47 : decode cX7_drift 47 = .ok (.return_, 1) := by decide +kernel
theorem dX7_rainOf_0 : decode cX7_rainOf 0 = .ok (.aload_n 0, 1) := by decide +kernel
theorem dX7_rainOf_1 : decode cX7_rainOf 1 = .ok (.getfield 19, 3) := by decide +kernel
theorem dX7_rainOf_4 : decode cX7_rainOf 4 = .ok (.bipush 51, 2) := by decide +kernel
theorem dX7_rainOf_6 : decode cX7_rainOf 6 = .ok (.iload_n 1, 1) := by decide +kernel
theorem dX7_rainOf_7 : decode cX7_rainOf 7 = .ok (.iadd, 1) := by decide +kernel
theorem dX7_rainOf_8 : decode cX7_rainOf 8 = .ok (.iaload, 1) := by decide +kernel
theorem dX7_rainOf_9 : decode cX7_rainOf 9 = .ok (.istore_n 2, 1) := by decide +kernel
theorem dX7_rainOf_10 : decode cX7_rainOf 10 = .ok (.aload_n 0, 1) := by decide +kernel
theorem dX7_rainOf_11 : decode cX7_rainOf 11 = .ok (.getfield 19, 3) := by decide +kernel
theorem dX7_rainOf_14 : decode cX7_rainOf 14 = .ok (.bipush 12, 2) := by decide +kernel
theorem dX7_rainOf_16 : decode cX7_rainOf 16 = .ok (.aload_n 0, 1) := by decide +kernel
theorem dX7_rainOf_17 : decode cX7_rainOf 17 = .ok (.getfield 19, 3) := by decide +kernel
theorem dX7_rainOf_20 : decode cX7_rainOf 20 = .ok (.bipush 56, 2) := by decide +kernel
theorem dX7_rainOf_22 : decode cX7_rainOf 22 = .ok (.iload_n 1, 1) := by decide +kernel
theorem dX7_rainOf_23 : decode cX7_rainOf 23 = .ok (.iadd, 1) := by decide +kernel
theorem dX7_rainOf_24 : decode cX7_rainOf 24 = .ok (.iaload, 1) := by decide +kernel
theorem dX7_rainOf_25 : decode cX7_rainOf 25 = .ok (.iadd, 1) := by decide +kernel
theorem dX7_rainOf_26 : decode cX7_rainOf 26 = .ok (.iaload, 1) := by decide +kernel
theorem dX7_rainOf_27 : decode cX7_rainOf 27 = .ok (.istore_n 3, 1) := by decide +kernel
theorem dX7_rainOf_28 : decode cX7_rainOf 28 = .ok (.iload_n 2, 1) := by decide +kernel
theorem dX7_rainOf_29 : decode cX7_rainOf 29 = .ok (.iconst 1, 1) := by decide +kernel
theorem dX7_rainOf_30 : decode cX7_rainOf 30 = .ok (.if_icmp .ne 24, 3) := by decide +kernel
theorem dX7_rainOf_33 : decode cX7_rainOf 33 = .ok (.iload_n 3, 1) := by decide +kernel
theorem dX7_rainOf_34 : decode cX7_rainOf 34 = .ok (.iconst 1, 1) := by decide +kernel
theorem dX7_rainOf_35 : decode cX7_rainOf 35 = .ok (.if_icmp .ne 15, 3) := by decide +kernel
theorem dX7_rainOf_38 : decode cX7_rainOf 38 = .ok (.aload_n 0, 1) := by decide +kernel
theorem dX7_rainOf_39 : decode cX7_rainOf 39 = .ok (.getfield 19, 3) := by decide +kernel
theorem dX7_rainOf_42 : decode cX7_rainOf 42 = .ok (.bipush 76, 2) := by decide +kernel
theorem dX7_rainOf_44 : decode cX7_rainOf 44 = .ok (.iload_n 1, 1) := by decide +kernel
theorem dX7_rainOf_45 : decode cX7_rainOf 45 = .ok (.iadd, 1) := by decide +kernel
theorem dX7_rainOf_46 : decode cX7_rainOf 46 = .ok (.iaload, 1) := by decide +kernel
theorem dX7_rainOf_47 : decode cX7_rainOf 47 = .ok (.goto 42, 3) := by decide +kernel
theorem dX7_rainOf_50 : decode cX7_rainOf 50 = .ok (.iconst 0, 1) := by decide +kernel
theorem dX7_rainOf_51 : decode cX7_rainOf 51 = .ok (.goto 38, 3) := by decide +kernel
theorem dX7_rainOf_54 : decode cX7_rainOf 54 = .ok (.iload_n 2, 1) := by decide +kernel
theorem dX7_rainOf_55 : decode cX7_rainOf 55 = .ok (.iconst 2, 1) := by decide +kernel
theorem dX7_rainOf_56 : decode cX7_rainOf 56 = .ok (.if_icmp .ne 7, 3) := by decide +kernel
theorem dX7_rainOf_59 : decode cX7_rainOf 59 = .ok (.iconst 0, 1) := by decide +kernel
theorem dX7_rainOf_60 : decode cX7_rainOf 60 = .ok (.goto 29, 3) := by decide +kernel
theorem dX7_rainOf_63 : decode cX7_rainOf 63 = .ok (.iload_n 2, 1) := by decide +kernel
theorem dX7_rainOf_64 : decode cX7_rainOf 64 = .ok (.iconst 3, 1) := by decide +kernel
theorem dX7_rainOf_65 : decode cX7_rainOf 65 = .ok (.if_icmp .ne 7, 3) := by decide +kernel
theorem dX7_rainOf_68 : decode cX7_rainOf 68 = .ok (.iconst 2, 1) := by decide +kernel
theorem dX7_rainOf_69 : decode cX7_rainOf 69 = .ok (.goto 20, 3) := by decide +kernel
theorem dX7_rainOf_72 : decode cX7_rainOf 72 = .ok (.aload_n 0, 1) := by decide +kernel
theorem dX7_rainOf_73 : decode cX7_rainOf 73 = .ok (.getfield 19, 3) := by decide +kernel
theorem dX7_rainOf_76 : decode cX7_rainOf 76 = .ok (.bipush 61, 2) := by decide +kernel
theorem dX7_rainOf_78 : decode cX7_rainOf 78 = .ok (.iload_n 1, 1) := by decide +kernel
theorem dX7_rainOf_79 : decode cX7_rainOf 79 = .ok (.iadd, 1) := by decide +kernel
theorem dX7_rainOf_80 : decode cX7_rainOf 80 = .ok (.iaload, 1) := by decide +kernel
theorem dX7_rainOf_81 : decode cX7_rainOf 81 = .ok (.ifCond .ne 7, 3) := by decide +kernel
theorem dX7_rainOf_84 : decode cX7_rainOf 84 = .ok (.iconst 1, 1) := by decide +kernel
theorem dX7_rainOf_85 : decode cX7_rainOf 85 = .ok (.goto 4, 3) := by decide +kernel
theorem dX7_rainOf_88 : decode cX7_rainOf 88 = .ok (.iconst 0, 1) := by decide +kernel
theorem dX7_rainOf_89 : decode cX7_rainOf 89 = .ok (.istore 4, 2) := by decide +kernel
theorem dX7_rainOf_91 : decode cX7_rainOf 91 = .ok (.aload_n 0, 1) := by decide +kernel
theorem dX7_rainOf_92 : decode cX7_rainOf 92 = .ok (.getfield 19, 3) := by decide +kernel
theorem dX7_rainOf_95 : decode cX7_rainOf 95 = .ok (.bipush 66, 2) := by decide +kernel
theorem dX7_rainOf_97 : decode cX7_rainOf 97 = .ok (.iload_n 1, 1) := by decide +kernel
theorem dX7_rainOf_98 : decode cX7_rainOf 98 = .ok (.iadd, 1) := by decide +kernel
theorem dX7_rainOf_99 : decode cX7_rainOf 99 = .ok (.iaload, 1) := by decide +kernel
theorem dX7_rainOf_100 : decode cX7_rainOf 100 = .ok (.iload 4, 2) := by decide +kernel
theorem dX7_rainOf_102 : decode cX7_rainOf 102 = .ok (.if_icmp .ge 15, 3) := by decide +kernel
theorem dX7_rainOf_105 : decode cX7_rainOf 105 = .ok (.aload_n 0, 1) := by decide +kernel
theorem dX7_rainOf_106 : decode cX7_rainOf 106 = .ok (.getfield 19, 3) := by decide +kernel
theorem dX7_rainOf_109 : decode cX7_rainOf 109 = .ok (.bipush 66, 2) := by decide +kernel
theorem dX7_rainOf_111 : decode cX7_rainOf 111 = .ok (.iload_n 1, 1) := by decide +kernel
theorem dX7_rainOf_112 : decode cX7_rainOf 112 = .ok (.iadd, 1) := by decide +kernel
theorem dX7_rainOf_113 : decode cX7_rainOf 113 = .ok (.iaload, 1) := by decide +kernel
theorem dX7_rainOf_114 : decode cX7_rainOf 114 = .ok (.goto 5, 3) := by decide +kernel
theorem dX7_rainOf_117 : decode cX7_rainOf 117 = .ok (.iload 4, 2) := by decide +kernel
theorem dX7_rainOf_119 : decode cX7_rainOf 119 = .ok (.ireturn, 1) := by decide +kernel
theorem dX7_rain_0 : decode cX7_rain 0 = .ok (.aload_n 0, 1) := by decide +kernel
theorem dX7_rain_1 : decode cX7_rain 1 = .ok (.iload_n 1, 1) := by decide +kernel
theorem dX7_rain_2 : decode cX7_rain 2 = .ok (.invokevirtual 171, 3) := by decide +kernel
theorem dX7_rain_5 : decode cX7_rain 5 = .ok (.istore_n 2, 1) := by decide +kernel
theorem dX7_rain_6 : decode cX7_rain 6 = .ok (.aload_n 0, 1) := by decide +kernel
theorem dX7_rain_7 : decode cX7_rain 7 = .ok (.getfield 19, 3) := by decide +kernel
theorem dX7_rain_10 : decode cX7_rain 10 = .ok (.bipush 12, 2) := by decide +kernel
theorem dX7_rain_12 : decode cX7_rain 12 = .ok (.aload_n 0, 1) := by decide +kernel
theorem dX7_rain_13 : decode cX7_rain 13 = .ok (.getfield 19, 3) := by decide +kernel
theorem dX7_rain_16 : decode cX7_rain 16 = .ok (.bipush 56, 2) := by decide +kernel
theorem dX7_rain_18 : decode cX7_rain 18 = .ok (.iload_n 1, 1) := by decide +kernel
theorem dX7_rain_19 : decode cX7_rain 19 = .ok (.iadd, 1) := by decide +kernel
theorem dX7_rain_20 : decode cX7_rain 20 = .ok (.iaload, 1) := by decide +kernel
theorem dX7_rain_21 : decode cX7_rain 21 = .ok (.iadd, 1) := by decide +kernel
theorem dX7_rain_22 : decode cX7_rain 22 = .ok (.iaload, 1) := by decide +kernel
theorem dX7_rain_23 : decode cX7_rain 23 = .ok (.istore_n 3, 1) := by decide +kernel
theorem dX7_rain_24 : decode cX7_rain 24 = .ok (.aload_n 0, 1) := by decide +kernel
theorem dX7_rain_25 : decode cX7_rain 25 = .ok (.getfield 19, 3) := by decide +kernel
theorem dX7_rain_28 : decode cX7_rain 28 = .ok (.bipush 66, 2) := by decide +kernel
theorem dX7_rain_30 : decode cX7_rain 30 = .ok (.iload_n 1, 1) := by decide +kernel
theorem dX7_rain_31 : decode cX7_rain 31 = .ok (.iadd, 1) := by decide +kernel
theorem dX7_rain_32 : decode cX7_rain 32 = .ok (.dup2, 1) := by decide +kernel
theorem dX7_rain_33 : decode cX7_rain 33 = .ok (.iaload, 1) := by decide +kernel
theorem dX7_rain_34 : decode cX7_rain 34 = .ok (.iload_n 2, 1) := by decide +kernel
theorem dX7_rain_35 : decode cX7_rain 35 = .ok (.isub, 1) := by decide +kernel
theorem dX7_rain_36 : decode cX7_rain 36 = .ok (.iastore, 1) := by decide +kernel
theorem dX7_rain_37 : decode cX7_rain 37 = .ok (.aload_n 0, 1) := by decide +kernel
theorem dX7_rain_38 : decode cX7_rain 38 = .ok (.getfield 19, 3) := by decide +kernel
theorem dX7_rain_41 : decode cX7_rain 41 = .ok (.bipush 47, 2) := by decide +kernel
theorem dX7_rain_43 : decode cX7_rain 43 = .ok (.dup2, 1) := by decide +kernel
theorem dX7_rain_44 : decode cX7_rain 44 = .ok (.iaload, 1) := by decide +kernel
theorem dX7_rain_45 : decode cX7_rain 45 = .ok (.iload_n 3, 1) := by decide +kernel
theorem dX7_rain_46 : decode cX7_rain 46 = .ok (.iconst 1, 1) := by decide +kernel
theorem dX7_rain_47 : decode cX7_rain 47 = .ok (.if_icmp .ne 15, 3) := by decide +kernel
theorem dX7_rain_50 : decode cX7_rain 50 = .ok (.iload_n 2, 1) := by decide +kernel
theorem dX7_rain_51 : decode cX7_rain 51 = .ok (.aload_n 0, 1) := by decide +kernel
theorem dX7_rain_52 : decode cX7_rain 52 = .ok (.getfield 19, 3) := by decide +kernel
theorem dX7_rain_55 : decode cX7_rain 55 = .ok (.bipush 44, 2) := by decide +kernel
theorem dX7_rain_57 : decode cX7_rain 57 = .ok (.iaload, 1) := by decide +kernel
theorem dX7_rain_58 : decode cX7_rain 58 = .ok (.imul, 1) := by decide +kernel
theorem dX7_rain_59 : decode cX7_rain 59 = .ok (.goto 22, 3) := by decide +kernel
theorem dX7_rain_62 : decode cX7_rain 62 = .ok (.iload_n 3, 1) := by decide +kernel
theorem dX7_rain_63 : decode cX7_rain 63 = .ok (.iconst 2, 1) := by decide +kernel
theorem dX7_rain_64 : decode cX7_rain 64 = .ok (.if_icmp .ne 16, 3) := by decide +kernel
theorem dX7_rain_67 : decode cX7_rain 67 = .ok (.iload_n 2, 1) := by decide +kernel
theorem dX7_rain_68 : decode cX7_rain 68 = .ok (.ineg, 1) := by decide +kernel
theorem dX7_rain_69 : decode cX7_rain 69 = .ok (.aload_n 0, 1) := by decide +kernel
theorem dX7_rain_70 : decode cX7_rain 70 = .ok (.getfield 19, 3) := by decide +kernel
theorem dX7_rain_73 : decode cX7_rain 73 = .ok (.bipush 45, 2) := by decide +kernel
theorem dX7_rain_75 : decode cX7_rain 75 = .ok (.iaload, 1) := by decide +kernel
theorem dX7_rain_76 : decode cX7_rain 76 = .ok (.imul, 1) := by decide +kernel
theorem dX7_rain_77 : decode cX7_rain 77 = .ok (.goto 4, 3) := by decide +kernel
theorem dX7_rain_80 : decode cX7_rain 80 = .ok (.iconst 0, 1) := by decide +kernel
theorem dX7_rain_81 : decode cX7_rain 81 = .ok (.iadd, 1) := by decide +kernel
theorem dX7_rain_82 : decode cX7_rain 82 = .ok (.iastore, 1) := by decide +kernel
theorem dX7_rain_83 : decode cX7_rain 83 = .ok (.aload_n 0, 1) := by decide +kernel
theorem dX7_rain_84 : decode cX7_rain 84 = .ok (.dup, 1) := by decide +kernel
theorem dX7_rain_85 : decode cX7_rain 85 = .ok (.getfield 174, 3) := by decide +kernel
theorem dX7_rain_88 : decode cX7_rain 88 = .ok (.iload_n 3, 1) := by decide +kernel
theorem dX7_rain_89 : decode cX7_rain 89 = .ok (.iconst 2, 1) := by decide +kernel
theorem dX7_rain_90 : decode cX7_rain 90 = .ok (.if_icmp .ne 7, 3) := by decide +kernel
theorem dX7_rain_93 : decode cX7_rain 93 = .ok (.iload_n 2, 1) := by decide +kernel
theorem dX7_rain_94 : decode cX7_rain 94 = .ok (.goto 4, 3) := by decide +kernel
theorem dX7_rain_97 : decode cX7_rain 97 = .ok (.iconst 0, 1) := by decide +kernel
theorem dX7_rain_98 : decode cX7_rain 98 = .ok (.iadd, 1) := by decide +kernel
theorem dX7_rain_99 : decode cX7_rain 99 = .ok (.putfield 174, 3) := by decide +kernel
theorem dX7_rain_102 : decode cX7_rain 102 = .ok (.iload_n 2, 1) := by decide +kernel
theorem dX7_rain_103 : decode cX7_rain 103 = .ok (.ireturn, 1) := by decide +kernel
theorem dX7_milk_0 : decode cX7_milk 0 = .ok (.aload_n 0, 1) := by decide +kernel
theorem dX7_milk_1 : decode cX7_milk 1 = .ok (.getfield 19, 3) := by decide +kernel
theorem dX7_milk_4 : decode cX7_milk 4 = .ok (.bipush 61, 2) := by decide +kernel
theorem dX7_milk_6 : decode cX7_milk 6 = .ok (.iload_n 1, 1) := by decide +kernel
theorem dX7_milk_7 : decode cX7_milk 7 = .ok (.iadd, 1) := by decide +kernel
theorem dX7_milk_8 : decode cX7_milk 8 = .ok (.iaload, 1) := by decide +kernel
theorem dX7_milk_9 : decode cX7_milk 9 = .ok (.ifCond .ne 60, 3) := by decide +kernel
theorem dX7_milk_12 : decode cX7_milk 12 = .ok (.aload_n 0, 1) := by decide +kernel
theorem dX7_milk_13 : decode cX7_milk 13 = .ok (.getfield 19, 3) := by decide +kernel
theorem dX7_milk_16 : decode cX7_milk 16 = .ok (.bipush 12, 2) := by decide +kernel
theorem dX7_milk_18 : decode cX7_milk 18 = .ok (.aload_n 0, 1) := by decide +kernel
theorem dX7_milk_19 : decode cX7_milk 19 = .ok (.getfield 19, 3) := by decide +kernel
theorem dX7_milk_22 : decode cX7_milk 22 = .ok (.bipush 56, 2) := by decide +kernel
theorem dX7_milk_24 : decode cX7_milk 24 = .ok (.iload_n 1, 1) := by decide +kernel
theorem dX7_milk_25 : decode cX7_milk 25 = .ok (.iadd, 1) := by decide +kernel
theorem dX7_milk_26 : decode cX7_milk 26 = .ok (.iaload, 1) := by decide +kernel
theorem dX7_milk_27 : decode cX7_milk 27 = .ok (.iadd, 1) := by decide +kernel
theorem dX7_milk_28 : decode cX7_milk 28 = .ok (.iaload, 1) := by decide +kernel
theorem dX7_milk_29 : decode cX7_milk 29 = .ok (.iconst 3, 1) := by decide +kernel
theorem dX7_milk_30 : decode cX7_milk 30 = .ok (.if_icmp .ne 39, 3) := by decide +kernel
theorem dX7_milk_33 : decode cX7_milk 33 = .ok (.aload_n 0, 1) := by decide +kernel
theorem dX7_milk_34 : decode cX7_milk 34 = .ok (.getfield 19, 3) := by decide +kernel
theorem dX7_milk_37 : decode cX7_milk 37 = .ok (.bipush 66, 2) := by decide +kernel
theorem dX7_milk_39 : decode cX7_milk 39 = .ok (.iload_n 1, 1) := by decide +kernel
theorem dX7_milk_40 : decode cX7_milk 40 = .ok (.iadd, 1) := by decide +kernel
theorem dX7_milk_41 : decode cX7_milk 41 = .ok (.iaload, 1) := by decide +kernel
theorem dX7_milk_42 : decode cX7_milk 42 = .ok (.ifCond .le 27, 3) := by decide +kernel
theorem dX7_milk_45 : decode cX7_milk 45 = .ok (.aload_n 0, 1) := by decide +kernel
theorem dX7_milk_46 : decode cX7_milk 46 = .ok (.getfield 19, 3) := by decide +kernel
theorem dX7_milk_49 : decode cX7_milk 49 = .ok (.bipush 66, 2) := by decide +kernel
theorem dX7_milk_51 : decode cX7_milk 51 = .ok (.iload_n 1, 1) := by decide +kernel
theorem dX7_milk_52 : decode cX7_milk 52 = .ok (.iadd, 1) := by decide +kernel
theorem dX7_milk_53 : decode cX7_milk 53 = .ok (.dup2, 1) := by decide +kernel
theorem dX7_milk_54 : decode cX7_milk 54 = .ok (.iaload, 1) := by decide +kernel
theorem dX7_milk_55 : decode cX7_milk 55 = .ok (.iconst 1, 1) := by decide +kernel
theorem dX7_milk_56 : decode cX7_milk 56 = .ok (.isub, 1) := by decide +kernel
theorem dX7_milk_57 : decode cX7_milk 57 = .ok (.iastore, 1) := by decide +kernel
theorem dX7_milk_58 : decode cX7_milk 58 = .ok (.aload_n 0, 1) := by decide +kernel
theorem dX7_milk_59 : decode cX7_milk 59 = .ok (.getfield 19, 3) := by decide +kernel
theorem dX7_milk_62 : decode cX7_milk 62 = .ok (.bipush 48, 2) := by decide +kernel
theorem dX7_milk_64 : decode cX7_milk 64 = .ok (.dup2, 1) := by decide +kernel
theorem dX7_milk_65 : decode cX7_milk 65 = .ok (.iaload, 1) := by decide +kernel
theorem dX7_milk_66 : decode cX7_milk 66 = .ok (.iconst 1, 1) := by decide +kernel
theorem dX7_milk_67 : decode cX7_milk 67 = .ok (.iadd, 1) := by decide +kernel
theorem dX7_milk_68 : decode cX7_milk 68 = .ok (.iastore, 1) := by decide +kernel
theorem dX7_milk_69 : decode cX7_milk 69 = .ok (.return_, 1) := by decide +kernel
theorem dX7_isThere_0 : decode cX7_isThere 0 = .ok (.aload_n 0, 1) := by decide +kernel
theorem dX7_isThere_1 : decode cX7_isThere 1 = .ok (.getfield 19, 3) := by decide +kernel
theorem dX7_isThere_4 : decode cX7_isThere 4 = .ok (.bipush 71, 2) := by decide +kernel
theorem dX7_isThere_6 : decode cX7_isThere 6 = .ok (.iload_n 1, 1) := by decide +kernel
theorem dX7_isThere_7 : decode cX7_isThere 7 = .ok (.iadd, 1) := by decide +kernel
theorem dX7_isThere_8 : decode cX7_isThere 8 = .ok (.iaload, 1) := by decide +kernel
theorem dX7_isThere_9 : decode cX7_isThere 9 = .ok (.ifCond .ne 7, 3) := by decide +kernel
theorem dX7_isThere_12 : decode cX7_isThere 12 = .ok (.iconst 1, 1) := by decide +kernel
theorem dX7_isThere_13 : decode cX7_isThere 13 = .ok (.goto 4, 3) := by decide +kernel
theorem dX7_isThere_16 : decode cX7_isThere 16 = .ok (.iconst 0, 1) := by decide +kernel
theorem dX7_isThere_17 : decode cX7_isThere 17 = .ok (.ireturn, 1) := by decide +kernel
theorem dX7_together_0 : decode cX7_together 0 = .ok (.iconst 0, 1) := by decide +kernel
theorem dX7_together_1 : decode cX7_together 1 = .ok (.istore_n 1, 1) := by decide +kernel
theorem dX7_together_2 : decode cX7_together 2 = .ok (.iconst 1, 1) := by decide +kernel
theorem dX7_together_3 : decode cX7_together 3 = .ok (.istore_n 2, 1) := by decide +kernel
theorem dX7_together_4 : decode cX7_together 4 = .ok (.iload_n 2, 1) := by decide +kernel
theorem dX7_together_5 : decode cX7_together 5 = .ok (.aload_n 0, 1) := by decide +kernel
theorem dX7_together_6 : decode cX7_together 6 = .ok (.getfield 19, 3) := by decide +kernel
theorem dX7_together_9 : decode cX7_together 9 = .ok (.bipush 50, 2) := by decide +kernel
theorem dX7_together_11 : decode cX7_together 11 = .ok (.iaload, 1) := by decide +kernel
theorem dX7_together_12 : decode cX7_together 12 = .ok (.if_icmp .ge 150, 3) := by decide +kernel
theorem dX7_together_15 : decode cX7_together 15 = .ok (.iconst 0, 1) := by decide +kernel
theorem dX7_together_16 : decode cX7_together 16 = .ok (.istore_n 3, 1) := by decide +kernel
theorem dX7_together_17 : decode cX7_together 17 = .ok (.iload_n 3, 1) := by decide +kernel
theorem dX7_together_18 : decode cX7_together 18 = .ok (.iload_n 2, 1) := by decide +kernel
theorem dX7_together_19 : decode cX7_together 19 = .ok (.if_icmp .ge 137, 3) := by decide +kernel
theorem dX7_together_22 : decode cX7_together 22 = .ok (.aload_n 0, 1) := by decide +kernel
theorem dX7_together_23 : decode cX7_together 23 = .ok (.iload_n 2, 1) := by decide +kernel
theorem dX7_together_24 : decode cX7_together 24 = .ok (.invokevirtual 177, 3) := by decide +kernel
theorem dX7_together_27 : decode cX7_together 27 = .ok (.ifCond .eq 129, 3) := by decide +kernel
theorem dX7_together_30 : decode cX7_together 30 = .ok (.aload_n 0, 1) := by decide +kernel
theorem dX7_together_31 : decode cX7_together 31 = .ok (.iload_n 3, 1) := by decide +kernel
theorem dX7_together_32 : decode cX7_together 32 = .ok (.invokevirtual 177, 3) := by decide +kernel
theorem dX7_together_35 : decode cX7_together 35 = .ok (.ifCond .eq 115, 3) := by decide +kernel
theorem dX7_together_38 : decode cX7_together 38 = .ok (.aload_n 0, 1) := by decide +kernel
theorem dX7_together_39 : decode cX7_together 39 = .ok (.getfield 19, 3) := by decide +kernel
theorem dX7_together_42 : decode cX7_together 42 = .ok (.bipush 56, 2) := by decide +kernel
theorem dX7_together_44 : decode cX7_together 44 = .ok (.iload_n 2, 1) := by decide +kernel
theorem dX7_together_45 : decode cX7_together 45 = .ok (.iadd, 1) := by decide +kernel
theorem dX7_together_46 : decode cX7_together 46 = .ok (.iaload, 1) := by decide +kernel
theorem dX7_together_47 : decode cX7_together 47 = .ok (.aload_n 0, 1) := by decide +kernel
theorem dX7_together_48 : decode cX7_together 48 = .ok (.getfield 19, 3) := by decide +kernel
theorem dX7_together_51 : decode cX7_together 51 = .ok (.bipush 56, 2) := by decide +kernel
theorem dX7_together_53 : decode cX7_together 53 = .ok (.iload_n 3, 1) := by decide +kernel
theorem dX7_together_54 : decode cX7_together 54 = .ok (.iadd, 1) := by decide +kernel
theorem dX7_together_55 : decode cX7_together 55 = .ok (.iaload, 1) := by decide +kernel
theorem dX7_together_56 : decode cX7_together 56 = .ok (.if_icmp .ne 94, 3) := by decide +kernel
theorem dX7_together_59 : decode cX7_together 59 = .ok (.aload_n 0, 1) := by decide +kernel
theorem dX7_together_60 : decode cX7_together 60 = .ok (.getfield 19, 3) := by decide +kernel
theorem dX7_together_63 : decode cX7_together 63 = .ok (.bipush 61, 2) := by decide +kernel
theorem dX7_together_65 : decode cX7_together 65 = .ok (.iload_n 2, 1) := by decide +kernel
theorem dX7_together_66 : decode cX7_together 66 = .ok (.iadd, 1) := by decide +kernel
theorem dX7_together_67 : decode cX7_together 67 = .ok (.iaload, 1) := by decide +kernel
theorem dX7_together_68 : decode cX7_together 68 = .ok (.aload_n 0, 1) := by decide +kernel
theorem dX7_together_69 : decode cX7_together 69 = .ok (.getfield 19, 3) := by decide +kernel
theorem dX7_together_72 : decode cX7_together 72 = .ok (.bipush 61, 2) := by decide +kernel
theorem dX7_together_74 : decode cX7_together 74 = .ok (.iload_n 3, 1) := by decide +kernel
theorem dX7_together_75 : decode cX7_together 75 = .ok (.iadd, 1) := by decide +kernel
theorem dX7_together_76 : decode cX7_together 76 = .ok (.iaload, 1) := by decide +kernel
theorem dX7_together_77 : decode cX7_together 77 = .ok (.if_icmp .ne 73, 3) := by decide +kernel
theorem dX7_together_80 : decode cX7_together 80 = .ok (.aload_n 0, 1) := by decide +kernel
theorem dX7_together_81 : decode cX7_together 81 = .ok (.getfield 19, 3) := by decide +kernel
theorem dX7_together_84 : decode cX7_together 84 = .ok (.bipush 66, 2) := by decide +kernel
theorem dX7_together_86 : decode cX7_together 86 = .ok (.iload_n 2, 1) := by decide +kernel
theorem dX7_together_87 : decode cX7_together 87 = .ok (.iadd, 1) := by decide +kernel
theorem dX7_together_88 : decode cX7_together 88 = .ok (.iaload, 1) := by decide +kernel
theorem dX7_together_89 : decode cX7_together 89 = .ok (.aload_n 0, 1) := by decide +kernel
theorem dX7_together_90 : decode cX7_together 90 = .ok (.getfield 19, 3) := by decide +kernel
theorem dX7_together_93 : decode cX7_together 93 = .ok (.bipush 66, 2) := by decide +kernel
theorem dX7_together_95 : decode cX7_together 95 = .ok (.iload_n 3, 1) := by decide +kernel
theorem dX7_together_96 : decode cX7_together 96 = .ok (.iadd, 1) := by decide +kernel
theorem dX7_together_97 : decode cX7_together 97 = .ok (.iaload, 1) := by decide +kernel
theorem dX7_together_98 : decode cX7_together 98 = .ok (.iadd, 1) := by decide +kernel
theorem dX7_together_99 : decode cX7_together 99 = .ok (.istore 4, 2) := by decide +kernel
theorem dX7_together_101 : decode cX7_together 101 = .ok (.aload_n 0, 1) := by decide +kernel
theorem dX7_together_102 : decode cX7_together 102 = .ok (.getfield 19, 3) := by decide +kernel
theorem dX7_together_105 : decode cX7_together 105 = .ok (.bipush 66, 2) := by decide +kernel
theorem dX7_together_107 : decode cX7_together 107 = .ok (.iload_n 3, 1) := by decide +kernel
theorem dX7_together_108 : decode cX7_together 108 = .ok (.iadd, 1) := by decide +kernel
theorem dX7_together_109 : decode cX7_together 109 = .ok (.iload 4, 2) := by decide +kernel
theorem dX7_together_111 : decode cX7_together 111 = .ok (.bipush 40, 2) := by decide +kernel
theorem dX7_together_113 : decode cX7_together 113 = .ok (.if_icmp .le 8, 3) := by decide +kernel
theorem dX7_together_116 : decode cX7_together 116 = .ok (.bipush 40, 2) := by decide +kernel
theorem dX7_together_118 : decode cX7_together 118 = .ok (.goto 5, 3) := by decide +kernel
theorem dX7_together_121 : decode cX7_together 121 = .ok (.iload 4, 2) := by decide +kernel
theorem dX7_together_123 : decode cX7_together 123 = .ok (.iastore, 1) := by decide +kernel
theorem dX7_together_124 : decode cX7_together 124 = .ok (.aload_n 0, 1) := by decide +kernel
theorem dX7_together_125 : decode cX7_together 125 = .ok (.getfield 19, 3) := by decide +kernel
theorem dX7_together_128 : decode cX7_together 128 = .ok (.bipush 66, 2) := by decide +kernel
theorem dX7_together_130 : decode cX7_together 130 = .ok (.iload_n 2, 1) := by decide +kernel
theorem dX7_together_131 : decode cX7_together 131 = .ok (.iadd, 1) := by decide +kernel
theorem dX7_together_132 : decode cX7_together 132 = .ok (.iconst 0, 1) := by decide +kernel
theorem dX7_together_133 : decode cX7_together 133 = .ok (.iastore, 1) := by decide +kernel
theorem dX7_together_134 : decode cX7_together 134 = .ok (.aload_n 0, 1) := by decide +kernel
theorem dX7_together_135 : decode cX7_together 135 = .ok (.getfield 19, 3) := by decide +kernel
theorem dX7_together_138 : decode cX7_together 138 = .ok (.bipush 71, 2) := by decide +kernel
theorem dX7_together_140 : decode cX7_together 140 = .ok (.iload_n 2, 1) := by decide +kernel
theorem dX7_together_141 : decode cX7_together 141 = .ok (.iadd, 1) := by decide +kernel
theorem dX7_together_142 : decode cX7_together 142 = .ok (.iconst 1, 1) := by decide +kernel
theorem dX7_together_143 : decode cX7_together 143 = .ok (.iastore, 1) := by decide +kernel
theorem dX7_together_144 : decode cX7_together 144 = .ok (.iload_n 1, 1) := by decide +kernel
theorem dX7_together_145 : decode cX7_together 145 = .ok (.iconst 1, 1) := by decide +kernel
theorem dX7_together_146 : decode cX7_together 146 = .ok (.iload_n 2, 1) := by decide +kernel
theorem dX7_together_147 : decode cX7_together 147 = .ok (.ishl, 1) := by decide +kernel
theorem dX7_together_148 : decode cX7_together 148 = .ok (.ior, 1) := by decide +kernel
theorem dX7_together_149 : decode cX7_together 149 = .ok (.istore_n 1, 1) := by decide +kernel
theorem dX7_together_150 : decode cX7_together 150 = .ok (.iinc 3 1, 3) := by decide +kernel
theorem dX7_together_153 : decode cX7_together 153 = .ok (.goto (-136), 3) := by decide +kernel
theorem dX7_together_156 : decode cX7_together 156 = .ok (.iinc 2 1, 3) := by decide +kernel
theorem dX7_together_159 : decode cX7_together 159 = .ok (.goto (-155), 3) := by decide +kernel
theorem dX7_together_162 : decode cX7_together 162 = .ok (.iload_n 1, 1) := by decide +kernel
theorem dX7_together_163 : decode cX7_together 163 = .ok (.ireturn, 1) := by decide +kernel
theorem dX7_oneHour_0 : decode cX7_oneHour 0 = .ok (.aload_n 0, 1) := by decide +kernel
theorem dX7_oneHour_1 : decode cX7_oneHour 1 = .ok (.iconst 0, 1) := by decide +kernel
theorem dX7_oneHour_2 : decode cX7_oneHour 2 = .ok (.putfield 174, 3) := by decide +kernel
theorem dX7_oneHour_5 : decode cX7_oneHour 5 = .ok (.iconst 0, 1) := by decide +kernel
theorem dX7_oneHour_6 : decode cX7_oneHour 6 = .ok (.istore_n 1, 1) := by decide +kernel
theorem dX7_oneHour_7 : decode cX7_oneHour 7 = .ok (.iload_n 1, 1) := by decide +kernel
theorem dX7_oneHour_8 : decode cX7_oneHour 8 = .ok (.aload_n 0, 1) := by decide +kernel
theorem dX7_oneHour_9 : decode cX7_oneHour 9 = .ok (.getfield 19, 3) := by decide +kernel
theorem dX7_oneHour_12 : decode cX7_oneHour 12 = .ok (.bipush 50, 2) := by decide +kernel
theorem dX7_oneHour_14 : decode cX7_oneHour 14 = .ok (.iaload, 1) := by decide +kernel
theorem dX7_oneHour_15 : decode cX7_oneHour 15 = .ok (.if_icmp .ge 22, 3) := by decide +kernel
theorem dX7_oneHour_18 : decode cX7_oneHour 18 = .ok (.aload_n 0, 1) := by decide +kernel
theorem dX7_oneHour_19 : decode cX7_oneHour 19 = .ok (.iload_n 1, 1) := by decide +kernel
theorem dX7_oneHour_20 : decode cX7_oneHour 20 = .ok (.invokevirtual 177, 3) := by decide +kernel
theorem dX7_oneHour_23 : decode cX7_oneHour 23 = .ok (.ifCond .eq 8, 3) := by decide +kernel
theorem dX7_oneHour_26 : decode cX7_oneHour 26 = .ok (.aload_n 0, 1) := by decide +kernel
theorem dX7_oneHour_27 : decode cX7_oneHour 27 = .ok (.iload_n 1, 1) := by decide +kernel
theorem dX7_oneHour_28 : decode cX7_oneHour 28 = .ok (.invokevirtual 180, 3) := by decide +kernel
theorem dX7_oneHour_31 : decode cX7_oneHour 31 = .ok (.iinc 1 1, 3) := by decide +kernel
theorem dX7_oneHour_34 : decode cX7_oneHour 34 = .ok (.goto (-27), 3) := by decide +kernel
theorem dX7_oneHour_37 : decode cX7_oneHour 37 = .ok (.aload_n 0, 1) := by decide +kernel
theorem dX7_oneHour_38 : decode cX7_oneHour 38 = .ok (.invokevirtual 184, 3) := by decide +kernel
theorem dX7_oneHour_41 : decode cX7_oneHour 41 = .ok (.istore_n 1, 1) := by decide +kernel
theorem dX7_oneHour_42 : decode cX7_oneHour 42 = .ok (.iconst 0, 1) := by decide +kernel
theorem dX7_oneHour_43 : decode cX7_oneHour 43 = .ok (.istore_n 2, 1) := by decide +kernel
theorem dX7_oneHour_44 : decode cX7_oneHour 44 = .ok (.iload_n 2, 1) := by decide +kernel
theorem dX7_oneHour_45 : decode cX7_oneHour 45 = .ok (.aload_n 0, 1) := by decide +kernel
theorem dX7_oneHour_46 : decode cX7_oneHour 46 = .ok (.getfield 19, 3) := by decide +kernel
theorem dX7_oneHour_49 : decode cX7_oneHour 49 = .ok (.bipush 50, 2) := by decide +kernel
theorem dX7_oneHour_51 : decode cX7_oneHour 51 = .ok (.iaload, 1) := by decide +kernel
theorem dX7_oneHour_52 : decode cX7_oneHour 52 = .ok (.if_icmp .ge 23, 3) := by decide +kernel
theorem dX7_oneHour_55 : decode cX7_oneHour 55 = .ok (.aload_n 0, 1) := by decide +kernel
theorem dX7_oneHour_56 : decode cX7_oneHour 56 = .ok (.iload_n 2, 1) := by decide +kernel
theorem dX7_oneHour_57 : decode cX7_oneHour 57 = .ok (.invokevirtual 177, 3) := by decide +kernel
theorem dX7_oneHour_60 : decode cX7_oneHour 60 = .ok (.ifCond .eq 9, 3) := by decide +kernel
theorem dX7_oneHour_63 : decode cX7_oneHour 63 = .ok (.aload_n 0, 1) := by decide +kernel
theorem dX7_oneHour_64 : decode cX7_oneHour 64 = .ok (.iload_n 2, 1) := by decide +kernel
theorem dX7_oneHour_65 : decode cX7_oneHour 65 = .ok (.invokevirtual 187, 3) := by decide +kernel
theorem dX7_oneHour_68 : decode cX7_oneHour 68 = .ok (.pop, 1) := by decide +kernel
theorem dX7_oneHour_69 : decode cX7_oneHour 69 = .ok (.iinc 2 1, 3) := by decide +kernel
theorem dX7_oneHour_72 : decode cX7_oneHour 72 = .ok (.goto (-28), 3) := by decide +kernel
theorem dX7_oneHour_75 : decode cX7_oneHour 75 = .ok (.iconst 0, 1) := by decide +kernel
theorem dX7_oneHour_76 : decode cX7_oneHour 76 = .ok (.istore_n 2, 1) := by decide +kernel
theorem dX7_oneHour_77 : decode cX7_oneHour 77 = .ok (.iload_n 2, 1) := by decide +kernel
theorem dX7_oneHour_78 : decode cX7_oneHour 78 = .ok (.aload_n 0, 1) := by decide +kernel
theorem dX7_oneHour_79 : decode cX7_oneHour 79 = .ok (.getfield 19, 3) := by decide +kernel
theorem dX7_oneHour_82 : decode cX7_oneHour 82 = .ok (.bipush 50, 2) := by decide +kernel
theorem dX7_oneHour_84 : decode cX7_oneHour 84 = .ok (.iaload, 1) := by decide +kernel
theorem dX7_oneHour_85 : decode cX7_oneHour 85 = .ok (.if_icmp .ge 22, 3) := by decide +kernel
theorem dX7_oneHour_88 : decode cX7_oneHour 88 = .ok (.aload_n 0, 1) := by decide +kernel
theorem dX7_oneHour_89 : decode cX7_oneHour 89 = .ok (.iload_n 2, 1) := by decide +kernel
theorem dX7_oneHour_90 : decode cX7_oneHour 90 = .ok (.invokevirtual 177, 3) := by decide +kernel
theorem dX7_oneHour_93 : decode cX7_oneHour 93 = .ok (.ifCond .eq 8, 3) := by decide +kernel
theorem dX7_oneHour_96 : decode cX7_oneHour 96 = .ok (.aload_n 0, 1) := by decide +kernel
theorem dX7_oneHour_97 : decode cX7_oneHour 97 = .ok (.iload_n 2, 1) := by decide +kernel
theorem dX7_oneHour_98 : decode cX7_oneHour 98 = .ok (.invokevirtual 190, 3) := by decide +kernel
theorem dX7_oneHour_101 : decode cX7_oneHour 101 = .ok (.iinc 2 1, 3) := by decide +kernel
theorem dX7_oneHour_104 : decode cX7_oneHour 104 = .ok (.goto (-27), 3) := by decide +kernel
theorem dX7_oneHour_107 : decode cX7_oneHour 107 = .ok (.aload_n 0, 1) := by decide +kernel
theorem dX7_oneHour_108 : decode cX7_oneHour 108 = .ok (.getfield 19, 3) := by decide +kernel
theorem dX7_oneHour_111 : decode cX7_oneHour 111 = .ok (.bipush 46, 2) := by decide +kernel
theorem dX7_oneHour_113 : decode cX7_oneHour 113 = .ok (.dup2, 1) := by decide +kernel
theorem dX7_oneHour_114 : decode cX7_oneHour 114 = .ok (.iaload, 1) := by decide +kernel
theorem dX7_oneHour_115 : decode cX7_oneHour 115 = .ok (.iconst 1, 1) := by decide +kernel
theorem dX7_oneHour_116 : decode cX7_oneHour 116 = .ok (.iadd, 1) := by decide +kernel
theorem dX7_oneHour_117 : decode cX7_oneHour 117 = .ok (.iastore, 1) := by decide +kernel
theorem dX7_oneHour_118 : decode cX7_oneHour 118 = .ok (.iload_n 1, 1) := by decide +kernel
theorem dX7_oneHour_119 : decode cX7_oneHour 119 = .ok (.ireturn, 1) := by decide +kernel
theorem dX7_oneAlone_0 : decode cX7_oneAlone 0 = .ok (.aload_n 0, 1) := by decide +kernel
theorem dX7_oneAlone_1 : decode cX7_oneAlone 1 = .ok (.iload_n 1, 1) := by decide +kernel
theorem dX7_oneAlone_2 : decode cX7_oneAlone 2 = .ok (.invokevirtual 180, 3) := by decide +kernel
theorem dX7_oneAlone_5 : decode cX7_oneAlone 5 = .ok (.aload_n 0, 1) := by decide +kernel
theorem dX7_oneAlone_6 : decode cX7_oneAlone 6 = .ok (.iload_n 1, 1) := by decide +kernel
theorem dX7_oneAlone_7 : decode cX7_oneAlone 7 = .ok (.invokevirtual 187, 3) := by decide +kernel
theorem dX7_oneAlone_10 : decode cX7_oneAlone 10 = .ok (.istore_n 2, 1) := by decide +kernel
theorem dX7_oneAlone_11 : decode cX7_oneAlone 11 = .ok (.aload_n 0, 1) := by decide +kernel
theorem dX7_oneAlone_12 : decode cX7_oneAlone 12 = .ok (.iload_n 1, 1) := by decide +kernel
theorem dX7_oneAlone_13 : decode cX7_oneAlone 13 = .ok (.invokevirtual 190, 3) := by decide +kernel
theorem dX7_oneAlone_16 : decode cX7_oneAlone 16 = .ok (.aload_n 0, 1) := by decide +kernel
theorem dX7_oneAlone_17 : decode cX7_oneAlone 17 = .ok (.getfield 19, 3) := by decide +kernel
theorem dX7_oneAlone_20 : decode cX7_oneAlone 20 = .ok (.bipush 46, 2) := by decide +kernel
theorem dX7_oneAlone_22 : decode cX7_oneAlone 22 = .ok (.dup2, 1) := by decide +kernel
theorem dX7_oneAlone_23 : decode cX7_oneAlone 23 = .ok (.iaload, 1) := by decide +kernel
theorem dX7_oneAlone_24 : decode cX7_oneAlone 24 = .ok (.iconst 1, 1) := by decide +kernel
theorem dX7_oneAlone_25 : decode cX7_oneAlone 25 = .ok (.iadd, 1) := by decide +kernel
theorem dX7_oneAlone_26 : decode cX7_oneAlone 26 = .ok (.iastore, 1) := by decide +kernel
theorem dX7_oneAlone_27 : decode cX7_oneAlone 27 = .ok (.iload_n 2, 1) := by decide +kernel
theorem dX7_oneAlone_28 : decode cX7_oneAlone 28 = .ok (.ireturn, 1) := by decide +kernel
theorem dX7_note_0 : decode cX7_note 0 = .ok (.aload_n 0, 1) := by decide +kernel
theorem dX7_note_1 : decode cX7_note 1 = .ok (.getfield 158, 3) := by decide +kernel
theorem dX7_note_4 : decode cX7_note 4 = .ok (.bipush 24, 2) := by decide +kernel
theorem dX7_note_6 : decode cX7_note 6 = .ok (.if_icmp .ne 43, 3) := by decide +kernel
theorem dX7_note_9 : decode cX7_note 9 = .ok (.iconst 0, 1) := by decide +kernel
theorem dX7_note_10 : decode cX7_note 10 = .ok (.istore_n 1, 1) := by decide +kernel
theorem dX7_note_11 : decode cX7_note 11 = .ok (.iload_n 1, 1) := by decide +kernel
theorem dX7_note_12 : decode cX7_note 12 = .ok (.sipush 1886, 3) := by decide +kernel
theorem dX7_note_15 : decode cX7_note 15 = .ok (.if_icmp .ge 24, 3) := by decide +kernel
theorem dX7_note_18 : decode cX7_note 18 = .ok (.aload_n 0, 1) := by decide +kernel
theorem dX7_note_19 : decode cX7_note 19 = .ok (.getfield 31, 3) := by decide +kernel
theorem dX7_note_22 : decode cX7_note 22 = .ok (.iload_n 1, 1) := by decide +kernel
theorem dX7_note_23 : decode cX7_note 23 = .ok (.aload_n 0, 1) := by decide +kernel
theorem dX7_note_24 : decode cX7_note 24 = .ok (.getfield 31, 3) := by decide +kernel
theorem dX7_note_27 : decode cX7_note 27 = .ok (.iload_n 1, 1) := by decide +kernel
theorem dX7_note_28 : decode cX7_note 28 = .ok (.bipush 82, 2) := by decide +kernel
theorem dX7_note_30 : decode cX7_note 30 = .ok (.iadd, 1) := by decide +kernel
theorem dX7_note_31 : decode cX7_note 31 = .ok (.iaload, 1) := by decide +kernel
theorem dX7_note_32 : decode cX7_note 32 = .ok (.iastore, 1) := by decide +kernel
theorem dX7_note_33 : decode cX7_note 33 = .ok (.iinc 1 1, 3) := by decide +kernel
theorem dX7_note_36 : decode cX7_note 36 = .ok (.goto (-25), 3) := by decide +kernel
theorem dX7_note_39 : decode cX7_note 39 = .ok (.aload_n 0, 1) := by decide +kernel
theorem dX7_note_40 : decode cX7_note 40 = .ok (.dup, 1) := by decide +kernel
theorem dX7_note_41 : decode cX7_note 41 = .ok (.getfield 158, 3) := by decide +kernel
theorem dX7_note_44 : decode cX7_note 44 = .ok (.iconst 1, 1) := by decide +kernel
theorem dX7_note_45 : decode cX7_note 45 = .ok (.isub, 1) := by decide +kernel
theorem dX7_note_46 : decode cX7_note 46 = .ok (.putfield 158, 3) := by decide +kernel
theorem dX7_note_49 : decode cX7_note 49 = .ok (.iconst 0, 1) := by decide +kernel
theorem dX7_note_50 : decode cX7_note 50 = .ok (.istore_n 1, 1) := by decide +kernel
theorem dX7_note_51 : decode cX7_note 51 = .ok (.iload_n 1, 1) := by decide +kernel
theorem dX7_note_52 : decode cX7_note 52 = .ok (.bipush 82, 2) := by decide +kernel
theorem dX7_note_54 : decode cX7_note 54 = .ok (.if_icmp .ge 29, 3) := by decide +kernel
theorem dX7_note_57 : decode cX7_note 57 = .ok (.aload_n 0, 1) := by decide +kernel
theorem dX7_note_58 : decode cX7_note 58 = .ok (.getfield 31, 3) := by decide +kernel
theorem dX7_note_61 : decode cX7_note 61 = .ok (.bipush 82, 2) := by decide +kernel
theorem dX7_note_63 : decode cX7_note 63 = .ok (.aload_n 0, 1) := by decide +kernel
theorem dX7_note_64 : decode cX7_note 64 = .ok (.getfield 158, 3) := by decide +kernel
theorem dX7_note_67 : decode cX7_note 67 = .ok (.imul, 1) := by decide +kernel
theorem dX7_note_68 : decode cX7_note 68 = .ok (.iload_n 1, 1) := by decide +kernel
theorem dX7_note_69 : decode cX7_note 69 = .ok (.iadd, 1) := by decide +kernel
theorem dX7_note_70 : decode cX7_note 70 = .ok (.aload_n 0, 1) := by decide +kernel
theorem dX7_note_71 : decode cX7_note 71 = .ok (.getfield 19, 3) := by decide +kernel
theorem dX7_note_74 : decode cX7_note 74 = .ok (.iload_n 1, 1) := by decide +kernel
theorem dX7_note_75 : decode cX7_note 75 = .ok (.iaload, 1) := by decide +kernel
theorem dX7_note_76 : decode cX7_note 76 = .ok (.iastore, 1) := by decide +kernel
theorem dX7_note_77 : decode cX7_note 77 = .ok (.iinc 1 1, 3) := by decide +kernel
theorem dX7_note_80 : decode cX7_note 80 = .ok (.goto (-29), 3) := by decide +kernel
theorem dX7_note_83 : decode cX7_note 83 = .ok (.aload_n 0, 1) := by decide +kernel
theorem dX7_note_84 : decode cX7_note 84 = .ok (.dup, 1) := by decide +kernel
theorem dX7_note_85 : decode cX7_note 85 = .ok (.getfield 158, 3) := by decide +kernel
theorem dX7_note_88 : decode cX7_note 88 = .ok (.iconst 1, 1) := by decide +kernel
theorem dX7_note_89 : decode cX7_note 89 = .ok (.iadd, 1) := by decide +kernel
theorem dX7_note_90 : decode cX7_note 90 = .ok (.putfield 158, 3) := by decide +kernel
theorem dX7_note_93 : decode cX7_note 93 = .ok (.return_, 1) := by decide +kernel
theorem dX7_undo_0 : decode cX7_undo 0 = .ok (.aload_n 0, 1) := by decide +kernel
theorem dX7_undo_1 : decode cX7_undo 1 = .ok (.getfield 158, 3) := by decide +kernel
theorem dX7_undo_4 : decode cX7_undo 4 = .ok (.ifCond .ne 6, 3) := by decide +kernel
theorem dX7_undo_7 : decode cX7_undo 7 = .ok (.ldc 193, 2) := by decide +kernel
theorem dX7_undo_9 : decode cX7_undo 9 = .ok (.ireturn, 1) := by decide +kernel
theorem dX7_undo_10 : decode cX7_undo 10 = .ok (.aload_n 0, 1) := by decide +kernel
theorem dX7_undo_11 : decode cX7_undo 11 = .ok (.dup, 1) := by decide +kernel
theorem dX7_undo_12 : decode cX7_undo 12 = .ok (.getfield 158, 3) := by decide +kernel
theorem dX7_undo_15 : decode cX7_undo 15 = .ok (.iconst 1, 1) := by decide +kernel
theorem dX7_undo_16 : decode cX7_undo 16 = .ok (.isub, 1) := by decide +kernel
theorem dX7_undo_17 : decode cX7_undo 17 = .ok (.putfield 158, 3) := by decide +kernel
theorem dX7_undo_20 : decode cX7_undo 20 = .ok (.iconst 0, 1) := by decide +kernel
theorem dX7_undo_21 : decode cX7_undo 21 = .ok (.istore_n 1, 1) := by decide +kernel
theorem dX7_undo_22 : decode cX7_undo 22 = .ok (.iload_n 1, 1) := by decide +kernel
theorem dX7_undo_23 : decode cX7_undo 23 = .ok (.bipush 82, 2) := by decide +kernel
theorem dX7_undo_25 : decode cX7_undo 25 = .ok (.if_icmp .ge 29, 3) := by decide +kernel
theorem dX7_undo_28 : decode cX7_undo 28 = .ok (.aload_n 0, 1) := by decide +kernel
theorem dX7_undo_29 : decode cX7_undo 29 = .ok (.getfield 19, 3) := by decide +kernel
theorem dX7_undo_32 : decode cX7_undo 32 = .ok (.iload_n 1, 1) := by decide +kernel
theorem dX7_undo_33 : decode cX7_undo 33 = .ok (.aload_n 0, 1) := by decide +kernel
theorem dX7_undo_34 : decode cX7_undo 34 = .ok (.getfield 31, 3) := by decide +kernel
theorem dX7_undo_37 : decode cX7_undo 37 = .ok (.bipush 82, 2) := by decide +kernel
theorem dX7_undo_39 : decode cX7_undo 39 = .ok (.aload_n 0, 1) := by decide +kernel
theorem dX7_undo_40 : decode cX7_undo 40 = .ok (.getfield 158, 3) := by decide +kernel
theorem dX7_undo_43 : decode cX7_undo 43 = .ok (.imul, 1) := by decide +kernel
theorem dX7_undo_44 : decode cX7_undo 44 = .ok (.iload_n 1, 1) := by decide +kernel
theorem dX7_undo_45 : decode cX7_undo 45 = .ok (.iadd, 1) := by decide +kernel
theorem dX7_undo_46 : decode cX7_undo 46 = .ok (.iaload, 1) := by decide +kernel
theorem dX7_undo_47 : decode cX7_undo 47 = .ok (.iastore, 1) := by decide +kernel
theorem dX7_undo_48 : decode cX7_undo 48 = .ok (.iinc 1 1, 3) := by decide +kernel
theorem dX7_undo_51 : decode cX7_undo 51 = .ok (.goto (-29), 3) := by decide +kernel
theorem dX7_undo_54 : decode cX7_undo 54 = .ok (.aload_n 0, 1) := by decide +kernel
theorem dX7_undo_55 : decode cX7_undo 55 = .ok (.getfield 158, 3) := by decide +kernel
theorem dX7_undo_58 : decode cX7_undo 58 = .ok (.ireturn, 1) := by decide +kernel
theorem dX7_hours_0 : decode cX7_hours 0 = .ok (.aload_n 0, 1) := by decide +kernel
theorem dX7_hours_1 : decode cX7_hours 1 = .ok (.getfield 154, 3) := by decide +kernel
theorem dX7_hours_4 : decode cX7_hours 4 = .ok (.ifCond .ne 6, 3) := by decide +kernel
theorem dX7_hours_7 : decode cX7_hours 7 = .ok (.ldc 193, 2) := by decide +kernel
theorem dX7_hours_9 : decode cX7_hours 9 = .ok (.ireturn, 1) := by decide +kernel
theorem dX7_hours_10 : decode cX7_hours 10 = .ok (.iload_n 1, 1) := by decide +kernel
theorem dX7_hours_11 : decode cX7_hours 11 = .ok (.i2l, 1) := by decide +kernel
theorem dX7_hours_12 : decode cX7_hours 12 = .ok (.lconst 1, 1) := by decide +kernel
theorem dX7_hours_13 : decode cX7_hours 13 = .ok (.ldc2_w 194, 3) := by decide +kernel
theorem dX7_hours_16 : decode cX7_hours 16 = .ok (.invokestatic 60, 3) := by decide +kernel
theorem dX7_hours_19 : decode cX7_hours 19 = .ok (.ifCond .ne 6, 3) := by decide +kernel
theorem dX7_hours_22 : decode cX7_hours 22 = .ok (.ldc 70, 2) := by decide +kernel
theorem dX7_hours_24 : decode cX7_hours 24 = .ok (.ireturn, 1) := by decide +kernel
theorem dX7_hours_25 : decode cX7_hours 25 = .ok (.aload_n 0, 1) := by decide +kernel
theorem dX7_hours_26 : decode cX7_hours 26 = .ok (.getfield 19, 3) := by decide +kernel
theorem dX7_hours_29 : decode cX7_hours 29 = .ok (.bipush 46, 2) := by decide +kernel
theorem dX7_hours_31 : decode cX7_hours 31 = .ok (.iaload, 1) := by decide +kernel
theorem dX7_hours_32 : decode cX7_hours 32 = .ok (.iload_n 1, 1) := by decide +kernel
theorem dX7_hours_33 : decode cX7_hours 33 = .ok (.iadd, 1) := by decide +kernel
theorem dX7_hours_34 : decode cX7_hours 34 = .ok (.sipush 999, 3) := by decide +kernel
theorem dX7_hours_37 : decode cX7_hours 37 = .ok (.if_icmp .le 6, 3) := by decide +kernel
theorem dX7_hours_40 : decode cX7_hours 40 = .ok (.ldc 87, 2) := by decide +kernel
theorem dX7_hours_42 : decode cX7_hours 42 = .ok (.ireturn, 1) := by decide +kernel
theorem dX7_hours_43 : decode cX7_hours 43 = .ok (.iconst 0, 1) := by decide +kernel
theorem dX7_hours_44 : decode cX7_hours 44 = .ok (.istore_n 2, 1) := by decide +kernel
theorem dX7_hours_45 : decode cX7_hours 45 = .ok (.iload_n 2, 1) := by decide +kernel
theorem dX7_hours_46 : decode cX7_hours 46 = .ok (.iload_n 1, 1) := by decide +kernel
theorem dX7_hours_47 : decode cX7_hours 47 = .ok (.if_icmp .ge 18, 3) := by decide +kernel
theorem dX7_hours_50 : decode cX7_hours 50 = .ok (.aload_n 0, 1) := by decide +kernel
theorem dX7_hours_51 : decode cX7_hours 51 = .ok (.invokevirtual 196, 3) := by decide +kernel
theorem dX7_hours_54 : decode cX7_hours 54 = .ok (.aload_n 0, 1) := by decide +kernel
theorem dX7_hours_55 : decode cX7_hours 55 = .ok (.invokevirtual 199, 3) := by decide +kernel
theorem dX7_hours_58 : decode cX7_hours 58 = .ok (.pop, 1) := by decide +kernel
theorem dX7_hours_59 : decode cX7_hours 59 = .ok (.iinc 2 1, 3) := by decide +kernel
theorem dX7_hours_62 : decode cX7_hours 62 = .ok (.goto (-17), 3) := by decide +kernel
theorem dX7_hours_65 : decode cX7_hours 65 = .ok (.aload_n 0, 1) := by decide +kernel
theorem dX7_hours_66 : decode cX7_hours 66 = .ok (.getfield 19, 3) := by decide +kernel
theorem dX7_hours_69 : decode cX7_hours 69 = .ok (.bipush 47, 2) := by decide +kernel
theorem dX7_hours_71 : decode cX7_hours 71 = .ok (.iaload, 1) := by decide +kernel
theorem dX7_hours_72 : decode cX7_hours 72 = .ok (.ireturn, 1) := by decide +kernel
theorem dX7_isCloud_0 : decode cX7_isCloud 0 = .ok (.iload_n 1, 1) := by decide +kernel
theorem dX7_isCloud_1 : decode cX7_isCloud 1 = .ok (.i2l, 1) := by decide +kernel
theorem dX7_isCloud_2 : decode cX7_isCloud 2 = .ok (.lconst 0, 1) := by decide +kernel
theorem dX7_isCloud_3 : decode cX7_isCloud 3 = .ok (.aload_n 0, 1) := by decide +kernel
theorem dX7_isCloud_4 : decode cX7_isCloud 4 = .ok (.getfield 19, 3) := by decide +kernel
theorem dX7_isCloud_7 : decode cX7_isCloud 7 = .ok (.bipush 50, 2) := by decide +kernel
theorem dX7_isCloud_9 : decode cX7_isCloud 9 = .ok (.iaload, 1) := by decide +kernel
theorem dX7_isCloud_10 : decode cX7_isCloud 10 = .ok (.iconst 1, 1) := by decide +kernel
theorem dX7_isCloud_11 : decode cX7_isCloud 11 = .ok (.isub, 1) := by decide +kernel
theorem dX7_isCloud_12 : decode cX7_isCloud 12 = .ok (.i2l, 1) := by decide +kernel
theorem dX7_isCloud_13 : decode cX7_isCloud 13 = .ok (.invokestatic 60, 3) := by decide +kernel
theorem dX7_isCloud_16 : decode cX7_isCloud 16 = .ok (.ireturn, 1) := by decide +kernel
theorem dX7_setHeight_0 : decode cX7_setHeight 0 = .ok (.iload_n 2, 1) := by decide +kernel
theorem dX7_setHeight_1 : decode cX7_setHeight 1 = .ok (.aload_n 0, 1) := by decide +kernel
theorem dX7_setHeight_2 : decode cX7_setHeight 2 = .ok (.getfield 19, 3) := by decide +kernel
theorem dX7_setHeight_5 : decode cX7_setHeight 5 = .ok (.bipush 61, 2) := by decide +kernel
theorem dX7_setHeight_7 : decode cX7_setHeight 7 = .ok (.iload_n 1, 1) := by decide +kernel
theorem dX7_setHeight_8 : decode cX7_setHeight 8 = .ok (.iadd, 1) := by decide +kernel
theorem dX7_setHeight_9 : decode cX7_setHeight 9 = .ok (.iaload, 1) := by decide +kernel
theorem dX7_setHeight_10 : decode cX7_setHeight 10 = .ok (.if_icmp .le 33, 3) := by decide +kernel
theorem dX7_setHeight_13 : decode cX7_setHeight 13 = .ok (.aload_n 0, 1) := by decide +kernel
theorem dX7_setHeight_14 : decode cX7_setHeight 14 = .ok (.getfield 19, 3) := by decide +kernel
theorem dX7_setHeight_17 : decode cX7_setHeight 17 = .ok (.bipush 66, 2) := by decide +kernel
theorem dX7_setHeight_19 : decode cX7_setHeight 19 = .ok (.iload_n 1, 1) := by decide +kernel
theorem dX7_setHeight_20 : decode cX7_setHeight 20 = .ok (.iadd, 1) := by decide +kernel
theorem dX7_setHeight_21 : decode cX7_setHeight 21 = .ok (.iaload, 1) := by decide +kernel
theorem dX7_setHeight_22 : decode cX7_setHeight 22 = .ok (.iconst 2, 1) := by decide +kernel
theorem dX7_setHeight_23 : decode cX7_setHeight 23 = .ok (.isub, 1) := by decide +kernel
theorem dX7_setHeight_24 : decode cX7_setHeight 24 = .ok (.istore_n 3, 1) := by decide +kernel
theorem dX7_setHeight_25 : decode cX7_setHeight 25 = .ok (.aload_n 0, 1) := by decide +kernel
theorem dX7_setHeight_26 : decode cX7_setHeight 26 = .ok (.getfield 19, 3) := by decide +kernel
theorem dX7_setHeight_29 : decode cX7_setHeight 29 = .ok (.bipush 66, 2) := by decide +kernel
theorem dX7_setHeight_31 : decode cX7_setHeight 31 = .ok (.iload_n 1, 1) := by decide +kernel
theorem dX7_setHeight_32 : decode cX7_setHeight 32 = .ok (.iadd, 1) := by decide +kernel
theorem dX7_setHeight_33 : decode cX7_setHeight 33 = .ok (.iload_n 3, 1) := by decide +kernel
theorem dX7_setHeight_34 : decode cX7_setHeight 34 = .ok (.ifCond .ge 7, 3) := by decide +kernel
theorem dX7_setHeight_37 : decode cX7_setHeight 37 = .ok (.iconst 0, 1) := by decide +kernel
theorem dX7_setHeight_38 : decode cX7_setHeight 38 = .ok (.goto 4, 3) := by decide +kernel
theorem dX7_setHeight_41 : decode cX7_setHeight 41 = .ok (.iload_n 3, 1) := by decide +kernel
theorem dX7_setHeight_42 : decode cX7_setHeight 42 = .ok (.iastore, 1) := by decide +kernel
theorem dX7_setHeight_43 : decode cX7_setHeight 43 = .ok (.aload_n 0, 1) := by decide +kernel
theorem dX7_setHeight_44 : decode cX7_setHeight 44 = .ok (.getfield 19, 3) := by decide +kernel
theorem dX7_setHeight_47 : decode cX7_setHeight 47 = .ok (.bipush 61, 2) := by decide +kernel
theorem dX7_setHeight_49 : decode cX7_setHeight 49 = .ok (.iload_n 1, 1) := by decide +kernel
theorem dX7_setHeight_50 : decode cX7_setHeight 50 = .ok (.iadd, 1) := by decide +kernel
theorem dX7_setHeight_51 : decode cX7_setHeight 51 = .ok (.iload_n 2, 1) := by decide +kernel
theorem dX7_setHeight_52 : decode cX7_setHeight 52 = .ok (.iastore, 1) := by decide +kernel
theorem dX7_setHeight_53 : decode cX7_setHeight 53 = .ok (.return_, 1) := by decide +kernel
theorem dX7_lift_0 : decode cX7_lift 0 = .ok (.aload_n 0, 1) := by decide +kernel
theorem dX7_lift_1 : decode cX7_lift 1 = .ok (.iload_n 1, 1) := by decide +kernel
theorem dX7_lift_2 : decode cX7_lift 2 = .ok (.invokevirtual 202, 3) := by decide +kernel
theorem dX7_lift_5 : decode cX7_lift 5 = .ok (.ifCond .eq 13, 3) := by decide +kernel
theorem dX7_lift_8 : decode cX7_lift 8 = .ok (.iload_n 2, 1) := by decide +kernel
theorem dX7_lift_9 : decode cX7_lift 9 = .ok (.i2l, 1) := by decide +kernel
theorem dX7_lift_10 : decode cX7_lift 10 = .ok (.lconst 0, 1) := by decide +kernel
theorem dX7_lift_11 : decode cX7_lift 11 = .ok (.lconst 1, 1) := by decide +kernel
theorem dX7_lift_12 : decode cX7_lift 12 = .ok (.invokestatic 60, 3) := by decide +kernel
theorem dX7_lift_15 : decode cX7_lift 15 = .ok (.ifCond .ne 6, 3) := by decide +kernel
theorem dX7_lift_18 : decode cX7_lift 18 = .ok (.ldc 70, 2) := by decide +kernel
theorem dX7_lift_20 : decode cX7_lift 20 = .ok (.ireturn, 1) := by decide +kernel
theorem dX7_lift_21 : decode cX7_lift 21 = .ok (.aload_n 0, 1) := by decide +kernel
theorem dX7_lift_22 : decode cX7_lift 22 = .ok (.getfield 19, 3) := by decide +kernel
theorem dX7_lift_25 : decode cX7_lift 25 = .ok (.bipush 61, 2) := by decide +kernel
theorem dX7_lift_27 : decode cX7_lift 27 = .ok (.iload_n 1, 1) := by decide +kernel
theorem dX7_lift_28 : decode cX7_lift 28 = .ok (.iadd, 1) := by decide +kernel
theorem dX7_lift_29 : decode cX7_lift 29 = .ok (.iaload, 1) := by decide +kernel
theorem dX7_lift_30 : decode cX7_lift 30 = .ok (.iload_n 2, 1) := by decide +kernel
theorem dX7_lift_31 : decode cX7_lift 31 = .ok (.if_icmp .eq 24, 3) := by decide +kernel
theorem dX7_lift_34 : decode cX7_lift 34 = .ok (.aload_n 0, 1) := by decide +kernel
theorem dX7_lift_35 : decode cX7_lift 35 = .ok (.iload_n 1, 1) := by decide +kernel
theorem dX7_lift_36 : decode cX7_lift 36 = .ok (.invokevirtual 177, 3) := by decide +kernel
theorem dX7_lift_39 : decode cX7_lift 39 = .ok (.ifCond .eq 16, 3) := by decide +kernel
theorem dX7_lift_42 : decode cX7_lift 42 = .ok (.aload_n 0, 1) := by decide +kernel
theorem dX7_lift_43 : decode cX7_lift 43 = .ok (.getfield 19, 3) := by decide +kernel
theorem dX7_lift_46 : decode cX7_lift 46 = .ok (.bipush 51, 2) := by decide +kernel
theorem dX7_lift_48 : decode cX7_lift 48 = .ok (.iload_n 1, 1) := by decide +kernel
theorem dX7_lift_49 : decode cX7_lift 49 = .ok (.iadd, 1) := by decide +kernel
theorem dX7_lift_50 : decode cX7_lift 50 = .ok (.iaload, 1) := by decide +kernel
theorem dX7_lift_51 : decode cX7_lift 51 = .ok (.iconst 4, 1) := by decide +kernel
theorem dX7_lift_52 : decode cX7_lift 52 = .ok (.if_icmp .lt 6, 3) := by decide +kernel
theorem dX7_lift_55 : decode cX7_lift 55 = .ok (.ldc 193, 2) := by decide +kernel
theorem dX7_lift_57 : decode cX7_lift 57 = .ok (.ireturn, 1) := by decide +kernel
theorem dX7_lift_58 : decode cX7_lift 58 = .ok (.aload_n 0, 1) := by decide +kernel
theorem dX7_lift_59 : decode cX7_lift 59 = .ok (.invokevirtual 196, 3) := by decide +kernel
theorem dX7_lift_62 : decode cX7_lift 62 = .ok (.aload_n 0, 1) := by decide +kernel
theorem dX7_lift_63 : decode cX7_lift 63 = .ok (.iload_n 1, 1) := by decide +kernel
theorem dX7_lift_64 : decode cX7_lift 64 = .ok (.iload_n 2, 1) := by decide +kernel
theorem dX7_lift_65 : decode cX7_lift 65 = .ok (.invokevirtual 205, 3) := by decide +kernel
theorem dX7_lift_68 : decode cX7_lift 68 = .ok (.aload_n 0, 1) := by decide +kernel
theorem dX7_lift_69 : decode cX7_lift 69 = .ok (.getfield 19, 3) := by decide +kernel
theorem dX7_lift_72 : decode cX7_lift 72 = .ok (.bipush 66, 2) := by decide +kernel
theorem dX7_lift_74 : decode cX7_lift 74 = .ok (.iload_n 1, 1) := by decide +kernel
theorem dX7_lift_75 : decode cX7_lift 75 = .ok (.iadd, 1) := by decide +kernel
theorem dX7_lift_76 : decode cX7_lift 76 = .ok (.iaload, 1) := by decide +kernel
theorem dX7_lift_77 : decode cX7_lift 77 = .ok (.ireturn, 1) := by decide +kernel
theorem dX7_rains_0 : decode cX7_rains 0 = .ok (.aload_n 0, 1) := by decide +kernel
theorem dX7_rains_1 : decode cX7_rains 1 = .ok (.iload_n 1, 1) := by decide +kernel
theorem dX7_rains_2 : decode cX7_rains 2 = .ok (.invokevirtual 202, 3) := by decide +kernel
theorem dX7_rains_5 : decode cX7_rains 5 = .ok (.ifCond .eq 13, 3) := by decide +kernel
theorem dX7_rains_8 : decode cX7_rains 8 = .ok (.iload_n 2, 1) := by decide +kernel
theorem dX7_rains_9 : decode cX7_rains 9 = .ok (.i2l, 1) := by decide +kernel
theorem dX7_rains_10 : decode cX7_rains 10 = .ok (.lconst 0, 1) := by decide +kernel
theorem dX7_rains_11 : decode cX7_rains 11 = .ok (.lconst 1, 1) := by decide +kernel
theorem dX7_rains_12 : decode cX7_rains 12 = .ok (.invokestatic 60, 3) := by decide +kernel
theorem dX7_rains_15 : decode cX7_rains 15 = .ok (.ifCond .ne 6, 3) := by decide +kernel
theorem dX7_rains_18 : decode cX7_rains 18 = .ok (.ldc 70, 2) := by decide +kernel
theorem dX7_rains_20 : decode cX7_rains 20 = .ok (.ireturn, 1) := by decide +kernel
theorem dX7_rains_21 : decode cX7_rains 21 = .ok (.aload_n 0, 1) := by decide +kernel
theorem dX7_rains_22 : decode cX7_rains 22 = .ok (.iload_n 1, 1) := by decide +kernel
theorem dX7_rains_23 : decode cX7_rains 23 = .ok (.invokevirtual 177, 3) := by decide +kernel
theorem dX7_rains_26 : decode cX7_rains 26 = .ok (.ifCond .eq 16, 3) := by decide +kernel
theorem dX7_rains_29 : decode cX7_rains 29 = .ok (.aload_n 0, 1) := by decide +kernel
theorem dX7_rains_30 : decode cX7_rains 30 = .ok (.getfield 19, 3) := by decide +kernel
theorem dX7_rains_33 : decode cX7_rains 33 = .ok (.bipush 51, 2) := by decide +kernel
theorem dX7_rains_35 : decode cX7_rains 35 = .ok (.iload_n 1, 1) := by decide +kernel
theorem dX7_rains_36 : decode cX7_rains 36 = .ok (.iadd, 1) := by decide +kernel
theorem dX7_rains_37 : decode cX7_rains 37 = .ok (.iaload, 1) := by decide +kernel
theorem dX7_rains_38 : decode cX7_rains 38 = .ok (.iconst 2, 1) := by decide +kernel
theorem dX7_rains_39 : decode cX7_rains 39 = .ok (.if_icmp .le 6, 3) := by decide +kernel
theorem dX7_rains_42 : decode cX7_rains 42 = .ok (.ldc 193, 2) := by decide +kernel
theorem dX7_rains_44 : decode cX7_rains 44 = .ok (.ireturn, 1) := by decide +kernel
theorem dX7_rains_45 : decode cX7_rains 45 = .ok (.aload_n 0, 1) := by decide +kernel
theorem dX7_rains_46 : decode cX7_rains 46 = .ok (.invokevirtual 196, 3) := by decide +kernel
theorem dX7_rains_49 : decode cX7_rains 49 = .ok (.aload_n 0, 1) := by decide +kernel
theorem dX7_rains_50 : decode cX7_rains 50 = .ok (.getfield 19, 3) := by decide +kernel
theorem dX7_rains_53 : decode cX7_rains 53 = .ok (.bipush 76, 2) := by decide +kernel
theorem dX7_rains_55 : decode cX7_rains 55 = .ok (.iload_n 1, 1) := by decide +kernel
theorem dX7_rains_56 : decode cX7_rains 56 = .ok (.iadd, 1) := by decide +kernel
theorem dX7_rains_57 : decode cX7_rains 57 = .ok (.iaload, 1) := by decide +kernel
theorem dX7_rains_58 : decode cX7_rains 58 = .ok (.istore_n 3, 1) := by decide +kernel
theorem dX7_rains_59 : decode cX7_rains 59 = .ok (.aload_n 0, 1) := by decide +kernel
theorem dX7_rains_60 : decode cX7_rains 60 = .ok (.getfield 19, 3) := by decide +kernel
theorem dX7_rains_63 : decode cX7_rains 63 = .ok (.bipush 76, 2) := by decide +kernel
theorem dX7_rains_65 : decode cX7_rains 65 = .ok (.iload_n 1, 1) := by decide +kernel
theorem dX7_rains_66 : decode cX7_rains 66 = .ok (.iadd, 1) := by decide +kernel
theorem dX7_rains_67 : decode cX7_rains 67 = .ok (.iload_n 2, 1) := by decide +kernel
theorem dX7_rains_68 : decode cX7_rains 68 = .ok (.iastore, 1) := by decide +kernel
theorem dX7_rains_69 : decode cX7_rains 69 = .ok (.iload_n 3, 1) := by decide +kernel
theorem dX7_rains_70 : decode cX7_rains 70 = .ok (.ireturn, 1) := by decide +kernel
theorem dX7_toldOf_0 : decode cX7_toldOf 0 = .ok (.iload_n 2, 1) := by decide +kernel
theorem dX7_toldOf_1 : decode cX7_toldOf 1 = .ok (.ifCond .ne 15, 3) := by decide +kernel
theorem dX7_toldOf_4 : decode cX7_toldOf 4 = .ok (.aload_n 0, 1) := by decide +kernel
theorem dX7_toldOf_5 : decode cX7_toldOf 5 = .ok (.getfield 19, 3) := by decide +kernel
theorem dX7_toldOf_8 : decode cX7_toldOf 8 = .ok (.bipush 56, 2) := by decide +kernel
theorem dX7_toldOf_10 : decode cX7_toldOf 10 = .ok (.iload_n 1, 1) := by decide +kernel
theorem dX7_toldOf_11 : decode cX7_toldOf 11 = .ok (.iadd, 1) := by decide +kernel
theorem dX7_toldOf_12 : decode cX7_toldOf 12 = .ok (.iaload, 1) := by decide +kernel
theorem dX7_toldOf_13 : decode cX7_toldOf 13 = .ok (.goto 63, 3) := by decide +kernel
theorem dX7_toldOf_16 : decode cX7_toldOf 16 = .ok (.iload_n 2, 1) := by decide +kernel
theorem dX7_toldOf_17 : decode cX7_toldOf 17 = .ok (.iconst 1, 1) := by decide +kernel
theorem dX7_toldOf_18 : decode cX7_toldOf 18 = .ok (.if_icmp .ne 15, 3) := by decide +kernel
theorem dX7_toldOf_21 : decode cX7_toldOf 21 = .ok (.aload_n 0, 1) := by decide +kernel
theorem dX7_toldOf_22 : decode cX7_toldOf 22 = .ok (.getfield 19, 3) := by decide +kernel
theorem dX7_toldOf_25 : decode cX7_toldOf 25 = .ok (.bipush 61, 2) := by decide +kernel
theorem dX7_toldOf_27 : decode cX7_toldOf 27 = .ok (.iload_n 1, 1) := by decide +kernel
theorem dX7_toldOf_28 : decode cX7_toldOf 28 = .ok (.iadd, 1) := by decide +kernel
theorem dX7_toldOf_29 : decode cX7_toldOf 29 = .ok (.iaload, 1) := by decide +kernel
theorem dX7_toldOf_30 : decode cX7_toldOf 30 = .ok (.goto 46, 3) := by decide +kernel
theorem dX7_toldOf_33 : decode cX7_toldOf 33 = .ok (.iload_n 2, 1) := by decide +kernel
theorem dX7_toldOf_34 : decode cX7_toldOf 34 = .ok (.iconst 2, 1) := by decide +kernel
theorem dX7_toldOf_35 : decode cX7_toldOf 35 = .ok (.if_icmp .ne 15, 3) := by decide +kernel
theorem dX7_toldOf_38 : decode cX7_toldOf 38 = .ok (.aload_n 0, 1) := by decide +kernel
theorem dX7_toldOf_39 : decode cX7_toldOf 39 = .ok (.getfield 19, 3) := by decide +kernel
theorem dX7_toldOf_42 : decode cX7_toldOf 42 = .ok (.bipush 66, 2) := by decide +kernel
theorem dX7_toldOf_44 : decode cX7_toldOf 44 = .ok (.iload_n 1, 1) := by decide +kernel
theorem dX7_toldOf_45 : decode cX7_toldOf 45 = .ok (.iadd, 1) := by decide +kernel
theorem dX7_toldOf_46 : decode cX7_toldOf 46 = .ok (.iaload, 1) := by decide +kernel
theorem dX7_toldOf_47 : decode cX7_toldOf 47 = .ok (.goto 29, 3) := by decide +kernel
theorem dX7_toldOf_50 : decode cX7_toldOf 50 = .ok (.iload_n 2, 1) := by decide +kernel
theorem dX7_toldOf_51 : decode cX7_toldOf 51 = .ok (.iconst 3, 1) := by decide +kernel
theorem dX7_toldOf_52 : decode cX7_toldOf 52 = .ok (.if_icmp .ne 15, 3) := by decide +kernel
theorem dX7_toldOf_55 : decode cX7_toldOf 55 = .ok (.aload_n 0, 1) := by decide +kernel
theorem dX7_toldOf_56 : decode cX7_toldOf 56 = .ok (.getfield 19, 3) := by decide +kernel
theorem dX7_toldOf_59 : decode cX7_toldOf 59 = .ok (.bipush 71, 2) := by decide +kernel
theorem dX7_toldOf_61 : decode cX7_toldOf 61 = .ok (.iload_n 1, 1) := by decide +kernel
theorem dX7_toldOf_62 : decode cX7_toldOf 62 = .ok (.iadd, 1) := by decide +kernel
theorem dX7_toldOf_63 : decode cX7_toldOf 63 = .ok (.iaload, 1) := by decide +kernel
theorem dX7_toldOf_64 : decode cX7_toldOf 64 = .ok (.goto 12, 3) := by decide +kernel
theorem dX7_toldOf_67 : decode cX7_toldOf 67 = .ok (.aload_n 0, 1) := by decide +kernel
theorem dX7_toldOf_68 : decode cX7_toldOf 68 = .ok (.getfield 19, 3) := by decide +kernel
theorem dX7_toldOf_71 : decode cX7_toldOf 71 = .ok (.bipush 76, 2) := by decide +kernel
theorem dX7_toldOf_73 : decode cX7_toldOf 73 = .ok (.iload_n 1, 1) := by decide +kernel
theorem dX7_toldOf_74 : decode cX7_toldOf 74 = .ok (.iadd, 1) := by decide +kernel
theorem dX7_toldOf_75 : decode cX7_toldOf 75 = .ok (.iaload, 1) := by decide +kernel
theorem dX7_toldOf_76 : decode cX7_toldOf 76 = .ok (.ireturn, 1) := by decide +kernel
theorem dX7_cloud_0 : decode cX7_cloud 0 = .ok (.aload_n 0, 1) := by decide +kernel
theorem dX7_cloud_1 : decode cX7_cloud 1 = .ok (.iload_n 1, 1) := by decide +kernel
theorem dX7_cloud_2 : decode cX7_cloud 2 = .ok (.invokevirtual 202, 3) := by decide +kernel
theorem dX7_cloud_5 : decode cX7_cloud 5 = .ok (.ifCond .eq 24, 3) := by decide +kernel
theorem dX7_cloud_8 : decode cX7_cloud 8 = .ok (.iload_n 2, 1) := by decide +kernel
theorem dX7_cloud_9 : decode cX7_cloud 9 = .ok (.i2l, 1) := by decide +kernel
theorem dX7_cloud_10 : decode cX7_cloud 10 = .ok (.lconst 0, 1) := by decide +kernel
theorem dX7_cloud_11 : decode cX7_cloud 11 = .ok (.ldc2_w 209, 3) := by decide +kernel
theorem dX7_cloud_14 : decode cX7_cloud 14 = .ok (.invokestatic 60, 3) := by decide +kernel
theorem dX7_cloud_17 : decode cX7_cloud 17 = .ok (.ifCond .eq 12, 3) := by decide +kernel
theorem dX7_cloud_20 : decode cX7_cloud 20 = .ok (.aload_n 0, 1) := by decide +kernel
theorem dX7_cloud_21 : decode cX7_cloud 21 = .ok (.iload_n 1, 1) := by decide +kernel
theorem dX7_cloud_22 : decode cX7_cloud 22 = .ok (.iload_n 2, 1) := by decide +kernel
theorem dX7_cloud_23 : decode cX7_cloud 23 = .ok (.invokevirtual 211, 3) := by decide +kernel
theorem dX7_cloud_26 : decode cX7_cloud 26 = .ok (.goto 5, 3) := by decide +kernel
theorem dX7_cloud_29 : decode cX7_cloud 29 = .ok (.ldc 70, 2) := by decide +kernel
theorem dX7_cloud_31 : decode cX7_cloud 31 = .ok (.ireturn, 1) := by decide +kernel
theorem dX7_isCell_0 : decode cX7_isCell 0 = .ok (.iload_n 0, 1) := by decide +kernel
theorem dX7_isCell_1 : decode cX7_isCell 1 = .ok (.i2l, 1) := by decide +kernel
theorem dX7_isCell_2 : decode cX7_isCell 2 = .ok (.lconst 0, 1) := by decide +kernel
theorem dX7_isCell_3 : decode cX7_isCell 3 = .ok (.ldc2_w 214, 3) := by decide +kernel
theorem dX7_isCell_6 : decode cX7_isCell 6 = .ok (.invokestatic 60, 3) := by decide +kernel
theorem dX7_isCell_9 : decode cX7_isCell 9 = .ok (.ireturn, 1) := by decide +kernel
theorem dX7_over_0 : decode cX7_over 0 = .ok (.iconst 0, 1) := by decide +kernel
theorem dX7_over_1 : decode cX7_over 1 = .ok (.istore_n 2, 1) := by decide +kernel
theorem dX7_over_2 : decode cX7_over 2 = .ok (.iconst 0, 1) := by decide +kernel
theorem dX7_over_3 : decode cX7_over 3 = .ok (.istore_n 3, 1) := by decide +kernel
theorem dX7_over_4 : decode cX7_over 4 = .ok (.iload_n 3, 1) := by decide +kernel
theorem dX7_over_5 : decode cX7_over 5 = .ok (.aload_n 0, 1) := by decide +kernel
theorem dX7_over_6 : decode cX7_over 6 = .ok (.getfield 19, 3) := by decide +kernel
theorem dX7_over_9 : decode cX7_over 9 = .ok (.bipush 50, 2) := by decide +kernel
theorem dX7_over_11 : decode cX7_over 11 = .ok (.iaload, 1) := by decide +kernel
theorem dX7_over_12 : decode cX7_over 12 = .ok (.if_icmp .ge 40, 3) := by decide +kernel
theorem dX7_over_15 : decode cX7_over 15 = .ok (.iload_n 2, 1) := by decide +kernel
theorem dX7_over_16 : decode cX7_over 16 = .ok (.aload_n 0, 1) := by decide +kernel
theorem dX7_over_17 : decode cX7_over 17 = .ok (.iload_n 3, 1) := by decide +kernel
theorem dX7_over_18 : decode cX7_over 18 = .ok (.invokevirtual 177, 3) := by decide +kernel
theorem dX7_over_21 : decode cX7_over 21 = .ok (.ifCond .eq 22, 3) := by decide +kernel
theorem dX7_over_24 : decode cX7_over 24 = .ok (.aload_n 0, 1) := by decide +kernel
theorem dX7_over_25 : decode cX7_over 25 = .ok (.getfield 19, 3) := by decide +kernel
theorem dX7_over_28 : decode cX7_over 28 = .ok (.bipush 56, 2) := by decide +kernel
theorem dX7_over_30 : decode cX7_over 30 = .ok (.iload_n 3, 1) := by decide +kernel
theorem dX7_over_31 : decode cX7_over 31 = .ok (.iadd, 1) := by decide +kernel
theorem dX7_over_32 : decode cX7_over 32 = .ok (.iaload, 1) := by decide +kernel
theorem dX7_over_33 : decode cX7_over 33 = .ok (.iload_n 1, 1) := by decide +kernel
theorem dX7_over_34 : decode cX7_over 34 = .ok (.if_icmp .ne 9, 3) := by decide +kernel
theorem dX7_over_37 : decode cX7_over 37 = .ok (.iconst 1, 1) := by decide +kernel
theorem dX7_over_38 : decode cX7_over 38 = .ok (.iload_n 3, 1) := by decide +kernel
theorem dX7_over_39 : decode cX7_over 39 = .ok (.ishl, 1) := by decide +kernel
theorem dX7_over_40 : decode cX7_over 40 = .ok (.goto 4, 3) := by decide +kernel
theorem dX7_over_43 : decode cX7_over 43 = .ok (.iconst 0, 1) := by decide +kernel
theorem dX7_over_44 : decode cX7_over 44 = .ok (.ior, 1) := by decide +kernel
theorem dX7_over_45 : decode cX7_over 45 = .ok (.istore_n 2, 1) := by decide +kernel
theorem dX7_over_46 : decode cX7_over 46 = .ok (.iinc 3 1, 3) := by decide +kernel
theorem dX7_over_49 : decode cX7_over 49 = .ok (.goto (-45), 3) := by decide +kernel
theorem dX7_over_52 : decode cX7_over 52 = .ok (.iload_n 2, 1) := by decide +kernel
theorem dX7_over_53 : decode cX7_over 53 = .ok (.ireturn, 1) := by decide +kernel
theorem dX7_cell_0 : decode cX7_cell 0 = .ok (.aload_n 0, 1) := by decide +kernel
theorem dX7_cell_1 : decode cX7_cell 1 = .ok (.getfield 154, 3) := by decide +kernel
theorem dX7_cell_4 : decode cX7_cell 4 = .ok (.ifCond .ne 6, 3) := by decide +kernel
theorem dX7_cell_7 : decode cX7_cell 7 = .ok (.ldc 193, 2) := by decide +kernel
theorem dX7_cell_9 : decode cX7_cell 9 = .ok (.ireturn, 1) := by decide +kernel
theorem dX7_cell_10 : decode cX7_cell 10 = .ok (.iload_n 1, 1) := by decide +kernel
theorem dX7_cell_11 : decode cX7_cell 11 = .ok (.invokestatic 216, 3) := by decide +kernel
theorem dX7_cell_14 : decode cX7_cell 14 = .ok (.ifCond .eq 13, 3) := by decide +kernel
theorem dX7_cell_17 : decode cX7_cell 17 = .ok (.iload_n 2, 1) := by decide +kernel
theorem dX7_cell_18 : decode cX7_cell 18 = .ok (.i2l, 1) := by decide +kernel
theorem dX7_cell_19 : decode cX7_cell 19 = .ok (.lconst 0, 1) := by decide +kernel
theorem dX7_cell_20 : decode cX7_cell 20 = .ok (.lconst 1, 1) := by decide +kernel
theorem dX7_cell_21 : decode cX7_cell 21 = .ok (.invokestatic 60, 3) := by decide +kernel
theorem dX7_cell_24 : decode cX7_cell 24 = .ok (.ifCond .ne 6, 3) := by decide +kernel
theorem dX7_cell_27 : decode cX7_cell 27 = .ok (.ldc 70, 2) := by decide +kernel
theorem dX7_cell_29 : decode cX7_cell 29 = .ok (.ireturn, 1) := by decide +kernel
theorem dX7_cell_30 : decode cX7_cell 30 = .ok (.iload_n 2, 1) := by decide +kernel
theorem dX7_cell_31 : decode cX7_cell 31 = .ok (.ifCond .ne 15, 3) := by decide +kernel
theorem dX7_cell_34 : decode cX7_cell 34 = .ok (.aload_n 0, 1) := by decide +kernel
theorem dX7_cell_35 : decode cX7_cell 35 = .ok (.getfield 19, 3) := by decide +kernel
theorem dX7_cell_38 : decode cX7_cell 38 = .ok (.bipush 12, 2) := by decide +kernel
theorem dX7_cell_40 : decode cX7_cell 40 = .ok (.iload_n 1, 1) := by decide +kernel
theorem dX7_cell_41 : decode cX7_cell 41 = .ok (.iadd, 1) := by decide +kernel
theorem dX7_cell_42 : decode cX7_cell 42 = .ok (.iaload, 1) := by decide +kernel
theorem dX7_cell_43 : decode cX7_cell 43 = .ok (.goto 8, 3) := by decide +kernel
theorem dX7_cell_46 : decode cX7_cell 46 = .ok (.aload_n 0, 1) := by decide +kernel
theorem dX7_cell_47 : decode cX7_cell 47 = .ok (.iload_n 1, 1) := by decide +kernel
theorem dX7_cell_48 : decode cX7_cell 48 = .ok (.invokevirtual 219, 3) := by decide +kernel
theorem dX7_cell_51 : decode cX7_cell 51 = .ok (.ireturn, 1) := by decide +kernel
theorem dX7_wind_0 : decode cX7_wind 0 = .ok (.aload_n 0, 1) := by decide +kernel
theorem dX7_wind_1 : decode cX7_wind 1 = .ok (.getfield 154, 3) := by decide +kernel
theorem dX7_wind_4 : decode cX7_wind 4 = .ok (.ifCond .ne 6, 3) := by decide +kernel
theorem dX7_wind_7 : decode cX7_wind 7 = .ok (.ldc 193, 2) := by decide +kernel
theorem dX7_wind_9 : decode cX7_wind 9 = .ok (.ireturn, 1) := by decide +kernel
theorem dX7_wind_10 : decode cX7_wind 10 = .ok (.iload_n 1, 1) := by decide +kernel
theorem dX7_wind_11 : decode cX7_wind 11 = .ok (.i2l, 1) := by decide +kernel
theorem dX7_wind_12 : decode cX7_wind 12 = .ok (.lconst 0, 1) := by decide +kernel
theorem dX7_wind_13 : decode cX7_wind 13 = .ok (.lconst 1, 1) := by decide +kernel
theorem dX7_wind_14 : decode cX7_wind 14 = .ok (.invokestatic 60, 3) := by decide +kernel
theorem dX7_wind_17 : decode cX7_wind 17 = .ok (.ifCond .eq 31, 3) := by decide +kernel
theorem dX7_wind_20 : decode cX7_wind 20 = .ok (.iload_n 2, 1) := by decide +kernel
theorem dX7_wind_21 : decode cX7_wind 21 = .ok (.i2l, 1) := by decide +kernel
theorem dX7_wind_22 : decode cX7_wind 22 = .ok (.lconst 0, 1) := by decide +kernel
theorem dX7_wind_23 : decode cX7_wind 23 = .ok (.ldc2_w 222, 3) := by decide +kernel
theorem dX7_wind_26 : decode cX7_wind 26 = .ok (.invokestatic 60, 3) := by decide +kernel
theorem dX7_wind_29 : decode cX7_wind 29 = .ok (.ifCond .eq 19, 3) := by decide +kernel
theorem dX7_wind_32 : decode cX7_wind 32 = .ok (.aload_n 0, 1) := by decide +kernel
theorem dX7_wind_33 : decode cX7_wind 33 = .ok (.getfield 19, 3) := by decide +kernel
theorem dX7_wind_36 : decode cX7_wind 36 = .ok (.iconst 0, 1) := by decide +kernel
theorem dX7_wind_37 : decode cX7_wind 37 = .ok (.bipush 6, 2) := by decide +kernel
theorem dX7_wind_39 : decode cX7_wind 39 = .ok (.iload_n 1, 1) := by decide +kernel
theorem dX7_wind_40 : decode cX7_wind 40 = .ok (.imul, 1) := by decide +kernel
theorem dX7_wind_41 : decode cX7_wind 41 = .ok (.iadd, 1) := by decide +kernel
theorem dX7_wind_42 : decode cX7_wind 42 = .ok (.iload_n 2, 1) := by decide +kernel
theorem dX7_wind_43 : decode cX7_wind 43 = .ok (.iadd, 1) := by decide +kernel
theorem dX7_wind_44 : decode cX7_wind 44 = .ok (.iaload, 1) := by decide +kernel
theorem dX7_wind_45 : decode cX7_wind 45 = .ok (.goto 5, 3) := by decide +kernel
theorem dX7_wind_48 : decode cX7_wind 48 = .ok (.ldc 70, 2) := by decide +kernel
theorem dX7_wind_50 : decode cX7_wind 50 = .ok (.ireturn, 1) := by decide +kernel
theorem dX7_putAside_0 : decode cX7_putAside 0 = .ok (.iconst 0, 1) := by decide +kernel
theorem dX7_putAside_1 : decode cX7_putAside 1 = .ok (.istore_n 1, 1) := by decide +kernel
theorem dX7_putAside_2 : decode cX7_putAside 2 = .ok (.iload_n 1, 1) := by decide +kernel
theorem dX7_putAside_3 : decode cX7_putAside 3 = .ok (.bipush 82, 2) := by decide +kernel
theorem dX7_putAside_5 : decode cX7_putAside 5 = .ok (.if_icmp .ge 21, 3) := by decide +kernel
theorem dX7_putAside_8 : decode cX7_putAside 8 = .ok (.aload_n 0, 1) := by decide +kernel
theorem dX7_putAside_9 : decode cX7_putAside 9 = .ok (.getfield 34, 3) := by decide +kernel
theorem dX7_putAside_12 : decode cX7_putAside 12 = .ok (.iload_n 1, 1) := by decide +kernel
theorem dX7_putAside_13 : decode cX7_putAside 13 = .ok (.aload_n 0, 1) := by decide +kernel
theorem dX7_putAside_14 : decode cX7_putAside 14 = .ok (.getfield 19, 3) := by decide +kernel
theorem dX7_putAside_17 : decode cX7_putAside 17 = .ok (.iload_n 1, 1) := by decide +kernel
theorem dX7_putAside_18 : decode cX7_putAside 18 = .ok (.iaload, 1) := by decide +kernel
theorem dX7_putAside_19 : decode cX7_putAside 19 = .ok (.iastore, 1) := by decide +kernel
theorem dX7_putAside_20 : decode cX7_putAside 20 = .ok (.iinc 1 1, 3) := by decide +kernel
theorem dX7_putAside_23 : decode cX7_putAside 23 = .ok (.goto (-21), 3) := by decide +kernel
theorem dX7_putAside_26 : decode cX7_putAside 26 = .ok (.return_, 1) := by decide +kernel
theorem dX7_takeBack_0 : decode cX7_takeBack 0 = .ok (.iconst 0, 1) := by decide +kernel
theorem dX7_takeBack_1 : decode cX7_takeBack 1 = .ok (.istore_n 1, 1) := by decide +kernel
theorem dX7_takeBack_2 : decode cX7_takeBack 2 = .ok (.iload_n 1, 1) := by decide +kernel
theorem dX7_takeBack_3 : decode cX7_takeBack 3 = .ok (.bipush 82, 2) := by decide +kernel
theorem dX7_takeBack_5 : decode cX7_takeBack 5 = .ok (.if_icmp .ge 21, 3) := by decide +kernel
theorem dX7_takeBack_8 : decode cX7_takeBack 8 = .ok (.aload_n 0, 1) := by decide +kernel
theorem dX7_takeBack_9 : decode cX7_takeBack 9 = .ok (.getfield 19, 3) := by decide +kernel
theorem dX7_takeBack_12 : decode cX7_takeBack 12 = .ok (.iload_n 1, 1) := by decide +kernel
theorem dX7_takeBack_13 : decode cX7_takeBack 13 = .ok (.aload_n 0, 1) := by decide +kernel
theorem dX7_takeBack_14 : decode cX7_takeBack 14 = .ok (.getfield 34, 3) := by decide +kernel
theorem dX7_takeBack_17 : decode cX7_takeBack 17 = .ok (.iload_n 1, 1) := by decide +kernel
theorem dX7_takeBack_18 : decode cX7_takeBack 18 = .ok (.iaload, 1) := by decide +kernel
theorem dX7_takeBack_19 : decode cX7_takeBack 19 = .ok (.iastore, 1) := by decide +kernel
theorem dX7_takeBack_20 : decode cX7_takeBack 20 = .ok (.iinc 1 1, 3) := by decide +kernel
theorem dX7_takeBack_23 : decode cX7_takeBack 23 = .ok (.goto (-21), 3) := by decide +kernel
theorem dX7_takeBack_26 : decode cX7_takeBack 26 = .ok (.return_, 1) := by decide +kernel
theorem dX7_goOn_0 : decode cX7_goOn 0 = .ok (.iconst 0, 1) := by decide +kernel
theorem dX7_goOn_1 : decode cX7_goOn 1 = .ok (.istore_n 2, 1) := by decide +kernel
theorem dX7_goOn_2 : decode cX7_goOn 2 = .ok (.iload_n 2, 1) := by decide +kernel
theorem dX7_goOn_3 : decode cX7_goOn 3 = .ok (.iload_n 1, 1) := by decide +kernel
theorem dX7_goOn_4 : decode cX7_goOn 4 = .ok (.if_icmp .ge 14, 3) := by decide +kernel
theorem dX7_goOn_7 : decode cX7_goOn 7 = .ok (.aload_n 0, 1) := by decide +kernel
theorem dX7_goOn_8 : decode cX7_goOn 8 = .ok (.invokevirtual 199, 3) := by decide +kernel
theorem dX7_goOn_11 : decode cX7_goOn 11 = .ok (.pop, 1) := by decide +kernel
theorem dX7_goOn_12 : decode cX7_goOn 12 = .ok (.iinc 2 1, 3) := by decide +kernel
theorem dX7_goOn_15 : decode cX7_goOn 15 = .ok (.goto (-13), 3) := by decide +kernel
theorem dX7_goOn_18 : decode cX7_goOn 18 = .ok (.return_, 1) := by decide +kernel
theorem dX7_ahead_0 : decode cX7_ahead 0 = .ok (.aload_n 0, 1) := by decide +kernel
theorem dX7_ahead_1 : decode cX7_ahead 1 = .ok (.iload_n 1, 1) := by decide +kernel
theorem dX7_ahead_2 : decode cX7_ahead 2 = .ok (.invokevirtual 202, 3) := by decide +kernel
theorem dX7_ahead_5 : decode cX7_ahead 5 = .ok (.ifCond .eq 27, 3) := by decide +kernel
theorem dX7_ahead_8 : decode cX7_ahead 8 = .ok (.iload_n 2, 1) := by decide +kernel
theorem dX7_ahead_9 : decode cX7_ahead 9 = .ok (.i2l, 1) := by decide +kernel
theorem dX7_ahead_10 : decode cX7_ahead 10 = .ok (.lconst 0, 1) := by decide +kernel
theorem dX7_ahead_11 : decode cX7_ahead 11 = .ok (.ldc2_w 224, 3) := by decide +kernel
theorem dX7_ahead_14 : decode cX7_ahead 14 = .ok (.invokestatic 60, 3) := by decide +kernel
theorem dX7_ahead_17 : decode cX7_ahead 17 = .ok (.ifCond .eq 15, 3) := by decide +kernel
theorem dX7_ahead_20 : decode cX7_ahead 20 = .ok (.iload_n 3, 1) := by decide +kernel
theorem dX7_ahead_21 : decode cX7_ahead 21 = .ok (.i2l, 1) := by decide +kernel
theorem dX7_ahead_22 : decode cX7_ahead 22 = .ok (.lconst 0, 1) := by decide +kernel
theorem dX7_ahead_23 : decode cX7_ahead 23 = .ok (.ldc2_w 226, 3) := by decide +kernel
theorem dX7_ahead_26 : decode cX7_ahead 26 = .ok (.invokestatic 60, 3) := by decide +kernel
theorem dX7_ahead_29 : decode cX7_ahead 29 = .ok (.ifCond .ne 6, 3) := by decide +kernel
theorem dX7_ahead_32 : decode cX7_ahead 32 = .ok (.ldc 70, 2) := by decide +kernel
theorem dX7_ahead_34 : decode cX7_ahead 34 = .ok (.ireturn, 1) := by decide +kernel
theorem dX7_ahead_35 : decode cX7_ahead 35 = .ok (.aload_n 0, 1) := by decide +kernel
theorem dX7_ahead_36 : decode cX7_ahead 36 = .ok (.invokevirtual 228, 3) := by decide +kernel
theorem dX7_ahead_39 : decode cX7_ahead 39 = .ok (.aload_n 0, 1) := by decide +kernel
theorem dX7_ahead_40 : decode cX7_ahead 40 = .ok (.iload_n 2, 1) := by decide +kernel
theorem dX7_ahead_41 : decode cX7_ahead 41 = .ok (.invokevirtual 231, 3) := by decide +kernel
theorem dX7_ahead_44 : decode cX7_ahead 44 = .ok (.aload_n 0, 1) := by decide +kernel
theorem dX7_ahead_45 : decode cX7_ahead 45 = .ok (.iload_n 1, 1) := by decide +kernel
theorem dX7_ahead_46 : decode cX7_ahead 46 = .ok (.iload_n 3, 1) := by decide +kernel
theorem dX7_ahead_47 : decode cX7_ahead 47 = .ok (.invokevirtual 211, 3) := by decide +kernel
theorem dX7_ahead_50 : decode cX7_ahead 50 = .ok (.istore 4, 2) := by decide +kernel
theorem dX7_ahead_52 : decode cX7_ahead 52 = .ok (.aload_n 0, 1) := by decide +kernel
theorem dX7_ahead_53 : decode cX7_ahead 53 = .ok (.invokevirtual 234, 3) := by decide +kernel
theorem dX7_ahead_56 : decode cX7_ahead 56 = .ok (.iload 4, 2) := by decide +kernel
theorem dX7_ahead_58 : decode cX7_ahead 58 = .ok (.ireturn, 1) := by decide +kernel
theorem dX7_earned_0 : decode cX7_earned 0 = .ok (.aload_n 0, 1) := by decide +kernel
theorem dX7_earned_1 : decode cX7_earned 1 = .ok (.getfield 154, 3) := by decide +kernel
theorem dX7_earned_4 : decode cX7_earned 4 = .ok (.ifCond .ne 6, 3) := by decide +kernel
theorem dX7_earned_7 : decode cX7_earned 7 = .ok (.ldc 193, 2) := by decide +kernel
theorem dX7_earned_9 : decode cX7_earned 9 = .ok (.ireturn, 1) := by decide +kernel
theorem dX7_earned_10 : decode cX7_earned 10 = .ok (.iload_n 1, 1) := by decide +kernel
theorem dX7_earned_11 : decode cX7_earned 11 = .ok (.i2l, 1) := by decide +kernel
theorem dX7_earned_12 : decode cX7_earned 12 = .ok (.lconst 0, 1) := by decide +kernel
theorem dX7_earned_13 : decode cX7_earned 13 = .ok (.ldc2_w 224, 3) := by decide +kernel
theorem dX7_earned_16 : decode cX7_earned 16 = .ok (.invokestatic 60, 3) := by decide +kernel
theorem dX7_earned_19 : decode cX7_earned 19 = .ok (.ifCond .ne 6, 3) := by decide +kernel
theorem dX7_earned_22 : decode cX7_earned 22 = .ok (.ldc 70, 2) := by decide +kernel
theorem dX7_earned_24 : decode cX7_earned 24 = .ok (.ireturn, 1) := by decide +kernel
theorem dX7_earned_25 : decode cX7_earned 25 = .ok (.aload_n 0, 1) := by decide +kernel
theorem dX7_earned_26 : decode cX7_earned 26 = .ok (.invokevirtual 228, 3) := by decide +kernel
theorem dX7_earned_29 : decode cX7_earned 29 = .ok (.aload_n 0, 1) := by decide +kernel
theorem dX7_earned_30 : decode cX7_earned 30 = .ok (.iload_n 1, 1) := by decide +kernel
theorem dX7_earned_31 : decode cX7_earned 31 = .ok (.invokevirtual 231, 3) := by decide +kernel
theorem dX7_earned_34 : decode cX7_earned 34 = .ok (.aload_n 0, 1) := by decide +kernel
theorem dX7_earned_35 : decode cX7_earned 35 = .ok (.getfield 19, 3) := by decide +kernel
theorem dX7_earned_38 : decode cX7_earned 38 = .ok (.bipush 47, 2) := by decide +kernel
theorem dX7_earned_40 : decode cX7_earned 40 = .ok (.iaload, 1) := by decide +kernel
theorem dX7_earned_41 : decode cX7_earned 41 = .ok (.istore_n 2, 1) := by decide +kernel
theorem dX7_earned_42 : decode cX7_earned 42 = .ok (.aload_n 0, 1) := by decide +kernel
