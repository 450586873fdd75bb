theorem dX9_roomBy_33 : decode cX9_roomBy 33 = .ok (.ifCond .eq 15, 3) := by decide +kernel
theorem dX9_roomBy_36 : decode cX9_roomBy 36 = .ok (.lload_n 3, 1) := by decide +kernel
theorem dX9_roomBy_37 : decode cX9_roomBy 37 = .ok (.aload 6, 2) := by decide +kernel
theorem dX9_roomBy_39 : decode cX9_roomBy 39 = .ok (.getfield 111, 3) := by decide +kernel
theorem dX9_roomBy_42 : decode cX9_roomBy 42 = .ok (.iload_n 2, 1) := by decide +kernel
theorem dX9_roomBy_43 : decode cX9_roomBy 43 = .ok (.invokevirtual 144, 3) := by decide +kernel
theorem dX9_roomBy_46 : decode cX9_roomBy 46 = .ok (.ladd, 1) := by decide +kernel
theorem dX9_roomBy_47 : decode cX9_roomBy 47 = .ok (.lstore_n 3, 1) := by decide +kernel
theorem dX9_roomBy_48 : decode cX9_roomBy 48 = .ok (.iinc 5 1, 3) := by decide +kernel
theorem dX9_roomBy_51 : decode cX9_roomBy 51 = .ok (.goto (-46), 3) := by decide +kernel
theorem dX9_roomBy_54 : decode cX9_roomBy 54 = .ok (.lload_n 3, 1) := by decide +kernel
theorem dX9_roomBy_55 : decode cX9_roomBy 55 = .ok (.lreturn, 1) := by decide +kernel
theorem dX10_init_0 : decode cX10_init 0 = .ok (.aload_n 0, 1) := by decide +kernel
theorem dX10_init_1 : decode cX10_init 1 = .ok (.invokespecial 1, 3) := by decide +kernel
theorem dX10_init_4 : decode cX10_init 4 = .ok (.aload_n 0, 1) := by decide +kernel
theorem dX10_init_5 : decode cX10_init 5 = .ok (.new 7, 3) := by decide +kernel
theorem dX10_init_8 : decode cX10_init 8 = .ok (.dup, 1) := by decide +kernel
theorem dX10_init_9 : decode cX10_init 9 = .ok (.invokespecial 9, 3) := by decide +kernel
theorem dX10_init_12 : decode cX10_init 12 = .ok (.putfield 10, 3) := by decide +kernel
theorem dX10_init_15 : decode cX10_init 15 = .ok (.aload_n 0, 1) := by decide +kernel
theorem dX10_init_16 : decode cX10_init 16 = .ok (.new 16, 3) := by decide +kernel
theorem dX10_init_19 : decode cX10_init 19 = .ok (.dup, 1) := by decide +kernel
theorem dX10_init_20 : decode cX10_init 20 = .ok (.invokespecial 18, 3) := by decide +kernel
theorem dX10_init_23 : decode cX10_init 23 = .ok (.putfield 19, 3) := by decide +kernel
theorem dX10_init_26 : decode cX10_init 26 = .ok (.aload_n 0, 1) := by decide +kernel
theorem dX10_init_27 : decode cX10_init 27 = .ok (.iconst 4, 1) := by decide +kernel
theorem dX10_init_28 : decode cX10_init 28 = .ok (.anewarray 23, 3) := by decide +kernel
theorem dX10_init_31 : decode cX10_init 31 = .ok (.putfield 25, 3) := by decide +kernel
theorem dX10_init_34 : decode cX10_init 34 = .ok (.iconst 0, 1) := by decide +kernel
theorem dX10_init_35 : decode cX10_init 35 = .ok (.istore_n 1, 1) := by decide +kernel
theorem dX10_init_36 : decode cX10_init 36 = .ok (.iload_n 1, 1) := by decide +kernel
theorem dX10_init_37 : decode cX10_init 37 = .ok (.iconst 4, 1) := by decide +kernel
theorem dX10_init_38 : decode cX10_init 38 = .ok (.if_icmp .ge 22, 3) := by decide +kernel
theorem dX10_init_41 : decode cX10_init 41 = .ok (.aload_n 0, 1) := by decide +kernel
theorem dX10_init_42 : decode cX10_init 42 = .ok (.getfield 25, 3) := by decide +kernel
theorem dX10_init_45 : decode cX10_init 45 = .ok (.iload_n 1, 1) := by decide +kernel
theorem dX10_init_46 : decode cX10_init 46 = .ok (.new 23, 3) := by decide +kernel
theorem dX10_init_49 : decode cX10_init 49 = .ok (.dup, 1) := by decide +kernel
theorem dX10_init_50 : decode cX10_init 50 = .ok (.invokespecial 29, 3) := by decide +kernel
theorem dX10_init_53 : decode cX10_init 53 = .ok (.aastore, 1) := by decide +kernel
theorem dX10_init_54 : decode cX10_init 54 = .ok (.iinc 1 1, 3) := by decide +kernel
theorem dX10_init_57 : decode cX10_init 57 = .ok (.goto (-21), 3) := by decide +kernel
theorem dX10_init_60 : decode cX10_init 60 = .ok (.aload_n 0, 1) := by decide +kernel
theorem dX10_init_61 : decode cX10_init 61 = .ok (.new 30, 3) := by decide +kernel
theorem dX10_init_64 : decode cX10_init 64 = .ok (.dup, 1) := by decide +kernel
theorem dX10_init_65 : decode cX10_init 65 = .ok (.aload_n 0, 1) := by decide +kernel
theorem dX10_init_66 : decode cX10_init 66 = .ok (.getfield 10, 3) := by decide +kernel
theorem dX10_init_69 : decode cX10_init 69 = .ok (.invokespecial 32, 3) := by decide +kernel
theorem dX10_init_72 : decode cX10_init 72 = .ok (.putfield 35, 3) := by decide +kernel
theorem dX10_init_75 : decode cX10_init 75 = .ok (.aload_n 0, 1) := by decide +kernel
theorem dX10_init_76 : decode cX10_init 76 = .ok (.iconst 0, 1) := by decide +kernel
theorem dX10_init_77 : decode cX10_init 77 = .ok (.putfield 39, 3) := by decide +kernel
theorem dX10_init_80 : decode cX10_init 80 = .ok (.return_, 1) := by decide +kernel
theorem dX10_now_0 : decode cX10_now 0 = .ok (.aload_n 0, 1) := by decide +kernel
theorem dX10_now_1 : decode cX10_now 1 = .ok (.iload_n 1, 1) := by decide +kernel
theorem dX10_now_2 : decode cX10_now 2 = .ok (.invokevirtual 43, 3) := by decide +kernel
theorem dX10_now_5 : decode cX10_now 5 = .ok (.ifCond .ne 6, 3) := by decide +kernel
theorem dX10_now_8 : decode cX10_now 8 = .ok (.bipush (-2), 2) := by decide +kernel
theorem dX10_now_10 : decode cX10_now 10 = .ok (.ireturn, 1) := by decide +kernel
theorem dX10_now_11 : decode cX10_now 11 = .ok (.aload_n 0, 1) := by decide +kernel
theorem dX10_now_12 : decode cX10_now 12 = .ok (.iload_n 1, 1) := by decide +kernel
theorem dX10_now_13 : decode cX10_now 13 = .ok (.putfield 39, 3) := by decide +kernel
theorem dX10_now_16 : decode cX10_now 16 = .ok (.iload_n 1, 1) := by decide +kernel
theorem dX10_now_17 : decode cX10_now 17 = .ok (.ireturn, 1) := by decide +kernel
theorem dX10_block_0 : decode cX10_block 0 = .ok (.iload_n 1, 1) := by decide +kernel
theorem dX10_block_1 : decode cX10_block 1 = .ok (.iload_n 2, 1) := by decide +kernel
theorem dX10_block_2 : decode cX10_block 2 = .ok (.iload_n 3, 1) := by decide +kernel
theorem dX10_block_3 : decode cX10_block 3 = .ok (.iload 4, 2) := by decide +kernel
theorem dX10_block_5 : decode cX10_block 5 = .ok (.invokestatic 47, 3) := by decide +kernel
theorem dX10_block_8 : decode cX10_block 8 = .ok (.ifCond .eq 12, 3) := by decide +kernel
theorem dX10_block_11 : decode cX10_block 11 = .ok (.aload_n 0, 1) := by decide +kernel
theorem dX10_block_12 : decode cX10_block 12 = .ok (.iload 5, 2) := by decide +kernel
theorem dX10_block_14 : decode cX10_block 14 = .ok (.invokevirtual 43, 3) := by decide +kernel
theorem dX10_block_17 : decode cX10_block 17 = .ok (.ifCond .ne 6, 3) := by decide +kernel
theorem dX10_block_20 : decode cX10_block 20 = .ok (.bipush (-2), 2) := by decide +kernel
theorem dX10_block_22 : decode cX10_block 22 = .ok (.ireturn, 1) := by decide +kernel
theorem dX10_block_23 : decode cX10_block 23 = .ok (.aload_n 0, 1) := by decide +kernel
theorem dX10_block_24 : decode cX10_block 24 = .ok (.getfield 10, 3) := by decide +kernel
theorem dX10_block_27 : decode cX10_block 27 = .ok (.new 51, 3) := by decide +kernel
theorem dX10_block_30 : decode cX10_block 30 = .ok (.dup, 1) := by decide +kernel
theorem dX10_block_31 : decode cX10_block 31 = .ok (.iconst 0, 1) := by decide +kernel
theorem dX10_block_32 : decode cX10_block 32 = .ok (.iload_n 1, 1) := by decide +kernel
theorem dX10_block_33 : decode cX10_block 33 = .ok (.iload_n 2, 1) := by decide +kernel
theorem dX10_block_34 : decode cX10_block 34 = .ok (.iload_n 3, 1) := by decide +kernel
theorem dX10_block_35 : decode cX10_block 35 = .ok (.iload 4, 2) := by decide +kernel
theorem dX10_block_37 : decode cX10_block 37 = .ok (.iload 4, 2) := by decide +kernel
theorem dX10_block_39 : decode cX10_block 39 = .ok (.iload 5, 2) := by decide +kernel
theorem dX10_block_41 : decode cX10_block 41 = .ok (.invokespecial 53, 3) := by decide +kernel
theorem dX10_block_44 : decode cX10_block 44 = .ok (.invokevirtual 56, 3) := by decide +kernel
theorem dX10_block_47 : decode cX10_block 47 = .ok (.ireturn, 1) := by decide +kernel
theorem dX10_service_0 : decode cX10_service 0 = .ok (.iload_n 1, 1) := by decide +kernel
theorem dX10_service_1 : decode cX10_service 1 = .ok (.i2l, 1) := by decide +kernel
theorem dX10_service_2 : decode cX10_service 2 = .ok (.invokestatic 60, 3) := by decide +kernel
theorem dX10_service_5 : decode cX10_service 5 = .ok (.istore 4, 2) := by decide +kernel
theorem dX10_service_7 : decode cX10_service 7 = .ok (.iload 4, 2) := by decide +kernel
theorem dX10_service_9 : decode cX10_service 9 = .ok (.iconst 2, 1) := by decide +kernel
theorem dX10_service_10 : decode cX10_service 10 = .ok (.bipush 7, 2) := by decide +kernel
theorem dX10_service_12 : decode cX10_service 12 = .ok (.invokestatic 64, 3) := by decide +kernel
theorem dX10_service_15 : decode cX10_service 15 = .ok (.ifCond .eq 21, 3) := by decide +kernel
theorem dX10_service_18 : decode cX10_service 18 = .ok (.iload_n 2, 1) := by decide +kernel
theorem dX10_service_19 : decode cX10_service 19 = .ok (.iconst 0, 1) := by decide +kernel
theorem dX10_service_20 : decode cX10_service 20 = .ok (.bipush 99, 2) := by decide +kernel
theorem dX10_service_22 : decode cX10_service 22 = .ok (.invokestatic 64, 3) := by decide +kernel
theorem dX10_service_25 : decode cX10_service 25 = .ok (.ifCond .eq 11, 3) := by decide +kernel
theorem dX10_service_28 : decode cX10_service 28 = .ok (.aload_n 0, 1) := by decide +kernel
theorem dX10_service_29 : decode cX10_service 29 = .ok (.iload_n 3, 1) := by decide +kernel
theorem dX10_service_30 : decode cX10_service 30 = .ok (.invokevirtual 43, 3) := by decide +kernel
theorem dX10_service_33 : decode cX10_service 33 = .ok (.ifCond .ne 6, 3) := by decide +kernel
theorem dX10_service_36 : decode cX10_service 36 = .ok (.bipush (-2), 2) := by decide +kernel
theorem dX10_service_38 : decode cX10_service 38 = .ok (.ireturn, 1) := by decide +kernel
theorem dX10_service_39 : decode cX10_service 39 = .ok (.aload_n 0, 1) := by decide +kernel
theorem dX10_service_40 : decode cX10_service 40 = .ok (.getfield 10, 3) := by decide +kernel
theorem dX10_service_43 : decode cX10_service 43 = .ok (.new 51, 3) := by decide +kernel
theorem dX10_service_46 : decode cX10_service 46 = .ok (.dup, 1) := by decide +kernel
theorem dX10_service_47 : decode cX10_service 47 = .ok (.iconst 1, 1) := by decide +kernel
theorem dX10_service_48 : decode cX10_service 48 = .ok (.iload_n 2, 1) := by decide +kernel
theorem dX10_service_49 : decode cX10_service 49 = .ok (.iload_n 1, 1) := by decide +kernel
theorem dX10_service_50 : decode cX10_service 50 = .ok (.iconst 0, 1) := by decide +kernel
theorem dX10_service_51 : decode cX10_service 51 = .ok (.iload 4, 2) := by decide +kernel
theorem dX10_service_53 : decode cX10_service 53 = .ok (.iload 4, 2) := by decide +kernel
theorem dX10_service_55 : decode cX10_service 55 = .ok (.iload_n 3, 1) := by decide +kernel
theorem dX10_service_56 : decode cX10_service 56 = .ok (.invokespecial 53, 3) := by decide +kernel
theorem dX10_service_59 : decode cX10_service 59 = .ok (.invokevirtual 56, 3) := by decide +kernel
theorem dX10_service_62 : decode cX10_service 62 = .ok (.ireturn, 1) := by decide +kernel
theorem dX10_foreign_0 : decode cX10_foreign 0 = .ok (.iload_n 1, 1) := by decide +kernel
theorem dX10_foreign_1 : decode cX10_foreign 1 = .ok (.i2l, 1) := by decide +kernel
theorem dX10_foreign_2 : decode cX10_foreign 2 = .ok (.invokestatic 60, 3) := by decide +kernel
theorem dX10_foreign_5 : decode cX10_foreign 5 = .ok (.istore 5, 2) := by decide +kernel
theorem dX10_foreign_7 : decode cX10_foreign 7 = .ok (.iload 5, 2) := by decide +kernel
theorem dX10_foreign_9 : decode cX10_foreign 9 = .ok (.iconst 1, 1) := by decide +kernel
theorem dX10_foreign_10 : decode cX10_foreign 10 = .ok (.iconst 4, 1) := by decide +kernel
theorem dX10_foreign_11 : decode cX10_foreign 11 = .ok (.invokestatic 64, 3) := by decide +kernel
theorem dX10_foreign_14 : decode cX10_foreign 14 = .ok (.ifCond .eq 12, 3) := by decide +kernel
theorem dX10_foreign_17 : decode cX10_foreign 17 = .ok (.aload_n 0, 1) := by decide +kernel
theorem dX10_foreign_18 : decode cX10_foreign 18 = .ok (.iload 4, 2) := by decide +kernel
theorem dX10_foreign_20 : decode cX10_foreign 20 = .ok (.invokevirtual 43, 3) := by decide +kernel
theorem dX10_foreign_23 : decode cX10_foreign 23 = .ok (.ifCond .ne 6, 3) := by decide +kernel
theorem dX10_foreign_26 : decode cX10_foreign 26 = .ok (.bipush (-2), 2) := by decide +kernel
theorem dX10_foreign_28 : decode cX10_foreign 28 = .ok (.ireturn, 1) := by decide +kernel
theorem dX10_foreign_29 : decode cX10_foreign 29 = .ok (.iload_n 2, 1) := by decide +kernel
theorem dX10_foreign_30 : decode cX10_foreign 30 = .ok (.iload 5, 2) := by decide +kernel
theorem dX10_foreign_32 : decode cX10_foreign 32 = .ok (.if_icmp .le 14, 3) := by decide +kernel
theorem dX10_foreign_35 : decode cX10_foreign 35 = .ok (.iload_n 3, 1) := by decide +kernel
theorem dX10_foreign_36 : decode cX10_foreign 36 = .ok (.iload_n 2, 1) := by decide +kernel
theorem dX10_foreign_37 : decode cX10_foreign 37 = .ok (.if_icmp .lt 9, 3) := by decide +kernel
theorem dX10_foreign_40 : decode cX10_foreign 40 = .ok (.iload_n 3, 1) := by decide +kernel
theorem dX10_foreign_41 : decode cX10_foreign 41 = .ok (.bipush 15, 2) := by decide +kernel
theorem dX10_foreign_43 : decode cX10_foreign 43 = .ok (.if_icmp .le 6, 3) := by decide +kernel
theorem dX10_foreign_46 : decode cX10_foreign 46 = .ok (.bipush (-2), 2) := by decide +kernel
theorem dX10_foreign_48 : decode cX10_foreign 48 = .ok (.ireturn, 1) := by decide +kernel
theorem dX10_foreign_49 : decode cX10_foreign 49 = .ok (.aload_n 0, 1) := by decide +kernel
theorem dX10_foreign_50 : decode cX10_foreign 50 = .ok (.getfield 10, 3) := by decide +kernel
theorem dX10_foreign_53 : decode cX10_foreign 53 = .ok (.new 51, 3) := by decide +kernel
theorem dX10_foreign_56 : decode cX10_foreign 56 = .ok (.dup, 1) := by decide +kernel
theorem dX10_foreign_57 : decode cX10_foreign 57 = .ok (.iconst 2, 1) := by decide +kernel
theorem dX10_foreign_58 : decode cX10_foreign 58 = .ok (.iconst (-1), 1) := by decide +kernel
theorem dX10_foreign_59 : decode cX10_foreign 59 = .ok (.iload_n 1, 1) := by decide +kernel
theorem dX10_foreign_60 : decode cX10_foreign 60 = .ok (.iconst 0, 1) := by decide +kernel
theorem dX10_foreign_61 : decode cX10_foreign 61 = .ok (.iload_n 2, 1) := by decide +kernel
theorem dX10_foreign_62 : decode cX10_foreign 62 = .ok (.iload_n 3, 1) := by decide +kernel
theorem dX10_foreign_63 : decode cX10_foreign 63 = .ok (.iload 4, 2) := by decide +kernel
theorem dX10_foreign_65 : decode cX10_foreign 65 = .ok (.invokespecial 53, 3) := by decide +kernel
theorem dX10_foreign_68 : decode cX10_foreign 68 = .ok (.invokevirtual 56, 3) := by decide +kernel
theorem dX10_foreign_71 : decode cX10_foreign 71 = .ok (.ireturn, 1) := by decide +kernel
theorem dX10_finish_0 : decode cX10_finish 0 = .ok (.aload_n 0, 1) := by decide +kernel
theorem dX10_finish_1 : decode cX10_finish 1 = .ok (.getfield 10, 3) := by decide +kernel
theorem dX10_finish_4 : decode cX10_finish 4 = .ok (.iload_n 1, 1) := by decide +kernel
theorem dX10_finish_5 : decode cX10_finish 5 = .ok (.invokevirtual 68, 3) := by decide +kernel
theorem dX10_finish_8 : decode cX10_finish 8 = .ok (.astore_n 3, 1) := by decide +kernel
theorem dX10_finish_9 : decode cX10_finish 9 = .ok (.aload_n 3, 1) := by decide +kernel
theorem dX10_finish_10 : decode cX10_finish 10 = .ok (.ifnull 27, 3) := by decide +kernel
theorem dX10_finish_13 : decode cX10_finish 13 = .ok (.aload_n 3, 1) := by decide +kernel
theorem dX10_finish_14 : decode cX10_finish 14 = .ok (.getfield 72, 3) := by decide +kernel
theorem dX10_finish_17 : decode cX10_finish 17 = .ok (.iconst 3, 1) := by decide +kernel
theorem dX10_finish_18 : decode cX10_finish 18 = .ok (.if_icmp .eq 19, 3) := by decide +kernel
theorem dX10_finish_21 : decode cX10_finish 21 = .ok (.aload_n 0, 1) := by decide +kernel
theorem dX10_finish_22 : decode cX10_finish 22 = .ok (.iload_n 2, 1) := by decide +kernel
theorem dX10_finish_23 : decode cX10_finish 23 = .ok (.invokevirtual 43, 3) := by decide +kernel
theorem dX10_finish_26 : decode cX10_finish 26 = .ok (.ifCond .eq 11, 3) := by decide +kernel
theorem dX10_finish_29 : decode cX10_finish 29 = .ok (.aload_n 3, 1) := by decide +kernel
theorem dX10_finish_30 : decode cX10_finish 30 = .ok (.iload_n 2, 1) := by decide +kernel
theorem dX10_finish_31 : decode cX10_finish 31 = .ok (.invokevirtual 75, 3) := by decide +kernel
theorem dX10_finish_34 : decode cX10_finish 34 = .ok (.ifCond .ne 6, 3) := by decide +kernel
theorem dX10_finish_37 : decode cX10_finish 37 = .ok (.bipush (-2), 2) := by decide +kernel
theorem dX10_finish_39 : decode cX10_finish 39 = .ok (.ireturn, 1) := by decide +kernel
theorem dX10_finish_40 : decode cX10_finish 40 = .ok (.aload_n 3, 1) := by decide +kernel
theorem dX10_finish_41 : decode cX10_finish 41 = .ok (.iload_n 2, 1) := by decide +kernel
theorem dX10_finish_42 : decode cX10_finish 42 = .ok (.putfield 78, 3) := by decide +kernel
theorem dX10_finish_45 : decode cX10_finish 45 = .ok (.iconst 1, 1) := by decide +kernel
theorem dX10_finish_46 : decode cX10_finish 46 = .ok (.ireturn, 1) := by decide +kernel
theorem dX10_split_0 : decode cX10_split 0 = .ok (.aload_n 0, 1) := by decide +kernel
theorem dX10_split_1 : decode cX10_split 1 = .ok (.getfield 10, 3) := by decide +kernel
theorem dX10_split_4 : decode cX10_split 4 = .ok (.iload_n 1, 1) := by decide +kernel
theorem dX10_split_5 : decode cX10_split 5 = .ok (.invokevirtual 81, 3) := by decide +kernel
theorem dX10_split_8 : decode cX10_split 8 = .ok (.astore 7, 2) := by decide +kernel
theorem dX10_split_10 : decode cX10_split 10 = .ok (.iload_n 3, 1) := by decide +kernel
theorem dX10_split_11 : decode cX10_split 11 = .ok (.i2l, 1) := by decide +kernel
theorem dX10_split_12 : decode cX10_split 12 = .ok (.invokestatic 60, 3) := by decide +kernel
theorem dX10_split_15 : decode cX10_split 15 = .ok (.istore 8, 2) := by decide +kernel
theorem dX10_split_17 : decode cX10_split 17 = .ok (.aload 7, 2) := by decide +kernel
theorem dX10_split_19 : decode cX10_split 19 = .ok (.ifnull 32, 3) := by decide +kernel
theorem dX10_split_22 : decode cX10_split 22 = .ok (.iload_n 2, 1) := by decide +kernel
theorem dX10_split_23 : decode cX10_split 23 = .ok (.ifCond .eq 28, 3) := by decide +kernel
theorem dX10_split_26 : decode cX10_split 26 = .ok (.iload_n 2, 1) := by decide +kernel
theorem dX10_split_27 : decode cX10_split 27 = .ok (.aload 7, 2) := by decide +kernel
theorem dX10_split_29 : decode cX10_split 29 = .ok (.getfield 84, 3) := by decide +kernel
theorem dX10_split_32 : decode cX10_split 32 = .ok (.iconst (-1), 1) := by decide +kernel
theorem dX10_split_33 : decode cX10_split 33 = .ok (.ixor, 1) := by decide +kernel
theorem dX10_split_34 : decode cX10_split 34 = .ok (.iand, 1) := by decide +kernel
theorem dX10_split_35 : decode cX10_split 35 = .ok (.ifCond .ne 16, 3) := by decide +kernel
theorem dX10_split_38 : decode cX10_split 38 = .ok (.aload_n 0, 1) := by decide +kernel
theorem dX10_split_39 : decode cX10_split 39 = .ok (.aload 7, 2) := by decide +kernel
theorem dX10_split_41 : decode cX10_split 41 = .ok (.iload 5, 2) := by decide +kernel
theorem dX10_split_43 : decode cX10_split 43 = .ok (.iload 6, 2) := by decide +kernel
theorem dX10_split_45 : decode cX10_split 45 = .ok (.invokevirtual 87, 3) := by decide +kernel
theorem dX10_split_48 : decode cX10_split 48 = .ok (.ifCond .ne 6, 3) := by decide +kernel
theorem dX10_split_51 : decode cX10_split 51 = .ok (.bipush (-2), 2) := by decide +kernel
theorem dX10_split_53 : decode cX10_split 53 = .ok (.ireturn, 1) := by decide +kernel
theorem dX10_split_54 : decode cX10_split 54 = .ok (.iload 8, 2) := by decide +kernel
theorem dX10_split_56 : decode cX10_split 56 = .ok (.iconst 1, 1) := by decide +kernel
theorem dX10_split_57 : decode cX10_split 57 = .ok (.bipush 7, 2) := by decide +kernel
theorem dX10_split_59 : decode cX10_split 59 = .ok (.invokestatic 64, 3) := by decide +kernel
theorem dX10_split_62 : decode cX10_split 62 = .ok (.ifCond .eq 14, 3) := by decide +kernel
theorem dX10_split_65 : decode cX10_split 65 = .ok (.iload 4, 2) := by decide +kernel
theorem dX10_split_67 : decode cX10_split 67 = .ok (.iconst 0, 1) := by decide +kernel
theorem dX10_split_68 : decode cX10_split 68 = .ok (.bipush 15, 2) := by decide +kernel
theorem dX10_split_70 : decode cX10_split 70 = .ok (.invokestatic 64, 3) := by decide +kernel
theorem dX10_split_73 : decode cX10_split 73 = .ok (.ifCond .ne 6, 3) := by decide +kernel
theorem dX10_split_76 : decode cX10_split 76 = .ok (.bipush (-2), 2) := by decide +kernel
theorem dX10_split_78 : decode cX10_split 78 = .ok (.ireturn, 1) := by decide +kernel
theorem dX10_split_79 : decode cX10_split 79 = .ok (.iload 8, 2) := by decide +kernel
theorem dX10_split_81 : decode cX10_split 81 = .ok (.aload 7, 2) := by decide +kernel
theorem dX10_split_83 : decode cX10_split 83 = .ok (.invokevirtual 91, 3) := by decide +kernel
theorem dX10_split_86 : decode cX10_split 86 = .ok (.iadd, 1) := by decide +kernel
theorem dX10_split_87 : decode cX10_split 87 = .ok (.istore 9, 2) := by decide +kernel
theorem dX10_split_89 : decode cX10_split 89 = .ok (.iload 9, 2) := by decide +kernel
theorem dX10_split_91 : decode cX10_split 91 = .ok (.bipush 12, 2) := by decide +kernel
theorem dX10_split_93 : decode cX10_split 93 = .ok (.if_icmp .le 6, 3) := by decide +kernel
theorem dX10_split_96 : decode cX10_split 96 = .ok (.bipush (-2), 2) := by decide +kernel
theorem dX10_split_98 : decode cX10_split 98 = .ok (.ireturn, 1) := by decide +kernel
theorem dX10_split_99 : decode cX10_split 99 = .ok (.aload_n 0, 1) := by decide +kernel
theorem dX10_split_100 : decode cX10_split 100 = .ok (.getfield 10, 3) := by decide +kernel
theorem dX10_split_103 : decode cX10_split 103 = .ok (.aload 7, 2) := by decide +kernel
theorem dX10_split_105 : decode cX10_split 105 = .ok (.new 51, 3) := by decide +kernel
theorem dX10_split_108 : decode cX10_split 108 = .ok (.dup, 1) := by decide +kernel
theorem dX10_split_109 : decode cX10_split 109 = .ok (.iconst 0, 1) := by decide +kernel
theorem dX10_split_110 : decode cX10_split 110 = .ok (.iload 4, 2) := by decide +kernel
theorem dX10_split_112 : decode cX10_split 112 = .ok (.iload_n 3, 1) := by decide +kernel
theorem dX10_split_113 : decode cX10_split 113 = .ok (.iload_n 2, 1) := by decide +kernel
theorem dX10_split_114 : decode cX10_split 114 = .ok (.iload 9, 2) := by decide +kernel
theorem dX10_split_116 : decode cX10_split 116 = .ok (.iload 9, 2) := by decide +kernel
theorem dX10_split_118 : decode cX10_split 118 = .ok (.iload 5, 2) := by decide +kernel
theorem dX10_split_120 : decode cX10_split 120 = .ok (.invokespecial 53, 3) := by decide +kernel
theorem dX10_split_123 : decode cX10_split 123 = .ok (.iload 6, 2) := by decide +kernel
theorem dX10_split_125 : decode cX10_split 125 = .ok (.invokevirtual 95, 3) := by decide +kernel
theorem dX10_split_128 : decode cX10_split 128 = .ok (.ireturn, 1) := by decide +kernel
theorem dX10_lengthen_0 : decode cX10_lengthen 0 = .ok (.aload_n 0, 1) := by decide +kernel
theorem dX10_lengthen_1 : decode cX10_lengthen 1 = .ok (.getfield 10, 3) := by decide +kernel
theorem dX10_lengthen_4 : decode cX10_lengthen 4 = .ok (.iload_n 1, 1) := by decide +kernel
theorem dX10_lengthen_5 : decode cX10_lengthen 5 = .ok (.invokevirtual 81, 3) := by decide +kernel
theorem dX10_lengthen_8 : decode cX10_lengthen 8 = .ok (.astore 5, 2) := by decide +kernel
theorem dX10_lengthen_10 : decode cX10_lengthen 10 = .ok (.aload 5, 2) := by decide +kernel
theorem dX10_lengthen_12 : decode cX10_lengthen 12 = .ok (.ifnull 25, 3) := by decide +kernel
theorem dX10_lengthen_15 : decode cX10_lengthen 15 = .ok (.iload_n 2, 1) := by decide +kernel
theorem dX10_lengthen_16 : decode cX10_lengthen 16 = .ok (.iconst 0, 1) := by decide +kernel
theorem dX10_lengthen_17 : decode cX10_lengthen 17 = .ok (.bipush 9, 2) := by decide +kernel
theorem dX10_lengthen_19 : decode cX10_lengthen 19 = .ok (.invokestatic 64, 3) := by decide +kernel
theorem dX10_lengthen_22 : decode cX10_lengthen 22 = .ok (.ifCond .eq 15, 3) := by decide +kernel
theorem dX10_lengthen_25 : decode cX10_lengthen 25 = .ok (.aload_n 0, 1) := by decide +kernel
theorem dX10_lengthen_26 : decode cX10_lengthen 26 = .ok (.aload 5, 2) := by decide +kernel
theorem dX10_lengthen_28 : decode cX10_lengthen 28 = .ok (.iload_n 3, 1) := by decide +kernel
theorem dX10_lengthen_29 : decode cX10_lengthen 29 = .ok (.iload 4, 2) := by decide +kernel
theorem dX10_lengthen_31 : decode cX10_lengthen 31 = .ok (.invokevirtual 87, 3) := by decide +kernel
theorem dX10_lengthen_34 : decode cX10_lengthen 34 = .ok (.ifCond .ne 6, 3) := by decide +kernel
theorem dX10_lengthen_37 : decode cX10_lengthen 37 = .ok (.bipush (-2), 2) := by decide +kernel
theorem dX10_lengthen_39 : decode cX10_lengthen 39 = .ok (.ireturn, 1) := by decide +kernel
theorem dX10_lengthen_40 : decode cX10_lengthen 40 = .ok (.aload 5, 2) := by decide +kernel
theorem dX10_lengthen_42 : decode cX10_lengthen 42 = .ok (.getfield 99, 3) := by decide +kernel
theorem dX10_lengthen_45 : decode cX10_lengthen 45 = .ok (.iconst 1, 1) := by decide +kernel
theorem dX10_lengthen_46 : decode cX10_lengthen 46 = .ok (.iadd, 1) := by decide +kernel
theorem dX10_lengthen_47 : decode cX10_lengthen 47 = .ok (.istore 6, 2) := by decide +kernel
theorem dX10_lengthen_49 : decode cX10_lengthen 49 = .ok (.aload 5, 2) := by decide +kernel
theorem dX10_lengthen_51 : decode cX10_lengthen 51 = .ok (.getfield 102, 3) := by decide +kernel
theorem dX10_lengthen_54 : decode cX10_lengthen 54 = .ok (.iconst 1, 1) := by decide +kernel
theorem dX10_lengthen_55 : decode cX10_lengthen 55 = .ok (.iadd, 1) := by decide +kernel
theorem dX10_lengthen_56 : decode cX10_lengthen 56 = .ok (.bipush 7, 2) := by decide +kernel
theorem dX10_lengthen_58 : decode cX10_lengthen 58 = .ok (.if_icmp .gt 10, 3) := by decide +kernel
theorem dX10_lengthen_61 : decode cX10_lengthen 61 = .ok (.iload 6, 2) := by decide +kernel
theorem dX10_lengthen_63 : decode cX10_lengthen 63 = .ok (.bipush 12, 2) := by decide +kernel
theorem dX10_lengthen_65 : decode cX10_lengthen 65 = .ok (.if_icmp .le 6, 3) := by decide +kernel
theorem dX10_lengthen_68 : decode cX10_lengthen 68 = .ok (.bipush (-2), 2) := by decide +kernel
theorem dX10_lengthen_70 : decode cX10_lengthen 70 = .ok (.ireturn, 1) := by decide +kernel
theorem dX10_lengthen_71 : decode cX10_lengthen 71 = .ok (.aload 5, 2) := by decide +kernel
theorem dX10_lengthen_73 : decode cX10_lengthen 73 = .ok (.getfield 105, 3) := by decide +kernel
theorem dX10_lengthen_76 : decode cX10_lengthen 76 = .ok (.bipush 10, 2) := by decide +kernel
theorem dX10_lengthen_78 : decode cX10_lengthen 78 = .ok (.imul, 1) := by decide +kernel
theorem dX10_lengthen_79 : decode cX10_lengthen 79 = .ok (.iload_n 2, 1) := by decide +kernel
theorem dX10_lengthen_80 : decode cX10_lengthen 80 = .ok (.iadd, 1) := by decide +kernel
theorem dX10_lengthen_81 : decode cX10_lengthen 81 = .ok (.istore 7, 2) := by decide +kernel
theorem dX10_lengthen_83 : decode cX10_lengthen 83 = .ok (.aload_n 0, 1) := by decide +kernel
theorem dX10_lengthen_84 : decode cX10_lengthen 84 = .ok (.getfield 10, 3) := by decide +kernel
theorem dX10_lengthen_87 : decode cX10_lengthen 87 = .ok (.aload 5, 2) := by decide +kernel
theorem dX10_lengthen_89 : decode cX10_lengthen 89 = .ok (.new 51, 3) := by decide +kernel
theorem dX10_lengthen_92 : decode cX10_lengthen 92 = .ok (.dup, 1) := by decide +kernel
theorem dX10_lengthen_93 : decode cX10_lengthen 93 = .ok (.iconst 0, 1) := by decide +kernel
theorem dX10_lengthen_94 : decode cX10_lengthen 94 = .ok (.aload 5, 2) := by decide +kernel
theorem dX10_lengthen_96 : decode cX10_lengthen 96 = .ok (.getfield 108, 3) := by decide +kernel
theorem dX10_lengthen_99 : decode cX10_lengthen 99 = .ok (.iload 7, 2) := by decide +kernel
theorem dX10_lengthen_101 : decode cX10_lengthen 101 = .ok (.aload 5, 2) := by decide +kernel
theorem dX10_lengthen_103 : decode cX10_lengthen 103 = .ok (.getfield 84, 3) := by decide +kernel
theorem dX10_lengthen_106 : decode cX10_lengthen 106 = .ok (.iload 6, 2) := by decide +kernel
theorem dX10_lengthen_108 : decode cX10_lengthen 108 = .ok (.iload 6, 2) := by decide +kernel
theorem dX10_lengthen_110 : decode cX10_lengthen 110 = .ok (.iload_n 3, 1) := by decide +kernel
theorem dX10_lengthen_111 : decode cX10_lengthen 111 = .ok (.invokespecial 53, 3) := by decide +kernel
theorem dX10_lengthen_114 : decode cX10_lengthen 114 = .ok (.iload 4, 2) := by decide +kernel
theorem dX10_lengthen_116 : decode cX10_lengthen 116 = .ok (.invokevirtual 95, 3) := by decide +kernel
theorem dX10_lengthen_119 : decode cX10_lengthen 119 = .ok (.ireturn, 1) := by decide +kernel
theorem dX10_entry_0 : decode cX10_entry 0 = .ok (.aload_n 0, 1) := by decide +kernel
theorem dX10_entry_1 : decode cX10_entry 1 = .ok (.getfield 10, 3) := by decide +kernel
theorem dX10_entry_4 : decode cX10_entry 4 = .ok (.iload_n 1, 1) := by decide +kernel
theorem dX10_entry_5 : decode cX10_entry 5 = .ok (.invokevirtual 68, 3) := by decide +kernel
theorem dX10_entry_8 : decode cX10_entry 8 = .ok (.astore_n 3, 1) := by decide +kernel
theorem dX10_entry_9 : decode cX10_entry 9 = .ok (.aload_n 3, 1) := by decide +kernel
theorem dX10_entry_10 : decode cX10_entry 10 = .ok (.ifnonnull 7, 3) := by decide +kernel
theorem dX10_entry_13 : decode cX10_entry 13 = .ok (.iconst (-1), 1) := by decide +kernel
theorem dX10_entry_14 : decode cX10_entry 14 = .ok (.goto 8, 3) := by decide +kernel
theorem dX10_entry_17 : decode cX10_entry 17 = .ok (.aload_n 3, 1) := by decide +kernel
theorem dX10_entry_18 : decode cX10_entry 18 = .ok (.iload_n 2, 1) := by decide +kernel
theorem dX10_entry_19 : decode cX10_entry 19 = .ok (.invokevirtual 111, 3) := by decide +kernel
theorem dX10_entry_22 : decode cX10_entry 22 = .ok (.ireturn, 1) := by decide +kernel
theorem dX10_pairs_0 : decode cX10_pairs 0 = .ok (.iload_n 1, 1) := by decide +kernel
theorem dX10_pairs_1 : decode cX10_pairs 1 = .ok (.invokestatic 115, 3) := by decide +kernel
theorem dX10_pairs_4 : decode cX10_pairs 4 = .ok (.ifCond .eq 14, 3) := by decide +kernel
theorem dX10_pairs_7 : decode cX10_pairs 7 = .ok (.aload_n 0, 1) := by decide +kernel
theorem dX10_pairs_8 : decode cX10_pairs 8 = .ok (.getfield 10, 3) := by decide +kernel
theorem dX10_pairs_11 : decode cX10_pairs 11 = .ok (.iload_n 1, 1) := by decide +kernel
theorem dX10_pairs_12 : decode cX10_pairs 12 = .ok (.invokevirtual 118, 3) := by decide +kernel
theorem dX10_pairs_15 : decode cX10_pairs 15 = .ok (.goto 5, 3) := by decide +kernel
theorem dX10_pairs_18 : decode cX10_pairs 18 = .ok (.bipush (-2), 2) := by decide +kernel
theorem dX10_pairs_20 : decode cX10_pairs 20 = .ok (.ireturn, 1) := by decide +kernel
theorem dX10_pair_0 : decode cX10_pair 0 = .ok (.iload_n 1, 1) := by decide +kernel
theorem dX10_pair_1 : decode cX10_pair 1 = .ok (.invokestatic 115, 3) := by decide +kernel
theorem dX10_pair_4 : decode cX10_pair 4 = .ok (.ifCond .eq 16, 3) := by decide +kernel
theorem dX10_pair_7 : decode cX10_pair 7 = .ok (.iload_n 2, 1) := by decide +kernel
theorem dX10_pair_8 : decode cX10_pair 8 = .ok (.ifCond .lt 12, 3) := by decide +kernel
theorem dX10_pair_11 : decode cX10_pair 11 = .ok (.iload_n 3, 1) := by decide +kernel
theorem dX10_pair_12 : decode cX10_pair 12 = .ok (.iconst 0, 1) := by decide +kernel
theorem dX10_pair_13 : decode cX10_pair 13 = .ok (.iconst 1, 1) := by decide +kernel
theorem dX10_pair_14 : decode cX10_pair 14 = .ok (.invokestatic 64, 3) := by decide +kernel
theorem dX10_pair_17 : decode cX10_pair 17 = .ok (.ifCond .ne 5, 3) := by decide +kernel
theorem dX10_pair_20 : decode cX10_pair 20 = .ok (.iconst (-1), 1) := by decide +kernel
theorem dX10_pair_21 : decode cX10_pair 21 = .ok (.ireturn, 1) := by decide +kernel
theorem dX10_pair_22 : decode cX10_pair 22 = .ok (.aload_n 0, 1) := by decide +kernel
theorem dX10_pair_23 : decode cX10_pair 23 = .ok (.getfield 10, 3) := by decide +kernel
theorem dX10_pair_26 : decode cX10_pair 26 = .ok (.iload_n 1, 1) := by decide +kernel
theorem dX10_pair_27 : decode cX10_pair 27 = .ok (.iload_n 2, 1) := by decide +kernel
theorem dX10_pair_28 : decode cX10_pair 28 = .ok (.iload_n 3, 1) := by decide +kernel
theorem dX10_pair_29 : decode cX10_pair 29 = .ok (.invokevirtual 121, 3) := by decide +kernel
theorem dX10_pair_32 : decode cX10_pair 32 = .ok (.ireturn, 1) := by decide +kernel
theorem dX10_line_0 : decode cX10_line 0 = .ok (.aload_n 0, 1) := by decide +kernel
theorem dX10_line_1 : decode cX10_line 1 = .ok (.getfield 10, 3) := by decide +kernel
theorem dX10_line_4 : decode cX10_line 4 = .ok (.iload_n 1, 1) := by decide +kernel
theorem dX10_line_5 : decode cX10_line 5 = .ok (.invokevirtual 81, 3) := by decide +kernel
theorem dX10_line_8 : decode cX10_line 8 = .ok (.astore_n 3, 1) := by decide +kernel
theorem dX10_line_9 : decode cX10_line 9 = .ok (.aload_n 3, 1) := by decide +kernel
theorem dX10_line_10 : decode cX10_line 10 = .ok (.ifnull 22, 3) := by decide +kernel
theorem dX10_line_13 : decode cX10_line 13 = .ok (.aload_n 3, 1) := by decide +kernel
theorem dX10_line_14 : decode cX10_line 14 = .ok (.aload_n 0, 1) := by decide +kernel
theorem dX10_line_15 : decode cX10_line 15 = .ok (.getfield 39, 3) := by decide +kernel
theorem dX10_line_18 : decode cX10_line 18 = .ok (.invokevirtual 125, 3) := by decide +kernel
theorem dX10_line_21 : decode cX10_line 21 = .ok (.ifCond .eq 11, 3) := by decide +kernel
theorem dX10_line_24 : decode cX10_line 24 = .ok (.aload_n 3, 1) := by decide +kernel
theorem dX10_line_25 : decode cX10_line 25 = .ok (.iload_n 2, 1) := by decide +kernel
theorem dX10_line_26 : decode cX10_line 26 = .ok (.invokevirtual 128, 3) := by decide +kernel
theorem dX10_line_29 : decode cX10_line 29 = .ok (.ifCond .ne 6, 3) := by decide +kernel
theorem dX10_line_32 : decode cX10_line 32 = .ok (.bipush (-2), 2) := by decide +kernel
theorem dX10_line_34 : decode cX10_line 34 = .ok (.ireturn, 1) := by decide +kernel
theorem dX10_line_35 : decode cX10_line 35 = .ok (.aload_n 0, 1) := by decide +kernel
theorem dX10_line_36 : decode cX10_line 36 = .ok (.getfield 19, 3) := by decide +kernel
theorem dX10_line_39 : decode cX10_line 39 = .ok (.aload_n 3, 1) := by decide +kernel
theorem dX10_line_40 : decode cX10_line 40 = .ok (.iload_n 2, 1) := by decide +kernel
theorem dX10_line_41 : decode cX10_line 41 = .ok (.i2l, 1) := by decide +kernel
theorem dX10_line_42 : decode cX10_line 42 = .ok (.aload_n 0, 1) := by decide +kernel
theorem dX10_line_43 : decode cX10_line 43 = .ok (.getfield 39, 3) := by decide +kernel
theorem dX10_line_46 : decode cX10_line 46 = .ok (.invokevirtual 131, 3) := by decide +kernel
theorem dX10_line_49 : decode cX10_line 49 = .ok (.iconst (-1), 1) := by decide +kernel
theorem dX10_line_50 : decode cX10_line 50 = .ok (.if_icmp .eq 5, 3) := by decide +kernel
theorem dX10_line_53 : decode cX10_line 53 = .ok (.iconst (-1), 1) := by decide +kernel
theorem dX10_line_54 : decode cX10_line 54 = .ok (.ireturn, 1) := by decide +kernel
theorem dX10_line_55 : decode cX10_line 55 = .ok (.aload_n 0, 1) := by decide +kernel
theorem dX10_line_56 : decode cX10_line 56 = .ok (.getfield 19, 3) := by decide +kernel
theorem dX10_line_59 : decode cX10_line 59 = .ok (.aload_n 3, 1) := by decide +kernel
theorem dX10_line_60 : decode cX10_line 60 = .ok (.iload_n 2, 1) := by decide +kernel
theorem dX10_line_61 : decode cX10_line 61 = .ok (.aload_n 0, 1) := by decide +kernel
theorem dX10_line_62 : decode cX10_line 62 = .ok (.getfield 39, 3) := by decide +kernel
theorem dX10_line_65 : decode cX10_line 65 = .ok (.invokevirtual 135, 3) := by decide +kernel
theorem dX10_line_68 : decode cX10_line 68 = .ok (.ireturn, 1) := by decide +kernel
theorem dX10_drop_0 : decode cX10_drop 0 = .ok (.aload_n 0, 1) := by decide +kernel
theorem dX10_drop_1 : decode cX10_drop 1 = .ok (.getfield 19, 3) := by decide +kernel
theorem dX10_drop_4 : decode cX10_drop 4 = .ok (.iload_n 1, 1) := by decide +kernel
theorem dX10_drop_5 : decode cX10_drop 5 = .ok (.invokevirtual 138, 3) := by decide +kernel
theorem dX10_drop_8 : decode cX10_drop 8 = .ok (.astore_n 2, 1) := by decide +kernel
theorem dX10_drop_9 : decode cX10_drop 9 = .ok (.aload_n 2, 1) := by decide +kernel
theorem dX10_drop_10 : decode cX10_drop 10 = .ok (.ifnull 11, 3) := by decide +kernel
theorem dX10_drop_13 : decode cX10_drop 13 = .ok (.aload_n 2, 1) := by decide +kernel
theorem dX10_drop_14 : decode cX10_drop 14 = .ok (.getfield 142, 3) := by decide +kernel
theorem dX10_drop_17 : decode cX10_drop 17 = .ok (.iconst (-1), 1) := by decide +kernel
theorem dX10_drop_18 : decode cX10_drop 18 = .ok (.if_icmp .eq 6, 3) := by decide +kernel
theorem dX10_drop_21 : decode cX10_drop 21 = .ok (.bipush (-2), 2) := by decide +kernel
theorem dX10_drop_23 : decode cX10_drop 23 = .ok (.ireturn, 1) := by decide +kernel
theorem dX10_drop_24 : decode cX10_drop 24 = .ok (.aload_n 2, 1) := by decide +kernel
theorem dX10_drop_25 : decode cX10_drop 25 = .ok (.aload_n 0, 1) := by decide +kernel
theorem dX10_drop_26 : decode cX10_drop 26 = .ok (.getfield 39, 3) := by decide +kernel
theorem dX10_drop_29 : decode cX10_drop 29 = .ok (.putfield 142, 3) := by decide +kernel
theorem dX10_drop_32 : decode cX10_drop 32 = .ok (.iconst 1, 1) := by decide +kernel
theorem dX10_drop_33 : decode cX10_drop 33 = .ok (.ireturn, 1) := by decide +kernel
theorem dX10_port_0 : decode cX10_port 0 = .ok (.aload_n 0, 1) := by decide +kernel
theorem dX10_port_1 : decode cX10_port 1 = .ok (.getfield 19, 3) := by decide +kernel
theorem dX10_port_4 : decode cX10_port 4 = .ok (.iload_n 1, 1) := by decide +kernel
theorem dX10_port_5 : decode cX10_port 5 = .ok (.invokevirtual 138, 3) := by decide +kernel
theorem dX10_port_8 : decode cX10_port 8 = .ok (.astore_n 3, 1) := by decide +kernel
theorem dX10_port_9 : decode cX10_port 9 = .ok (.aload_n 3, 1) := by decide +kernel
theorem dX10_port_10 : decode cX10_port 10 = .ok (.ifnull 21, 3) := by decide +kernel
theorem dX10_port_13 : decode cX10_port 13 = .ok (.aload_n 3, 1) := by decide +kernel
theorem dX10_port_14 : decode cX10_port 14 = .ok (.getfield 142, 3) := by decide +kernel
theorem dX10_port_17 : decode cX10_port 17 = .ok (.iconst (-1), 1) := by decide +kernel
theorem dX10_port_18 : decode cX10_port 18 = .ok (.if_icmp .ne 13, 3) := by decide +kernel
theorem dX10_port_21 : decode cX10_port 21 = .ok (.iload_n 2, 1) := by decide +kernel
theorem dX10_port_22 : decode cX10_port 22 = .ok (.iconst 0, 1) := by decide +kernel
theorem dX10_port_23 : decode cX10_port 23 = .ok (.bipush 99, 2) := by decide +kernel
theorem dX10_port_25 : decode cX10_port 25 = .ok (.invokestatic 64, 3) := by decide +kernel
theorem dX10_port_28 : decode cX10_port 28 = .ok (.ifCond .ne 6, 3) := by decide +kernel
theorem dX10_port_31 : decode cX10_port 31 = .ok (.bipush (-2), 2) := by decide +kernel
theorem dX10_port_33 : decode cX10_port 33 = .ok (.ireturn, 1) := by decide +kernel
theorem dX10_port_34 : decode cX10_port 34 = .ok (.aload_n 0, 1) := by decide +kernel
theorem dX10_port_35 : decode cX10_port 35 = .ok (.getfield 19, 3) := by decide +kernel
theorem dX10_port_38 : decode cX10_port 38 = .ok (.aload_n 3, 1) := by decide +kernel
theorem dX10_port_39 : decode cX10_port 39 = .ok (.iload_n 2, 1) := by decide +kernel
theorem dX10_port_40 : decode cX10_port 40 = .ok (.aload_n 0, 1) := by decide +kernel
theorem dX10_port_41 : decode cX10_port 41 = .ok (.getfield 39, 3) := by decide +kernel
theorem dX10_port_44 : decode cX10_port 44 = .ok (.invokevirtual 145, 3) := by decide +kernel
theorem dX10_port_47 : decode cX10_port 47 = .ok (.ireturn, 1) := by decide +kernel
theorem dX10_numberOf_0 : decode cX10_numberOf 0 = .ok (.aload_n 0, 1) := by decide +kernel
theorem dX10_numberOf_1 : decode cX10_numberOf 1 = .ok (.getfield 19, 3) := by decide +kernel
theorem dX10_numberOf_4 : decode cX10_numberOf 4 = .ok (.iload_n 1, 1) := by decide +kernel
theorem dX10_numberOf_5 : decode cX10_numberOf 5 = .ok (.invokevirtual 138, 3) := by decide +kernel
theorem dX10_numberOf_8 : decode cX10_numberOf 8 = .ok (.astore_n 3, 1) := by decide +kernel
theorem dX10_numberOf_9 : decode cX10_numberOf 9 = .ok (.aload_n 3, 1) := by decide +kernel
theorem dX10_numberOf_10 : decode cX10_numberOf 10 = .ok (.ifnull 10, 3) := by decide +kernel
theorem dX10_numberOf_13 : decode cX10_numberOf 13 = .ok (.iload_n 2, 1) := by decide +kernel
theorem dX10_numberOf_14 : decode cX10_numberOf 14 = .ok (.invokestatic 115, 3) := by decide +kernel
theorem dX10_numberOf_17 : decode cX10_numberOf 17 = .ok (.ifCond .ne 7, 3) := by decide +kernel
theorem dX10_numberOf_20 : decode cX10_numberOf 20 = .ok (.ldc2_w 149, 3) := by decide +kernel
theorem dX10_numberOf_23 : decode cX10_numberOf 23 = .ok (.lreturn, 1) := by decide +kernel
theorem dX10_numberOf_24 : decode cX10_numberOf 24 = .ok (.aload_n 3, 1) := by decide +kernel
theorem dX10_numberOf_25 : decode cX10_numberOf 25 = .ok (.iload_n 2, 1) := by decide +kernel
theorem dX10_numberOf_26 : decode cX10_numberOf 26 = .ok (.invokevirtual 151, 3) := by decide +kernel
theorem dX10_numberOf_29 : decode cX10_numberOf 29 = .ok (.astore 4, 2) := by decide +kernel
theorem dX10_numberOf_31 : decode cX10_numberOf 31 = .ok (.aload 4, 2) := by decide +kernel
theorem dX10_numberOf_33 : decode cX10_numberOf 33 = .ok (.ifnonnull 9, 3) := by decide +kernel
theorem dX10_numberOf_36 : decode cX10_numberOf 36 = .ok (.ldc2_w 149, 3) := by decide +kernel
theorem dX10_numberOf_39 : decode cX10_numberOf 39 = .ok (.goto 12, 3) := by decide +kernel
theorem dX10_numberOf_42 : decode cX10_numberOf 42 = .ok (.aload 4, 2) := by decide +kernel
theorem dX10_numberOf_44 : decode cX10_numberOf 44 = .ok (.aload_n 3, 1) := by decide +kernel
theorem dX10_numberOf_45 : decode cX10_numberOf 45 = .ok (.getfield 154, 3) := by decide +kernel
theorem dX10_numberOf_48 : decode cX10_numberOf 48 = .ok (.invokevirtual 157, 3) := by decide +kernel
theorem dX10_numberOf_51 : decode cX10_numberOf 51 = .ok (.lreturn, 1) := by decide +kernel
theorem dX10_lineAt_0 : decode cX10_lineAt 0 = .ok (.aload_n 0, 1) := by decide +kernel
theorem dX10_lineAt_1 : decode cX10_lineAt 1 = .ok (.getfield 19, 3) := by decide +kernel
theorem dX10_lineAt_4 : decode cX10_lineAt 4 = .ok (.iload_n 1, 1) := by decide +kernel
theorem dX10_lineAt_5 : decode cX10_lineAt 5 = .ok (.invokevirtual 138, 3) := by decide +kernel
theorem dX10_lineAt_8 : decode cX10_lineAt 8 = .ok (.astore 4, 2) := by decide +kernel
theorem dX10_lineAt_10 : decode cX10_lineAt 10 = .ok (.aload 4, 2) := by decide +kernel
theorem dX10_lineAt_12 : decode cX10_lineAt 12 = .ok (.ifnull 10, 3) := by decide +kernel
theorem dX10_lineAt_15 : decode cX10_lineAt 15 = .ok (.iload_n 2, 1) := by decide +kernel
theorem dX10_lineAt_16 : decode cX10_lineAt 16 = .ok (.invokestatic 115, 3) := by decide +kernel
theorem dX10_lineAt_19 : decode cX10_lineAt 19 = .ok (.ifCond .ne 5, 3) := by decide +kernel
theorem dX10_lineAt_22 : decode cX10_lineAt 22 = .ok (.iconst (-1), 1) := by decide +kernel
theorem dX10_lineAt_23 : decode cX10_lineAt 23 = .ok (.ireturn, 1) := by decide +kernel
theorem dX10_lineAt_24 : decode cX10_lineAt 24 = .ok (.aload 4, 2) := by decide +kernel
theorem dX10_lineAt_26 : decode cX10_lineAt 26 = .ok (.iload_n 2, 1) := by decide +kernel
theorem dX10_lineAt_27 : decode cX10_lineAt 27 = .ok (.invokevirtual 151, 3) := by decide +kernel
theorem dX10_lineAt_30 : decode cX10_lineAt 30 = .ok (.astore 5, 2) := by decide +kernel
theorem dX10_lineAt_32 : decode cX10_lineAt 32 = .ok (.aload 5, 2) := by decide +kernel
theorem dX10_lineAt_34 : decode cX10_lineAt 34 = .ok (.ifnonnull 5, 3) := by decide +kernel
theorem dX10_lineAt_37 : decode cX10_lineAt 37 = .ok (.iconst (-1), 1) := by decide +kernel
theorem dX10_lineAt_38 : decode cX10_lineAt 38 = .ok (.ireturn, 1) := by decide +kernel
theorem dX10_lineAt_39 : decode cX10_lineAt 39 = .ok (.iload_n 3, 1) := by decide +kernel
theorem dX10_lineAt_40 : decode cX10_lineAt 40 = .ok (.tableswitch 47 0 2 #[28, 34, 41], 28) := by decide +kernel
theorem dX10_lineAt_68 : decode cX10_lineAt 68 = .ok (.aload 5, 2) := by decide +kernel
theorem dX10_lineAt_70 : decode cX10_lineAt 70 = .ok (.getfield 161, 3) := by decide +kernel
theorem dX10_lineAt_73 : decode cX10_lineAt 73 = .ok (.ireturn, 1) := by decide +kernel
theorem dX10_lineAt_74 : decode cX10_lineAt 74 = .ok (.aload 4, 2) := by decide +kernel
theorem dX10_lineAt_76 : decode cX10_lineAt 76 = .ok (.iload_n 2, 1) := by decide +kernel
theorem dX10_lineAt_77 : decode cX10_lineAt 77 = .ok (.invokevirtual 164, 3) := by decide +kernel
theorem dX10_lineAt_80 : decode cX10_lineAt 80 = .ok (.ireturn, 1) := by decide +kernel
theorem dX10_lineAt_81 : decode cX10_lineAt 81 = .ok (.aload 5, 2) := by decide +kernel
theorem dX10_lineAt_83 : decode cX10_lineAt 83 = .ok (.getfield 108, 3) := by decide +kernel
theorem dX10_lineAt_86 : decode cX10_lineAt 86 = .ok (.ireturn, 1) := by decide +kernel
theorem dX10_lineAt_87 : decode cX10_lineAt 87 = .ok (.iconst (-1), 1) := by decide +kernel
theorem dX10_lineAt_88 : decode cX10_lineAt 88 = .ok (.ireturn, 1) := by decide +kernel
theorem dX10_call_0 : decode cX10_call 0 = .ok (.aload_n 0, 1) := by decide +kernel
theorem dX10_call_1 : decode cX10_call 1 = .ok (.iload_n 1, 1) := by decide +kernel
theorem dX10_call_2 : decode cX10_call 2 = .ok (.invokevirtual 167, 3) := by decide +kernel
theorem dX10_call_5 : decode cX10_call 5 = .ok (.astore_n 2, 1) := by decide +kernel
theorem dX10_call_6 : decode cX10_call 6 = .ok (.aload_n 2, 1) := by decide +kernel
theorem dX10_call_7 : decode cX10_call 7 = .ok (.ifnonnull 6, 3) := by decide +kernel
theorem dX10_call_10 : decode cX10_call 10 = .ok (.bipush (-2), 2) := by decide +kernel
theorem dX10_call_12 : decode cX10_call 12 = .ok (.ireturn, 1) := by decide +kernel
theorem dX10_call_13 : decode cX10_call 13 = .ok (.aload_n 2, 1) := by decide +kernel
theorem dX10_call_14 : decode cX10_call 14 = .ok (.aload_n 0, 1) := by decide +kernel
theorem dX10_call_15 : decode cX10_call 15 = .ok (.getfield 39, 3) := by decide +kernel
theorem dX10_call_18 : decode cX10_call 18 = .ok (.invokevirtual 171, 3) := by decide +kernel
theorem dX10_call_21 : decode cX10_call 21 = .ok (.aload_n 0, 1) := by decide +kernel
theorem dX10_call_22 : decode cX10_call 22 = .ok (.getfield 39, 3) := by decide +kernel
theorem dX10_call_25 : decode cX10_call 25 = .ok (.ireturn, 1) := by decide +kernel
theorem dX10_figure_0 : decode cX10_figure 0 = .ok (.aload_n 0, 1) := by decide +kernel
theorem dX10_figure_1 : decode cX10_figure 1 = .ok (.iload_n 1, 1) := by decide +kernel
theorem dX10_figure_2 : decode cX10_figure 2 = .ok (.invokevirtual 167, 3) := by decide +kernel
theorem dX10_figure_5 : decode cX10_figure 5 = .ok (.astore_n 3, 1) := by decide +kernel
theorem dX10_figure_6 : decode cX10_figure 6 = .ok (.aload_n 3, 1) := by decide +kernel
theorem dX10_figure_7 : decode cX10_figure 7 = .ok (.ifnull 13, 3) := by decide +kernel
theorem dX10_figure_10 : decode cX10_figure 10 = .ok (.iload_n 2, 1) := by decide +kernel
theorem dX10_figure_11 : decode cX10_figure 11 = .ok (.iconst 0, 1) := by decide +kernel
theorem dX10_figure_12 : decode cX10_figure 12 = .ok (.bipush 9, 2) := by decide +kernel
theorem dX10_figure_14 : decode cX10_figure 14 = .ok (.invokestatic 64, 3) := by decide +kernel
theorem dX10_figure_17 : decode cX10_figure 17 = .ok (.ifCond .ne 6, 3) := by decide +kernel
theorem dX10_figure_20 : decode cX10_figure 20 = .ok (.bipush (-2), 2) := by decide +kernel
theorem dX10_figure_22 : decode cX10_figure 22 = .ok (.ireturn, 1) := by decide +kernel
theorem dX10_figure_23 : decode cX10_figure 23 = .ok (.aload_n 3, 1) := by decide +kernel
theorem dX10_figure_24 : decode cX10_figure 24 = .ok (.invokevirtual 175, 3) := by decide +kernel
theorem dX10_figure_27 : decode cX10_figure 27 = .ok (.ifCond .ne 5, 3) := by decide +kernel
theorem dX10_figure_30 : decode cX10_figure 30 = .ok (.iconst (-1), 1) := by decide +kernel
theorem dX10_figure_31 : decode cX10_figure 31 = .ok (.ireturn, 1) := by decide +kernel
theorem dX10_figure_32 : decode cX10_figure 32 = .ok (.aload_n 3, 1) := by decide +kernel
theorem dX10_figure_33 : decode cX10_figure 33 = .ok (.iload_n 2, 1) := by decide +kernel
theorem dX10_figure_34 : decode cX10_figure 34 = .ok (.invokevirtual 179, 3) := by decide +kernel
theorem dX10_figure_37 : decode cX10_figure 37 = .ok (.aload_n 3, 1) := by decide +kernel
theorem dX10_figure_38 : decode cX10_figure 38 = .ok (.aload_n 0, 1) := by decide +kernel
theorem dX10_figure_39 : decode cX10_figure 39 = .ok (.getfield 10, 3) := by decide +kernel
theorem dX10_figure_42 : decode cX10_figure 42 = .ok (.aload_n 3, 1) := by decide +kernel
theorem dX10_figure_43 : decode cX10_figure 43 = .ok (.getfield 182, 3) := by decide +kernel
theorem dX10_figure_46 : decode cX10_figure 46 = .ok (.aload_n 3, 1) := by decide +kernel
theorem dX10_figure_47 : decode cX10_figure 47 = .ok (.getfield 185, 3) := by decide +kernel
theorem dX10_figure_50 : decode cX10_figure 50 = .ok (.aload_n 3, 1) := by decide +kernel
theorem dX10_figure_51 : decode cX10_figure 51 = .ok (.getfield 186, 3) := by decide +kernel
theorem dX10_figure_54 : decode cX10_figure 54 = .ok (.invokevirtual 189, 3) := by decide +kernel
theorem dX10_figure_57 : decode cX10_figure 57 = .ok (.invokevirtual 193, 3) := by decide +kernel
theorem dX10_figure_60 : decode cX10_figure 60 = .ok (.putfield 198, 3) := by decide +kernel
theorem dX10_figure_63 : decode cX10_figure 63 = .ok (.aload_n 3, 1) := by decide +kernel
theorem dX10_figure_64 : decode cX10_figure 64 = .ok (.aload_n 3, 1) := by decide +kernel
theorem dX10_figure_65 : decode cX10_figure 65 = .ok (.getfield 198, 3) := by decide +kernel
theorem dX10_figure_68 : decode cX10_figure 68 = .ok (.iconst 1, 1) := by decide +kernel
theorem dX10_figure_69 : decode cX10_figure 69 = .ok (.if_icmp .eq 11, 3) := by decide +kernel
theorem dX10_figure_72 : decode cX10_figure 72 = .ok (.aload_n 3, 1) := by decide +kernel
theorem dX10_figure_73 : decode cX10_figure 73 = .ok (.getfield 198, 3) := by decide +kernel
theorem dX10_figure_76 : decode cX10_figure 76 = .ok (.iconst 3, 1) := by decide +kernel
theorem dX10_figure_77 : decode cX10_figure 77 = .ok (.if_icmp .ne 7, 3) := by decide +kernel
theorem dX10_figure_80 : decode cX10_figure 80 = .ok (.iconst 1, 1) := by decide +kernel
theorem dX10_figure_81 : decode cX10_figure 81 = .ok (.goto 4, 3) := by decide +kernel
theorem dX10_figure_84 : decode cX10_figure 84 = .ok (.iconst 0, 1) := by decide +kernel
theorem dX10_figure_85 : decode cX10_figure 85 = .ok (.putfield 200, 3) := by decide +kernel
theorem dX10_figure_88 : decode cX10_figure 88 = .ok (.aload_n 3, 1) := by decide +kernel
theorem dX10_figure_89 : decode cX10_figure 89 = .ok (.getfield 198, 3) := by decide +kernel
theorem dX10_figure_92 : decode cX10_figure 92 = .ok (.ireturn, 1) := by decide +kernel
theorem dX10_waits_0 : decode cX10_waits 0 = .ok (.aload_n 0, 1) := by decide +kernel
theorem dX10_waits_1 : decode cX10_waits 1 = .ok (.iload_n 1, 1) := by decide +kernel
theorem dX10_waits_2 : decode cX10_waits 2 = .ok (.invokevirtual 167, 3) := by decide +kernel
theorem dX10_waits_5 : decode cX10_waits 5 = .ok (.astore_n 2, 1) := by decide +kernel
theorem dX10_waits_6 : decode cX10_waits 6 = .ok (.aload_n 2, 1) := by decide +kernel
theorem dX10_waits_7 : decode cX10_waits 7 = .ok (.ifnonnull 6, 3) := by decide +kernel
theorem dX10_waits_10 : decode cX10_waits 10 = .ok (.bipush (-2), 2) := by decide +kernel
theorem dX10_waits_12 : decode cX10_waits 12 = .ok (.ireturn, 1) := by decide +kernel
theorem dX10_waits_13 : decode cX10_waits 13 = .ok (.aload_n 2, 1) := by decide +kernel
theorem dX10_waits_14 : decode cX10_waits 14 = .ok (.invokevirtual 175, 3) := by decide +kernel
theorem dX10_waits_17 : decode cX10_waits 17 = .ok (.ifCond .ne 5, 3) := by decide +kernel
theorem dX10_waits_20 : decode cX10_waits 20 = .ok (.iconst (-1), 1) := by decide +kernel
theorem dX10_waits_21 : decode cX10_waits 21 = .ok (.ireturn, 1) := by decide +kernel
theorem dX10_waits_22 : decode cX10_waits 22 = .ok (.aload_n 2, 1) := by decide +kernel
theorem dX10_waits_23 : decode cX10_waits 23 = .ok (.aload_n 2, 1) := by decide +kernel
theorem dX10_waits_24 : decode cX10_waits 24 = .ok (.getfield 198, 3) := by decide +kernel
theorem dX10_waits_27 : decode cX10_waits 27 = .ok (.iconst 2, 1) := by decide +kernel
theorem dX10_waits_28 : decode cX10_waits 28 = .ok (.if_icmp .ne 7, 3) := by decide +kernel
theorem dX10_waits_31 : decode cX10_waits 31 = .ok (.iconst 1, 1) := by decide +kernel
theorem dX10_waits_32 : decode cX10_waits 32 = .ok (.goto 4, 3) := by decide +kernel
theorem dX10_waits_35 : decode cX10_waits 35 = .ok (.iconst 0, 1) := by decide +kernel
theorem dX10_waits_36 : decode cX10_waits 36 = .ok (.putfield 200, 3) := by decide +kernel
theorem dX10_waits_39 : decode cX10_waits 39 = .ok (.aload_n 2, 1) := by decide +kernel
theorem dX10_waits_40 : decode cX10_waits 40 = .ok (.getfield 200, 3) := by decide +kernel
theorem dX10_waits_43 : decode cX10_waits 43 = .ok (.ifCond .eq 7, 3) := by decide +kernel
theorem dX10_waits_46 : decode cX10_waits 46 = .ok (.iconst 1, 1) := by decide +kernel
theorem dX10_waits_47 : decode cX10_waits 47 = .ok (.goto 4, 3) := by decide +kernel
theorem dX10_waits_50 : decode cX10_waits 50 = .ok (.iconst 0, 1) := by decide +kernel
theorem dX10_waits_51 : decode cX10_waits 51 = .ok (.ireturn, 1) := by decide +kernel
theorem dX10_told_0 : decode cX10_told 0 = .ok (.aload_n 0, 1) := by decide +kernel
theorem dX10_told_1 : decode cX10_told 1 = .ok (.iload_n 1, 1) := by decide +kernel
theorem dX10_told_2 : decode cX10_told 2 = .ok (.invokevirtual 167, 3) := by decide +kernel
theorem dX10_told_5 : decode cX10_told 5 = .ok (.astore_n 3, 1) := by decide +kernel
theorem dX10_told_6 : decode cX10_told 6 = .ok (.aload_n 3, 1) := by decide +kernel
theorem dX10_told_7 : decode cX10_told 7 = .ok (.ifnull 10, 3) := by decide +kernel
theorem dX10_told_10 : decode cX10_told 10 = .ok (.aload_n 3, 1) := by decide +kernel
theorem dX10_told_11 : decode cX10_told 11 = .ok (.getfield 204, 3) := by decide +kernel
theorem dX10_told_14 : decode cX10_told 14 = .ok (.ifCond .ne 5, 3) := by decide +kernel
theorem dX10_told_17 : decode cX10_told 17 = .ok (.iconst (-1), 1) := by decide +kernel
theorem dX10_told_18 : decode cX10_told 18 = .ok (.ireturn, 1) := by decide +kernel
theorem dX10_told_19 : decode cX10_told 19 = .ok (.iload_n 2, 1) := by decide +kernel
theorem dX10_told_20 : decode cX10_told 20 = .ok (.tableswitch 102 0 10 #[60, 65, 70, 83, 88, 88, 88, 88, 95, 95, 95], 60) := by decide +kernel
theorem dX10_told_80 : decode cX10_told 80 = .ok (.aload_n 3, 1) := by decide +kernel
theorem dX10_told_81 : decode cX10_told 81 = .ok (.getfield 185, 3) := by decide +kernel
theorem dX10_told_84 : decode cX10_told 84 = .ok (.ireturn, 1) := by decide +kernel
theorem dX10_told_85 : decode cX10_told 85 = .ok (.aload_n 3, 1) := by decide +kernel
theorem dX10_told_86 : decode cX10_told 86 = .ok (.getfield 198, 3) := by decide +kernel
theorem dX10_told_89 : decode cX10_told 89 = .ok (.ireturn, 1) := by decide +kernel
theorem dX10_told_90 : decode cX10_told 90 = .ok (.aload_n 3, 1) := by decide +kernel
theorem dX10_told_91 : decode cX10_told 91 = .ok (.getfield 200, 3) := by decide +kernel
theorem dX10_told_94 : decode cX10_told 94 = .ok (.ifCond .eq 7, 3) := by decide +kernel
theorem dX10_told_97 : decode cX10_told 97 = .ok (.iconst 1, 1) := by decide +kernel
theorem dX10_told_98 : decode cX10_told 98 = .ok (.goto 4, 3) := by decide +kernel
theorem dX10_told_101 : decode cX10_told 101 = .ok (.iconst 0, 1) := by decide +kernel
theorem dX10_told_102 : decode cX10_told 102 = .ok (.ireturn, 1) := by decide +kernel
theorem dX10_told_103 : decode cX10_told 103 = .ok (.aload_n 3, 1) := by decide +kernel
theorem dX10_told_104 : decode cX10_told 104 = .ok (.getfield 186, 3) := by decide +kernel
theorem dX10_told_107 : decode cX10_told 107 = .ok (.ireturn, 1) := by decide +kernel
theorem dX10_told_108 : decode cX10_told 108 = .ok (.aload_n 0, 1) := by decide +kernel
theorem dX10_told_109 : decode cX10_told 109 = .ok (.aload_n 3, 1) := by decide +kernel
theorem dX10_told_110 : decode cX10_told 110 = .ok (.iload_n 2, 1) := by decide +kernel
theorem dX10_told_111 : decode cX10_told 111 = .ok (.invokevirtual 207, 3) := by decide +kernel
theorem dX10_told_114 : decode cX10_told 114 = .ok (.ireturn, 1) := by decide +kernel
theorem dX10_told_115 : decode cX10_told 115 = .ok (.aload_n 0, 1) := by decide +kernel
theorem dX10_told_116 : decode cX10_told 116 = .ok (.aload_n 3, 1) := by decide +kernel
theorem dX10_told_117 : decode cX10_told 117 = .ok (.iload_n 2, 1) := by decide +kernel
theorem dX10_told_118 : decode cX10_told 118 = .ok (.invokevirtual 211, 3) := by decide +kernel
theorem dX10_told_121 : decode cX10_told 121 = .ok (.ireturn, 1) := by decide +kernel
theorem dX10_told_122 : decode cX10_told 122 = .ok (.iconst (-1), 1) := by decide +kernel
theorem dX10_told_123 : decode cX10_told 123 = .ok (.ireturn, 1) := by decide +kernel
theorem dX10_leads_0 : decode cX10_leads 0 = .ok (.lload_n 1, 1) := by decide +kernel
theorem dX10_leads_1 : decode cX10_leads 1 = .ok (.invokestatic 60, 3) := by decide +kernel
theorem dX10_leads_4 : decode cX10_leads 4 = .ok (.istore 4, 2) := by decide +kernel
theorem dX10_leads_6 : decode cX10_leads 6 = .ok (.iload 4, 2) := by decide +kernel
theorem dX10_leads_8 : decode cX10_leads 8 = .ok (.iconst 1, 1) := by decide +kernel
theorem dX10_leads_9 : decode cX10_leads 9 = .ok (.bipush 15, 2) := by decide +kernel
theorem dX10_leads_11 : decode cX10_leads 11 = .ok (.invokestatic 64, 3) := by decide +kernel
theorem dX10_leads_14 : decode cX10_leads 14 = .ok (.ifCond .eq 10, 3) := by decide +kernel
theorem dX10_leads_17 : decode cX10_leads 17 = .ok (.iload_n 3, 1) := by decide +kernel
theorem dX10_leads_18 : decode cX10_leads 18 = .ok (.invokestatic 115, 3) := by decide +kernel
theorem dX10_leads_21 : decode cX10_leads 21 = .ok (.ifCond .ne 6, 3) := by decide +kernel
theorem dX10_leads_24 : decode cX10_leads 24 = .ok (.bipush (-2), 2) := by decide +kernel
theorem dX10_leads_26 : decode cX10_leads 26 = .ok (.ireturn, 1) := by decide +kernel
theorem dX10_leads_27 : decode cX10_leads 27 = .ok (.aload_n 0, 1) := by decide +kernel
theorem dX10_leads_28 : decode cX10_leads 28 = .ok (.getfield 10, 3) := by decide +kernel
theorem dX10_leads_31 : decode cX10_leads 31 = .ok (.lload_n 1, 1) := by decide +kernel
theorem dX10_leads_32 : decode cX10_leads 32 = .ok (.iload 4, 2) := by decide +kernel
theorem dX10_leads_34 : decode cX10_leads 34 = .ok (.iload_n 3, 1) := by decide +kernel
theorem dX10_leads_35 : decode cX10_leads 35 = .ok (.invokevirtual 214, 3) := by decide +kernel
theorem dX10_leads_38 : decode cX10_leads 38 = .ok (.astore 5, 2) := by decide +kernel
theorem dX10_leads_40 : decode cX10_leads 40 = .ok (.aload 5, 2) := by decide +kernel
theorem dX10_leads_42 : decode cX10_leads 42 = .ok (.ifnonnull 7, 3) := by decide +kernel
theorem dX10_leads_45 : decode cX10_leads 45 = .ok (.iconst (-1), 1) := by decide +kernel
theorem dX10_leads_46 : decode cX10_leads 46 = .ok (.goto 16, 3) := by decide +kernel
theorem dX10_leads_49 : decode cX10_leads 49 = .ok (.aload_n 0, 1) := by decide +kernel
theorem dX10_leads_50 : decode cX10_leads 50 = .ok (.getfield 19, 3) := by decide +kernel
theorem dX10_leads_53 : decode cX10_leads 53 = .ok (.aload 5, 2) := by decide +kernel
theorem dX10_leads_55 : decode cX10_leads 55 = .ok (.lload_n 1, 1) := by decide +kernel
theorem dX10_leads_56 : decode cX10_leads 56 = .ok (.iload 4, 2) := by decide +kernel
theorem dX10_leads_58 : decode cX10_leads 58 = .ok (.iload_n 3, 1) := by decide +kernel
theorem dX10_leads_59 : decode cX10_leads 59 = .ok (.invokevirtual 218, 3) := by decide +kernel
theorem dX10_leads_62 : decode cX10_leads 62 = .ok (.ireturn, 1) := by decide +kernel
theorem dX10_demand_0 : decode cX10_demand 0 = .ok (.aload_n 0, 1) := by decide +kernel
theorem dX10_demand_1 : decode cX10_demand 1 = .ok (.getfield 35, 3) := by decide +kernel
theorem dX10_demand_4 : decode cX10_demand 4 = .ok (.iload_n 1, 1) := by decide +kernel
theorem dX10_demand_5 : decode cX10_demand 5 = .ok (.invokevirtual 222, 3) := by decide +kernel
theorem dX10_demand_8 : decode cX10_demand 8 = .ok (.astore 4, 2) := by decide +kernel
theorem dX10_demand_10 : decode cX10_demand 10 = .ok (.aload 4, 2) := by decide +kernel
theorem dX10_demand_12 : decode cX10_demand 12 = .ok (.ifnull 23, 3) := by decide +kernel
theorem dX10_demand_15 : decode cX10_demand 15 = .ok (.iload_n 2, 1) := by decide +kernel
theorem dX10_demand_16 : decode cX10_demand 16 = .ok (.iconst 0, 1) := by decide +kernel
theorem dX10_demand_17 : decode cX10_demand 17 = .ok (.ldc 226, 2) := by decide +kernel
theorem dX10_demand_19 : decode cX10_demand 19 = .ok (.invokestatic 64, 3) := by decide +kernel
theorem dX10_demand_22 : decode cX10_demand 22 = .ok (.ifCond .eq 13, 3) := by decide +kernel
theorem dX10_demand_25 : decode cX10_demand 25 = .ok (.iload_n 3, 1) := by decide +kernel
theorem dX10_demand_26 : decode cX10_demand 26 = .ok (.iconst 0, 1) := by decide +kernel
theorem dX10_demand_27 : decode cX10_demand 27 = .ok (.ldc 227, 2) := by decide +kernel
theorem dX10_demand_29 : decode cX10_demand 29 = .ok (.invokestatic 64, 3) := by decide +kernel
theorem dX10_demand_32 : decode cX10_demand 32 = .ok (.ifCond .ne 6, 3) := by decide +kernel
theorem dX10_demand_35 : decode cX10_demand 35 = .ok (.bipush (-2), 2) := by decide +kernel
theorem dX10_demand_37 : decode cX10_demand 37 = .ok (.ireturn, 1) := by decide +kernel
theorem dX10_demand_38 : decode cX10_demand 38 = .ok (.aload 4, 2) := by decide +kernel
theorem dX10_demand_40 : decode cX10_demand 40 = .ok (.getfield 228, 3) := by decide +kernel
theorem dX10_demand_43 : decode cX10_demand 43 = .ok (.istore 5, 2) := by decide +kernel
theorem dX10_demand_45 : decode cX10_demand 45 = .ok (.aload 4, 2) := by decide +kernel
theorem dX10_demand_47 : decode cX10_demand 47 = .ok (.iload_n 2, 1) := by decide +kernel
theorem dX10_demand_48 : decode cX10_demand 48 = .ok (.putfield 228, 3) := by decide +kernel
theorem dX10_demand_51 : decode cX10_demand 51 = .ok (.aload 4, 2) := by decide +kernel
theorem dX10_demand_53 : decode cX10_demand 53 = .ok (.iload_n 3, 1) := by decide +kernel
theorem dX10_demand_54 : decode cX10_demand 54 = .ok (.putfield 233, 3) := by decide +kernel
theorem dX10_demand_57 : decode cX10_demand 57 = .ok (.iload 5, 2) := by decide +kernel
theorem dX10_demand_59 : decode cX10_demand 59 = .ok (.ireturn, 1) := by decide +kernel
theorem dX10_room_0 : decode cX10_room 0 = .ok (.iload_n 1, 1) := by decide +kernel
theorem dX10_room_1 : decode cX10_room 1 = .ok (.iconst 0, 1) := by decide +kernel
theorem dX10_room_2 : decode cX10_room 2 = .ok (.bipush 15, 2) := by decide +kernel
theorem dX10_room_4 : decode cX10_room 4 = .ok (.invokestatic 64, 3) := by decide +kernel
theorem dX10_room_7 : decode cX10_room 7 = .ok (.ifCond .eq 10, 3) := by decide +kernel
theorem dX10_room_10 : decode cX10_room 10 = .ok (.iload_n 2, 1) := by decide +kernel
theorem dX10_room_11 : decode cX10_room 11 = .ok (.invokestatic 115, 3) := by decide +kernel
theorem dX10_room_14 : decode cX10_room 14 = .ok (.ifCond .ne 7, 3) := by decide +kernel
theorem dX10_room_17 : decode cX10_room 17 = .ok (.ldc2_w 236, 3) := by decide +kernel
theorem dX10_room_20 : decode cX10_room 20 = .ok (.lreturn, 1) := by decide +kernel
theorem dX10_room_21 : decode cX10_room 21 = .ok (.aload_n 0, 1) := by decide +kernel
theorem dX10_room_22 : decode cX10_room 22 = .ok (.getfield 10, 3) := by decide +kernel
theorem dX10_room_25 : decode cX10_room 25 = .ok (.iload_n 1, 1) := by decide +kernel
theorem dX10_room_26 : decode cX10_room 26 = .ok (.iload_n 2, 1) := by decide +kernel
theorem dX10_room_27 : decode cX10_room 27 = .ok (.invokevirtual 238, 3) := by decide +kernel
theorem dX10_room_30 : decode cX10_room 30 = .ok (.lreturn, 1) := by decide +kernel
theorem dX10_shortage_0 : decode cX10_shortage 0 = .ok (.aload_n 0, 1) := by decide +kernel
theorem dX10_shortage_1 : decode cX10_shortage 1 = .ok (.getfield 35, 3) := by decide +kernel
theorem dX10_shortage_4 : decode cX10_shortage 4 = .ok (.iload_n 1, 1) := by decide +kernel
theorem dX10_shortage_5 : decode cX10_shortage 5 = .ok (.invokevirtual 222, 3) := by decide +kernel
theorem dX10_shortage_8 : decode cX10_shortage 8 = .ok (.astore_n 2, 1) := by decide +kernel
theorem dX10_shortage_9 : decode cX10_shortage 9 = .ok (.aload_n 2, 1) := by decide +kernel
theorem dX10_shortage_10 : decode cX10_shortage 10 = .ok (.ifnonnull 8, 3) := by decide +kernel
theorem dX10_shortage_13 : decode cX10_shortage 13 = .ok (.bipush (-2), 2) := by decide +kernel
theorem dX10_shortage_15 : decode cX10_shortage 15 = .ok (.goto 18, 3) := by decide +kernel
theorem dX10_shortage_18 : decode cX10_shortage 18 = .ok (.aload_n 0, 1) := by decide +kernel
theorem dX10_shortage_19 : decode cX10_shortage 19 = .ok (.getfield 35, 3) := by decide +kernel
theorem dX10_shortage_22 : decode cX10_shortage 22 = .ok (.aload_n 2, 1) := by decide +kernel
theorem dX10_shortage_23 : decode cX10_shortage 23 = .ok (.aload_n 0, 1) := by decide +kernel
theorem dX10_shortage_24 : decode cX10_shortage 24 = .ok (.getfield 39, 3) := by decide +kernel
theorem dX10_shortage_27 : decode cX10_shortage 27 = .ok (.bipush 7, 2) := by decide +kernel
theorem dX10_shortage_29 : decode cX10_shortage 29 = .ok (.idiv, 1) := by decide +kernel
theorem dX10_shortage_30 : decode cX10_shortage 30 = .ok (.invokevirtual 242, 3) := by decide +kernel
theorem dX10_shortage_33 : decode cX10_shortage 33 = .ok (.ireturn, 1) := by decide +kernel
theorem dX10_mightCome_0 : decode cX10_mightCome 0 = .ok (.iload_n 1, 1) := by decide +kernel
theorem dX10_mightCome_1 : decode cX10_mightCome 1 = .ok (.iload_n 2, 1) := by decide +kernel
theorem dX10_mightCome_2 : decode cX10_mightCome 2 = .ok (.iload_n 3, 1) := by decide +kernel
theorem dX10_mightCome_3 : decode cX10_mightCome 3 = .ok (.iload 4, 2) := by decide +kernel
theorem dX10_mightCome_5 : decode cX10_mightCome 5 = .ok (.invokestatic 47, 3) := by decide +kernel
theorem dX10_mightCome_8 : decode cX10_mightCome 8 = .ok (.ifCond .eq 23, 3) := by decide +kernel
theorem dX10_mightCome_11 : decode cX10_mightCome 11 = .ok (.aload_n 0, 1) := by decide +kernel
theorem dX10_mightCome_12 : decode cX10_mightCome 12 = .ok (.iload 5, 2) := by decide +kernel
theorem dX10_mightCome_14 : decode cX10_mightCome 14 = .ok (.invokevirtual 43, 3) := by decide +kernel
theorem dX10_mightCome_17 : decode cX10_mightCome 17 = .ok (.ifCond .eq 14, 3) := by decide +kernel
theorem dX10_mightCome_20 : decode cX10_mightCome 20 = .ok (.iload 6, 2) := by decide +kernel
theorem dX10_mightCome_22 : decode cX10_mightCome 22 = .ok (.iconst 0, 1) := by decide +kernel
theorem dX10_mightCome_23 : decode cX10_mightCome 23 = .ok (.ldc 227, 2) := by decide +kernel
theorem dX10_mightCome_25 : decode cX10_mightCome 25 = .ok (.invokestatic 64, 3) := by decide +kernel
theorem dX10_mightCome_28 : decode cX10_mightCome 28 = .ok (.ifCond .ne 6, 3) := by decide +kernel
theorem dX10_mightCome_31 : decode cX10_mightCome 31 = .ok (.bipush (-2), 2) := by decide +kernel
theorem dX10_mightCome_33 : decode cX10_mightCome 33 = .ok (.ireturn, 1) := by decide +kernel
theorem dX10_mightCome_34 : decode cX10_mightCome 34 = .ok (.aload_n 0, 1) := by decide +kernel
theorem dX10_mightCome_35 : decode cX10_mightCome 35 = .ok (.getfield 35, 3) := by decide +kernel
theorem dX10_mightCome_38 : decode cX10_mightCome 38 = .ok (.new 246, 3) := by decide +kernel
theorem dX10_mightCome_41 : decode cX10_mightCome 41 = .ok (.dup, 1) := by decide +kernel
theorem dX10_mightCome_42 : decode cX10_mightCome 42 = .ok (.new 51, 3) := by decide +kernel
theorem dX10_mightCome_45 : decode cX10_mightCome 45 = .ok (.dup, 1) := by decide +kernel
theorem dX10_mightCome_46 : decode cX10_mightCome 46 = .ok (.iconst 0, 1) := by decide +kernel
theorem dX10_mightCome_47 : decode cX10_mightCome 47 = .ok (.iload_n 1, 1) := by decide +kernel
theorem dX10_mightCome_48 : decode cX10_mightCome 48 = .ok (.iload_n 2, 1) := by decide +kernel
theorem dX10_mightCome_49 : decode cX10_mightCome 49 = .ok (.iload_n 3, 1) := by decide +kernel
theorem dX10_mightCome_50 : decode cX10_mightCome 50 = .ok (.iload 4, 2) := by decide +kernel
theorem dX10_mightCome_52 : decode cX10_mightCome 52 = .ok (.iload 4, 2) := by decide +kernel
theorem dX10_mightCome_54 : decode cX10_mightCome 54 = .ok (.iload 5, 2) := by decide +kernel
theorem dX10_mightCome_56 : decode cX10_mightCome 56 = .ok (.invokespecial 53, 3) := by decide +kernel
theorem dX10_mightCome_59 : decode cX10_mightCome 59 = .ok (.iload 6, 2) := by decide +kernel
theorem dX10_mightCome_61 : decode cX10_mightCome 61 = .ok (.invokespecial 248, 3) := by decide +kernel
theorem dX10_mightCome_64 : decode cX10_mightCome 64 = .ok (.invokevirtual 251, 3) := by decide +kernel
theorem dX10_mightCome_67 : decode cX10_mightCome 67 = .ok (.ireturn, 1) := by decide +kernel
theorem dX10_relief_0 : decode cX10_relief 0 = .ok (.aload_n 0, 1) := by decide +kernel
theorem dX10_relief_1 : decode cX10_relief 1 = .ok (.getfield 35, 3) := by decide +kernel
theorem dX10_relief_4 : decode cX10_relief 4 = .ok (.iload_n 1, 1) := by decide +kernel
theorem dX10_relief_5 : decode cX10_relief 5 = .ok (.invokevirtual 222, 3) := by decide +kernel
theorem dX10_relief_8 : decode cX10_relief 8 = .ok (.astore_n 3, 1) := by decide +kernel
theorem dX10_relief_9 : decode cX10_relief 9 = .ok (.aload_n 3, 1) := by decide +kernel
theorem dX10_relief_10 : decode cX10_relief 10 = .ok (.ifnull 14, 3) := by decide +kernel
theorem dX10_relief_13 : decode cX10_relief 13 = .ok (.iload_n 2, 1) := by decide +kernel
theorem dX10_relief_14 : decode cX10_relief 14 = .ok (.iconst 1, 1) := by decide +kernel
theorem dX10_relief_15 : decode cX10_relief 15 = .ok (.sipush 2000, 3) := by decide +kernel
theorem dX10_relief_18 : decode cX10_relief 18 = .ok (.invokestatic 64, 3) := by decide +kernel
theorem dX10_relief_21 : decode cX10_relief 21 = .ok (.ifCond .ne 6, 3) := by decide +kernel
theorem dX10_relief_24 : decode cX10_relief 24 = .ok (.bipush (-2), 2) := by decide +kernel
theorem dX10_relief_26 : decode cX10_relief 26 = .ok (.ireturn, 1) := by decide +kernel
theorem dX10_relief_27 : decode cX10_relief 27 = .ok (.aload_n 0, 1) := by decide +kernel
theorem dX10_relief_28 : decode cX10_relief 28 = .ok (.getfield 35, 3) := by decide +kernel
theorem dX10_relief_31 : decode cX10_relief 31 = .ok (.aload_n 3, 1) := by decide +kernel
theorem dX10_relief_32 : decode cX10_relief 32 = .ok (.iload_n 2, 1) := by decide +kernel
theorem dX10_relief_33 : decode cX10_relief 33 = .ok (.aload_n 0, 1) := by decide +kernel
theorem dX10_relief_34 : decode cX10_relief 34 = .ok (.getfield 39, 3) := by decide +kernel
theorem dX10_relief_37 : decode cX10_relief 37 = .ok (.invokevirtual 255, 3) := by decide +kernel
theorem dX10_relief_40 : decode cX10_relief 40 = .ok (.ireturn, 1) := by decide +kernel
theorem dX10_take_0 : decode cX10_take 0 = .ok (.aload_n 0, 1) := by decide +kernel
theorem dX10_take_1 : decode cX10_take 1 = .ok (.getfield 35, 3) := by decide +kernel
theorem dX10_take_4 : decode cX10_take 4 = .ok (.iload_n 1, 1) := by decide +kernel
theorem dX10_take_5 : decode cX10_take 5 = .ok (.invokevirtual 259, 3) := by decide +kernel
theorem dX10_take_8 : decode cX10_take 8 = .ok (.astore_n 2, 1) := by decide +kernel
theorem dX10_take_9 : decode cX10_take 9 = .ok (.aload_n 2, 1) := by decide +kernel
theorem dX10_take_10 : decode cX10_take 10 = .ok (.ifnull 17, 3) := by decide +kernel
theorem dX10_take_13 : decode cX10_take 13 = .ok (.aload_n 2, 1) := by decide +kernel
theorem dX10_take_14 : decode cX10_take 14 = .ok (.getfield 263, 3) := by decide +kernel
theorem dX10_take_17 : decode cX10_take 17 = .ok (.getfield 267, 3) := by decide +kernel
theorem dX10_take_20 : decode cX10_take 20 = .ok (.aload_n 0, 1) := by decide +kernel
theorem dX10_take_21 : decode cX10_take 21 = .ok (.getfield 39, 3) := by decide +kernel
theorem dX10_take_24 : decode cX10_take 24 = .ok (.if_icmp .ge 6, 3) := by decide +kernel
theorem dX10_take_27 : decode cX10_take 27 = .ok (.bipush (-2), 2) := by decide +kernel
theorem dX10_take_29 : decode cX10_take 29 = .ok (.ireturn, 1) := by decide +kernel
theorem dX10_take_30 : decode cX10_take 30 = .ok (.aload_n 0, 1) := by decide +kernel
theorem dX10_take_31 : decode cX10_take 31 = .ok (.getfield 10, 3) := by decide +kernel
theorem dX10_take_34 : decode cX10_take 34 = .ok (.aload_n 2, 1) := by decide +kernel
theorem dX10_take_35 : decode cX10_take 35 = .ok (.getfield 263, 3) := by decide +kernel
theorem dX10_take_38 : decode cX10_take 38 = .ok (.invokevirtual 56, 3) := by decide +kernel
theorem dX10_take_41 : decode cX10_take 41 = .ok (.istore_n 3, 1) := by decide +kernel
theorem dX10_take_42 : decode cX10_take 42 = .ok (.iload_n 3, 1) := by decide +kernel
theorem dX10_take_43 : decode cX10_take 43 = .ok (.bipush (-3), 2) := by decide +kernel
theorem dX10_take_45 : decode cX10_take 45 = .ok (.if_icmp .eq 11, 3) := by decide +kernel
theorem dX10_take_48 : decode cX10_take 48 = .ok (.aload_n 0, 1) := by decide +kernel
theorem dX10_take_49 : decode cX10_take 49 = .ok (.getfield 35, 3) := by decide +kernel
theorem dX10_take_52 : decode cX10_take 52 = .ok (.iload_n 1, 1) := by decide +kernel
theorem dX10_take_53 : decode cX10_take 53 = .ok (.invokevirtual 268, 3) := by decide +kernel
theorem dX10_take_56 : decode cX10_take 56 = .ok (.iload_n 3, 1) := by decide +kernel
theorem dX10_take_57 : decode cX10_take 57 = .ok (.ireturn, 1) := by decide +kernel
theorem dX10_count_0 : decode cX10_count 0 = .ok (.iload_n 1, 1) := by decide +kernel
theorem dX10_count_1 : decode cX10_count 1 = .ok (.tableswitch 92 0 5 #[39, 47, 55, 63, 68, 80], 39) := by decide +kernel
theorem dX10_count_40 : decode cX10_count 40 = .ok (.aload_n 0, 1) := by decide +kernel
theorem dX10_count_41 : decode cX10_count 41 = .ok (.getfield 10, 3) := by decide +kernel
theorem dX10_count_44 : decode cX10_count 44 = .ok (.getfield 271, 3) := by decide +kernel
theorem dX10_count_47 : decode cX10_count 47 = .ok (.ireturn, 1) := by decide +kernel
theorem dX10_count_48 : decode cX10_count 48 = .ok (.aload_n 0, 1) := by decide +kernel
theorem dX10_count_49 : decode cX10_count 49 = .ok (.getfield 19, 3) := by decide +kernel
theorem dX10_count_52 : decode cX10_count 52 = .ok (.getfield 274, 3) := by decide +kernel
theorem dX10_count_55 : decode cX10_count 55 = .ok (.ireturn, 1) := by decide +kernel
theorem dX10_count_56 : decode cX10_count 56 = .ok (.aload_n 0, 1) := by decide +kernel
theorem dX10_count_57 : decode cX10_count 57 = .ok (.getfield 35, 3) := by decide +kernel
theorem dX10_count_60 : decode cX10_count 60 = .ok (.getfield 275, 3) := by decide +kernel
theorem dX10_count_63 : decode cX10_count 63 = .ok (.ireturn, 1) := by decide +kernel
theorem dX10_count_64 : decode cX10_count 64 = .ok (.aload_n 0, 1) := by decide +kernel
theorem dX10_count_65 : decode cX10_count 65 = .ok (.getfield 39, 3) := by decide +kernel
theorem dX10_count_68 : decode cX10_count 68 = .ok (.ireturn, 1) := by decide +kernel
theorem dX10_count_69 : decode cX10_count 69 = .ok (.aload_n 0, 1) := by decide +kernel
theorem dX10_count_70 : decode cX10_count 70 = .ok (.getfield 10, 3) := by decide +kernel
theorem dX10_count_73 : decode cX10_count 73 = .ok (.aload_n 0, 1) := by decide +kernel
theorem dX10_count_74 : decode cX10_count 74 = .ok (.getfield 39, 3) := by decide +kernel
theorem dX10_count_77 : decode cX10_count 77 = .ok (.invokevirtual 276, 3) := by decide +kernel
theorem dX10_count_80 : decode cX10_count 80 = .ok (.ireturn, 1) := by decide +kernel
theorem dX10_count_81 : decode cX10_count 81 = .ok (.aload_n 0, 1) := by decide +kernel
theorem dX10_count_82 : decode cX10_count 82 = .ok (.getfield 19, 3) := by decide +kernel
theorem dX10_count_85 : decode cX10_count 85 = .ok (.aload_n 0, 1) := by decide +kernel
theorem dX10_count_86 : decode cX10_count 86 = .ok (.getfield 39, 3) := by decide +kernel
theorem dX10_count_89 : decode cX10_count 89 = .ok (.invokevirtual 279, 3) := by decide +kernel
theorem dX10_count_92 : decode cX10_count 92 = .ok (.ireturn, 1) := by decide +kernel
theorem dX10_count_93 : decode cX10_count 93 = .ok (.iconst (-1), 1) := by decide +kernel
theorem dX10_count_94 : decode cX10_count 94 = .ok (.ireturn, 1) := by decide +kernel
theorem dX10_isDayToCome_0 : decode cX10_isDayToCome 0 = .ok (.iload_n 1, 1) := by decide +kernel
theorem dX10_isDayToCome_1 : decode cX10_isDayToCome 1 = .ok (.aload_n 0, 1) := by decide +kernel
theorem dX10_isDayToCome_2 : decode cX10_isDayToCome 2 = .ok (.getfield 39, 3) := by decide +kernel
theorem dX10_isDayToCome_5 : decode cX10_isDayToCome 5 = .ok (.sipush 20000, 3) := by decide +kernel
theorem dX10_isDayToCome_8 : decode cX10_isDayToCome 8 = .ok (.invokestatic 64, 3) := by decide +kernel
theorem dX10_isDayToCome_11 : decode cX10_isDayToCome 11 = .ok (.ireturn, 1) := by decide +kernel
theorem dX10_canChange_0 : decode cX10_canChange 0 = .ok (.aload_n 1, 1) := by decide +kernel
theorem dX10_canChange_1 : decode cX10_canChange 1 = .ok (.getfield 282, 3) := by decide +kernel
theorem dX10_canChange_4 : decode cX10_canChange 4 = .ok (.iconst (-1), 1) := by decide +kernel
theorem dX10_canChange_5 : decode cX10_canChange 5 = .ok (.if_icmp .ne 34, 3) := by decide +kernel
theorem dX10_canChange_8 : decode cX10_canChange 8 = .ok (.aload_n 0, 1) := by decide +kernel
theorem dX10_canChange_9 : decode cX10_canChange 9 = .ok (.iload_n 2, 1) := by decide +kernel
theorem dX10_canChange_10 : decode cX10_canChange 10 = .ok (.invokevirtual 43, 3) := by decide +kernel
theorem dX10_canChange_13 : decode cX10_canChange 13 = .ok (.ifCond .eq 26, 3) := by decide +kernel
theorem dX10_canChange_16 : decode cX10_canChange 16 = .ok (.aload_n 1, 1) := by decide +kernel
theorem dX10_canChange_17 : decode cX10_canChange 17 = .ok (.iload_n 2, 1) := by decide +kernel
theorem dX10_canChange_18 : decode cX10_canChange 18 = .ok (.invokevirtual 75, 3) := by decide +kernel
theorem dX10_canChange_21 : decode cX10_canChange 21 = .ok (.ifCond .eq 18, 3) := by decide +kernel
theorem dX10_canChange_24 : decode cX10_canChange 24 = .ok (.iload_n 3, 1) := by decide +kernel
theorem dX10_canChange_25 : decode cX10_canChange 25 = .ok (.iconst 0, 1) := by decide +kernel
theorem dX10_canChange_26 : decode cX10_canChange 26 = .ok (.sipush 1000, 3) := by decide +kernel
theorem dX10_canChange_29 : decode cX10_canChange 29 = .ok (.invokestatic 64, 3) := by decide +kernel
theorem dX10_canChange_32 : decode cX10_canChange 32 = .ok (.ifCond .eq 7, 3) := by decide +kernel
theorem dX10_canChange_35 : decode cX10_canChange 35 = .ok (.iconst 1, 1) := by decide +kernel
theorem dX10_canChange_36 : decode cX10_canChange 36 = .ok (.goto 4, 3) := by decide +kernel
theorem dX10_canChange_39 : decode cX10_canChange 39 = .ok (.iconst 0, 1) := by decide +kernel
theorem dX10_canChange_40 : decode cX10_canChange 40 = .ok (.ireturn, 1) := by decide +kernel
theorem dX10_callWith_0 : decode cX10_callWith 0 = .ok (.iload_n 1, 1) := by decide +kernel
theorem dX10_callWith_1 : decode cX10_callWith 1 = .ok (.ifCond .lt 21, 3) := by decide +kernel
theorem dX10_callWith_4 : decode cX10_callWith 4 = .ok (.iload_n 1, 1) := by decide +kernel
theorem dX10_callWith_5 : decode cX10_callWith 5 = .ok (.aload_n 0, 1) := by decide +kernel
theorem dX10_callWith_6 : decode cX10_callWith 6 = .ok (.getfield 25, 3) := by decide +kernel
theorem dX10_callWith_9 : decode cX10_callWith 9 = .ok (.arraylength, 1) := by decide +kernel
theorem dX10_callWith_10 : decode cX10_callWith 10 = .ok (.if_icmp .ge 12, 3) := by decide +kernel
theorem dX10_callWith_13 : decode cX10_callWith 13 = .ok (.aload_n 0, 1) := by decide +kernel
theorem dX10_callWith_14 : decode cX10_callWith 14 = .ok (.getfield 25, 3) := by decide +kernel
theorem dX10_callWith_17 : decode cX10_callWith 17 = .ok (.iload_n 1, 1) := by decide +kernel
theorem dX10_callWith_18 : decode cX10_callWith 18 = .ok (.aaload, 1) := by decide +kernel
theorem dX10_callWith_19 : decode cX10_callWith 19 = .ok (.goto 4, 3) := by decide +kernel
theorem dX10_callWith_22 : decode cX10_callWith 22 = .ok (.aconst_null, 1) := by decide +kernel
theorem dX10_callWith_23 : decode cX10_callWith 23 = .ok (.areturn, 1) := by decide +kernel
theorem dX10_tellOfLead_0 : decode cX10_tellOfLead 0 = .ok (.aload_n 0, 1) := by decide +kernel
theorem dX10_tellOfLead_1 : decode cX10_tellOfLead 1 = .ok (.getfield 10, 3) := by decide +kernel
theorem dX10_tellOfLead_4 : decode cX10_tellOfLead 4 = .ok (.aload_n 1, 1) := by decide +kernel
theorem dX10_tellOfLead_5 : decode cX10_tellOfLead 5 = .ok (.getfield 182, 3) := by decide +kernel
theorem dX10_tellOfLead_8 : decode cX10_tellOfLead 8 = .ok (.aload_n 1, 1) := by decide +kernel
theorem dX10_tellOfLead_9 : decode cX10_tellOfLead 9 = .ok (.getfield 185, 3) := by decide +kernel
theorem dX10_tellOfLead_12 : decode cX10_tellOfLead 12 = .ok (.aload_n 1, 1) := by decide +kernel
theorem dX10_tellOfLead_13 : decode cX10_tellOfLead 13 = .ok (.getfield 186, 3) := by decide +kernel
theorem dX10_tellOfLead_16 : decode cX10_tellOfLead 16 = .ok (.invokevirtual 214, 3) := by decide +kernel
theorem dX10_tellOfLead_19 : decode cX10_tellOfLead 19 = .ok (.astore_n 3, 1) := by decide +kernel
theorem dX10_tellOfLead_20 : decode cX10_tellOfLead 20 = .ok (.aload_n 3, 1) := by decide +kernel
theorem dX10_tellOfLead_21 : decode cX10_tellOfLead 21 = .ok (.ifnonnull 5, 3) := by decide +kernel
theorem dX10_tellOfLead_24 : decode cX10_tellOfLead 24 = .ok (.iconst (-1), 1) := by decide +kernel
theorem dX10_tellOfLead_25 : decode cX10_tellOfLead 25 = .ok (.ireturn, 1) := by decide +kernel
theorem dX10_tellOfLead_26 : decode cX10_tellOfLead 26 = .ok (.iload_n 2, 1) := by decide +kernel
theorem dX10_tellOfLead_27 : decode cX10_tellOfLead 27 = .ok (.iconst 4, 1) := by decide +kernel
theorem dX10_tellOfLead_28 : decode cX10_tellOfLead 28 = .ok (.if_icmp .ne 8, 3) := by decide +kernel
theorem dX10_tellOfLead_31 : decode cX10_tellOfLead 31 = .ok (.aload_n 3, 1) := by decide +kernel
theorem dX10_tellOfLead_32 : decode cX10_tellOfLead 32 = .ok (.getfield 161, 3) := by decide +kernel
theorem dX10_tellOfLead_35 : decode cX10_tellOfLead 35 = .ok (.ireturn, 1) := by decide +kernel
theorem dX10_tellOfLead_36 : decode cX10_tellOfLead 36 = .ok (.iload_n 2, 1) := by decide +kernel
theorem dX10_tellOfLead_37 : decode cX10_tellOfLead 37 = .ok (.bipush 7, 2) := by decide +kernel
theorem dX10_tellOfLead_39 : decode cX10_tellOfLead 39 = .ok (.if_icmp .ne 20, 3) := by decide +kernel
theorem dX10_tellOfLead_42 : decode cX10_tellOfLead 42 = .ok (.aload_n 3, 1) := by decide +kernel
theorem dX10_tellOfLead_43 : decode cX10_tellOfLead 43 = .ok (.getfield 72, 3) := by decide +kernel
theorem dX10_tellOfLead_46 : decode cX10_tellOfLead 46 = .ok (.iconst 1, 1) := by decide +kernel
theorem dX10_tellOfLead_47 : decode cX10_tellOfLead 47 = .ok (.if_icmp .ne 10, 3) := by decide +kernel
theorem dX10_tellOfLead_50 : decode cX10_tellOfLead 50 = .ok (.aload_n 3, 1) := by decide +kernel
theorem dX10_tellOfLead_51 : decode cX10_tellOfLead 51 = .ok (.getfield 108, 3) := by decide +kernel
theorem dX10_tellOfLead_54 : decode cX10_tellOfLead 54 = .ok (.goto 4, 3) := by decide +kernel
theorem dX10_tellOfLead_57 : decode cX10_tellOfLead 57 = .ok (.iconst (-1), 1) := by decide +kernel
theorem dX10_tellOfLead_58 : decode cX10_tellOfLead 58 = .ok (.ireturn, 1) := by decide +kernel
theorem dX10_tellOfLead_59 : decode cX10_tellOfLead 59 = .ok (.aload_n 0, 1) := by decide +kernel
theorem dX10_tellOfLead_60 : decode cX10_tellOfLead 60 = .ok (.getfield 19, 3) := by decide +kernel
theorem dX10_tellOfLead_63 : decode cX10_tellOfLead 63 = .ok (.aload_n 3, 1) := by decide +kernel
theorem dX10_tellOfLead_64 : decode cX10_tellOfLead 64 = .ok (.aload_n 1, 1) := by decide +kernel
theorem dX10_tellOfLead_65 : decode cX10_tellOfLead 65 = .ok (.getfield 182, 3) := by decide +kernel
theorem dX10_tellOfLead_68 : decode cX10_tellOfLead 68 = .ok (.aload_n 1, 1) := by decide +kernel
theorem dX10_tellOfLead_69 : decode cX10_tellOfLead 69 = .ok (.getfield 185, 3) := by decide +kernel
theorem dX10_tellOfLead_72 : decode cX10_tellOfLead 72 = .ok (.aload_n 1, 1) := by decide +kernel
theorem dX10_tellOfLead_73 : decode cX10_tellOfLead 73 = .ok (.getfield 186, 3) := by decide +kernel
theorem dX10_tellOfLead_76 : decode cX10_tellOfLead 76 = .ok (.invokevirtual 218, 3) := by decide +kernel
theorem dX10_tellOfLead_79 : decode cX10_tellOfLead 79 = .ok (.istore 4, 2) := by decide +kernel
theorem dX10_tellOfLead_81 : decode cX10_tellOfLead 81 = .ok (.aload_n 0, 1) := by decide +kernel
theorem dX10_tellOfLead_82 : decode cX10_tellOfLead 82 = .ok (.getfield 19, 3) := by decide +kernel
theorem dX10_tellOfLead_85 : decode cX10_tellOfLead 85 = .ok (.iload 4, 2) := by decide +kernel
theorem dX10_tellOfLead_87 : decode cX10_tellOfLead 87 = .ok (.invokevirtual 138, 3) := by decide +kernel
theorem dX10_tellOfLead_90 : decode cX10_tellOfLead 90 = .ok (.astore 5, 2) := by decide +kernel
theorem dX10_tellOfLead_92 : decode cX10_tellOfLead 92 = .ok (.iload_n 2, 1) := by decide +kernel
theorem dX10_tellOfLead_93 : decode cX10_tellOfLead 93 = .ok (.iconst 5, 1) := by decide +kernel
theorem dX10_tellOfLead_94 : decode cX10_tellOfLead 94 = .ok (.if_icmp .eq 8, 3) := by decide +kernel
theorem dX10_tellOfLead_97 : decode cX10_tellOfLead 97 = .ok (.aload 5, 2) := by decide +kernel
theorem dX10_tellOfLead_99 : decode cX10_tellOfLead 99 = .ok (.ifnonnull 8, 3) := by decide +kernel
theorem dX10_tellOfLead_102 : decode cX10_tellOfLead 102 = .ok (.iload 4, 2) := by decide +kernel
theorem dX10_tellOfLead_104 : decode cX10_tellOfLead 104 = .ok (.goto 12, 3) := by decide +kernel
theorem dX10_tellOfLead_107 : decode cX10_tellOfLead 107 = .ok (.aload 5, 2) := by decide +kernel
theorem dX10_tellOfLead_109 : decode cX10_tellOfLead 109 = .ok (.aload_n 1, 1) := by decide +kernel
theorem dX10_tellOfLead_110 : decode cX10_tellOfLead 110 = .ok (.getfield 186, 3) := by decide +kernel
theorem dX10_tellOfLead_113 : decode cX10_tellOfLead 113 = .ok (.invokevirtual 164, 3) := by decide +kernel
theorem dX10_tellOfLead_116 : decode cX10_tellOfLead 116 = .ok (.ireturn, 1) := by decide +kernel
theorem dX10_tellOfRest_0 : decode cX10_tellOfRest 0 = .ok (.aload_n 1, 1) := by decide +kernel
theorem dX10_tellOfRest_1 : decode cX10_tellOfRest 1 = .ok (.getfield 200, 3) := by decide +kernel
theorem dX10_tellOfRest_4 : decode cX10_tellOfRest 4 = .ok (.ifCond .eq 15, 3) := by decide +kernel
theorem dX10_tellOfRest_7 : decode cX10_tellOfRest 7 = .ok (.iload_n 2, 1) := by decide +kernel
theorem dX10_tellOfRest_8 : decode cX10_tellOfRest 8 = .ok (.bipush 8, 2) := by decide +kernel
theorem dX10_tellOfRest_10 : decode cX10_tellOfRest 10 = .ok (.if_icmp .ne 7, 3) := by decide +kernel
theorem dX10_tellOfRest_13 : decode cX10_tellOfRest 13 = .ok (.iconst 0, 1) := by decide +kernel
theorem dX10_tellOfRest_14 : decode cX10_tellOfRest 14 = .ok (.goto 4, 3) := by decide +kernel
theorem dX10_tellOfRest_17 : decode cX10_tellOfRest 17 = .ok (.iconst (-1), 1) := by decide +kernel
theorem dX10_tellOfRest_18 : decode cX10_tellOfRest 18 = .ok (.ireturn, 1) := by decide +kernel
theorem dX10_tellOfRest_19 : decode cX10_tellOfRest 19 = .ok (.aload_n 0, 1) := by decide +kernel
theorem dX10_tellOfRest_20 : decode cX10_tellOfRest 20 = .ok (.getfield 10, 3) := by decide +kernel
theorem dX10_tellOfRest_23 : decode cX10_tellOfRest 23 = .ok (.aload_n 1, 1) := by decide +kernel
theorem dX10_tellOfRest_24 : decode cX10_tellOfRest 24 = .ok (.getfield 182, 3) := by decide +kernel
theorem dX10_tellOfRest_27 : decode cX10_tellOfRest 27 = .ok (.aload_n 1, 1) := by decide +kernel
theorem dX10_tellOfRest_28 : decode cX10_tellOfRest 28 = .ok (.getfield 185, 3) := by decide +kernel
theorem dX10_tellOfRest_31 : decode cX10_tellOfRest 31 = .ok (.aload_n 1, 1) := by decide +kernel
theorem dX10_tellOfRest_32 : decode cX10_tellOfRest 32 = .ok (.getfield 186, 3) := by decide +kernel
theorem dX10_tellOfRest_35 : decode cX10_tellOfRest 35 = .ok (.invokevirtual 189, 3) := by decide +kernel
theorem dX10_tellOfRest_38 : decode cX10_tellOfRest 38 = .ok (.astore_n 3, 1) := by decide +kernel
theorem dX10_tellOfRest_39 : decode cX10_tellOfRest 39 = .ok (.iload_n 2, 1) := by decide +kernel
theorem dX10_tellOfRest_40 : decode cX10_tellOfRest 40 = .ok (.bipush 8, 2) := by decide +kernel
theorem dX10_tellOfRest_42 : decode cX10_tellOfRest 42 = .ok (.if_icmp .ne 8, 3) := by decide +kernel
theorem dX10_tellOfRest_45 : decode cX10_tellOfRest 45 = .ok (.aload_n 3, 1) := by decide +kernel
theorem dX10_tellOfRest_46 : decode cX10_tellOfRest 46 = .ok (.getfield 285, 3) := by decide +kernel
theorem dX10_tellOfRest_49 : decode cX10_tellOfRest 49 = .ok (.ireturn, 1) := by decide +kernel
theorem dX10_tellOfRest_50 : decode cX10_tellOfRest 50 = .ok (.iload_n 2, 1) := by decide +kernel
theorem dX10_tellOfRest_51 : decode cX10_tellOfRest 51 = .ok (.bipush 9, 2) := by decide +kernel
theorem dX10_tellOfRest_53 : decode cX10_tellOfRest 53 = .ok (.if_icmp .ne 10, 3) := by decide +kernel
theorem dX10_tellOfRest_56 : decode cX10_tellOfRest 56 = .ok (.aload_n 3, 1) := by decide +kernel
theorem dX10_tellOfRest_57 : decode cX10_tellOfRest 57 = .ok (.getfield 288, 3) := by decide +kernel
theorem dX10_tellOfRest_60 : decode cX10_tellOfRest 60 = .ok (.goto 7, 3) := by decide +kernel
theorem dX10_tellOfRest_63 : decode cX10_tellOfRest 63 = .ok (.aload_n 3, 1) := by decide +kernel
theorem dX10_tellOfRest_64 : decode cX10_tellOfRest 64 = .ok (.getfield 291, 3) := by decide +kernel
theorem dX10_tellOfRest_67 : decode cX10_tellOfRest 67 = .ok (.ireturn, 1) := by decide +kernel
theorem dX10_isDay_0 : decode cX10_isDay 0 = .ok (.iload_n 0, 1) := by decide +kernel
theorem dX10_isDay_1 : decode cX10_isDay 1 = .ok (.iconst 0, 1) := by decide +kernel
theorem dX10_isDay_2 : decode cX10_isDay 2 = .ok (.sipush 20000, 3) := by decide +kernel
theorem dX10_isDay_5 : decode cX10_isDay 5 = .ok (.invokestatic 64, 3) := by decide +kernel
theorem dX10_isDay_8 : decode cX10_isDay 8 = .ok (.ireturn, 1) := by decide +kernel
theorem dX10_isBlock_0 : decode cX10_isBlock 0 = .ok (.iload_n 1, 1) := by decide +kernel
theorem dX10_isBlock_1 : decode cX10_isBlock 1 = .ok (.i2l, 1) := by decide +kernel
theorem dX10_isBlock_2 : decode cX10_isBlock 2 = .ok (.invokestatic 60, 3) := by decide +kernel
theorem dX10_isBlock_5 : decode cX10_isBlock 5 = .ok (.istore 4, 2) := by decide +kernel
theorem dX10_isBlock_7 : decode cX10_isBlock 7 = .ok (.iload_n 0, 1) := by decide +kernel
theorem dX10_isBlock_8 : decode cX10_isBlock 8 = .ok (.iconst 0, 1) := by decide +kernel
theorem dX10_isBlock_9 : decode cX10_isBlock 9 = .ok (.bipush 15, 2) := by decide +kernel
theorem dX10_isBlock_11 : decode cX10_isBlock 11 = .ok (.invokestatic 64, 3) := by decide +kernel
theorem dX10_isBlock_14 : decode cX10_isBlock 14 = .ok (.ifCond .eq 42, 3) := by decide +kernel
theorem dX10_isBlock_17 : decode cX10_isBlock 17 = .ok (.iload 4, 2) := by decide +kernel
theorem dX10_isBlock_19 : decode cX10_isBlock 19 = .ok (.iconst 1, 1) := by decide +kernel
theorem dX10_isBlock_20 : decode cX10_isBlock 20 = .ok (.bipush 7, 2) := by decide +kernel
theorem dX10_isBlock_22 : decode cX10_isBlock 22 = .ok (.invokestatic 64, 3) := by decide +kernel
theorem dX10_isBlock_25 : decode cX10_isBlock 25 = .ok (.ifCond .eq 31, 3) := by decide +kernel
theorem dX10_isBlock_28 : decode cX10_isBlock 28 = .ok (.iload_n 2, 1) := by decide +kernel
theorem dX10_isBlock_29 : decode cX10_isBlock 29 = .ok (.iconst 1, 1) := by decide +kernel
theorem dX10_isBlock_30 : decode cX10_isBlock 30 = .ok (.sipush 1023, 3) := by decide +kernel
theorem dX10_isBlock_33 : decode cX10_isBlock 33 = .ok (.invokestatic 64, 3) := by decide +kernel
theorem dX10_isBlock_36 : decode cX10_isBlock 36 = .ok (.ifCond .eq 20, 3) := by decide +kernel
theorem dX10_isBlock_39 : decode cX10_isBlock 39 = .ok (.iload_n 3, 1) := by decide +kernel
theorem dX10_isBlock_40 : decode cX10_isBlock 40 = .ok (.iload 4, 2) := by decide +kernel
theorem dX10_isBlock_42 : decode cX10_isBlock 42 = .ok (.iconst 1, 1) := by decide +kernel
theorem dX10_isBlock_43 : decode cX10_isBlock 43 = .ok (.iadd, 1) := by decide +kernel
theorem dX10_isBlock_44 : decode cX10_isBlock 44 = .ok (.bipush 12, 2) := by decide +kernel
theorem dX10_isBlock_46 : decode cX10_isBlock 46 = .ok (.invokestatic 64, 3) := by decide +kernel
theorem dX10_isBlock_49 : decode cX10_isBlock 49 = .ok (.ifCond .eq 7, 3) := by decide +kernel
theorem dX10_isBlock_52 : decode cX10_isBlock 52 = .ok (.iconst 1, 1) := by decide +kernel
theorem dX10_isBlock_53 : decode cX10_isBlock 53 = .ok (.goto 4, 3) := by decide +kernel
theorem dX10_isBlock_56 : decode cX10_isBlock 56 = .ok (.iconst 0, 1) := by decide +kernel
theorem dX10_isBlock_57 : decode cX10_isBlock 57 = .ok (.ireturn, 1) := by decide +kernel
theorem dX10_isWithin_0 : decode cX10_isWithin 0 = .ok (.iload_n 0, 1) := by decide +kernel
theorem dX10_isWithin_1 : decode cX10_isWithin 1 = .ok (.iload_n 1, 1) := by decide +kernel
theorem dX10_isWithin_2 : decode cX10_isWithin 2 = .ok (.if_icmp .lt 12, 3) := by decide +kernel
theorem dX10_isWithin_5 : decode cX10_isWithin 5 = .ok (.iload_n 0, 1) := by decide +kernel
theorem dX10_isWithin_6 : decode cX10_isWithin 6 = .ok (.iload_n 2, 1) := by decide +kernel
theorem dX10_isWithin_7 : decode cX10_isWithin 7 = .ok (.if_icmp .gt 7, 3) := by decide +kernel
theorem dX10_isWithin_10 : decode cX10_isWithin 10 = .ok (.iconst 1, 1) := by decide +kernel
theorem dX10_isWithin_11 : decode cX10_isWithin 11 = .ok (.goto 4, 3) := by decide +kernel
theorem dX10_isWithin_14 : decode cX10_isWithin 14 = .ok (.iconst 0, 1) := by decide +kernel
theorem dX10_isWithin_15 : decode cX10_isWithin 15 = .ok (.ireturn, 1) := by decide +kernel
theorem dX10_tens_0 : decode cX10_tens 0 = .ok (.iload_n 0, 1) := by decide +kernel
theorem dX10_tens_1 : decode cX10_tens 1 = .ok (.ifCond .lt 19, 3) := by decide +kernel
theorem dX10_tens_4 : decode cX10_tens 4 = .ok (.iload_n 0, 1) := by decide +kernel
theorem dX10_tens_5 : decode cX10_tens 5 = .ok (.getstatic 294, 3) := by decide +kernel
theorem dX10_tens_8 : decode cX10_tens 8 = .ok (.arraylength, 1) := by decide +kernel
theorem dX10_tens_9 : decode cX10_tens 9 = .ok (.if_icmp .ge 11, 3) := by decide +kernel
theorem dX10_tens_12 : decode cX10_tens 12 = .ok (.getstatic 294, 3) := by decide +kernel
theorem dX10_tens_15 : decode cX10_tens 15 = .ok (.iload_n 0, 1) := by decide +kernel
theorem dX10_tens_16 : decode cX10_tens 16 = .ok (.laload, 1) := by decide +kernel
theorem dX10_tens_17 : decode cX10_tens 17 = .ok (.goto 4, 3) := by decide +kernel
theorem dX10_tens_20 : decode cX10_tens 20 = .ok (.lconst 1, 1) := by decide +kernel
theorem dX10_tens_21 : decode cX10_tens 21 = .ok (.lreturn, 1) := by decide +kernel
theorem dX10_placesOf_0 : decode cX10_placesOf 0 = .ok (.iconst 0, 1) := by decide +kernel
theorem dX10_placesOf_1 : decode cX10_placesOf 1 = .ok (.istore_n 2, 1) := by decide +kernel
theorem dX10_placesOf_2 : decode cX10_placesOf 2 = .ok (.iload_n 2, 1) := by decide +kernel
theorem dX10_placesOf_3 : decode cX10_placesOf 3 = .ok (.getstatic 294, 3) := by decide +kernel
theorem dX10_placesOf_6 : decode cX10_placesOf 6 = .ok (.arraylength, 1) := by decide +kernel
theorem dX10_placesOf_7 : decode cX10_placesOf 7 = .ok (.if_icmp .ge 35, 3) := by decide +kernel
theorem dX10_placesOf_10 : decode cX10_placesOf 10 = .ok (.lload_n 0, 1) := by decide +kernel
theorem dX10_placesOf_11 : decode cX10_placesOf 11 = .ok (.getstatic 294, 3) := by decide +kernel
theorem dX10_placesOf_14 : decode cX10_placesOf 14 = .ok (.iload_n 2, 1) := by decide +kernel
theorem dX10_placesOf_15 : decode cX10_placesOf 15 = .ok (.laload, 1) := by decide +kernel
theorem dX10_placesOf_16 : decode cX10_placesOf 16 = .ok (.lcmp, 1) := by decide +kernel
theorem dX10_placesOf_17 : decode cX10_placesOf 17 = .ok (.ifCond .lt 19, 3) := by decide +kernel
theorem dX10_placesOf_20 : decode cX10_placesOf 20 = .ok (.lload_n 0, 1) := by decide +kernel
theorem dX10_placesOf_21 : decode cX10_placesOf 21 = .ok (.ldc2_w 298, 3) := by decide +kernel
theorem dX10_placesOf_24 : decode cX10_placesOf 24 = .ok (.getstatic 294, 3) := by decide +kernel
theorem dX10_placesOf_27 : decode cX10_placesOf 27 = .ok (.iload_n 2, 1) := by decide +kernel
theorem dX10_placesOf_28 : decode cX10_placesOf 28 = .ok (.laload, 1) := by decide +kernel
theorem dX10_placesOf_29 : decode cX10_placesOf 29 = .ok (.lmul, 1) := by decide +kernel
theorem dX10_placesOf_30 : decode cX10_placesOf 30 = .ok (.lcmp, 1) := by decide +kernel
theorem dX10_placesOf_31 : decode cX10_placesOf 31 = .ok (.ifCond .ge 5, 3) := by decide +kernel
theorem dX10_placesOf_34 : decode cX10_placesOf 34 = .ok (.iload_n 2, 1) := by decide +kernel
theorem dX10_placesOf_35 : decode cX10_placesOf 35 = .ok (.ireturn, 1) := by decide +kernel
theorem dX10_placesOf_36 : decode cX10_placesOf 36 = .ok (.iinc 2 1, 3) := by decide +kernel
theorem dX10_placesOf_39 : decode cX10_placesOf 39 = .ok (.goto (-37), 3) := by decide +kernel
theorem dX10_placesOf_42 : decode cX10_placesOf 42 = .ok (.iconst (-1), 1) := by decide +kernel
theorem dX10_placesOf_43 : decode cX10_placesOf 43 = .ok (.ireturn, 1) := by decide +kernel
theorem dX10_withoutLast_0 : decode cX10_withoutLast 0 = .ok (.iload_n 2, 1) := by decide +kernel
theorem dX10_withoutLast_1 : decode cX10_withoutLast 1 = .ok (.ifCond .le 11, 3) := by decide +kernel
theorem dX10_withoutLast_4 : decode cX10_withoutLast 4 = .ok (.iload_n 2, 1) := by decide +kernel
theorem dX10_withoutLast_5 : decode cX10_withoutLast 5 = .ok (.getstatic 294, 3) := by decide +kernel
theorem dX10_withoutLast_8 : decode cX10_withoutLast 8 = .ok (.arraylength, 1) := by decide +kernel
theorem dX10_withoutLast_9 : decode cX10_withoutLast 9 = .ok (.if_icmp .lt 5, 3) := by decide +kernel
theorem dX10_withoutLast_12 : decode cX10_withoutLast 12 = .ok (.lload_n 0, 1) := by decide +kernel
theorem dX10_withoutLast_13 : decode cX10_withoutLast 13 = .ok (.lreturn, 1) := by decide +kernel
theorem dX10_withoutLast_14 : decode cX10_withoutLast 14 = .ok (.getstatic 294, 3) := by decide +kernel
theorem dX10_withoutLast_17 : decode cX10_withoutLast 17 = .ok (.iload_n 2, 1) := by decide +kernel
theorem dX10_withoutLast_18 : decode cX10_withoutLast 18 = .ok (.laload, 1) := by decide +kernel
theorem dX10_withoutLast_19 : decode cX10_withoutLast 19 = .ok (.lstore_n 3, 1) := by decide +kernel
theorem dX10_withoutLast_20 : decode cX10_withoutLast 20 = .ok (.lload_n 3, 1) := by decide +kernel
theorem dX10_withoutLast_21 : decode cX10_withoutLast 21 = .ok (.lconst 0, 1) := by decide +kernel
theorem dX10_withoutLast_22 : decode cX10_withoutLast 22 = .ok (.lcmp, 1) := by decide +kernel
theorem dX10_withoutLast_23 : decode cX10_withoutLast 23 = .ok (.ifCond .le 9, 3) := by decide +kernel
theorem dX10_withoutLast_26 : decode cX10_withoutLast 26 = .ok (.lload_n 0, 1) := by decide +kernel
theorem dX10_withoutLast_27 : decode cX10_withoutLast 27 = .ok (.lload_n 3, 1) := by decide +kernel
theorem dX10_withoutLast_28 : decode cX10_withoutLast 28 = .ok (.ldiv, 1) := by decide +kernel
theorem dX10_withoutLast_29 : decode cX10_withoutLast 29 = .ok (.goto 4, 3) := by decide +kernel
theorem dX10_withoutLast_32 : decode cX10_withoutLast 32 = .ok (.lload_n 0, 1) := by decide +kernel
theorem dX10_withoutLast_33 : decode cX10_withoutLast 33 = .ok (.lreturn, 1) := by decide +kernel
theorem dX10_lastOf_0 : decode cX10_lastOf 0 = .ok (.iload_n 2, 1) := by decide +kernel
theorem dX10_lastOf_1 : decode cX10_lastOf 1 = .ok (.invokestatic 300, 3) := by decide +kernel
theorem dX10_lastOf_4 : decode cX10_lastOf 4 = .ok (.lstore_n 3, 1) := by decide +kernel
theorem dX10_lastOf_5 : decode cX10_lastOf 5 = .ok (.lload_n 3, 1) := by decide +kernel
theorem dX10_lastOf_6 : decode cX10_lastOf 6 = .ok (.lconst 0, 1) := by decide +kernel
theorem dX10_lastOf_7 : decode cX10_lastOf 7 = .ok (.lcmp, 1) := by decide +kernel
theorem dX10_lastOf_8 : decode cX10_lastOf 8 = .ok (.ifCond .le 11, 3) := by decide +kernel
theorem dX10_lastOf_11 : decode cX10_lastOf 11 = .ok (.lload_n 3, 1) := by decide +kernel
theorem dX10_lastOf_12 : decode cX10_lastOf 12 = .ok (.lload_n 0, 1) := by decide +kernel
theorem dX10_lastOf_13 : decode cX10_lastOf 13 = .ok (.lload_n 3, 1) := by decide +kernel
theorem dX10_lastOf_14 : decode cX10_lastOf 14 = .ok (.lrem, 1) := by decide +kernel
theorem dX10_lastOf_15 : decode cX10_lastOf 15 = .ok (.ladd, 1) := by decide +kernel
theorem dX10_lastOf_16 : decode cX10_lastOf 16 = .ok (.goto 4, 3) := by decide +kernel
theorem dX10_lastOf_19 : decode cX10_lastOf 19 = .ok (.lload_n 0, 1) := by decide +kernel
theorem dX10_lastOf_20 : decode cX10_lastOf 20 = .ok (.lreturn, 1) := by decide +kernel
theorem dX10_figureBit_0 : decode cX10_figureBit 0 = .ok (.iconst 1, 1) := by decide +kernel
theorem dX10_figureBit_1 : decode cX10_figureBit 1 = .ok (.lload_n 0, 1) := by decide +kernel
theorem dX10_figureBit_2 : decode cX10_figureBit 2 = .ok (.iload_n 2, 1) := by decide +kernel
theorem dX10_figureBit_3 : decode cX10_figureBit 3 = .ok (.iconst 1, 1) := by decide +kernel
theorem dX10_figureBit_4 : decode cX10_figureBit 4 = .ok (.isub, 1) := by decide +kernel
theorem dX10_figureBit_5 : decode cX10_figureBit 5 = .ok (.iload_n 3, 1) := by decide +kernel
theorem dX10_figureBit_6 : decode cX10_figureBit 6 = .ok (.isub, 1) := by decide +kernel
theorem dX10_figureBit_7 : decode cX10_figureBit 7 = .ok (.invokestatic 303, 3) := by decide +kernel
theorem dX10_figureBit_10 : decode cX10_figureBit 10 = .ok (.ldc2_w 307, 3) := by decide +kernel
theorem dX10_figureBit_13 : decode cX10_figureBit 13 = .ok (.lrem, 1) := by decide +kernel
theorem dX10_figureBit_14 : decode cX10_figureBit 14 = .ok (.l2i, 1) := by decide +kernel
theorem dX10_figureBit_15 : decode cX10_figureBit 15 = .ok (.ishl, 1) := by decide +kernel
theorem dX10_figureBit_16 : decode cX10_figureBit 16 = .ok (.ireturn, 1) := by decide +kernel
theorem dX10_weekBehind_0 : decode cX10_weekBehind 0 = .ok (.iload_n 0, 1) := by decide +kernel
theorem dX10_weekBehind_1 : decode cX10_weekBehind 1 = .ok (.bipush 7, 2) := by decide +kernel
theorem dX10_weekBehind_3 : decode cX10_weekBehind 3 = .ok (.iadd, 1) := by decide +kernel
theorem dX10_weekBehind_4 : decode cX10_weekBehind 4 = .ok (.iconst 1, 1) := by decide +kernel
theorem dX10_weekBehind_5 : decode cX10_weekBehind 5 = .ok (.isub, 1) := by decide +kernel
theorem dX10_weekBehind_6 : decode cX10_weekBehind 6 = .ok (.bipush 7, 2) := by decide +kernel
theorem dX10_weekBehind_8 : decode cX10_weekBehind 8 = .ok (.idiv, 1) := by decide +kernel
theorem dX10_weekBehind_9 : decode cX10_weekBehind 9 = .ok (.ireturn, 1) := by decide +kernel
theorem dX11_init_0 : decode cX11_init 0 = .ok (.aload_n 0, 1) := by decide +kernel
theorem dX11_init_1 : decode cX11_init 1 = .ok (.invokespecial 1, 3) := by decide +kernel
theorem dX11_init_4 : decode cX11_init 4 = .ok (.aload_n 0, 1) := by decide +kernel
theorem dX11_init_5 : decode cX11_init 5 = .ok (.sipush 130, 3) := by decide +kernel
theorem dX11_init_8 : decode cX11_init 8 = .ok (.newarray .int, 2) := by decide +kernel
theorem dX11_init_10 : decode cX11_init 10 = .ok (.putfield 7, 3) := by decide +kernel
theorem dX11_init_13 : decode cX11_init 13 = .ok (.aload_n 0, 1) := by decide +kernel
theorem dX11_init_14 : decode cX11_init 14 = .ok (.sipush 130, 3) := by decide +kernel
theorem dX11_init_17 : decode cX11_init 17 = .ok (.newarray .int, 2) := by decide +kernel
theorem dX11_init_19 : decode cX11_init 19 = .ok (.putfield 13, 3) := by decide +kernel
theorem dX11_init_22 : decode cX11_init 22 = .ok (.aload_n 0, 1) := by decide +kernel
theorem dX11_init_23 : decode cX11_init 23 = .ok (.sipush 130, 3) := by decide +kernel
theorem dX11_init_26 : decode cX11_init 26 = .ok (.newarray .int, 2) := by decide +kernel
theorem dX11_init_28 : decode cX11_init 28 = .ok (.putfield 16, 3) := by decide +kernel
theorem dX11_init_31 : decode cX11_init 31 = .ok (.aload_n 0, 1) := by decide +kernel
theorem dX11_init_32 : decode cX11_init 32 = .ok (.sipush 130, 3) := by decide +kernel
theorem dX11_init_35 : decode cX11_init 35 = .ok (.newarray .int, 2) := by decide +kernel
theorem dX11_init_37 : decode cX11_init 37 = .ok (.putfield 19, 3) := by decide +kernel
theorem dX11_init_40 : decode cX11_init 40 = .ok (.aload_n 0, 1) := by decide +kernel
theorem dX11_init_41 : decode cX11_init 41 = .ok (.sipush 130, 3) := by decide +kernel
theorem dX11_init_44 : decode cX11_init 44 = .ok (.newarray .int, 2) := by decide +kernel
theorem dX11_init_46 : decode cX11_init 46 = .ok (.putfield 22, 3) := by decide +kernel
theorem dX11_init_49 : decode cX11_init 49 = .ok (.aload_n 0, 1) := by decide +kernel
theorem dX11_init_50 : decode cX11_init 50 = .ok (.sipush 130, 3) := by decide +kernel
theorem dX11_init_53 : decode cX11_init 53 = .ok (.newarray .int, 2) := by decide +kernel
theorem dX11_init_55 : decode cX11_init 55 = .ok (.putfield 25, 3) := by decide +kernel
theorem dX11_init_58 : decode cX11_init 58 = .ok (.aload_n 0, 1) := by decide +kernel
theorem dX11_init_59 : decode cX11_init 59 = .ok (.sipush 130, 3) := by decide +kernel
theorem dX11_init_62 : decode cX11_init 62 = .ok (.newarray .int, 2) := by decide +kernel
theorem dX11_init_64 : decode cX11_init 64 = .ok (.putfield 28, 3) := by decide +kernel
theorem dX11_init_67 : decode cX11_init 67 = .ok (.aload_n 0, 1) := by decide +kernel
theorem dX11_init_68 : decode cX11_init 68 = .ok (.sipush 130, 3) := by decide +kernel
theorem dX11_init_71 : decode cX11_init 71 = .ok (.newarray .int, 2) := by decide +kernel
theorem dX11_init_73 : decode cX11_init 73 = .ok (.putfield 31, 3) := by decide +kernel
theorem dX11_init_76 : decode cX11_init 76 = .ok (.aload_n 0, 1) := by decide +kernel
theorem dX11_init_77 : decode cX11_init 77 = .ok (.sipush 130, 3) := by decide +kernel
theorem dX11_init_80 : decode cX11_init 80 = .ok (.newarray .int, 2) := by decide +kernel
theorem dX11_init_82 : decode cX11_init 82 = .ok (.putfield 34, 3) := by decide +kernel
theorem dX11_init_85 : decode cX11_init 85 = .ok (.aload_n 0, 1) := by decide +kernel
theorem dX11_init_86 : decode cX11_init 86 = .ok (.sipush 130, 3) := by decide +kernel
theorem dX11_init_89 : decode cX11_init 89 = .ok (.newarray .int, 2) := by decide +kernel
theorem dX11_init_91 : decode cX11_init 91 = .ok (.putfield 37, 3) := by decide +kernel
theorem dX11_init_94 : decode cX11_init 94 = .ok (.aload_n 0, 1) := by decide +kernel
theorem dX11_init_95 : decode cX11_init 95 = .ok (.sipush 130, 3) := by decide +kernel
theorem dX11_init_98 : decode cX11_init 98 = .ok (.newarray .int, 2) := by decide +kernel
theorem dX11_init_100 : decode cX11_init 100 = .ok (.putfield 40, 3) := by decide +kernel
theorem dX11_init_103 : decode cX11_init 103 = .ok (.aload_n 0, 1) := by decide +kernel
theorem dX11_init_104 : decode cX11_init 104 = .ok (.sipush 130, 3) := by decide +kernel
theorem dX11_init_107 : decode cX11_init 107 = .ok (.newarray .int, 2) := by decide +kernel
theorem dX11_init_109 : decode cX11_init 109 = .ok (.putfield 43, 3) := by decide +kernel
theorem dX11_init_112 : decode cX11_init 112 = .ok (.aload_n 0, 1) := by decide +kernel
theorem dX11_init_113 : decode cX11_init 113 = .ok (.sipush 130, 3) := by decide +kernel
theorem dX11_init_116 : decode cX11_init 116 = .ok (.newarray .int, 2) := by decide +kernel
theorem dX11_init_118 : decode cX11_init 118 = .ok (.putfield 46, 3) := by decide +kernel
theorem dX11_init_121 : decode cX11_init 121 = .ok (.aload_n 0, 1) := by decide +kernel
theorem dX11_init_122 : decode cX11_init 122 = .ok (.sipush 130, 3) := by decide +kernel
theorem dX11_init_125 : decode cX11_init 125 = .ok (.newarray .long, 2) := by decide +kernel
theorem dX11_init_127 : decode cX11_init 127 = .ok (.putfield 49, 3) := by decide +kernel
theorem dX11_init_130 : decode cX11_init 130 = .ok (.aload_n 0, 1) := by decide +kernel
theorem dX11_init_131 : decode cX11_init 131 = .ok (.sipush 300, 3) := by decide +kernel
theorem dX11_init_134 : decode cX11_init 134 = .ok (.newarray .int, 2) := by decide +kernel
theorem dX11_init_136 : decode cX11_init 136 = .ok (.putfield 53, 3) := by decide +kernel
theorem dX11_init_139 : decode cX11_init 139 = .ok (.aload_n 0, 1) := by decide +kernel
theorem dX11_init_140 : decode cX11_init 140 = .ok (.sipush 300, 3) := by decide +kernel
theorem dX11_init_143 : decode cX11_init 143 = .ok (.newarray .long, 2) := by decide +kernel
theorem dX11_init_145 : decode cX11_init 145 = .ok (.putfield 56, 3) := by decide +kernel
theorem dX11_init_148 : decode cX11_init 148 = .ok (.aload_n 0, 1) := by decide +kernel
theorem dX11_init_149 : decode cX11_init 149 = .ok (.sipush 300, 3) := by decide +kernel
theorem dX11_init_152 : decode cX11_init 152 = .ok (.newarray .int, 2) := by decide +kernel
theorem dX11_init_154 : decode cX11_init 154 = .ok (.putfield 59, 3) := by decide +kernel
theorem dX11_init_157 : decode cX11_init 157 = .ok (.aload_n 0, 1) := by decide +kernel
theorem dX11_init_158 : decode cX11_init 158 = .ok (.sipush 300, 3) := by decide +kernel
theorem dX11_init_161 : decode cX11_init 161 = .ok (.newarray .int, 2) := by decide +kernel
theorem dX11_init_163 : decode cX11_init 163 = .ok (.putfield 62, 3) := by decide +kernel
theorem dX11_init_166 : decode cX11_init 166 = .ok (.aload_n 0, 1) := by decide +kernel
theorem dX11_init_167 : decode cX11_init 167 = .ok (.sipush 500, 3) := by decide +kernel
theorem dX11_init_170 : decode cX11_init 170 = .ok (.newarray .int, 2) := by decide +kernel
theorem dX11_init_172 : decode cX11_init 172 = .ok (.putfield 65, 3) := by decide +kernel
theorem dX11_init_175 : decode cX11_init 175 = .ok (.aload_n 0, 1) := by decide +kernel
theorem dX11_init_176 : decode cX11_init 176 = .ok (.sipush 500, 3) := by decide +kernel
theorem dX11_init_179 : decode cX11_init 179 = .ok (.newarray .int, 2) := by decide +kernel
theorem dX11_init_181 : decode cX11_init 181 = .ok (.putfield 68, 3) := by decide +kernel
theorem dX11_init_184 : decode cX11_init 184 = .ok (.aload_n 0, 1) := by decide +kernel
theorem dX11_init_185 : decode cX11_init 185 = .ok (.sipush 500, 3) := by decide +kernel
theorem dX11_init_188 : decode cX11_init 188 = .ok (.newarray .int, 2) := by decide +kernel
theorem dX11_init_190 : decode cX11_init 190 = .ok (.putfield 71, 3) := by decide +kernel
theorem dX11_init_193 : decode cX11_init 193 = .ok (.aload_n 0, 1) := by decide +kernel
theorem dX11_init_194 : decode cX11_init 194 = .ok (.iconst 4, 1) := by decide +kernel
theorem dX11_init_195 : decode cX11_init 195 = .ok (.newarray .int, 2) := by decide +kernel
theorem dX11_init_197 : decode cX11_init 197 = .ok (.putfield 74, 3) := by decide +kernel
theorem dX11_init_200 : decode cX11_init 200 = .ok (.aload_n 0, 1) := by decide +kernel
theorem dX11_init_201 : decode cX11_init 201 = .ok (.iconst 4, 1) := by decide +kernel
theorem dX11_init_202 : decode cX11_init 202 = .ok (.newarray .int, 2) := by decide +kernel
theorem dX11_init_204 : decode cX11_init 204 = .ok (.putfield 77, 3) := by decide +kernel
theorem dX11_init_207 : decode cX11_init 207 = .ok (.aload_n 0, 1) := by decide +kernel
theorem dX11_init_208 : decode cX11_init 208 = .ok (.bipush 64, 2) := by decide +kernel
theorem dX11_init_210 : decode cX11_init 210 = .ok (.newarray .int, 2) := by decide +kernel
theorem dX11_init_212 : decode cX11_init 212 = .ok (.putfield 80, 3) := by decide +kernel
theorem dX11_init_215 : decode cX11_init 215 = .ok (.aload_n 0, 1) := by decide +kernel
theorem dX11_init_216 : decode cX11_init 216 = .ok (.iconst 4, 1) := by decide +kernel
theorem dX11_init_217 : decode cX11_init 217 = .ok (.newarray .int, 2) := by decide +kernel
theorem dX11_init_219 : decode cX11_init 219 = .ok (.putfield 83, 3) := by decide +kernel
theorem dX11_init_222 : decode cX11_init 222 = .ok (.aload_n 0, 1) := by decide +kernel
theorem dX11_init_223 : decode cX11_init 223 = .ok (.iconst 4, 1) := by decide +kernel
theorem dX11_init_224 : decode cX11_init 224 = .ok (.newarray .boolean, 2) := by decide +kernel
theorem dX11_init_226 : decode cX11_init 226 = .ok (.putfield 86, 3) := by decide +kernel
theorem dX11_init_229 : decode cX11_init 229 = .ok (.aload_n 0, 1) := by decide +kernel
theorem dX11_init_230 : decode cX11_init 230 = .ok (.iconst 4, 1) := by decide +kernel
theorem dX11_init_231 : decode cX11_init 231 = .ok (.newarray .boolean, 2) := by decide +kernel
theorem dX11_init_233 : decode cX11_init 233 = .ok (.putfield 90, 3) := by decide +kernel
theorem dX11_init_236 : decode cX11_init 236 = .ok (.aload_n 0, 1) := by decide +kernel
theorem dX11_init_237 : decode cX11_init 237 = .ok (.bipush 17, 2) := by decide +kernel
theorem dX11_init_239 : decode cX11_init 239 = .ok (.newarray .int, 2) := by decide +kernel
theorem dX11_init_241 : decode cX11_init 241 = .ok (.putfield 93, 3) := by decide +kernel
theorem dX11_init_244 : decode cX11_init 244 = .ok (.aload_n 0, 1) := by decide +kernel
theorem dX11_init_245 : decode cX11_init 245 = .ok (.bipush 16, 2) := by decide +kernel
theorem dX11_init_247 : decode cX11_init 247 = .ok (.newarray .int, 2) := by decide +kernel
theorem dX11_init_249 : decode cX11_init 249 = .ok (.putfield 96, 3) := by decide +kernel
theorem dX11_init_252 : decode cX11_init 252 = .ok (.aload_n 0, 1) := by decide +kernel
theorem dX11_init_253 : decode cX11_init 253 = .ok (.bipush 16, 2) := by decide +kernel
theorem dX11_init_255 : decode cX11_init 255 = .ok (.newarray .int, 2) := by decide +kernel
theorem dX11_init_257 : decode cX11_init 257 = .ok (.putfield 99, 3) := by decide +kernel
theorem dX11_init_260 : decode cX11_init 260 = .ok (.aload_n 0, 1) := by decide +kernel
theorem dX11_init_261 : decode cX11_init 261 = .ok (.bipush 9, 2) := by decide +kernel
theorem dX11_init_263 : decode cX11_init 263 = .ok (.newarray .int, 2) := by decide +kernel
theorem dX11_init_265 : decode cX11_init 265 = .ok (.putfield 102, 3) := by decide +kernel
theorem dX11_init_268 : decode cX11_init 268 = .ok (.aload_n 0, 1) := by decide +kernel
theorem dX11_init_269 : decode cX11_init 269 = .ok (.sipush 2001, 3) := by decide +kernel
theorem dX11_init_272 : decode cX11_init 272 = .ok (.newarray .long, 2) := by decide +kernel
theorem dX11_init_274 : decode cX11_init 274 = .ok (.putfield 105, 3) := by decide +kernel
theorem dX11_init_277 : decode cX11_init 277 = .ok (.return_, 1) := by decide +kernel
theorem dX11_in_0 : decode cX11_in 0 = .ok (.lload_n 0, 1) := by decide +kernel
theorem dX11_in_1 : decode cX11_in 1 = .ok (.lload_n 2, 1) := by decide +kernel
theorem dX11_in_2 : decode cX11_in 2 = .ok (.lcmp, 1) := by decide +kernel
theorem dX11_in_3 : decode cX11_in 3 = .ok (.ifCond .lt 14, 3) := by decide +kernel
theorem dX11_in_6 : decode cX11_in 6 = .ok (.lload_n 0, 1) := by decide +kernel
theorem dX11_in_7 : decode cX11_in 7 = .ok (.lload 4, 2) := by decide +kernel
theorem dX11_in_9 : decode cX11_in 9 = .ok (.lcmp, 1) := by decide +kernel
theorem dX11_in_10 : decode cX11_in 10 = .ok (.ifCond .gt 7, 3) := by decide +kernel
theorem dX11_in_13 : decode cX11_in 13 = .ok (.iconst 1, 1) := by decide +kernel
theorem dX11_in_14 : decode cX11_in 14 = .ok (.goto 4, 3) := by decide +kernel
theorem dX11_in_17 : decode cX11_in 17 = .ok (.iconst 0, 1) := by decide +kernel
theorem dX11_in_18 : decode cX11_in 18 = .ok (.ireturn, 1) := by decide +kernel
theorem dX11_isDay_0 : decode cX11_isDay 0 = .ok (.iload_n 0, 1) := by decide +kernel
theorem dX11_isDay_1 : decode cX11_isDay 1 = .ok (.i2l, 1) := by decide +kernel
theorem dX11_isDay_2 : decode cX11_isDay 2 = .ok (.lconst 0, 1) := by decide +kernel
theorem dX11_isDay_3 : decode cX11_isDay 3 = .ok (.ldc2_w 108, 3) := by decide +kernel
theorem dX11_isDay_6 : decode cX11_isDay 6 = .ok (.invokestatic 110, 3) := by decide +kernel
theorem dX11_isDay_9 : decode cX11_isDay 9 = .ok (.ireturn, 1) := by decide +kernel
theorem dX11_now_0 : decode cX11_now 0 = .ok (.iload_n 1, 1) := by decide +kernel
theorem dX11_now_1 : decode cX11_now 1 = .ok (.i2l, 1) := by decide +kernel
theorem dX11_now_2 : decode cX11_now 2 = .ok (.aload_n 0, 1) := by decide +kernel
theorem dX11_now_3 : decode cX11_now 3 = .ok (.getfield 114, 3) := by decide +kernel
theorem dX11_now_6 : decode cX11_now 6 = .ok (.i2l, 1) := by decide +kernel
theorem dX11_now_7 : decode cX11_now 7 = .ok (.ldc2_w 108, 3) := by decide +kernel
theorem dX11_now_10 : decode cX11_now 10 = .ok (.invokestatic 110, 3) := by decide +kernel
theorem dX11_now_13 : decode cX11_now 13 = .ok (.ifCond .ne 6, 3) := by decide +kernel
theorem dX11_now_16 : decode cX11_now 16 = .ok (.bipush (-2), 2) := by decide +kernel
theorem dX11_now_18 : decode cX11_now 18 = .ok (.ireturn, 1) := by decide +kernel
theorem dX11_now_19 : decode cX11_now 19 = .ok (.aload_n 0, 1) := by decide +kernel
theorem dX11_now_20 : decode cX11_now 20 = .ok (.iload_n 1, 1) := by decide +kernel
theorem dX11_now_21 : decode cX11_now 21 = .ok (.putfield 114, 3) := by decide +kernel
theorem dX11_now_24 : decode cX11_now 24 = .ok (.iload_n 1, 1) := by decide +kernel
theorem dX11_now_25 : decode cX11_now 25 = .ok (.ireturn, 1) := by decide +kernel
theorem dX11_figuresOf_0 : decode cX11_figuresOf 0 = .ok (.lload_n 0, 1) := by decide +kernel
theorem dX11_figuresOf_1 : decode cX11_figuresOf 1 = .ok (.lconst 1, 1) := by decide +kernel
theorem dX11_figuresOf_2 : decode cX11_figuresOf 2 = .ok (.lcmp, 1) := by decide +kernel
theorem dX11_figuresOf_3 : decode cX11_figuresOf 3 = .ok (.ifCond .ge 5, 3) := by decide +kernel
theorem dX11_figuresOf_6 : decode cX11_figuresOf 6 = .ok (.iconst (-1), 1) := by decide +kernel
theorem dX11_figuresOf_7 : decode cX11_figuresOf 7 = .ok (.ireturn, 1) := by decide +kernel
theorem dX11_figuresOf_8 : decode cX11_figuresOf 8 = .ok (.iconst 0, 1) := by decide +kernel
theorem dX11_figuresOf_9 : decode cX11_figuresOf 9 = .ok (.istore_n 2, 1) := by decide +kernel
theorem dX11_figuresOf_10 : decode cX11_figuresOf 10 = .ok (.lload_n 0, 1) := by decide +kernel
theorem dX11_figuresOf_11 : decode cX11_figuresOf 11 = .ok (.lstore_n 3, 1) := by decide +kernel
theorem dX11_figuresOf_12 : decode cX11_figuresOf 12 = .ok (.lload_n 3, 1) := by decide +kernel
theorem dX11_figuresOf_13 : decode cX11_figuresOf 13 = .ok (.ldc2_w 118, 3) := by decide +kernel
theorem dX11_figuresOf_16 : decode cX11_figuresOf 16 = .ok (.lcmp, 1) := by decide +kernel
theorem dX11_figuresOf_17 : decode cX11_figuresOf 17 = .ok (.ifCond .le 15, 3) := by decide +kernel
theorem dX11_figuresOf_20 : decode cX11_figuresOf 20 = .ok (.lload_n 3, 1) := by decide +kernel
theorem dX11_figuresOf_21 : decode cX11_figuresOf 21 = .ok (.ldc2_w 120, 3) := by decide +kernel
theorem dX11_figuresOf_24 : decode cX11_figuresOf 24 = .ok (.ldiv, 1) := by decide +kernel
theorem dX11_figuresOf_25 : decode cX11_figuresOf 25 = .ok (.lstore_n 3, 1) := by decide +kernel
theorem dX11_figuresOf_26 : decode cX11_figuresOf 26 = .ok (.iinc 2 1, 3) := by decide +kernel
theorem dX11_figuresOf_29 : decode cX11_figuresOf 29 = .ok (.goto (-17), 3) := by decide +kernel
theorem dX11_figuresOf_32 : decode cX11_figuresOf 32 = .ok (.lload_n 3, 1) := by decide +kernel
theorem dX11_figuresOf_33 : decode cX11_figuresOf 33 = .ok (.lconst 1, 1) := by decide +kernel
theorem dX11_figuresOf_34 : decode cX11_figuresOf 34 = .ok (.lcmp, 1) := by decide +kernel
theorem dX11_figuresOf_35 : decode cX11_figuresOf 35 = .ok (.ifCond .ne 7, 3) := by decide +kernel
theorem dX11_figuresOf_38 : decode cX11_figuresOf 38 = .ok (.iload_n 2, 1) := by decide +kernel
theorem dX11_figuresOf_39 : decode cX11_figuresOf 39 = .ok (.goto 4, 3) := by decide +kernel
theorem dX11_figuresOf_42 : decode cX11_figuresOf 42 = .ok (.iconst (-1), 1) := by decide +kernel
theorem dX11_figuresOf_43 : decode cX11_figuresOf 43 = .ok (.ireturn, 1) := by decide +kernel
theorem dX11_figureAt_0 : decode cX11_figureAt 0 = .ok (.lload_n 0, 1) := by decide +kernel
theorem dX11_figureAt_1 : decode cX11_figureAt 1 = .ok (.lstore_n 3, 1) := by decide +kernel
theorem dX11_figureAt_2 : decode cX11_figureAt 2 = .ok (.lload_n 0, 1) := by decide +kernel
theorem dX11_figureAt_3 : decode cX11_figureAt 3 = .ok (.invokestatic 122, 3) := by decide +kernel
theorem dX11_figureAt_6 : decode cX11_figureAt 6 = .ok (.iconst 1, 1) := by decide +kernel
theorem dX11_figureAt_7 : decode cX11_figureAt 7 = .ok (.isub, 1) := by decide +kernel
theorem dX11_figureAt_8 : decode cX11_figureAt 8 = .ok (.istore 5, 2) := by decide +kernel
theorem dX11_figureAt_10 : decode cX11_figureAt 10 = .ok (.iload 5, 2) := by decide +kernel
theorem dX11_figureAt_12 : decode cX11_figureAt 12 = .ok (.iload_n 2, 1) := by decide +kernel
theorem dX11_figureAt_13 : decode cX11_figureAt 13 = .ok (.if_icmp .le 15, 3) := by decide +kernel
theorem dX11_figureAt_16 : decode cX11_figureAt 16 = .ok (.lload_n 3, 1) := by decide +kernel
theorem dX11_figureAt_17 : decode cX11_figureAt 17 = .ok (.ldc2_w 120, 3) := by decide +kernel
theorem dX11_figureAt_20 : decode cX11_figureAt 20 = .ok (.ldiv, 1) := by decide +kernel
theorem dX11_figureAt_21 : decode cX11_figureAt 21 = .ok (.lstore_n 3, 1) := by decide +kernel
theorem dX11_figureAt_22 : decode cX11_figureAt 22 = .ok (.iinc 5 (-1), 3) := by decide +kernel
theorem dX11_figureAt_25 : decode cX11_figureAt 25 = .ok (.goto (-15), 3) := by decide +kernel
theorem dX11_figureAt_28 : decode cX11_figureAt 28 = .ok (.lload_n 3, 1) := by decide +kernel
theorem dX11_figureAt_29 : decode cX11_figureAt 29 = .ok (.ldc2_w 120, 3) := by decide +kernel
theorem dX11_figureAt_32 : decode cX11_figureAt 32 = .ok (.lrem, 1) := by decide +kernel
theorem dX11_figureAt_33 : decode cX11_figureAt 33 = .ok (.l2i, 1) := by decide +kernel
theorem dX11_figureAt_34 : decode cX11_figureAt 34 = .ok (.ireturn, 1) := by decide +kernel
theorem dX11_lengthOf_0 : decode cX11_lengthOf 0 = .ok (.iload_n 0, 1) := by decide +kernel
theorem dX11_lengthOf_1 : decode cX11_lengthOf 1 = .ok (.i2l, 1) := by decide +kernel
theorem dX11_lengthOf_2 : decode cX11_lengthOf 2 = .ok (.invokestatic 122, 3) := by decide +kernel
theorem dX11_lengthOf_5 : decode cX11_lengthOf 5 = .ok (.ireturn, 1) := by decide +kernel
theorem dX11_put_0 : decode cX11_put 0 = .ok (.aload_n 0, 1) := by decide +kernel
theorem dX11_put_1 : decode cX11_put 1 = .ok (.getfield 7, 3) := by decide +kernel
theorem dX11_put_4 : decode cX11_put 4 = .ok (.iload_n 1, 1) := by decide +kernel
theorem dX11_put_5 : decode cX11_put 5 = .ok (.iload_n 2, 1) := by decide +kernel
theorem dX11_put_6 : decode cX11_put 6 = .ok (.iastore, 1) := by decide +kernel
theorem dX11_put_7 : decode cX11_put 7 = .ok (.aload_n 0, 1) := by decide +kernel
theorem dX11_put_8 : decode cX11_put 8 = .ok (.getfield 13, 3) := by decide +kernel
theorem dX11_put_11 : decode cX11_put 11 = .ok (.iload_n 1, 1) := by decide +kernel
theorem dX11_put_12 : decode cX11_put 12 = .ok (.iload_n 3, 1) := by decide +kernel
theorem dX11_put_13 : decode cX11_put 13 = .ok (.iastore, 1) := by decide +kernel
theorem dX11_put_14 : decode cX11_put 14 = .ok (.aload_n 0, 1) := by decide +kernel
theorem dX11_put_15 : decode cX11_put 15 = .ok (.getfield 16, 3) := by decide +kernel
theorem dX11_put_18 : decode cX11_put 18 = .ok (.iload_n 1, 1) := by decide +kernel
theorem dX11_put_19 : decode cX11_put 19 = .ok (.iload 4, 2) := by decide +kernel
theorem dX11_put_21 : decode cX11_put 21 = .ok (.iastore, 1) := by decide +kernel
theorem dX11_put_22 : decode cX11_put 22 = .ok (.aload_n 0, 1) := by decide +kernel
theorem dX11_put_23 : decode cX11_put 23 = .ok (.getfield 19, 3) := by decide +kernel
theorem dX11_put_26 : decode cX11_put 26 = .ok (.iload_n 1, 1) := by decide +kernel
theorem dX11_put_27 : decode cX11_put 27 = .ok (.iload 5, 2) := by decide +kernel
theorem dX11_put_29 : decode cX11_put 29 = .ok (.iastore, 1) := by decide +kernel
theorem dX11_put_30 : decode cX11_put 30 = .ok (.aload_n 0, 1) := by decide +kernel
theorem dX11_put_31 : decode cX11_put 31 = .ok (.getfield 22, 3) := by decide +kernel
theorem dX11_put_34 : decode cX11_put 34 = .ok (.iload_n 1, 1) := by decide +kernel
theorem dX11_put_35 : decode cX11_put 35 = .ok (.iload 6, 2) := by decide +kernel
theorem dX11_put_37 : decode cX11_put 37 = .ok (.iastore, 1) := by decide +kernel
theorem dX11_put_38 : decode cX11_put 38 = .ok (.aload_n 0, 1) := by decide +kernel
theorem dX11_put_39 : decode cX11_put 39 = .ok (.getfield 25, 3) := by decide +kernel
theorem dX11_put_42 : decode cX11_put 42 = .ok (.iload_n 1, 1) := by decide +kernel
theorem dX11_put_43 : decode cX11_put 43 = .ok (.iload 7, 2) := by decide +kernel
theorem dX11_put_45 : decode cX11_put 45 = .ok (.iastore, 1) := by decide +kernel
theorem dX11_put_46 : decode cX11_put 46 = .ok (.aload_n 0, 1) := by decide +kernel
theorem dX11_put_47 : decode cX11_put 47 = .ok (.getfield 28, 3) := by decide +kernel
theorem dX11_put_50 : decode cX11_put 50 = .ok (.iload_n 1, 1) := by decide +kernel
theorem dX11_put_51 : decode cX11_put 51 = .ok (.iload 8, 2) := by decide +kernel
theorem dX11_put_53 : decode cX11_put 53 = .ok (.iastore, 1) := by decide +kernel
theorem dX11_put_54 : decode cX11_put 54 = .ok (.aload_n 0, 1) := by decide +kernel
theorem dX11_put_55 : decode cX11_put 55 = .ok (.getfield 31, 3) := by decide +kernel
theorem dX11_put_58 : decode cX11_put 58 = .ok (.iload_n 1, 1) := by decide +kernel
theorem dX11_put_59 : decode cX11_put 59 = .ok (.iload 9, 2) := by decide +kernel
theorem dX11_put_61 : decode cX11_put 61 = .ok (.iastore, 1) := by decide +kernel
theorem dX11_put_62 : decode cX11_put 62 = .ok (.aload_n 0, 1) := by decide +kernel
theorem dX11_put_63 : decode cX11_put 63 = .ok (.getfield 34, 3) := by decide +kernel
theorem dX11_put_66 : decode cX11_put 66 = .ok (.iload_n 1, 1) := by decide +kernel
theorem dX11_put_67 : decode cX11_put 67 = .ok (.iconst (-1), 1) := by decide +kernel
theorem dX11_put_68 : decode cX11_put 68 = .ok (.iastore, 1) := by decide +kernel
theorem dX11_put_69 : decode cX11_put 69 = .ok (.aload_n 0, 1) := by decide +kernel
theorem dX11_put_70 : decode cX11_put 70 = .ok (.getfield 37, 3) := by decide +kernel
theorem dX11_put_73 : decode cX11_put 73 = .ok (.iload_n 1, 1) := by decide +kernel
theorem dX11_put_74 : decode cX11_put 74 = .ok (.iconst (-1), 1) := by decide +kernel
theorem dX11_put_75 : decode cX11_put 75 = .ok (.iastore, 1) := by decide +kernel
theorem dX11_put_76 : decode cX11_put 76 = .ok (.aload_n 0, 1) := by decide +kernel
theorem dX11_put_77 : decode cX11_put 77 = .ok (.getfield 40, 3) := by decide +kernel
theorem dX11_put_80 : decode cX11_put 80 = .ok (.iload_n 1, 1) := by decide +kernel
theorem dX11_put_81 : decode cX11_put 81 = .ok (.iconst (-1), 1) := by decide +kernel
theorem dX11_put_82 : decode cX11_put 82 = .ok (.iastore, 1) := by decide +kernel
theorem dX11_put_83 : decode cX11_put 83 = .ok (.aload_n 0, 1) := by decide +kernel
theorem dX11_put_84 : decode cX11_put 84 = .ok (.getfield 43, 3) := by decide +kernel
theorem dX11_put_87 : decode cX11_put 87 = .ok (.iload_n 1, 1) := by decide +kernel
theorem dX11_put_88 : decode cX11_put 88 = .ok (.iconst 0, 1) := by decide +kernel
theorem dX11_put_89 : decode cX11_put 89 = .ok (.iastore, 1) := by decide +kernel
theorem dX11_put_90 : decode cX11_put 90 = .ok (.aload_n 0, 1) := by decide +kernel
theorem dX11_put_91 : decode cX11_put 91 = .ok (.getfield 46, 3) := by decide +kernel
theorem dX11_put_94 : decode cX11_put 94 = .ok (.iload_n 1, 1) := by decide +kernel
theorem dX11_put_95 : decode cX11_put 95 = .ok (.iconst (-1), 1) := by decide +kernel
theorem dX11_put_96 : decode cX11_put 96 = .ok (.iastore, 1) := by decide +kernel
theorem dX11_put_97 : decode cX11_put 97 = .ok (.aload_n 0, 1) := by decide +kernel
theorem dX11_put_98 : decode cX11_put 98 = .ok (.getfield 49, 3) := by decide +kernel
theorem dX11_put_101 : decode cX11_put 101 = .ok (.iload_n 1, 1) := by decide +kernel
theorem dX11_put_102 : decode cX11_put 102 = .ok (.iload_n 2, 1) := by decide +kernel
theorem dX11_put_103 : decode cX11_put 103 = .ok (.ifCond .ne 11, 3) := by decide +kernel
theorem dX11_put_106 : decode cX11_put 106 = .ok (.aload_n 0, 1) := by decide +kernel
theorem dX11_put_107 : decode cX11_put 107 = .ok (.iload_n 1, 1) := by decide +kernel
theorem dX11_put_108 : decode cX11_put 108 = .ok (.invokevirtual 126, 3) := by decide +kernel
theorem dX11_put_111 : decode cX11_put 111 = .ok (.goto 4, 3) := by decide +kernel
theorem dX11_put_114 : decode cX11_put 114 = .ok (.lconst 0, 1) := by decide +kernel
theorem dX11_put_115 : decode cX11_put 115 = .ok (.lastore, 1) := by decide +kernel
theorem dX11_put_116 : decode cX11_put 116 = .ok (.iload_n 1, 1) := by decide +kernel
theorem dX11_put_117 : decode cX11_put 117 = .ok (.ireturn, 1) := by decide +kernel
theorem dX11_add_0 : decode cX11_add 0 = .ok (.aload_n 0, 1) := by decide +kernel
theorem dX11_add_1 : decode cX11_add 1 = .ok (.aload_n 0, 1) := by decide +kernel
theorem dX11_add_2 : decode cX11_add 2 = .ok (.getfield 130, 3) := by decide +kernel
theorem dX11_add_5 : decode cX11_add 5 = .ok (.iload_n 1, 1) := by decide +kernel
theorem dX11_add_6 : decode cX11_add 6 = .ok (.iload_n 2, 1) := by decide +kernel
theorem dX11_add_7 : decode cX11_add 7 = .ok (.iload_n 3, 1) := by decide +kernel
theorem dX11_add_8 : decode cX11_add 8 = .ok (.iload 4, 2) := by decide +kernel
theorem dX11_add_10 : decode cX11_add 10 = .ok (.iload 5, 2) := by decide +kernel
theorem dX11_add_12 : decode cX11_add 12 = .ok (.iload 6, 2) := by decide +kernel
theorem dX11_add_14 : decode cX11_add 14 = .ok (.iload 7, 2) := by decide +kernel
theorem dX11_add_16 : decode cX11_add 16 = .ok (.iload 8, 2) := by decide +kernel
theorem dX11_add_18 : decode cX11_add 18 = .ok (.invokevirtual 133, 3) := by decide +kernel
theorem dX11_add_21 : decode cX11_add 21 = .ok (.istore 10, 2) := by decide +kernel
theorem dX11_add_23 : decode cX11_add 23 = .ok (.aload_n 0, 1) := by decide +kernel
theorem dX11_add_24 : decode cX11_add 24 = .ok (.getfield 34, 3) := by decide +kernel
theorem dX11_add_27 : decode cX11_add 27 = .ok (.iload 10, 2) := by decide +kernel
theorem dX11_add_29 : decode cX11_add 29 = .ok (.iload 9, 2) := by decide +kernel
theorem dX11_add_31 : decode cX11_add 31 = .ok (.iastore, 1) := by decide +kernel
theorem dX11_add_32 : decode cX11_add 32 = .ok (.aload_n 0, 1) := by decide +kernel
theorem dX11_add_33 : decode cX11_add 33 = .ok (.dup, 1) := by decide +kernel
theorem dX11_add_34 : decode cX11_add 34 = .ok (.getfield 130, 3) := by decide +kernel
theorem dX11_add_37 : decode cX11_add 37 = .ok (.iconst 1, 1) := by decide +kernel
theorem dX11_add_38 : decode cX11_add 38 = .ok (.iadd, 1) := by decide +kernel
theorem dX11_add_39 : decode cX11_add 39 = .ok (.putfield 130, 3) := by decide +kernel
theorem dX11_add_42 : decode cX11_add 42 = .ok (.iload 10, 2) := by decide +kernel
theorem dX11_add_44 : decode cX11_add 44 = .ok (.ireturn, 1) := by decide +kernel
theorem dX11_isFree_0 : decode cX11_isFree 0 = .ok (.iload_n 1, 1) := by decide +kernel
theorem dX11_isFree_1 : decode cX11_isFree 1 = .ok (.i2l, 1) := by decide +kernel
theorem dX11_isFree_2 : decode cX11_isFree 2 = .ok (.aload_n 0, 1) := by decide +kernel
theorem dX11_isFree_3 : decode cX11_isFree 3 = .ok (.getfield 114, 3) := by decide +kernel
theorem dX11_isFree_6 : decode cX11_isFree 6 = .ok (.i2l, 1) := by decide +kernel
theorem dX11_isFree_7 : decode cX11_isFree 7 = .ok (.ldc2_w 108, 3) := by decide +kernel
theorem dX11_isFree_10 : decode cX11_isFree 10 = .ok (.invokestatic 110, 3) := by decide +kernel
theorem dX11_isFree_13 : decode cX11_isFree 13 = .ok (.ireturn, 1) := by decide +kernel
theorem dX11_mayBlock_0 : decode cX11_mayBlock 0 = .ok (.iload_n 1, 1) := by decide +kernel
theorem dX11_mayBlock_1 : decode cX11_mayBlock 1 = .ok (.i2l, 1) := by decide +kernel
theorem dX11_mayBlock_2 : decode cX11_mayBlock 2 = .ok (.lconst 0, 1) := by decide +kernel
theorem dX11_mayBlock_3 : decode cX11_mayBlock 3 = .ok (.ldc2_w 137, 3) := by decide +kernel
theorem dX11_mayBlock_6 : decode cX11_mayBlock 6 = .ok (.invokestatic 110, 3) := by decide +kernel
theorem dX11_mayBlock_9 : decode cX11_mayBlock 9 = .ok (.ifCond .eq 62, 3) := by decide +kernel
theorem dX11_mayBlock_12 : decode cX11_mayBlock 12 = .ok (.iload_n 2, 1) := by decide +kernel
theorem dX11_mayBlock_13 : decode cX11_mayBlock 13 = .ok (.invokestatic 139, 3) := by decide +kernel
theorem dX11_mayBlock_16 : decode cX11_mayBlock 16 = .ok (.i2l, 1) := by decide +kernel
theorem dX11_mayBlock_17 : decode cX11_mayBlock 17 = .ok (.lconst 1, 1) := by decide +kernel
theorem dX11_mayBlock_18 : decode cX11_mayBlock 18 = .ok (.ldc2_w 143, 3) := by decide +kernel
theorem dX11_mayBlock_21 : decode cX11_mayBlock 21 = .ok (.invokestatic 110, 3) := by decide +kernel
theorem dX11_mayBlock_24 : decode cX11_mayBlock 24 = .ok (.ifCond .eq 47, 3) := by decide +kernel
theorem dX11_mayBlock_27 : decode cX11_mayBlock 27 = .ok (.iload_n 3, 1) := by decide +kernel
theorem dX11_mayBlock_28 : decode cX11_mayBlock 28 = .ok (.i2l, 1) := by decide +kernel
theorem dX11_mayBlock_29 : decode cX11_mayBlock 29 = .ok (.lconst 1, 1) := by decide +kernel
theorem dX11_mayBlock_30 : decode cX11_mayBlock 30 = .ok (.ldc2_w 145, 3) := by decide +kernel
theorem dX11_mayBlock_33 : decode cX11_mayBlock 33 = .ok (.invokestatic 110, 3) := by decide +kernel
theorem dX11_mayBlock_36 : decode cX11_mayBlock 36 = .ok (.ifCond .eq 35, 3) := by decide +kernel
theorem dX11_mayBlock_39 : decode cX11_mayBlock 39 = .ok (.iload 4, 2) := by decide +kernel
theorem dX11_mayBlock_41 : decode cX11_mayBlock 41 = .ok (.i2l, 1) := by decide +kernel
theorem dX11_mayBlock_42 : decode cX11_mayBlock 42 = .ok (.iload_n 2, 1) := by decide +kernel
theorem dX11_mayBlock_43 : decode cX11_mayBlock 43 = .ok (.invokestatic 139, 3) := by decide +kernel
theorem dX11_mayBlock_46 : decode cX11_mayBlock 46 = .ok (.iconst 1, 1) := by decide +kernel
theorem dX11_mayBlock_47 : decode cX11_mayBlock 47 = .ok (.iadd, 1) := by decide +kernel
theorem dX11_mayBlock_48 : decode cX11_mayBlock 48 = .ok (.i2l, 1) := by decide +kernel
theorem dX11_mayBlock_49 : decode cX11_mayBlock 49 = .ok (.ldc2_w 147, 3) := by decide +kernel
theorem dX11_mayBlock_52 : decode cX11_mayBlock 52 = .ok (.invokestatic 110, 3) := by decide +kernel
theorem dX11_mayBlock_55 : decode cX11_mayBlock 55 = .ok (.ifCond .eq 16, 3) := by decide +kernel
theorem dX11_mayBlock_58 : decode cX11_mayBlock 58 = .ok (.aload_n 0, 1) := by decide +kernel
theorem dX11_mayBlock_59 : decode cX11_mayBlock 59 = .ok (.iload 5, 2) := by decide +kernel
theorem dX11_mayBlock_61 : decode cX11_mayBlock 61 = .ok (.invokevirtual 149, 3) := by decide +kernel
theorem dX11_mayBlock_64 : decode cX11_mayBlock 64 = .ok (.ifCond .eq 7, 3) := by decide +kernel
theorem dX11_mayBlock_67 : decode cX11_mayBlock 67 = .ok (.iconst 1, 1) := by decide +kernel
theorem dX11_mayBlock_68 : decode cX11_mayBlock 68 = .ok (.goto 4, 3) := by decide +kernel
theorem dX11_mayBlock_71 : decode cX11_mayBlock 71 = .ok (.iconst 0, 1) := by decide +kernel
theorem dX11_mayBlock_72 : decode cX11_mayBlock 72 = .ok (.ireturn, 1) := by decide +kernel
theorem dX11_block_0 : decode cX11_block 0 = .ok (.aload_n 0, 1) := by decide +kernel
theorem dX11_block_1 : decode cX11_block 1 = .ok (.iload_n 1, 1) := by decide +kernel
theorem dX11_block_2 : decode cX11_block 2 = .ok (.iload_n 2, 1) := by decide +kernel
theorem dX11_block_3 : decode cX11_block 3 = .ok (.iload_n 3, 1) := by decide +kernel
theorem dX11_block_4 : decode cX11_block 4 = .ok (.iload 4, 2) := by decide +kernel
theorem dX11_block_6 : decode cX11_block 6 = .ok (.iload 5, 2) := by decide +kernel
theorem dX11_block_8 : decode cX11_block 8 = .ok (.invokevirtual 153, 3) := by decide +kernel
theorem dX11_block_11 : decode cX11_block 11 = .ok (.ifCond .ne 6, 3) := by decide +kernel
theorem dX11_block_14 : decode cX11_block 14 = .ok (.bipush (-2), 2) := by decide +kernel
theorem dX11_block_16 : decode cX11_block 16 = .ok (.ireturn, 1) := by decide +kernel
theorem dX11_block_17 : decode cX11_block 17 = .ok (.aload_n 0, 1) := by decide +kernel
theorem dX11_block_18 : decode cX11_block 18 = .ok (.getfield 130, 3) := by decide +kernel
theorem dX11_block_21 : decode cX11_block 21 = .ok (.bipush 120, 2) := by decide +kernel
theorem dX11_block_23 : decode cX11_block 23 = .ok (.if_icmp .ne 8, 3) := by decide +kernel
theorem dX11_block_26 : decode cX11_block 26 = .ok (.bipush (-3), 2) := by decide +kernel
theorem dX11_block_28 : decode cX11_block 28 = .ok (.goto 19, 3) := by decide +kernel
theorem dX11_block_31 : decode cX11_block 31 = .ok (.aload_n 0, 1) := by decide +kernel
theorem dX11_block_32 : decode cX11_block 32 = .ok (.iconst 0, 1) := by decide +kernel
theorem dX11_block_33 : decode cX11_block 33 = .ok (.iload_n 1, 1) := by decide +kernel
theorem dX11_block_34 : decode cX11_block 34 = .ok (.iload_n 2, 1) := by decide +kernel
theorem dX11_block_35 : decode cX11_block 35 = .ok (.iload_n 3, 1) := by decide +kernel
theorem dX11_block_36 : decode cX11_block 36 = .ok (.iload 4, 2) := by decide +kernel
theorem dX11_block_38 : decode cX11_block 38 = .ok (.iload 4, 2) := by decide +kernel
theorem dX11_block_40 : decode cX11_block 40 = .ok (.iload 5, 2) := by decide +kernel
theorem dX11_block_42 : decode cX11_block 42 = .ok (.iconst (-1), 1) := by decide +kernel
theorem dX11_block_43 : decode cX11_block 43 = .ok (.iconst (-1), 1) := by decide +kernel
theorem dX11_block_44 : decode cX11_block 44 = .ok (.invokevirtual 157, 3) := by decide +kernel
theorem dX11_block_47 : decode cX11_block 47 = .ok (.ireturn, 1) := by decide +kernel
theorem dX11_service_0 : decode cX11_service 0 = .ok (.iload_n 1, 1) := by decide +kernel
theorem dX11_service_1 : decode cX11_service 1 = .ok (.invokestatic 139, 3) := by decide +kernel
theorem dX11_service_4 : decode cX11_service 4 = .ok (.istore 4, 2) := by decide +kernel
theorem dX11_service_6 : decode cX11_service 6 = .ok (.iload 4, 2) := by decide +kernel
theorem dX11_service_8 : decode cX11_service 8 = .ok (.i2l, 1) := by decide +kernel
theorem dX11_service_9 : decode cX11_service 9 = .ok (.ldc2_w 160, 3) := by decide +kernel
theorem dX11_service_12 : decode cX11_service 12 = .ok (.ldc2_w 143, 3) := by decide +kernel
theorem dX11_service_15 : decode cX11_service 15 = .ok (.invokestatic 110, 3) := by decide +kernel
theorem dX11_service_18 : decode cX11_service 18 = .ok (.ifCond .eq 23, 3) := by decide +kernel
theorem dX11_service_21 : decode cX11_service 21 = .ok (.iload_n 2, 1) := by decide +kernel
theorem dX11_service_22 : decode cX11_service 22 = .ok (.i2l, 1) := by decide +kernel
theorem dX11_service_23 : decode cX11_service 23 = .ok (.lconst 0, 1) := by decide +kernel
theorem dX11_service_24 : decode cX11_service 24 = .ok (.ldc2_w 162, 3) := by decide +kernel
theorem dX11_service_27 : decode cX11_service 27 = .ok (.invokestatic 110, 3) := by decide +kernel
theorem dX11_service_30 : decode cX11_service 30 = .ok (.ifCond .eq 11, 3) := by decide +kernel
theorem dX11_service_33 : decode cX11_service 33 = .ok (.aload_n 0, 1) := by decide +kernel
theorem dX11_service_34 : decode cX11_service 34 = .ok (.iload_n 3, 1) := by decide +kernel
theorem dX11_service_35 : decode cX11_service 35 = .ok (.invokevirtual 149, 3) := by decide +kernel
theorem dX11_service_38 : decode cX11_service 38 = .ok (.ifCond .ne 6, 3) := by decide +kernel
theorem dX11_service_41 : decode cX11_service 41 = .ok (.bipush (-2), 2) := by decide +kernel
theorem dX11_service_43 : decode cX11_service 43 = .ok (.ireturn, 1) := by decide +kernel
theorem dX11_service_44 : decode cX11_service 44 = .ok (.aload_n 0, 1) := by decide +kernel
theorem dX11_service_45 : decode cX11_service 45 = .ok (.getfield 130, 3) := by decide +kernel
theorem dX11_service_48 : decode cX11_service 48 = .ok (.bipush 120, 2) := by decide +kernel
theorem dX11_service_50 : decode cX11_service 50 = .ok (.if_icmp .ne 8, 3) := by decide +kernel
theorem dX11_service_53 : decode cX11_service 53 = .ok (.bipush (-3), 2) := by decide +kernel
theorem dX11_service_55 : decode cX11_service 55 = .ok (.goto 18, 3) := by decide +kernel
theorem dX11_service_58 : decode cX11_service 58 = .ok (.aload_n 0, 1) := by decide +kernel
theorem dX11_service_59 : decode cX11_service 59 = .ok (.iconst 1, 1) := by decide +kernel
theorem dX11_service_60 : decode cX11_service 60 = .ok (.iload_n 2, 1) := by decide +kernel
theorem dX11_service_61 : decode cX11_service 61 = .ok (.iload_n 1, 1) := by decide +kernel
theorem dX11_service_62 : decode cX11_service 62 = .ok (.iconst 0, 1) := by decide +kernel
theorem dX11_service_63 : decode cX11_service 63 = .ok (.iload 4, 2) := by decide +kernel
theorem dX11_service_65 : decode cX11_service 65 = .ok (.iload 4, 2) := by decide +kernel
theorem dX11_service_67 : decode cX11_service 67 = .ok (.iload_n 3, 1) := by decide +kernel
theorem dX11_service_68 : decode cX11_service 68 = .ok (.iconst (-1), 1) := by decide +kernel
theorem dX11_service_69 : decode cX11_service 69 = .ok (.iconst (-1), 1) := by decide +kernel
theorem dX11_service_70 : decode cX11_service 70 = .ok (.invokevirtual 157, 3) := by decide +kernel
theorem dX11_service_73 : decode cX11_service 73 = .ok (.ireturn, 1) := by decide +kernel
theorem dX11_foreign_0 : decode cX11_foreign 0 = .ok (.iload_n 1, 1) := by decide +kernel
theorem dX11_foreign_1 : decode cX11_foreign 1 = .ok (.invokestatic 139, 3) := by decide +kernel
theorem dX11_foreign_4 : decode cX11_foreign 4 = .ok (.istore 5, 2) := by decide +kernel
theorem dX11_foreign_6 : decode cX11_foreign 6 = .ok (.iload 5, 2) := by decide +kernel
theorem dX11_foreign_8 : decode cX11_foreign 8 = .ok (.i2l, 1) := by decide +kernel
theorem dX11_foreign_9 : decode cX11_foreign 9 = .ok (.lconst 1, 1) := by decide +kernel
theorem dX11_foreign_10 : decode cX11_foreign 10 = .ok (.ldc2_w 164, 3) := by decide +kernel
theorem dX11_foreign_13 : decode cX11_foreign 13 = .ok (.invokestatic 110, 3) := by decide +kernel
theorem dX11_foreign_16 : decode cX11_foreign 16 = .ok (.ifCond .eq 41, 3) := by decide +kernel
theorem dX11_foreign_19 : decode cX11_foreign 19 = .ok (.iload_n 2, 1) := by decide +kernel
theorem dX11_foreign_20 : decode cX11_foreign 20 = .ok (.i2l, 1) := by decide +kernel
theorem dX11_foreign_21 : decode cX11_foreign 21 = .ok (.iload 5, 2) := by decide +kernel
theorem dX11_foreign_23 : decode cX11_foreign 23 = .ok (.iconst 1, 1) := by decide +kernel
theorem dX11_foreign_24 : decode cX11_foreign 24 = .ok (.iadd, 1) := by decide +kernel
theorem dX11_foreign_25 : decode cX11_foreign 25 = .ok (.i2l, 1) := by decide +kernel
theorem dX11_foreign_26 : decode cX11_foreign 26 = .ok (.ldc2_w 137, 3) := by decide +kernel
theorem dX11_foreign_29 : decode cX11_foreign 29 = .ok (.invokestatic 110, 3) := by decide +kernel
theorem dX11_foreign_32 : decode cX11_foreign 32 = .ok (.ifCond .eq 25, 3) := by decide +kernel
theorem dX11_foreign_35 : decode cX11_foreign 35 = .ok (.iload_n 3, 1) := by decide +kernel
theorem dX11_foreign_36 : decode cX11_foreign 36 = .ok (.i2l, 1) := by decide +kernel
theorem dX11_foreign_37 : decode cX11_foreign 37 = .ok (.iload_n 2, 1) := by decide +kernel
theorem dX11_foreign_38 : decode cX11_foreign 38 = .ok (.i2l, 1) := by decide +kernel
theorem dX11_foreign_39 : decode cX11_foreign 39 = .ok (.ldc2_w 137, 3) := by decide +kernel
theorem dX11_foreign_42 : decode cX11_foreign 42 = .ok (.invokestatic 110, 3) := by decide +kernel
theorem dX11_foreign_45 : decode cX11_foreign 45 = .ok (.ifCond .eq 12, 3) := by decide +kernel
theorem dX11_foreign_48 : decode cX11_foreign 48 = .ok (.aload_n 0, 1) := by decide +kernel
theorem dX11_foreign_49 : decode cX11_foreign 49 = .ok (.iload 4, 2) := by decide +kernel
theorem dX11_foreign_51 : decode cX11_foreign 51 = .ok (.invokevirtual 149, 3) := by decide +kernel
theorem dX11_foreign_54 : decode cX11_foreign 54 = .ok (.ifCond .ne 6, 3) := by decide +kernel
theorem dX11_foreign_57 : decode cX11_foreign 57 = .ok (.bipush (-2), 2) := by decide +kernel
theorem dX11_foreign_59 : decode cX11_foreign 59 = .ok (.ireturn, 1) := by decide +kernel
theorem dX11_foreign_60 : decode cX11_foreign 60 = .ok (.aload_n 0, 1) := by decide +kernel
theorem dX11_foreign_61 : decode cX11_foreign 61 = .ok (.getfield 130, 3) := by decide +kernel
theorem dX11_foreign_64 : decode cX11_foreign 64 = .ok (.bipush 120, 2) := by decide +kernel
theorem dX11_foreign_66 : decode cX11_foreign 66 = .ok (.if_icmp .ne 8, 3) := by decide +kernel
theorem dX11_foreign_69 : decode cX11_foreign 69 = .ok (.bipush (-3), 2) := by decide +kernel
theorem dX11_foreign_71 : decode cX11_foreign 71 = .ok (.goto 17, 3) := by decide +kernel
theorem dX11_foreign_74 : decode cX11_foreign 74 = .ok (.aload_n 0, 1) := by decide +kernel
theorem dX11_foreign_75 : decode cX11_foreign 75 = .ok (.iconst 2, 1) := by decide +kernel
theorem dX11_foreign_76 : decode cX11_foreign 76 = .ok (.iconst (-1), 1) := by decide +kernel
theorem dX11_foreign_77 : decode cX11_foreign 77 = .ok (.iload_n 1, 1) := by decide +kernel
theorem dX11_foreign_78 : decode cX11_foreign 78 = .ok (.iconst 0, 1) := by decide +kernel
theorem dX11_foreign_79 : decode cX11_foreign 79 = .ok (.iload_n 2, 1) := by decide +kernel
theorem dX11_foreign_80 : decode cX11_foreign 80 = .ok (.iload_n 3, 1) := by decide +kernel
theorem dX11_foreign_81 : decode cX11_foreign 81 = .ok (.iload 4, 2) := by decide +kernel
theorem dX11_foreign_83 : decode cX11_foreign 83 = .ok (.iconst (-1), 1) := by decide +kernel
theorem dX11_foreign_84 : decode cX11_foreign 84 = .ok (.iconst (-1), 1) := by decide +kernel
theorem dX11_foreign_85 : decode cX11_foreign 85 = .ok (.invokevirtual 157, 3) := by decide +kernel
theorem dX11_foreign_88 : decode cX11_foreign 88 = .ok (.ireturn, 1) := by decide +kernel
theorem dX11_isEntry_0 : decode cX11_isEntry 0 = .ok (.iload_n 1, 1) := by decide +kernel
theorem dX11_isEntry_1 : decode cX11_isEntry 1 = .ok (.i2l, 1) := by decide +kernel
theorem dX11_isEntry_2 : decode cX11_isEntry 2 = .ok (.lconst 0, 1) := by decide +kernel
theorem dX11_isEntry_3 : decode cX11_isEntry 3 = .ok (.aload_n 0, 1) := by decide +kernel
theorem dX11_isEntry_4 : decode cX11_isEntry 4 = .ok (.getfield 130, 3) := by decide +kernel
theorem dX11_isEntry_7 : decode cX11_isEntry 7 = .ok (.iconst 1, 1) := by decide +kernel
theorem dX11_isEntry_8 : decode cX11_isEntry 8 = .ok (.isub, 1) := by decide +kernel
theorem dX11_isEntry_9 : decode cX11_isEntry 9 = .ok (.i2l, 1) := by decide +kernel
theorem dX11_isEntry_10 : decode cX11_isEntry 10 = .ok (.invokestatic 110, 3) := by decide +kernel
theorem dX11_isEntry_13 : decode cX11_isEntry 13 = .ok (.ireturn, 1) := by decide +kernel
theorem dX11_isForce_0 : decode cX11_isForce 0 = .ok (.iload_n 2, 1) := by decide +kernel
theorem dX11_isForce_1 : decode cX11_isForce 1 = .ok (.aload_n 0, 1) := by decide +kernel
theorem dX11_isForce_2 : decode cX11_isForce 2 = .ok (.getfield 28, 3) := by decide +kernel
theorem dX11_isForce_5 : decode cX11_isForce 5 = .ok (.iload_n 1, 1) := by decide +kernel
theorem dX11_isForce_6 : decode cX11_isForce 6 = .ok (.iaload, 1) := by decide +kernel
theorem dX11_isForce_7 : decode cX11_isForce 7 = .ok (.if_icmp .lt 27, 3) := by decide +kernel
theorem dX11_isForce_10 : decode cX11_isForce 10 = .ok (.aload_n 0, 1) := by decide +kernel
theorem dX11_isForce_11 : decode cX11_isForce 11 = .ok (.getfield 31, 3) := by decide +kernel
theorem dX11_isForce_14 : decode cX11_isForce 14 = .ok (.iload_n 1, 1) := by decide +kernel
theorem dX11_isForce_15 : decode cX11_isForce 15 = .ok (.iaload, 1) := by decide +kernel
theorem dX11_isForce_16 : decode cX11_isForce 16 = .ok (.iconst (-1), 1) := by decide +kernel
theorem dX11_isForce_17 : decode cX11_isForce 17 = .ok (.if_icmp .eq 13, 3) := by decide +kernel
theorem dX11_isForce_20 : decode cX11_isForce 20 = .ok (.iload_n 2, 1) := by decide +kernel
theorem dX11_isForce_21 : decode cX11_isForce 21 = .ok (.aload_n 0, 1) := by decide +kernel
theorem dX11_isForce_22 : decode cX11_isForce 22 = .ok (.getfield 31, 3) := by decide +kernel
theorem dX11_isForce_25 : decode cX11_isForce 25 = .ok (.iload_n 1, 1) := by decide +kernel
theorem dX11_isForce_26 : decode cX11_isForce 26 = .ok (.iaload, 1) := by decide +kernel
theorem dX11_isForce_27 : decode cX11_isForce 27 = .ok (.if_icmp .ge 7, 3) := by decide +kernel
theorem dX11_isForce_30 : decode cX11_isForce 30 = .ok (.iconst 1, 1) := by decide +kernel
theorem dX11_isForce_31 : decode cX11_isForce 31 = .ok (.goto 4, 3) := by decide +kernel
theorem dX11_isForce_34 : decode cX11_isForce 34 = .ok (.iconst 0, 1) := by decide +kernel
theorem dX11_isForce_35 : decode cX11_isForce 35 = .ok (.ireturn, 1) := by decide +kernel
theorem dX11_mayEnd_0 : decode cX11_mayEnd 0 = .ok (.aload_n 0, 1) := by decide +kernel
theorem dX11_mayEnd_1 : decode cX11_mayEnd 1 = .ok (.iload_n 2, 1) := by decide +kernel
theorem dX11_mayEnd_2 : decode cX11_mayEnd 2 = .ok (.invokevirtual 149, 3) := by decide +kernel
theorem dX11_mayEnd_5 : decode cX11_mayEnd 5 = .ok (.ifCond .eq 37, 3) := by decide +kernel
theorem dX11_mayEnd_8 : decode cX11_mayEnd 8 = .ok (.iload_n 2, 1) := by decide +kernel
theorem dX11_mayEnd_9 : decode cX11_mayEnd 9 = .ok (.aload_n 0, 1) := by decide +kernel
theorem dX11_mayEnd_10 : decode cX11_mayEnd 10 = .ok (.getfield 28, 3) := by decide +kernel
theorem dX11_mayEnd_13 : decode cX11_mayEnd 13 = .ok (.iload_n 1, 1) := by decide +kernel
theorem dX11_mayEnd_14 : decode cX11_mayEnd 14 = .ok (.iaload, 1) := by decide +kernel
theorem dX11_mayEnd_15 : decode cX11_mayEnd 15 = .ok (.if_icmp .le 27, 3) := by decide +kernel
theorem dX11_mayEnd_18 : decode cX11_mayEnd 18 = .ok (.aload_n 0, 1) := by decide +kernel
theorem dX11_mayEnd_19 : decode cX11_mayEnd 19 = .ok (.getfield 31, 3) := by decide +kernel
theorem dX11_mayEnd_22 : decode cX11_mayEnd 22 = .ok (.iload_n 1, 1) := by decide +kernel
theorem dX11_mayEnd_23 : decode cX11_mayEnd 23 = .ok (.iaload, 1) := by decide +kernel
theorem dX11_mayEnd_24 : decode cX11_mayEnd 24 = .ok (.iconst (-1), 1) := by decide +kernel
theorem dX11_mayEnd_25 : decode cX11_mayEnd 25 = .ok (.if_icmp .eq 13, 3) := by decide +kernel
theorem dX11_mayEnd_28 : decode cX11_mayEnd 28 = .ok (.iload_n 2, 1) := by decide +kernel
theorem dX11_mayEnd_29 : decode cX11_mayEnd 29 = .ok (.aload_n 0, 1) := by decide +kernel
theorem dX11_mayEnd_30 : decode cX11_mayEnd 30 = .ok (.getfield 31, 3) := by decide +kernel
theorem dX11_mayEnd_33 : decode cX11_mayEnd 33 = .ok (.iload_n 1, 1) := by decide +kernel
theorem dX11_mayEnd_34 : decode cX11_mayEnd 34 = .ok (.iaload, 1) := by decide +kernel
theorem dX11_mayEnd_35 : decode cX11_mayEnd 35 = .ok (.if_icmp .ge 7, 3) := by decide +kernel
theorem dX11_mayEnd_38 : decode cX11_mayEnd 38 = .ok (.iconst 1, 1) := by decide +kernel
theorem dX11_mayEnd_39 : decode cX11_mayEnd 39 = .ok (.goto 4, 3) := by decide +kernel
theorem dX11_mayEnd_42 : decode cX11_mayEnd 42 = .ok (.iconst 0, 1) := by decide +kernel
theorem dX11_mayEnd_43 : decode cX11_mayEnd 43 = .ok (.ireturn, 1) := by decide +kernel
theorem dX11_finish_0 : decode cX11_finish 0 = .ok (.aload_n 0, 1) := by decide +kernel
theorem dX11_finish_1 : decode cX11_finish 1 = .ok (.iload_n 1, 1) := by decide +kernel
theorem dX11_finish_2 : decode cX11_finish 2 = .ok (.invokevirtual 166, 3) := by decide +kernel
theorem dX11_finish_5 : decode cX11_finish 5 = .ok (.ifCond .eq 22, 3) := by decide +kernel
theorem dX11_finish_8 : decode cX11_finish 8 = .ok (.aload_n 0, 1) := by decide +kernel
theorem dX11_finish_9 : decode cX11_finish 9 = .ok (.getfield 7, 3) := by decide +kernel
theorem dX11_finish_12 : decode cX11_finish 12 = .ok (.iload_n 1, 1) := by decide +kernel
theorem dX11_finish_13 : decode cX11_finish 13 = .ok (.iaload, 1) := by decide +kernel
theorem dX11_finish_14 : decode cX11_finish 14 = .ok (.iconst 3, 1) := by decide +kernel
theorem dX11_finish_15 : decode cX11_finish 15 = .ok (.if_icmp .eq 12, 3) := by decide +kernel
theorem dX11_finish_18 : decode cX11_finish 18 = .ok (.aload_n 0, 1) := by decide +kernel
theorem dX11_finish_19 : decode cX11_finish 19 = .ok (.iload_n 1, 1) := by decide +kernel
theorem dX11_finish_20 : decode cX11_finish 20 = .ok (.iload_n 2, 1) := by decide +kernel
theorem dX11_finish_21 : decode cX11_finish 21 = .ok (.invokevirtual 169, 3) := by decide +kernel
theorem dX11_finish_24 : decode cX11_finish 24 = .ok (.ifCond .ne 6, 3) := by decide +kernel
theorem dX11_finish_27 : decode cX11_finish 27 = .ok (.bipush (-2), 2) := by decide +kernel
theorem dX11_finish_29 : decode cX11_finish 29 = .ok (.ireturn, 1) := by decide +kernel
theorem dX11_finish_30 : decode cX11_finish 30 = .ok (.aload_n 0, 1) := by decide +kernel
theorem dX11_finish_31 : decode cX11_finish 31 = .ok (.getfield 31, 3) := by decide +kernel
theorem dX11_finish_34 : decode cX11_finish 34 = .ok (.iload_n 1, 1) := by decide +kernel
theorem dX11_finish_35 : decode cX11_finish 35 = .ok (.iload_n 2, 1) := by decide +kernel
theorem dX11_finish_36 : decode cX11_finish 36 = .ok (.iastore, 1) := by decide +kernel
theorem dX11_finish_37 : decode cX11_finish 37 = .ok (.iconst 1, 1) := by decide +kernel
theorem dX11_finish_38 : decode cX11_finish 38 = .ok (.ireturn, 1) := by decide +kernel
theorem dX11_mayChange_0 : decode cX11_mayChange 0 = .ok (.aload_n 0, 1) := by decide +kernel
theorem dX11_mayChange_1 : decode cX11_mayChange 1 = .ok (.iload_n 1, 1) := by decide +kernel
theorem dX11_mayChange_2 : decode cX11_mayChange 2 = .ok (.invokevirtual 166, 3) := by decide +kernel
theorem dX11_mayChange_5 : decode cX11_mayChange 5 = .ok (.ifCond .eq 47, 3) := by decide +kernel
theorem dX11_mayChange_8 : decode cX11_mayChange 8 = .ok (.aload_n 0, 1) := by decide +kernel
theorem dX11_mayChange_9 : decode cX11_mayChange 9 = .ok (.getfield 7, 3) := by decide +kernel
theorem dX11_mayChange_12 : decode cX11_mayChange 12 = .ok (.iload_n 1, 1) := by decide +kernel
theorem dX11_mayChange_13 : decode cX11_mayChange 13 = .ok (.iaload, 1) := by decide +kernel
theorem dX11_mayChange_14 : decode cX11_mayChange 14 = .ok (.ifCond .ne 38, 3) := by decide +kernel
theorem dX11_mayChange_17 : decode cX11_mayChange 17 = .ok (.aload_n 0, 1) := by decide +kernel
theorem dX11_mayChange_18 : decode cX11_mayChange 18 = .ok (.getfield 37, 3) := by decide +kernel
theorem dX11_mayChange_21 : decode cX11_mayChange 21 = .ok (.iload_n 1, 1) := by decide +kernel
theorem dX11_mayChange_22 : decode cX11_mayChange 22 = .ok (.iaload, 1) := by decide +kernel
theorem dX11_mayChange_23 : decode cX11_mayChange 23 = .ok (.iconst (-1), 1) := by decide +kernel
theorem dX11_mayChange_24 : decode cX11_mayChange 24 = .ok (.if_icmp .ne 28, 3) := by decide +kernel
theorem dX11_mayChange_27 : decode cX11_mayChange 27 = .ok (.aload_n 0, 1) := by decide +kernel
theorem dX11_mayChange_28 : decode cX11_mayChange 28 = .ok (.iload_n 1, 1) := by decide +kernel
theorem dX11_mayChange_29 : decode cX11_mayChange 29 = .ok (.iload_n 2, 1) := by decide +kernel
theorem dX11_mayChange_30 : decode cX11_mayChange 30 = .ok (.invokevirtual 169, 3) := by decide +kernel
theorem dX11_mayChange_33 : decode cX11_mayChange 33 = .ok (.ifCond .eq 19, 3) := by decide +kernel
theorem dX11_mayChange_36 : decode cX11_mayChange 36 = .ok (.iload_n 3, 1) := by decide +kernel
theorem dX11_mayChange_37 : decode cX11_mayChange 37 = .ok (.i2l, 1) := by decide +kernel
theorem dX11_mayChange_38 : decode cX11_mayChange 38 = .ok (.lconst 0, 1) := by decide +kernel
theorem dX11_mayChange_39 : decode cX11_mayChange 39 = .ok (.ldc2_w 173, 3) := by decide +kernel
theorem dX11_mayChange_42 : decode cX11_mayChange 42 = .ok (.invokestatic 110, 3) := by decide +kernel
theorem dX11_mayChange_45 : decode cX11_mayChange 45 = .ok (.ifCond .eq 7, 3) := by decide +kernel
theorem dX11_mayChange_48 : decode cX11_mayChange 48 = .ok (.iconst 1, 1) := by decide +kernel
theorem dX11_mayChange_49 : decode cX11_mayChange 49 = .ok (.goto 4, 3) := by decide +kernel
theorem dX11_mayChange_52 : decode cX11_mayChange 52 = .ok (.iconst 0, 1) := by decide +kernel
theorem dX11_mayChange_53 : decode cX11_mayChange 53 = .ok (.ireturn, 1) := by decide +kernel
theorem dX11_park_0 : decode cX11_park 0 = .ok (.iload 5, 2) := by decide +kernel
theorem dX11_park_2 : decode cX11_park 2 = .ok (.ifCond .ne 4, 3) := by decide +kernel
theorem dX11_park_5 : decode cX11_park 5 = .ok (.return_, 1) := by decide +kernel
theorem dX11_park_6 : decode cX11_park 6 = .ok (.iload 6, 2) := by decide +kernel
theorem dX11_park_8 : decode cX11_park 8 = .ok (.iconst (-1), 1) := by decide +kernel
theorem dX11_park_9 : decode cX11_park 9 = .ok (.if_icmp .eq 13, 3) := by decide +kernel
theorem dX11_park_12 : decode cX11_park 12 = .ok (.iload 4, 2) := by decide +kernel
theorem dX11_park_14 : decode cX11_park 14 = .ok (.iload 5, 2) := by decide +kernel
theorem dX11_park_16 : decode cX11_park 16 = .ok (.iadd, 1) := by decide +kernel
theorem dX11_park_17 : decode cX11_park 17 = .ok (.iload 6, 2) := by decide +kernel
theorem dX11_park_19 : decode cX11_park 19 = .ok (.if_icmp .ge 11, 3) := by decide +kernel
theorem dX11_park_22 : decode cX11_park 22 = .ok (.iload 4, 2) := by decide +kernel
theorem dX11_park_24 : decode cX11_park 24 = .ok (.iload 5, 2) := by decide +kernel
theorem dX11_park_26 : decode cX11_park 26 = .ok (.iadd, 1) := by decide +kernel
theorem dX11_park_27 : decode cX11_park 27 = .ok (.goto 5, 3) := by decide +kernel
theorem dX11_park_30 : decode cX11_park 30 = .ok (.iload 6, 2) := by decide +kernel
theorem dX11_park_32 : decode cX11_park 32 = .ok (.istore 7, 2) := by decide +kernel
theorem dX11_park_34 : decode cX11_park 34 = .ok (.aload_n 0, 1) := by decide +kernel
theorem dX11_park_35 : decode cX11_park 35 = .ok (.iconst 3, 1) := by decide +kernel
theorem dX11_park_36 : decode cX11_park 36 = .ok (.iload_n 3, 1) := by decide +kernel
theorem dX11_park_37 : decode cX11_park 37 = .ok (.aload_n 0, 1) := by decide +kernel
theorem dX11_park_38 : decode cX11_park 38 = .ok (.getfield 16, 3) := by decide +kernel
theorem dX11_park_41 : decode cX11_park 41 = .ok (.iload_n 1, 1) := by decide +kernel
theorem dX11_park_42 : decode cX11_park 42 = .ok (.iaload, 1) := by decide +kernel
theorem dX11_park_43 : decode cX11_park 43 = .ok (.iload_n 2, 1) := by decide +kernel
theorem dX11_park_44 : decode cX11_park 44 = .ok (.aload_n 0, 1) := by decide +kernel
theorem dX11_park_45 : decode cX11_park 45 = .ok (.getfield 22, 3) := by decide +kernel
theorem dX11_park_48 : decode cX11_park 48 = .ok (.iload_n 1, 1) := by decide +kernel
theorem dX11_park_49 : decode cX11_park 49 = .ok (.iaload, 1) := by decide +kernel
theorem dX11_park_50 : decode cX11_park 50 = .ok (.aload_n 0, 1) := by decide +kernel
theorem dX11_park_51 : decode cX11_park 51 = .ok (.getfield 22, 3) := by decide +kernel
theorem dX11_park_54 : decode cX11_park 54 = .ok (.iload_n 1, 1) := by decide +kernel
theorem dX11_park_55 : decode cX11_park 55 = .ok (.iaload, 1) := by decide +kernel
theorem dX11_park_56 : decode cX11_park 56 = .ok (.iload 4, 2) := by decide +kernel
theorem dX11_park_58 : decode cX11_park 58 = .ok (.iload 7, 2) := by decide +kernel
theorem dX11_park_60 : decode cX11_park 60 = .ok (.iload_n 1, 1) := by decide +kernel
theorem dX11_park_61 : decode cX11_park 61 = .ok (.invokevirtual 157, 3) := by decide +kernel
theorem dX11_park_64 : decode cX11_park 64 = .ok (.istore 8, 2) := by decide +kernel
theorem dX11_park_66 : decode cX11_park 66 = .ok (.return_, 1) := by decide +kernel
theorem dX11_split_0 : decode cX11_split 0 = .ok (.aload_n 0, 1) := by decide +kernel
theorem dX11_split_1 : decode cX11_split 1 = .ok (.iload_n 1, 1) := by decide +kernel
theorem dX11_split_2 : decode cX11_split 2 = .ok (.iload 5, 2) := by decide +kernel
theorem dX11_split_4 : decode cX11_split 4 = .ok (.iload 6, 2) := by decide +kernel
theorem dX11_split_6 : decode cX11_split 6 = .ok (.invokevirtual 175, 3) := by decide +kernel
theorem dX11_split_9 : decode cX11_split 9 = .ok (.ifCond .eq 49, 3) := by decide +kernel
theorem dX11_split_12 : decode cX11_split 12 = .ok (.iload_n 2, 1) := by decide +kernel
theorem dX11_split_13 : decode cX11_split 13 = .ok (.iconst 1, 1) := by decide +kernel
theorem dX11_split_14 : decode cX11_split 14 = .ok (.if_icmp .lt 44, 3) := by decide +kernel
theorem dX11_split_17 : decode cX11_split 17 = .ok (.iload_n 2, 1) := by decide +kernel
theorem dX11_split_18 : decode cX11_split 18 = .ok (.aload_n 0, 1) := by decide +kernel
theorem dX11_split_19 : decode cX11_split 19 = .ok (.getfield 19, 3) := by decide +kernel
theorem dX11_split_22 : decode cX11_split 22 = .ok (.iload_n 1, 1) := by decide +kernel
theorem dX11_split_23 : decode cX11_split 23 = .ok (.iaload, 1) := by decide +kernel
theorem dX11_split_24 : decode cX11_split 24 = .ok (.iconst (-1), 1) := by decide +kernel
theorem dX11_split_25 : decode cX11_split 25 = .ok (.ixor, 1) := by decide +kernel
theorem dX11_split_26 : decode cX11_split 26 = .ok (.iand, 1) := by decide +kernel
theorem dX11_split_27 : decode cX11_split 27 = .ok (.ifCond .ne 31, 3) := by decide +kernel
theorem dX11_split_30 : decode cX11_split 30 = .ok (.iload_n 3, 1) := by decide +kernel
theorem dX11_split_31 : decode cX11_split 31 = .ok (.invokestatic 139, 3) := by decide +kernel
theorem dX11_split_34 : decode cX11_split 34 = .ok (.i2l, 1) := by decide +kernel
theorem dX11_split_35 : decode cX11_split 35 = .ok (.lconst 1, 1) := by decide +kernel
theorem dX11_split_36 : decode cX11_split 36 = .ok (.ldc2_w 143, 3) := by decide +kernel
theorem dX11_split_39 : decode cX11_split 39 = .ok (.invokestatic 110, 3) := by decide +kernel
theorem dX11_split_42 : decode cX11_split 42 = .ok (.ifCond .eq 16, 3) := by decide +kernel
theorem dX11_split_45 : decode cX11_split 45 = .ok (.iload 4, 2) := by decide +kernel
theorem dX11_split_47 : decode cX11_split 47 = .ok (.i2l, 1) := by decide +kernel
theorem dX11_split_48 : decode cX11_split 48 = .ok (.lconst 0, 1) := by decide +kernel
theorem dX11_split_49 : decode cX11_split 49 = .ok (.ldc2_w 137, 3) := by decide +kernel
theorem dX11_split_52 : decode cX11_split 52 = .ok (.invokestatic 110, 3) := by decide +kernel
theorem dX11_split_55 : decode cX11_split 55 = .ok (.ifCond .ne 6, 3) := by decide +kernel
theorem dX11_split_58 : decode cX11_split 58 = .ok (.bipush (-2), 2) := by decide +kernel
theorem dX11_split_60 : decode cX11_split 60 = .ok (.ireturn, 1) := by decide +kernel
theorem dX11_split_61 : decode cX11_split 61 = .ok (.iload_n 3, 1) := by decide +kernel
theorem dX11_split_62 : decode cX11_split 62 = .ok (.invokestatic 139, 3) := by decide +kernel
theorem dX11_split_65 : decode cX11_split 65 = .ok (.aload_n 0, 1) := by decide +kernel
theorem dX11_split_66 : decode cX11_split 66 = .ok (.getfield 22, 3) := by decide +kernel
theorem dX11_split_69 : decode cX11_split 69 = .ok (.iload_n 1, 1) := by decide +kernel
theorem dX11_split_70 : decode cX11_split 70 = .ok (.iaload, 1) := by decide +kernel
theorem dX11_split_71 : decode cX11_split 71 = .ok (.iadd, 1) := by decide +kernel
theorem dX11_split_72 : decode cX11_split 72 = .ok (.aload_n 0, 1) := by decide +kernel
theorem dX11_split_73 : decode cX11_split 73 = .ok (.getfield 16, 3) := by decide +kernel
theorem dX11_split_76 : decode cX11_split 76 = .ok (.iload_n 1, 1) := by decide +kernel
theorem dX11_split_77 : decode cX11_split 77 = .ok (.iaload, 1) := by decide +kernel
theorem dX11_split_78 : decode cX11_split 78 = .ok (.invokestatic 139, 3) := by decide +kernel
theorem dX11_split_81 : decode cX11_split 81 = .ok (.isub, 1) := by decide +kernel
theorem dX11_split_82 : decode cX11_split 82 = .ok (.istore 7, 2) := by decide +kernel
theorem dX11_split_84 : decode cX11_split 84 = .ok (.iload 7, 2) := by decide +kernel
theorem dX11_split_86 : decode cX11_split 86 = .ok (.bipush 12, 2) := by decide +kernel
theorem dX11_split_88 : decode cX11_split 88 = .ok (.if_icmp .le 6, 3) := by decide +kernel
theorem dX11_split_91 : decode cX11_split 91 = .ok (.bipush (-2), 2) := by decide +kernel
theorem dX11_split_93 : decode cX11_split 93 = .ok (.ireturn, 1) := by decide +kernel
theorem dX11_split_94 : decode cX11_split 94 = .ok (.iload_n 2, 1) := by decide +kernel
theorem dX11_split_95 : decode cX11_split 95 = .ok (.aload_n 0, 1) := by decide +kernel
theorem dX11_split_96 : decode cX11_split 96 = .ok (.getfield 19, 3) := by decide +kernel
theorem dX11_split_99 : decode cX11_split 99 = .ok (.iload_n 1, 1) := by decide +kernel
theorem dX11_split_100 : decode cX11_split 100 = .ok (.iaload, 1) := by decide +kernel
theorem dX11_split_101 : decode cX11_split 101 = .ok (.if_icmp .ne 7, 3) := by decide +kernel
theorem dX11_split_104 : decode cX11_split 104 = .ok (.iconst 1, 1) := by decide +kernel
theorem dX11_split_105 : decode cX11_split 105 = .ok (.goto 4, 3) := by decide +kernel
theorem dX11_split_108 : decode cX11_split 108 = .ok (.iconst 0, 1) := by decide +kernel
theorem dX11_split_109 : decode cX11_split 109 = .ok (.istore 8, 2) := by decide +kernel
theorem dX11_split_111 : decode cX11_split 111 = .ok (.aload_n 0, 1) := by decide +kernel
theorem dX11_split_112 : decode cX11_split 112 = .ok (.getfield 130, 3) := by decide +kernel
theorem dX11_split_115 : decode cX11_split 115 = .ok (.iload 8, 2) := by decide +kernel
theorem dX11_split_117 : decode cX11_split 117 = .ok (.ifCond .eq 7, 3) := by decide +kernel
theorem dX11_split_120 : decode cX11_split 120 = .ok (.iconst 0, 1) := by decide +kernel
theorem dX11_split_121 : decode cX11_split 121 = .ok (.goto 4, 3) := by decide +kernel
theorem dX11_split_124 : decode cX11_split 124 = .ok (.iconst 1, 1) := by decide +kernel
theorem dX11_split_125 : decode cX11_split 125 = .ok (.iadd, 1) := by decide +kernel
theorem dX11_split_126 : decode cX11_split 126 = .ok (.iconst 1, 1) := by decide +kernel
theorem dX11_split_127 : decode cX11_split 127 = .ok (.iadd, 1) := by decide +kernel
theorem dX11_split_128 : decode cX11_split 128 = .ok (.iload 6, 2) := by decide +kernel
theorem dX11_split_130 : decode cX11_split 130 = .ok (.ifCond .le 7, 3) := by decide +kernel
theorem dX11_split_133 : decode cX11_split 133 = .ok (.iconst 1, 1) := by decide +kernel
theorem dX11_split_134 : decode cX11_split 134 = .ok (.goto 4, 3) := by decide +kernel
theorem dX11_split_137 : decode cX11_split 137 = .ok (.iconst 0, 1) := by decide +kernel
theorem dX11_split_138 : decode cX11_split 138 = .ok (.iadd, 1) := by decide +kernel
theorem dX11_split_139 : decode cX11_split 139 = .ok (.bipush 120, 2) := by decide +kernel
theorem dX11_split_141 : decode cX11_split 141 = .ok (.if_icmp .le 6, 3) := by decide +kernel
theorem dX11_split_144 : decode cX11_split 144 = .ok (.bipush (-3), 2) := by decide +kernel
theorem dX11_split_146 : decode cX11_split 146 = .ok (.ireturn, 1) := by decide +kernel
theorem dX11_split_147 : decode cX11_split 147 = .ok (.aload_n 0, 1) := by decide +kernel
theorem dX11_split_148 : decode cX11_split 148 = .ok (.getfield 31, 3) := by decide +kernel
theorem dX11_split_151 : decode cX11_split 151 = .ok (.iload_n 1, 1) := by decide +kernel
theorem dX11_split_152 : decode cX11_split 152 = .ok (.iaload, 1) := by decide +kernel
theorem dX11_split_153 : decode cX11_split 153 = .ok (.istore 9, 2) := by decide +kernel
theorem dX11_split_155 : decode cX11_split 155 = .ok (.aload_n 0, 1) := by decide +kernel
theorem dX11_split_156 : decode cX11_split 156 = .ok (.getfield 31, 3) := by decide +kernel
theorem dX11_split_159 : decode cX11_split 159 = .ok (.iload_n 1, 1) := by decide +kernel
theorem dX11_split_160 : decode cX11_split 160 = .ok (.iload 5, 2) := by decide +kernel
theorem dX11_split_162 : decode cX11_split 162 = .ok (.iastore, 1) := by decide +kernel
theorem dX11_split_163 : decode cX11_split 163 = .ok (.aload_n 0, 1) := by decide +kernel
theorem dX11_split_164 : decode cX11_split 164 = .ok (.getfield 37, 3) := by decide +kernel
theorem dX11_split_167 : decode cX11_split 167 = .ok (.iload_n 1, 1) := by decide +kernel
theorem dX11_split_168 : decode cX11_split 168 = .ok (.iload 5, 2) := by decide +kernel
theorem dX11_split_170 : decode cX11_split 170 = .ok (.iastore, 1) := by decide +kernel
theorem dX11_split_171 : decode cX11_split 171 = .ok (.aload_n 0, 1) := by decide +kernel
theorem dX11_split_172 : decode cX11_split 172 = .ok (.getfield 43, 3) := by decide +kernel
theorem dX11_split_175 : decode cX11_split 175 = .ok (.iload_n 1, 1) := by decide +kernel
theorem dX11_split_176 : decode cX11_split 176 = .ok (.iload_n 2, 1) := by decide +kernel
theorem dX11_split_177 : decode cX11_split 177 = .ok (.iastore, 1) := by decide +kernel
theorem dX11_split_178 : decode cX11_split 178 = .ok (.iload 8, 2) := by decide +kernel
theorem dX11_split_180 : decode cX11_split 180 = .ok (.ifCond .ne 53, 3) := by decide +kernel
theorem dX11_split_183 : decode cX11_split 183 = .ok (.aload_n 0, 1) := by decide +kernel
theorem dX11_split_184 : decode cX11_split 184 = .ok (.getfield 40, 3) := by decide +kernel
theorem dX11_split_187 : decode cX11_split 187 = .ok (.iload_n 1, 1) := by decide +kernel
theorem dX11_split_188 : decode cX11_split 188 = .ok (.aload_n 0, 1) := by decide +kernel
theorem dX11_split_189 : decode cX11_split 189 = .ok (.iconst 0, 1) := by decide +kernel
theorem dX11_split_190 : decode cX11_split 190 = .ok (.aload_n 0, 1) := by decide +kernel
theorem dX11_split_191 : decode cX11_split 191 = .ok (.getfield 13, 3) := by decide +kernel
theorem dX11_split_194 : decode cX11_split 194 = .ok (.iload_n 1, 1) := by decide +kernel
theorem dX11_split_195 : decode cX11_split 195 = .ok (.iaload, 1) := by decide +kernel
theorem dX11_split_196 : decode cX11_split 196 = .ok (.aload_n 0, 1) := by decide +kernel
theorem dX11_split_197 : decode cX11_split 197 = .ok (.getfield 16, 3) := by decide +kernel
theorem dX11_split_200 : decode cX11_split 200 = .ok (.iload_n 1, 1) := by decide +kernel
theorem dX11_split_201 : decode cX11_split 201 = .ok (.iaload, 1) := by decide +kernel
theorem dX11_split_202 : decode cX11_split 202 = .ok (.aload_n 0, 1) := by decide +kernel
theorem dX11_split_203 : decode cX11_split 203 = .ok (.getfield 19, 3) := by decide +kernel
theorem dX11_split_206 : decode cX11_split 206 = .ok (.iload_n 1, 1) := by decide +kernel
theorem dX11_split_207 : decode cX11_split 207 = .ok (.iaload, 1) := by decide +kernel
theorem dX11_split_208 : decode cX11_split 208 = .ok (.iload_n 2, 1) := by decide +kernel
theorem dX11_split_209 : decode cX11_split 209 = .ok (.iconst (-1), 1) := by decide +kernel
theorem dX11_split_210 : decode cX11_split 210 = .ok (.ixor, 1) := by decide +kernel
theorem dX11_split_211 : decode cX11_split 211 = .ok (.iand, 1) := by decide +kernel
theorem dX11_split_212 : decode cX11_split 212 = .ok (.aload_n 0, 1) := by decide +kernel
theorem dX11_split_213 : decode cX11_split 213 = .ok (.getfield 22, 3) := by decide +kernel
theorem dX11_split_216 : decode cX11_split 216 = .ok (.iload_n 1, 1) := by decide +kernel
theorem dX11_split_217 : decode cX11_split 217 = .ok (.iaload, 1) := by decide +kernel
theorem dX11_split_218 : decode cX11_split 218 = .ok (.aload_n 0, 1) := by decide +kernel
theorem dX11_split_219 : decode cX11_split 219 = .ok (.getfield 22, 3) := by decide +kernel
theorem dX11_split_222 : decode cX11_split 222 = .ok (.iload_n 1, 1) := by decide +kernel
theorem dX11_split_223 : decode cX11_split 223 = .ok (.iaload, 1) := by decide +kernel
theorem dX11_split_224 : decode cX11_split 224 = .ok (.iload 5, 2) := by decide +kernel
theorem dX11_split_226 : decode cX11_split 226 = .ok (.iload 9, 2) := by decide +kernel
theorem dX11_split_228 : decode cX11_split 228 = .ok (.iload_n 1, 1) := by decide +kernel
theorem dX11_split_229 : decode cX11_split 229 = .ok (.invokevirtual 157, 3) := by decide +kernel
theorem dX11_split_232 : decode cX11_split 232 = .ok (.iastore, 1) := by decide +kernel
theorem dX11_split_233 : decode cX11_split 233 = .ok (.aload_n 0, 1) := by decide +kernel
theorem dX11_split_234 : decode cX11_split 234 = .ok (.iconst 0, 1) := by decide +kernel
theorem dX11_split_235 : decode cX11_split 235 = .ok (.iload 4, 2) := by decide +kernel
theorem dX11_split_237 : decode cX11_split 237 = .ok (.iload_n 3, 1) := by decide +kernel
theorem dX11_split_238 : decode cX11_split 238 = .ok (.iload_n 2, 1) := by decide +kernel
theorem dX11_split_239 : decode cX11_split 239 = .ok (.iload 7, 2) := by decide +kernel
theorem dX11_split_241 : decode cX11_split 241 = .ok (.iload 7, 2) := by decide +kernel
theorem dX11_split_243 : decode cX11_split 243 = .ok (.iload 5, 2) := by decide +kernel
theorem dX11_split_245 : decode cX11_split 245 = .ok (.iload 9, 2) := by decide +kernel
theorem dX11_split_247 : decode cX11_split 247 = .ok (.iload_n 1, 1) := by decide +kernel
theorem dX11_split_248 : decode cX11_split 248 = .ok (.invokevirtual 157, 3) := by decide +kernel
theorem dX11_split_251 : decode cX11_split 251 = .ok (.istore 10, 2) := by decide +kernel
theorem dX11_split_253 : decode cX11_split 253 = .ok (.aload_n 0, 1) := by decide +kernel
theorem dX11_split_254 : decode cX11_split 254 = .ok (.getfield 46, 3) := by decide +kernel
theorem dX11_split_257 : decode cX11_split 257 = .ok (.iload_n 1, 1) := by decide +kernel
theorem dX11_split_258 : decode cX11_split 258 = .ok (.iload 10, 2) := by decide +kernel
theorem dX11_split_260 : decode cX11_split 260 = .ok (.iastore, 1) := by decide +kernel
theorem dX11_split_261 : decode cX11_split 261 = .ok (.aload_n 0, 1) := by decide +kernel
theorem dX11_split_262 : decode cX11_split 262 = .ok (.iload_n 1, 1) := by decide +kernel
theorem dX11_split_263 : decode cX11_split 263 = .ok (.iload_n 2, 1) := by decide +kernel
theorem dX11_split_264 : decode cX11_split 264 = .ok (.iload 10, 2) := by decide +kernel
theorem dX11_split_266 : decode cX11_split 266 = .ok (.iload 5, 2) := by decide +kernel
theorem dX11_split_268 : decode cX11_split 268 = .ok (.iload 6, 2) := by decide +kernel
theorem dX11_split_270 : decode cX11_split 270 = .ok (.iload 9, 2) := by decide +kernel
theorem dX11_split_272 : decode cX11_split 272 = .ok (.invokevirtual 179, 3) := by decide +kernel
theorem dX11_split_275 : decode cX11_split 275 = .ok (.iload 10, 2) := by decide +kernel
theorem dX11_split_277 : decode cX11_split 277 = .ok (.ireturn, 1) := by decide +kernel
theorem dX11_lengthen_0 : decode cX11_lengthen 0 = .ok (.aload_n 0, 1) := by decide +kernel
theorem dX11_lengthen_1 : decode cX11_lengthen 1 = .ok (.iload_n 1, 1) := by decide +kernel
theorem dX11_lengthen_2 : decode cX11_lengthen 2 = .ok (.iload_n 3, 1) := by decide +kernel
theorem dX11_lengthen_3 : decode cX11_lengthen 3 = .ok (.iload 4, 2) := by decide +kernel
theorem dX11_lengthen_5 : decode cX11_lengthen 5 = .ok (.invokevirtual 175, 3) := by decide +kernel
theorem dX11_lengthen_8 : decode cX11_lengthen 8 = .ok (.ifCond .eq 40, 3) := by decide +kernel
theorem dX11_lengthen_11 : decode cX11_lengthen 11 = .ok (.iload_n 2, 1) := by decide +kernel
theorem dX11_lengthen_12 : decode cX11_lengthen 12 = .ok (.i2l, 1) := by decide +kernel
theorem dX11_lengthen_13 : decode cX11_lengthen 13 = .ok (.lconst 0, 1) := by decide +kernel
theorem dX11_lengthen_14 : decode cX11_lengthen 14 = .ok (.ldc2_w 118, 3) := by decide +kernel
theorem dX11_lengthen_17 : decode cX11_lengthen 17 = .ok (.invokestatic 110, 3) := by decide +kernel
theorem dX11_lengthen_20 : decode cX11_lengthen 20 = .ok (.ifCond .eq 28, 3) := by decide +kernel
theorem dX11_lengthen_23 : decode cX11_lengthen 23 = .ok (.aload_n 0, 1) := by decide +kernel
theorem dX11_lengthen_24 : decode cX11_lengthen 24 = .ok (.getfield 16, 3) := by decide +kernel
theorem dX11_lengthen_27 : decode cX11_lengthen 27 = .ok (.iload_n 1, 1) := by decide +kernel
theorem dX11_lengthen_28 : decode cX11_lengthen 28 = .ok (.iaload, 1) := by decide +kernel
theorem dX11_lengthen_29 : decode cX11_lengthen 29 = .ok (.invokestatic 139, 3) := by decide +kernel
theorem dX11_lengthen_32 : decode cX11_lengthen 32 = .ok (.bipush 7, 2) := by decide +kernel
theorem dX11_lengthen_34 : decode cX11_lengthen 34 = .ok (.if_icmp .eq 14, 3) := by decide +kernel
theorem dX11_lengthen_37 : decode cX11_lengthen 37 = .ok (.aload_n 0, 1) := by decide +kernel
theorem dX11_lengthen_38 : decode cX11_lengthen 38 = .ok (.getfield 22, 3) := by decide +kernel
theorem dX11_lengthen_41 : decode cX11_lengthen 41 = .ok (.iload_n 1, 1) := by decide +kernel
theorem dX11_lengthen_42 : decode cX11_lengthen 42 = .ok (.iaload, 1) := by decide +kernel
theorem dX11_lengthen_43 : decode cX11_lengthen 43 = .ok (.bipush 12, 2) := by decide +kernel
theorem dX11_lengthen_45 : decode cX11_lengthen 45 = .ok (.if_icmp .ne 6, 3) := by decide +kernel
theorem dX11_lengthen_48 : decode cX11_lengthen 48 = .ok (.bipush (-2), 2) := by decide +kernel
theorem dX11_lengthen_50 : decode cX11_lengthen 50 = .ok (.ireturn, 1) := by decide +kernel
theorem dX11_lengthen_51 : decode cX11_lengthen 51 = .ok (.aload_n 0, 1) := by decide +kernel
theorem dX11_lengthen_52 : decode cX11_lengthen 52 = .ok (.getfield 130, 3) := by decide +kernel
theorem dX11_lengthen_55 : decode cX11_lengthen 55 = .ok (.iconst 1, 1) := by decide +kernel
theorem dX11_lengthen_56 : decode cX11_lengthen 56 = .ok (.iadd, 1) := by decide +kernel
theorem dX11_lengthen_57 : decode cX11_lengthen 57 = .ok (.iload 4, 2) := by decide +kernel
theorem dX11_lengthen_59 : decode cX11_lengthen 59 = .ok (.ifCond .le 7, 3) := by decide +kernel
theorem dX11_lengthen_62 : decode cX11_lengthen 62 = .ok (.iconst 1, 1) := by decide +kernel
theorem dX11_lengthen_63 : decode cX11_lengthen 63 = .ok (.goto 4, 3) := by decide +kernel
theorem dX11_lengthen_66 : decode cX11_lengthen 66 = .ok (.iconst 0, 1) := by decide +kernel
theorem dX11_lengthen_67 : decode cX11_lengthen 67 = .ok (.iadd, 1) := by decide +kernel
theorem dX11_lengthen_68 : decode cX11_lengthen 68 = .ok (.bipush 120, 2) := by decide +kernel
theorem dX11_lengthen_70 : decode cX11_lengthen 70 = .ok (.if_icmp .le 6, 3) := by decide +kernel
theorem dX11_lengthen_73 : decode cX11_lengthen 73 = .ok (.bipush (-3), 2) := by decide +kernel
theorem dX11_lengthen_75 : decode cX11_lengthen 75 = .ok (.ireturn, 1) := by decide +kernel
theorem dX11_lengthen_76 : decode cX11_lengthen 76 = .ok (.aload_n 0, 1) := by decide +kernel
theorem dX11_lengthen_77 : decode cX11_lengthen 77 = .ok (.getfield 31, 3) := by decide +kernel
theorem dX11_lengthen_80 : decode cX11_lengthen 80 = .ok (.iload_n 1, 1) := by decide +kernel
theorem dX11_lengthen_81 : decode cX11_lengthen 81 = .ok (.iaload, 1) := by decide +kernel
theorem dX11_lengthen_82 : decode cX11_lengthen 82 = .ok (.istore 5, 2) := by decide +kernel
theorem dX11_lengthen_84 : decode cX11_lengthen 84 = .ok (.aload_n 0, 1) := by decide +kernel
theorem dX11_lengthen_85 : decode cX11_lengthen 85 = .ok (.getfield 31, 3) := by decide +kernel
theorem dX11_lengthen_88 : decode cX11_lengthen 88 = .ok (.iload_n 1, 1) := by decide +kernel
theorem dX11_lengthen_89 : decode cX11_lengthen 89 = .ok (.iload_n 3, 1) := by decide +kernel
theorem dX11_lengthen_90 : decode cX11_lengthen 90 = .ok (.iastore, 1) := by decide +kernel
theorem dX11_lengthen_91 : decode cX11_lengthen 91 = .ok (.aload_n 0, 1) := by decide +kernel
theorem dX11_lengthen_92 : decode cX11_lengthen 92 = .ok (.getfield 37, 3) := by decide +kernel
theorem dX11_lengthen_95 : decode cX11_lengthen 95 = .ok (.iload_n 1, 1) := by decide +kernel
theorem dX11_lengthen_96 : decode cX11_lengthen 96 = .ok (.iload_n 3, 1) := by decide +kernel
theorem dX11_lengthen_97 : decode cX11_lengthen 97 = .ok (.iastore, 1) := by decide +kernel
theorem dX11_lengthen_98 : decode cX11_lengthen 98 = .ok (.aload_n 0, 1) := by decide +kernel
theorem dX11_lengthen_99 : decode cX11_lengthen 99 = .ok (.getfield 43, 3) := by decide +kernel
theorem dX11_lengthen_102 : decode cX11_lengthen 102 = .ok (.iload_n 1, 1) := by decide +kernel
theorem dX11_lengthen_103 : decode cX11_lengthen 103 = .ok (.aload_n 0, 1) := by decide +kernel
theorem dX11_lengthen_104 : decode cX11_lengthen 104 = .ok (.getfield 19, 3) := by decide +kernel
theorem dX11_lengthen_107 : decode cX11_lengthen 107 = .ok (.iload_n 1, 1) := by decide +kernel
theorem dX11_lengthen_108 : decode cX11_lengthen 108 = .ok (.iaload, 1) := by decide +kernel
theorem dX11_lengthen_109 : decode cX11_lengthen 109 = .ok (.iastore, 1) := by decide +kernel
theorem dX11_lengthen_110 : decode cX11_lengthen 110 = .ok (.aload_n 0, 1) := by decide +kernel
theorem dX11_lengthen_111 : decode cX11_lengthen 111 = .ok (.iconst 0, 1) := by decide +kernel
theorem dX11_lengthen_112 : decode cX11_lengthen 112 = .ok (.aload_n 0, 1) := by decide +kernel
theorem dX11_lengthen_113 : decode cX11_lengthen 113 = .ok (.getfield 13, 3) := by decide +kernel
theorem dX11_lengthen_116 : decode cX11_lengthen 116 = .ok (.iload_n 1, 1) := by decide +kernel
theorem dX11_lengthen_117 : decode cX11_lengthen 117 = .ok (.iaload, 1) := by decide +kernel
theorem dX11_lengthen_118 : decode cX11_lengthen 118 = .ok (.bipush 10, 2) := by decide +kernel
theorem dX11_lengthen_120 : decode cX11_lengthen 120 = .ok (.aload_n 0, 1) := by decide +kernel
theorem dX11_lengthen_121 : decode cX11_lengthen 121 = .ok (.getfield 16, 3) := by decide +kernel
theorem dX11_lengthen_124 : decode cX11_lengthen 124 = .ok (.iload_n 1, 1) := by decide +kernel
theorem dX11_lengthen_125 : decode cX11_lengthen 125 = .ok (.iaload, 1) := by decide +kernel
theorem dX11_lengthen_126 : decode cX11_lengthen 126 = .ok (.imul, 1) := by decide +kernel
