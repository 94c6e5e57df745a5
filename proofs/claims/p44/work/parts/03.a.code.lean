theorem dX0_init_0 : decode cX0_init 0 = .ok (.aload_n 0, 1) := by decide +kernel
theorem dX0_init_1 : decode cX0_init 1 = .ok (.invokespecial 3, 3) := by decide +kernel
theorem dX0_init_4 : decode cX0_init 4 = .ok (.aload_n 0, 1) := by decide +kernel
theorem dX0_init_5 : decode cX0_init 5 = .ok (.new 9, 3) := by decide +kernel
theorem dX0_init_8 : decode cX0_init 8 = .ok (.dup, 1) := by decide +kernel
theorem dX0_init_9 : decode cX0_init 9 = .ok (.bipush 30, 2) := by decide +kernel
theorem dX0_init_11 : decode cX0_init 11 = .ok (.iconst 0, 1) := by decide +kernel
theorem dX0_init_12 : decode cX0_init 12 = .ok (.invokespecial 11, 3) := by decide +kernel
theorem dX0_init_15 : decode cX0_init 15 = .ok (.putfield 14, 3) := by decide +kernel
theorem dX0_init_18 : decode cX0_init 18 = .ok (.aload_n 0, 1) := by decide +kernel
theorem dX0_init_19 : decode cX0_init 19 = .ok (.new 9, 3) := by decide +kernel
theorem dX0_init_22 : decode cX0_init 22 = .ok (.dup, 1) := by decide +kernel
theorem dX0_init_23 : decode cX0_init 23 = .ok (.bipush 30, 2) := by decide +kernel
theorem dX0_init_25 : decode cX0_init 25 = .ok (.iconst 0, 1) := by decide +kernel
theorem dX0_init_26 : decode cX0_init 26 = .ok (.invokespecial 11, 3) := by decide +kernel
theorem dX0_init_29 : decode cX0_init 29 = .ok (.putfield 20, 3) := by decide +kernel
theorem dX0_init_32 : decode cX0_init 32 = .ok (.aload_n 0, 1) := by decide +kernel
theorem dX0_init_33 : decode cX0_init 33 = .ok (.new 9, 3) := by decide +kernel
theorem dX0_init_36 : decode cX0_init 36 = .ok (.dup, 1) := by decide +kernel
theorem dX0_init_37 : decode cX0_init 37 = .ok (.bipush 30, 2) := by decide +kernel
theorem dX0_init_39 : decode cX0_init 39 = .ok (.iconst 0, 1) := by decide +kernel
theorem dX0_init_40 : decode cX0_init 40 = .ok (.invokespecial 11, 3) := by decide +kernel
theorem dX0_init_43 : decode cX0_init 43 = .ok (.putfield 23, 3) := by decide +kernel
theorem dX0_init_46 : decode cX0_init 46 = .ok (.aload_n 0, 1) := by decide +kernel
theorem dX0_init_47 : decode cX0_init 47 = .ok (.new 9, 3) := by decide +kernel
theorem dX0_init_50 : decode cX0_init 50 = .ok (.dup, 1) := by decide +kernel
theorem dX0_init_51 : decode cX0_init 51 = .ok (.bipush 30, 2) := by decide +kernel
theorem dX0_init_53 : decode cX0_init 53 = .ok (.iconst 0, 1) := by decide +kernel
theorem dX0_init_54 : decode cX0_init 54 = .ok (.invokespecial 11, 3) := by decide +kernel
theorem dX0_init_57 : decode cX0_init 57 = .ok (.putfield 26, 3) := by decide +kernel
theorem dX0_init_60 : decode cX0_init 60 = .ok (.aload_n 0, 1) := by decide +kernel
theorem dX0_init_61 : decode cX0_init 61 = .ok (.new 9, 3) := by decide +kernel
theorem dX0_init_64 : decode cX0_init 64 = .ok (.dup, 1) := by decide +kernel
theorem dX0_init_65 : decode cX0_init 65 = .ok (.bipush 30, 2) := by decide +kernel
theorem dX0_init_67 : decode cX0_init 67 = .ok (.iconst 0, 1) := by decide +kernel
theorem dX0_init_68 : decode cX0_init 68 = .ok (.invokespecial 11, 3) := by decide +kernel
theorem dX0_init_71 : decode cX0_init 71 = .ok (.putfield 29, 3) := by decide +kernel
theorem dX0_init_74 : decode cX0_init 74 = .ok (.aload_n 0, 1) := by decide +kernel
theorem dX0_init_75 : decode cX0_init 75 = .ok (.new 9, 3) := by decide +kernel
theorem dX0_init_78 : decode cX0_init 78 = .ok (.dup, 1) := by decide +kernel
theorem dX0_init_79 : decode cX0_init 79 = .ok (.bipush 30, 2) := by decide +kernel
theorem dX0_init_81 : decode cX0_init 81 = .ok (.iconst 0, 1) := by decide +kernel
theorem dX0_init_82 : decode cX0_init 82 = .ok (.invokespecial 11, 3) := by decide +kernel
theorem dX0_init_85 : decode cX0_init 85 = .ok (.putfield 32, 3) := by decide +kernel
theorem dX0_init_88 : decode cX0_init 88 = .ok (.return_, 1) := by decide +kernel
theorem dX0_add_0 : decode cX0_add 0 = .ok (.aload_n 0, 1) := by decide +kernel
theorem dX0_add_1 : decode cX0_add 1 = .ok (.getfield 35, 3) := by decide +kernel
theorem dX0_add_4 : decode cX0_add 4 = .ok (.istore 7, 2) := by decide +kernel
theorem dX0_add_6 : decode cX0_add 6 = .ok (.aload_n 0, 1) := by decide +kernel
theorem dX0_add_7 : decode cX0_add 7 = .ok (.getfield 14, 3) := by decide +kernel
theorem dX0_add_10 : decode cX0_add 10 = .ok (.iload 7, 2) := by decide +kernel
theorem dX0_add_12 : decode cX0_add 12 = .ok (.iload_n 1, 1) := by decide +kernel
theorem dX0_add_13 : decode cX0_add 13 = .ok (.invokevirtual 39, 3) := by decide +kernel
theorem dX0_add_16 : decode cX0_add 16 = .ok (.aload_n 0, 1) := by decide +kernel
theorem dX0_add_17 : decode cX0_add 17 = .ok (.getfield 20, 3) := by decide +kernel
theorem dX0_add_20 : decode cX0_add 20 = .ok (.iload 7, 2) := by decide +kernel
theorem dX0_add_22 : decode cX0_add 22 = .ok (.iload_n 2, 1) := by decide +kernel
theorem dX0_add_23 : decode cX0_add 23 = .ok (.invokevirtual 39, 3) := by decide +kernel
theorem dX0_add_26 : decode cX0_add 26 = .ok (.aload_n 0, 1) := by decide +kernel
theorem dX0_add_27 : decode cX0_add 27 = .ok (.getfield 23, 3) := by decide +kernel
theorem dX0_add_30 : decode cX0_add 30 = .ok (.iload 7, 2) := by decide +kernel
theorem dX0_add_32 : decode cX0_add 32 = .ok (.iload_n 3, 1) := by decide +kernel
theorem dX0_add_33 : decode cX0_add 33 = .ok (.invokevirtual 39, 3) := by decide +kernel
theorem dX0_add_36 : decode cX0_add 36 = .ok (.aload_n 0, 1) := by decide +kernel
theorem dX0_add_37 : decode cX0_add 37 = .ok (.getfield 26, 3) := by decide +kernel
theorem dX0_add_40 : decode cX0_add 40 = .ok (.iload 7, 2) := by decide +kernel
theorem dX0_add_42 : decode cX0_add 42 = .ok (.iload 4, 2) := by decide +kernel
theorem dX0_add_44 : decode cX0_add 44 = .ok (.invokevirtual 39, 3) := by decide +kernel
theorem dX0_add_47 : decode cX0_add 47 = .ok (.aload_n 0, 1) := by decide +kernel
theorem dX0_add_48 : decode cX0_add 48 = .ok (.getfield 29, 3) := by decide +kernel
theorem dX0_add_51 : decode cX0_add 51 = .ok (.iload 7, 2) := by decide +kernel
theorem dX0_add_53 : decode cX0_add 53 = .ok (.iload 5, 2) := by decide +kernel
theorem dX0_add_55 : decode cX0_add 55 = .ok (.invokevirtual 39, 3) := by decide +kernel
theorem dX0_add_58 : decode cX0_add 58 = .ok (.aload_n 0, 1) := by decide +kernel
theorem dX0_add_59 : decode cX0_add 59 = .ok (.getfield 32, 3) := by decide +kernel
theorem dX0_add_62 : decode cX0_add 62 = .ok (.iload 7, 2) := by decide +kernel
theorem dX0_add_64 : decode cX0_add 64 = .ok (.iload 6, 2) := by decide +kernel
theorem dX0_add_66 : decode cX0_add 66 = .ok (.invokevirtual 39, 3) := by decide +kernel
theorem dX0_add_69 : decode cX0_add 69 = .ok (.aload_n 0, 1) := by decide +kernel
theorem dX0_add_70 : decode cX0_add 70 = .ok (.dup, 1) := by decide +kernel
theorem dX0_add_71 : decode cX0_add 71 = .ok (.getfield 35, 3) := by decide +kernel
theorem dX0_add_74 : decode cX0_add 74 = .ok (.iconst 1, 1) := by decide +kernel
theorem dX0_add_75 : decode cX0_add 75 = .ok (.iadd, 1) := by decide +kernel
theorem dX0_add_76 : decode cX0_add 76 = .ok (.putfield 35, 3) := by decide +kernel
theorem dX0_add_79 : decode cX0_add 79 = .ok (.iload 7, 2) := by decide +kernel
theorem dX0_add_81 : decode cX0_add 81 = .ok (.ireturn, 1) := by decide +kernel
theorem dX1_init_0 : decode cX1_init 0 = .ok (.aload_n 0, 1) := by decide +kernel
theorem dX1_init_1 : decode cX1_init 1 = .ok (.invokespecial 3, 3) := by decide +kernel
theorem dX1_init_4 : decode cX1_init 4 = .ok (.aload_n 0, 1) := by decide +kernel
theorem dX1_init_5 : decode cX1_init 5 = .ok (.new 9, 3) := by decide +kernel
theorem dX1_init_8 : decode cX1_init 8 = .ok (.dup, 1) := by decide +kernel
theorem dX1_init_9 : decode cX1_init 9 = .ok (.bipush 12, 2) := by decide +kernel
theorem dX1_init_11 : decode cX1_init 11 = .ok (.iconst 0, 1) := by decide +kernel
theorem dX1_init_12 : decode cX1_init 12 = .ok (.invokespecial 11, 3) := by decide +kernel
theorem dX1_init_15 : decode cX1_init 15 = .ok (.putfield 14, 3) := by decide +kernel
theorem dX1_init_18 : decode cX1_init 18 = .ok (.aload_n 0, 1) := by decide +kernel
theorem dX1_init_19 : decode cX1_init 19 = .ok (.new 9, 3) := by decide +kernel
theorem dX1_init_22 : decode cX1_init 22 = .ok (.dup, 1) := by decide +kernel
theorem dX1_init_23 : decode cX1_init 23 = .ok (.bipush 12, 2) := by decide +kernel
theorem dX1_init_25 : decode cX1_init 25 = .ok (.iconst 0, 1) := by decide +kernel
theorem dX1_init_26 : decode cX1_init 26 = .ok (.invokespecial 11, 3) := by decide +kernel
theorem dX1_init_29 : decode cX1_init 29 = .ok (.putfield 20, 3) := by decide +kernel
theorem dX1_init_32 : decode cX1_init 32 = .ok (.return_, 1) := by decide +kernel
theorem dX1_add_0 : decode cX1_add 0 = .ok (.aload_n 0, 1) := by decide +kernel
theorem dX1_add_1 : decode cX1_add 1 = .ok (.getfield 23, 3) := by decide +kernel
theorem dX1_add_4 : decode cX1_add 4 = .ok (.istore_n 1, 1) := by decide +kernel
theorem dX1_add_5 : decode cX1_add 5 = .ok (.aload_n 0, 1) := by decide +kernel
theorem dX1_add_6 : decode cX1_add 6 = .ok (.dup, 1) := by decide +kernel
theorem dX1_add_7 : decode cX1_add 7 = .ok (.getfield 23, 3) := by decide +kernel
theorem dX1_add_10 : decode cX1_add 10 = .ok (.iconst 1, 1) := by decide +kernel
theorem dX1_add_11 : decode cX1_add 11 = .ok (.iadd, 1) := by decide +kernel
theorem dX1_add_12 : decode cX1_add 12 = .ok (.putfield 23, 3) := by decide +kernel
theorem dX1_add_15 : decode cX1_add 15 = .ok (.iload_n 1, 1) := by decide +kernel
theorem dX1_add_16 : decode cX1_add 16 = .ok (.ireturn, 1) := by decide +kernel
theorem dX1_part_0 : decode cX1_part 0 = .ok (.aload_n 0, 1) := by decide +kernel
theorem dX1_part_1 : decode cX1_part 1 = .ok (.getfield 20, 3) := by decide +kernel
theorem dX1_part_4 : decode cX1_part 4 = .ok (.iload_n 1, 1) := by decide +kernel
theorem dX1_part_5 : decode cX1_part 5 = .ok (.aload_n 0, 1) := by decide +kernel
theorem dX1_part_6 : decode cX1_part 6 = .ok (.getfield 20, 3) := by decide +kernel
theorem dX1_part_9 : decode cX1_part 9 = .ok (.iload_n 1, 1) := by decide +kernel
theorem dX1_part_10 : decode cX1_part 10 = .ok (.invokevirtual 27, 3) := by decide +kernel
theorem dX1_part_13 : decode cX1_part 13 = .ok (.iconst 1, 1) := by decide +kernel
theorem dX1_part_14 : decode cX1_part 14 = .ok (.iload_n 2, 1) := by decide +kernel
theorem dX1_part_15 : decode cX1_part 15 = .ok (.ishl, 1) := by decide +kernel
theorem dX1_part_16 : decode cX1_part 16 = .ok (.ior, 1) := by decide +kernel
theorem dX1_part_17 : decode cX1_part 17 = .ok (.invokevirtual 31, 3) := by decide +kernel
theorem dX1_part_20 : decode cX1_part 20 = .ok (.aload_n 0, 1) := by decide +kernel
theorem dX1_part_21 : decode cX1_part 21 = .ok (.getfield 20, 3) := by decide +kernel
theorem dX1_part_24 : decode cX1_part 24 = .ok (.iload_n 2, 1) := by decide +kernel
theorem dX1_part_25 : decode cX1_part 25 = .ok (.aload_n 0, 1) := by decide +kernel
theorem dX1_part_26 : decode cX1_part 26 = .ok (.getfield 20, 3) := by decide +kernel
theorem dX1_part_29 : decode cX1_part 29 = .ok (.iload_n 2, 1) := by decide +kernel
theorem dX1_part_30 : decode cX1_part 30 = .ok (.invokevirtual 27, 3) := by decide +kernel
theorem dX1_part_33 : decode cX1_part 33 = .ok (.iconst 1, 1) := by decide +kernel
theorem dX1_part_34 : decode cX1_part 34 = .ok (.iload_n 1, 1) := by decide +kernel
theorem dX1_part_35 : decode cX1_part 35 = .ok (.ishl, 1) := by decide +kernel
theorem dX1_part_36 : decode cX1_part 36 = .ok (.ior, 1) := by decide +kernel
theorem dX1_part_37 : decode cX1_part 37 = .ok (.invokevirtual 31, 3) := by decide +kernel
theorem dX1_part_40 : decode cX1_part 40 = .ok (.aload_n 0, 1) := by decide +kernel
theorem dX1_part_41 : decode cX1_part 41 = .ok (.dup, 1) := by decide +kernel
theorem dX1_part_42 : decode cX1_part 42 = .ok (.getfield 34, 3) := by decide +kernel
theorem dX1_part_45 : decode cX1_part 45 = .ok (.iconst 1, 1) := by decide +kernel
theorem dX1_part_46 : decode cX1_part 46 = .ok (.iadd, 1) := by decide +kernel
theorem dX1_part_47 : decode cX1_part 47 = .ok (.putfield 34, 3) := by decide +kernel
theorem dX1_part_50 : decode cX1_part 50 = .ok (.aload_n 0, 1) := by decide +kernel
theorem dX1_part_51 : decode cX1_part 51 = .ok (.getfield 34, 3) := by decide +kernel
theorem dX1_part_54 : decode cX1_part 54 = .ok (.ireturn, 1) := by decide +kernel
theorem dX1_heldBy_0 : decode cX1_heldBy 0 = .ok (.iconst 0, 1) := by decide +kernel
theorem dX1_heldBy_1 : decode cX1_heldBy 1 = .ok (.istore_n 2, 1) := by decide +kernel
theorem dX1_heldBy_2 : decode cX1_heldBy 2 = .ok (.iconst 0, 1) := by decide +kernel
theorem dX1_heldBy_3 : decode cX1_heldBy 3 = .ok (.istore_n 3, 1) := by decide +kernel
theorem dX1_heldBy_4 : decode cX1_heldBy 4 = .ok (.iload_n 3, 1) := by decide +kernel
theorem dX1_heldBy_5 : decode cX1_heldBy 5 = .ok (.aload_n 0, 1) := by decide +kernel
theorem dX1_heldBy_6 : decode cX1_heldBy 6 = .ok (.getfield 23, 3) := by decide +kernel
theorem dX1_heldBy_9 : decode cX1_heldBy 9 = .ok (.if_icmp .ge 28, 3) := by decide +kernel
theorem dX1_heldBy_12 : decode cX1_heldBy 12 = .ok (.iload_n 1, 1) := by decide +kernel
theorem dX1_heldBy_13 : decode cX1_heldBy 13 = .ok (.iload_n 3, 1) := by decide +kernel
theorem dX1_heldBy_14 : decode cX1_heldBy 14 = .ok (.invokestatic 37, 3) := by decide +kernel
theorem dX1_heldBy_17 : decode cX1_heldBy 17 = .ok (.ifCond .eq 14, 3) := by decide +kernel
theorem dX1_heldBy_20 : decode cX1_heldBy 20 = .ok (.iload_n 2, 1) := by decide +kernel
theorem dX1_heldBy_21 : decode cX1_heldBy 21 = .ok (.aload_n 0, 1) := by decide +kernel
theorem dX1_heldBy_22 : decode cX1_heldBy 22 = .ok (.getfield 14, 3) := by decide +kernel
theorem dX1_heldBy_25 : decode cX1_heldBy 25 = .ok (.iload_n 3, 1) := by decide +kernel
theorem dX1_heldBy_26 : decode cX1_heldBy 26 = .ok (.invokevirtual 27, 3) := by decide +kernel
theorem dX1_heldBy_29 : decode cX1_heldBy 29 = .ok (.ior, 1) := by decide +kernel
theorem dX1_heldBy_30 : decode cX1_heldBy 30 = .ok (.istore_n 2, 1) := by decide +kernel
theorem dX1_heldBy_31 : decode cX1_heldBy 31 = .ok (.iinc 3 1, 3) := by decide +kernel
theorem dX1_heldBy_34 : decode cX1_heldBy 34 = .ok (.goto (-30), 3) := by decide +kernel
theorem dX1_heldBy_37 : decode cX1_heldBy 37 = .ok (.iload_n 2, 1) := by decide +kernel
theorem dX1_heldBy_38 : decode cX1_heldBy 38 = .ok (.ireturn, 1) := by decide +kernel
theorem dX1_hadWith_0 : decode cX1_hadWith 0 = .ok (.iload_n 1, 1) := by decide +kernel
theorem dX1_hadWith_1 : decode cX1_hadWith 1 = .ok (.istore_n 2, 1) := by decide +kernel
theorem dX1_hadWith_2 : decode cX1_hadWith 2 = .ok (.iload_n 1, 1) := by decide +kernel
theorem dX1_hadWith_3 : decode cX1_hadWith 3 = .ok (.istore_n 3, 1) := by decide +kernel
theorem dX1_hadWith_4 : decode cX1_hadWith 4 = .ok (.iconst 0, 1) := by decide +kernel
theorem dX1_hadWith_5 : decode cX1_hadWith 5 = .ok (.istore 4, 2) := by decide +kernel
theorem dX1_hadWith_7 : decode cX1_hadWith 7 = .ok (.iload 4, 2) := by decide +kernel
theorem dX1_hadWith_9 : decode cX1_hadWith 9 = .ok (.bipush 12, 2) := by decide +kernel
theorem dX1_hadWith_11 : decode cX1_hadWith 11 = .ok (.if_icmp .ge 27, 3) := by decide +kernel
theorem dX1_hadWith_14 : decode cX1_hadWith 14 = .ok (.iload_n 3, 1) := by decide +kernel
theorem dX1_hadWith_15 : decode cX1_hadWith 15 = .ok (.ifCond .eq 23, 3) := by decide +kernel
theorem dX1_hadWith_18 : decode cX1_hadWith 18 = .ok (.aload_n 0, 1) := by decide +kernel
theorem dX1_hadWith_19 : decode cX1_hadWith 19 = .ok (.iload_n 3, 1) := by decide +kernel
theorem dX1_hadWith_20 : decode cX1_hadWith 20 = .ok (.invokevirtual 41, 3) := by decide +kernel
theorem dX1_hadWith_23 : decode cX1_hadWith 23 = .ok (.iload_n 2, 1) := by decide +kernel
theorem dX1_hadWith_24 : decode cX1_hadWith 24 = .ok (.iconst (-1), 1) := by decide +kernel
theorem dX1_hadWith_25 : decode cX1_hadWith 25 = .ok (.ixor, 1) := by decide +kernel
theorem dX1_hadWith_26 : decode cX1_hadWith 26 = .ok (.iand, 1) := by decide +kernel
theorem dX1_hadWith_27 : decode cX1_hadWith 27 = .ok (.istore_n 3, 1) := by decide +kernel
theorem dX1_hadWith_28 : decode cX1_hadWith 28 = .ok (.iload_n 2, 1) := by decide +kernel
theorem dX1_hadWith_29 : decode cX1_hadWith 29 = .ok (.iload_n 3, 1) := by decide +kernel
theorem dX1_hadWith_30 : decode cX1_hadWith 30 = .ok (.ior, 1) := by decide +kernel
theorem dX1_hadWith_31 : decode cX1_hadWith 31 = .ok (.istore_n 2, 1) := by decide +kernel
theorem dX1_hadWith_32 : decode cX1_hadWith 32 = .ok (.iinc 4 1, 3) := by decide +kernel
theorem dX1_hadWith_35 : decode cX1_hadWith 35 = .ok (.goto (-28), 3) := by decide +kernel
theorem dX1_hadWith_38 : decode cX1_hadWith 38 = .ok (.iload_n 2, 1) := by decide +kernel
theorem dX1_hadWith_39 : decode cX1_hadWith 39 = .ok (.ireturn, 1) := by decide +kernel
theorem dX1_nearBy_0 : decode cX1_nearBy 0 = .ok (.iload_n 1, 1) := by decide +kernel
theorem dX1_nearBy_1 : decode cX1_nearBy 1 = .ok (.istore_n 3, 1) := by decide +kernel
theorem dX1_nearBy_2 : decode cX1_nearBy 2 = .ok (.iconst 1, 1) := by decide +kernel
theorem dX1_nearBy_3 : decode cX1_nearBy 3 = .ok (.istore 4, 2) := by decide +kernel
theorem dX1_nearBy_5 : decode cX1_nearBy 5 = .ok (.iload 4, 2) := by decide +kernel
theorem dX1_nearBy_7 : decode cX1_nearBy 7 = .ok (.bipush 12, 2) := by decide +kernel
theorem dX1_nearBy_9 : decode cX1_nearBy 9 = .ok (.if_icmp .gt 30, 3) := by decide +kernel
theorem dX1_nearBy_12 : decode cX1_nearBy 12 = .ok (.iload_n 3, 1) := by decide +kernel
theorem dX1_nearBy_13 : decode cX1_nearBy 13 = .ok (.ifCond .eq 26, 3) := by decide +kernel
theorem dX1_nearBy_16 : decode cX1_nearBy 16 = .ok (.iload_n 3, 1) := by decide +kernel
theorem dX1_nearBy_17 : decode cX1_nearBy 17 = .ok (.iload_n 2, 1) := by decide +kernel
theorem dX1_nearBy_18 : decode cX1_nearBy 18 = .ok (.invokestatic 37, 3) := by decide +kernel
theorem dX1_nearBy_21 : decode cX1_nearBy 21 = .ok (.ifCond .eq 6, 3) := by decide +kernel
theorem dX1_nearBy_24 : decode cX1_nearBy 24 = .ok (.iload 4, 2) := by decide +kernel
theorem dX1_nearBy_26 : decode cX1_nearBy 26 = .ok (.ireturn, 1) := by decide +kernel
theorem dX1_nearBy_27 : decode cX1_nearBy 27 = .ok (.aload_n 0, 1) := by decide +kernel
theorem dX1_nearBy_28 : decode cX1_nearBy 28 = .ok (.iload_n 3, 1) := by decide +kernel
theorem dX1_nearBy_29 : decode cX1_nearBy 29 = .ok (.invokevirtual 41, 3) := by decide +kernel
theorem dX1_nearBy_32 : decode cX1_nearBy 32 = .ok (.istore_n 3, 1) := by decide +kernel
theorem dX1_nearBy_33 : decode cX1_nearBy 33 = .ok (.iinc 4 1, 3) := by decide +kernel
theorem dX1_nearBy_36 : decode cX1_nearBy 36 = .ok (.goto (-31), 3) := by decide +kernel
theorem dX1_nearBy_39 : decode cX1_nearBy 39 = .ok (.iconst (-1), 1) := by decide +kernel
theorem dX1_nearBy_40 : decode cX1_nearBy 40 = .ok (.ireturn, 1) := by decide +kernel
theorem dX1_isSplit_0 : decode cX1_isSplit 0 = .ok (.iconst 0, 1) := by decide +kernel
theorem dX1_isSplit_1 : decode cX1_isSplit 1 = .ok (.istore_n 2, 1) := by decide +kernel
theorem dX1_isSplit_2 : decode cX1_isSplit 2 = .ok (.iload_n 2, 1) := by decide +kernel
theorem dX1_isSplit_3 : decode cX1_isSplit 3 = .ok (.aload_n 0, 1) := by decide +kernel
theorem dX1_isSplit_4 : decode cX1_isSplit 4 = .ok (.getfield 23, 3) := by decide +kernel
theorem dX1_isSplit_7 : decode cX1_isSplit 7 = .ok (.if_icmp .ge 32, 3) := by decide +kernel
theorem dX1_isSplit_10 : decode cX1_isSplit 10 = .ok (.iload_n 1, 1) := by decide +kernel
theorem dX1_isSplit_11 : decode cX1_isSplit 11 = .ok (.iload_n 2, 1) := by decide +kernel
theorem dX1_isSplit_12 : decode cX1_isSplit 12 = .ok (.invokestatic 37, 3) := by decide +kernel
theorem dX1_isSplit_15 : decode cX1_isSplit 15 = .ok (.ifCond .eq 18, 3) := by decide +kernel
theorem dX1_isSplit_18 : decode cX1_isSplit 18 = .ok (.aload_n 0, 1) := by decide +kernel
theorem dX1_isSplit_19 : decode cX1_isSplit 19 = .ok (.getfield 20, 3) := by decide +kernel
theorem dX1_isSplit_22 : decode cX1_isSplit 22 = .ok (.iload_n 2, 1) := by decide +kernel
theorem dX1_isSplit_23 : decode cX1_isSplit 23 = .ok (.invokevirtual 27, 3) := by decide +kernel
theorem dX1_isSplit_26 : decode cX1_isSplit 26 = .ok (.iload_n 1, 1) := by decide +kernel
theorem dX1_isSplit_27 : decode cX1_isSplit 27 = .ok (.iand, 1) := by decide +kernel
theorem dX1_isSplit_28 : decode cX1_isSplit 28 = .ok (.ifCond .eq 5, 3) := by decide +kernel
theorem dX1_isSplit_31 : decode cX1_isSplit 31 = .ok (.iconst 1, 1) := by decide +kernel
theorem dX1_isSplit_32 : decode cX1_isSplit 32 = .ok (.ireturn, 1) := by decide +kernel
theorem dX1_isSplit_33 : decode cX1_isSplit 33 = .ok (.iinc 2 1, 3) := by decide +kernel
theorem dX1_isSplit_36 : decode cX1_isSplit 36 = .ok (.goto (-34), 3) := by decide +kernel
theorem dX1_isSplit_39 : decode cX1_isSplit 39 = .ok (.iconst 0, 1) := by decide +kernel
theorem dX1_isSplit_40 : decode cX1_isSplit 40 = .ok (.ireturn, 1) := by decide +kernel
theorem dX2_init_0 : decode cX2_init 0 = .ok (.aload_n 0, 1) := by decide +kernel
theorem dX2_init_1 : decode cX2_init 1 = .ok (.invokespecial 1, 3) := by decide +kernel
theorem dX2_init_4 : decode cX2_init 4 = .ok (.aload_n 0, 1) := by decide +kernel
theorem dX2_init_5 : decode cX2_init 5 = .ok (.iload_n 1, 1) := by decide +kernel
theorem dX2_init_6 : decode cX2_init 6 = .ok (.iconst 0, 1) := by decide +kernel
theorem dX2_init_7 : decode cX2_init 7 = .ok (.invokestatic 7, 3) := by decide +kernel
theorem dX2_init_10 : decode cX2_init 10 = .ok (.newarray .int, 2) := by decide +kernel
theorem dX2_init_12 : decode cX2_init 12 = .ok (.putfield 13, 3) := by decide +kernel
theorem dX2_init_15 : decode cX2_init 15 = .ok (.aload_n 0, 1) := by decide +kernel
theorem dX2_init_16 : decode cX2_init 16 = .ok (.getfield 13, 3) := by decide +kernel
theorem dX2_init_19 : decode cX2_init 19 = .ok (.iload_n 2, 1) := by decide +kernel
theorem dX2_init_20 : decode cX2_init 20 = .ok (.invokestatic 19, 3) := by decide +kernel
theorem dX2_init_23 : decode cX2_init 23 = .ok (.return_, 1) := by decide +kernel
theorem dX2_at_0 : decode cX2_at 0 = .ok (.iload_n 1, 1) := by decide +kernel
theorem dX2_at_1 : decode cX2_at 1 = .ok (.ifCond .lt 21, 3) := by decide +kernel
theorem dX2_at_4 : decode cX2_at 4 = .ok (.iload_n 1, 1) := by decide +kernel
theorem dX2_at_5 : decode cX2_at 5 = .ok (.aload_n 0, 1) := by decide +kernel
theorem dX2_at_6 : decode cX2_at 6 = .ok (.getfield 13, 3) := by decide +kernel
theorem dX2_at_9 : decode cX2_at 9 = .ok (.arraylength, 1) := by decide +kernel
theorem dX2_at_10 : decode cX2_at 10 = .ok (.if_icmp .ge 12, 3) := by decide +kernel
theorem dX2_at_13 : decode cX2_at 13 = .ok (.aload_n 0, 1) := by decide +kernel
theorem dX2_at_14 : decode cX2_at 14 = .ok (.getfield 13, 3) := by decide +kernel
theorem dX2_at_17 : decode cX2_at 17 = .ok (.iload_n 1, 1) := by decide +kernel
theorem dX2_at_18 : decode cX2_at 18 = .ok (.iaload, 1) := by decide +kernel
theorem dX2_at_19 : decode cX2_at 19 = .ok (.goto 4, 3) := by decide +kernel
theorem dX2_at_22 : decode cX2_at 22 = .ok (.iconst 0, 1) := by decide +kernel
theorem dX2_at_23 : decode cX2_at 23 = .ok (.ireturn, 1) := by decide +kernel
theorem dX2_put_0 : decode cX2_put 0 = .ok (.iload_n 1, 1) := by decide +kernel
theorem dX2_put_1 : decode cX2_put 1 = .ok (.ifCond .lt 19, 3) := by decide +kernel
theorem dX2_put_4 : decode cX2_put 4 = .ok (.iload_n 1, 1) := by decide +kernel
theorem dX2_put_5 : decode cX2_put 5 = .ok (.aload_n 0, 1) := by decide +kernel
theorem dX2_put_6 : decode cX2_put 6 = .ok (.getfield 13, 3) := by decide +kernel
theorem dX2_put_9 : decode cX2_put 9 = .ok (.arraylength, 1) := by decide +kernel
theorem dX2_put_10 : decode cX2_put 10 = .ok (.if_icmp .ge 10, 3) := by decide +kernel
theorem dX2_put_13 : decode cX2_put 13 = .ok (.aload_n 0, 1) := by decide +kernel
theorem dX2_put_14 : decode cX2_put 14 = .ok (.getfield 13, 3) := by decide +kernel
theorem dX2_put_17 : decode cX2_put 17 = .ok (.iload_n 1, 1) := by decide +kernel
theorem dX2_put_18 : decode cX2_put 18 = .ok (.iload_n 2, 1) := by decide +kernel
theorem dX2_put_19 : decode cX2_put 19 = .ok (.iastore, 1) := by decide +kernel
theorem dX2_put_20 : decode cX2_put 20 = .ok (.return_, 1) := by decide +kernel
theorem dX2_takeOut_0 : decode cX2_takeOut 0 = .ok (.iload_n 1, 1) := by decide +kernel
theorem dX2_takeOut_1 : decode cX2_takeOut 1 = .ok (.iconst 0, 1) := by decide +kernel
theorem dX2_takeOut_2 : decode cX2_takeOut 2 = .ok (.invokestatic 7, 3) := by decide +kernel
theorem dX2_takeOut_5 : decode cX2_takeOut 5 = .ok (.istore_n 2, 1) := by decide +kernel
theorem dX2_takeOut_6 : decode cX2_takeOut 6 = .ok (.iload_n 2, 1) := by decide +kernel
theorem dX2_takeOut_7 : decode cX2_takeOut 7 = .ok (.aload_n 0, 1) := by decide +kernel
theorem dX2_takeOut_8 : decode cX2_takeOut 8 = .ok (.getfield 13, 3) := by decide +kernel
theorem dX2_takeOut_11 : decode cX2_takeOut 11 = .ok (.arraylength, 1) := by decide +kernel
theorem dX2_takeOut_12 : decode cX2_takeOut 12 = .ok (.iconst 1, 1) := by decide +kernel
theorem dX2_takeOut_13 : decode cX2_takeOut 13 = .ok (.isub, 1) := by decide +kernel
theorem dX2_takeOut_14 : decode cX2_takeOut 14 = .ok (.if_icmp .ge 23, 3) := by decide +kernel
theorem dX2_takeOut_17 : decode cX2_takeOut 17 = .ok (.aload_n 0, 1) := by decide +kernel
theorem dX2_takeOut_18 : decode cX2_takeOut 18 = .ok (.getfield 13, 3) := by decide +kernel
theorem dX2_takeOut_21 : decode cX2_takeOut 21 = .ok (.iload_n 2, 1) := by decide +kernel
theorem dX2_takeOut_22 : decode cX2_takeOut 22 = .ok (.aload_n 0, 1) := by decide +kernel
theorem dX2_takeOut_23 : decode cX2_takeOut 23 = .ok (.getfield 13, 3) := by decide +kernel
theorem dX2_takeOut_26 : decode cX2_takeOut 26 = .ok (.iload_n 2, 1) := by decide +kernel
theorem dX2_takeOut_27 : decode cX2_takeOut 27 = .ok (.iconst 1, 1) := by decide +kernel
theorem dX2_takeOut_28 : decode cX2_takeOut 28 = .ok (.iadd, 1) := by decide +kernel
theorem dX2_takeOut_29 : decode cX2_takeOut 29 = .ok (.iaload, 1) := by decide +kernel
theorem dX2_takeOut_30 : decode cX2_takeOut 30 = .ok (.iastore, 1) := by decide +kernel
theorem dX2_takeOut_31 : decode cX2_takeOut 31 = .ok (.iinc 2 1, 3) := by decide +kernel
theorem dX2_takeOut_34 : decode cX2_takeOut 34 = .ok (.goto (-28), 3) := by decide +kernel
theorem dX2_takeOut_37 : decode cX2_takeOut 37 = .ok (.return_, 1) := by decide +kernel
theorem dX2_clear_0 : decode cX2_clear 0 = .ok (.aload_n 0, 1) := by decide +kernel
theorem dX2_clear_1 : decode cX2_clear 1 = .ok (.getfield 13, 3) := by decide +kernel
theorem dX2_clear_4 : decode cX2_clear 4 = .ok (.iconst 0, 1) := by decide +kernel
theorem dX2_clear_5 : decode cX2_clear 5 = .ok (.invokestatic 19, 3) := by decide +kernel
theorem dX2_clear_8 : decode cX2_clear 8 = .ok (.return_, 1) := by decide +kernel
theorem dX3_init_0 : decode cX3_init 0 = .ok (.aload_n 0, 1) := by decide +kernel
theorem dX3_init_1 : decode cX3_init 1 = .ok (.invokespecial 3, 3) := by decide +kernel
theorem dX3_init_4 : decode cX3_init 4 = .ok (.aload_n 0, 1) := by decide +kernel
theorem dX3_init_5 : decode cX3_init 5 = .ok (.new 9, 3) := by decide +kernel
theorem dX3_init_8 : decode cX3_init 8 = .ok (.dup, 1) := by decide +kernel
theorem dX3_init_9 : decode cX3_init 9 = .ok (.bipush 30, 2) := by decide +kernel
theorem dX3_init_11 : decode cX3_init 11 = .ok (.iconst 0, 1) := by decide +kernel
theorem dX3_init_12 : decode cX3_init 12 = .ok (.invokespecial 11, 3) := by decide +kernel
theorem dX3_init_15 : decode cX3_init 15 = .ok (.putfield 14, 3) := by decide +kernel
theorem dX3_init_18 : decode cX3_init 18 = .ok (.aload_n 0, 1) := by decide +kernel
theorem dX3_init_19 : decode cX3_init 19 = .ok (.new 9, 3) := by decide +kernel
theorem dX3_init_22 : decode cX3_init 22 = .ok (.dup, 1) := by decide +kernel
theorem dX3_init_23 : decode cX3_init 23 = .ok (.bipush 30, 2) := by decide +kernel
theorem dX3_init_25 : decode cX3_init 25 = .ok (.iconst 0, 1) := by decide +kernel
theorem dX3_init_26 : decode cX3_init 26 = .ok (.invokespecial 11, 3) := by decide +kernel
theorem dX3_init_29 : decode cX3_init 29 = .ok (.putfield 20, 3) := by decide +kernel
theorem dX3_init_32 : decode cX3_init 32 = .ok (.aload_n 0, 1) := by decide +kernel
theorem dX3_init_33 : decode cX3_init 33 = .ok (.new 9, 3) := by decide +kernel
theorem dX3_init_36 : decode cX3_init 36 = .ok (.dup, 1) := by decide +kernel
theorem dX3_init_37 : decode cX3_init 37 = .ok (.bipush 30, 2) := by decide +kernel
theorem dX3_init_39 : decode cX3_init 39 = .ok (.iconst 0, 1) := by decide +kernel
theorem dX3_init_40 : decode cX3_init 40 = .ok (.invokespecial 11, 3) := by decide +kernel
theorem dX3_init_43 : decode cX3_init 43 = .ok (.putfield 23, 3) := by decide +kernel
theorem dX3_init_46 : decode cX3_init 46 = .ok (.aload_n 0, 1) := by decide +kernel
theorem dX3_init_47 : decode cX3_init 47 = .ok (.new 9, 3) := by decide +kernel
theorem dX3_init_50 : decode cX3_init 50 = .ok (.dup, 1) := by decide +kernel
theorem dX3_init_51 : decode cX3_init 51 = .ok (.bipush 30, 2) := by decide +kernel
theorem dX3_init_53 : decode cX3_init 53 = .ok (.iconst 0, 1) := by decide +kernel
theorem dX3_init_54 : decode cX3_init 54 = .ok (.invokespecial 11, 3) := by decide +kernel
theorem dX3_init_57 : decode cX3_init 57 = .ok (.putfield 26, 3) := by decide +kernel
theorem dX3_init_60 : decode cX3_init 60 = .ok (.aload_n 0, 1) := by decide +kernel
theorem dX3_init_61 : decode cX3_init 61 = .ok (.new 9, 3) := by decide +kernel
theorem dX3_init_64 : decode cX3_init 64 = .ok (.dup, 1) := by decide +kernel
theorem dX3_init_65 : decode cX3_init 65 = .ok (.bipush 30, 2) := by decide +kernel
theorem dX3_init_67 : decode cX3_init 67 = .ok (.iconst 0, 1) := by decide +kernel
theorem dX3_init_68 : decode cX3_init 68 = .ok (.invokespecial 11, 3) := by decide +kernel
theorem dX3_init_71 : decode cX3_init 71 = .ok (.putfield 29, 3) := by decide +kernel
theorem dX3_init_74 : decode cX3_init 74 = .ok (.aload_n 0, 1) := by decide +kernel
theorem dX3_init_75 : decode cX3_init 75 = .ok (.new 9, 3) := by decide +kernel
theorem dX3_init_78 : decode cX3_init 78 = .ok (.dup, 1) := by decide +kernel
theorem dX3_init_79 : decode cX3_init 79 = .ok (.bipush 30, 2) := by decide +kernel
theorem dX3_init_81 : decode cX3_init 81 = .ok (.iconst 0, 1) := by decide +kernel
theorem dX3_init_82 : decode cX3_init 82 = .ok (.invokespecial 11, 3) := by decide +kernel
theorem dX3_init_85 : decode cX3_init 85 = .ok (.putfield 32, 3) := by decide +kernel
theorem dX3_init_88 : decode cX3_init 88 = .ok (.aload_n 0, 1) := by decide +kernel
theorem dX3_init_89 : decode cX3_init 89 = .ok (.new 9, 3) := by decide +kernel
theorem dX3_init_92 : decode cX3_init 92 = .ok (.dup, 1) := by decide +kernel
theorem dX3_init_93 : decode cX3_init 93 = .ok (.bipush 30, 2) := by decide +kernel
theorem dX3_init_95 : decode cX3_init 95 = .ok (.iconst 0, 1) := by decide +kernel
theorem dX3_init_96 : decode cX3_init 96 = .ok (.invokespecial 11, 3) := by decide +kernel
theorem dX3_init_99 : decode cX3_init 99 = .ok (.putfield 35, 3) := by decide +kernel
theorem dX3_init_102 : decode cX3_init 102 = .ok (.aload_n 0, 1) := by decide +kernel
theorem dX3_init_103 : decode cX3_init 103 = .ok (.new 9, 3) := by decide +kernel
theorem dX3_init_106 : decode cX3_init 106 = .ok (.dup, 1) := by decide +kernel
theorem dX3_init_107 : decode cX3_init 107 = .ok (.bipush 30, 2) := by decide +kernel
theorem dX3_init_109 : decode cX3_init 109 = .ok (.iconst 0, 1) := by decide +kernel
theorem dX3_init_110 : decode cX3_init 110 = .ok (.invokespecial 11, 3) := by decide +kernel
theorem dX3_init_113 : decode cX3_init 113 = .ok (.putfield 38, 3) := by decide +kernel
theorem dX3_init_116 : decode cX3_init 116 = .ok (.aload_n 0, 1) := by decide +kernel
theorem dX3_init_117 : decode cX3_init 117 = .ok (.new 9, 3) := by decide +kernel
theorem dX3_init_120 : decode cX3_init 120 = .ok (.dup, 1) := by decide +kernel
theorem dX3_init_121 : decode cX3_init 121 = .ok (.bipush 30, 2) := by decide +kernel
theorem dX3_init_123 : decode cX3_init 123 = .ok (.iconst 0, 1) := by decide +kernel
theorem dX3_init_124 : decode cX3_init 124 = .ok (.invokespecial 11, 3) := by decide +kernel
theorem dX3_init_127 : decode cX3_init 127 = .ok (.putfield 41, 3) := by decide +kernel
theorem dX3_init_130 : decode cX3_init 130 = .ok (.return_, 1) := by decide +kernel
theorem dX3_add_0 : decode cX3_add 0 = .ok (.aload_n 0, 1) := by decide +kernel
theorem dX3_add_1 : decode cX3_add 1 = .ok (.getfield 44, 3) := by decide +kernel
theorem dX3_add_4 : decode cX3_add 4 = .ok (.istore 5, 2) := by decide +kernel
theorem dX3_add_6 : decode cX3_add 6 = .ok (.aload_n 0, 1) := by decide +kernel
theorem dX3_add_7 : decode cX3_add 7 = .ok (.getfield 14, 3) := by decide +kernel
theorem dX3_add_10 : decode cX3_add 10 = .ok (.iload 5, 2) := by decide +kernel
theorem dX3_add_12 : decode cX3_add 12 = .ok (.iload_n 1, 1) := by decide +kernel
theorem dX3_add_13 : decode cX3_add 13 = .ok (.ifCond .eq 7, 3) := by decide +kernel
theorem dX3_add_16 : decode cX3_add 16 = .ok (.iconst 1, 1) := by decide +kernel
theorem dX3_add_17 : decode cX3_add 17 = .ok (.goto 4, 3) := by decide +kernel
theorem dX3_add_20 : decode cX3_add 20 = .ok (.iconst 0, 1) := by decide +kernel
theorem dX3_add_21 : decode cX3_add 21 = .ok (.invokevirtual 48, 3) := by decide +kernel
theorem dX3_add_24 : decode cX3_add 24 = .ok (.aload_n 0, 1) := by decide +kernel
theorem dX3_add_25 : decode cX3_add 25 = .ok (.getfield 20, 3) := by decide +kernel
theorem dX3_add_28 : decode cX3_add 28 = .ok (.iload 5, 2) := by decide +kernel
theorem dX3_add_30 : decode cX3_add 30 = .ok (.iload_n 2, 1) := by decide +kernel
theorem dX3_add_31 : decode cX3_add 31 = .ok (.invokevirtual 48, 3) := by decide +kernel
theorem dX3_add_34 : decode cX3_add 34 = .ok (.aload_n 0, 1) := by decide +kernel
theorem dX3_add_35 : decode cX3_add 35 = .ok (.getfield 23, 3) := by decide +kernel
theorem dX3_add_38 : decode cX3_add 38 = .ok (.iload 5, 2) := by decide +kernel
theorem dX3_add_40 : decode cX3_add 40 = .ok (.iload_n 3, 1) := by decide +kernel
theorem dX3_add_41 : decode cX3_add 41 = .ok (.invokevirtual 48, 3) := by decide +kernel
theorem dX3_add_44 : decode cX3_add 44 = .ok (.aload_n 0, 1) := by decide +kernel
theorem dX3_add_45 : decode cX3_add 45 = .ok (.getfield 26, 3) := by decide +kernel
theorem dX3_add_48 : decode cX3_add 48 = .ok (.iload 5, 2) := by decide +kernel
theorem dX3_add_50 : decode cX3_add 50 = .ok (.iload 4, 2) := by decide +kernel
theorem dX3_add_52 : decode cX3_add 52 = .ok (.invokevirtual 48, 3) := by decide +kernel
theorem dX3_add_55 : decode cX3_add 55 = .ok (.aload_n 0, 1) := by decide +kernel
theorem dX3_add_56 : decode cX3_add 56 = .ok (.getfield 29, 3) := by decide +kernel
theorem dX3_add_59 : decode cX3_add 59 = .ok (.iload 5, 2) := by decide +kernel
theorem dX3_add_61 : decode cX3_add 61 = .ok (.iconst 0, 1) := by decide +kernel
theorem dX3_add_62 : decode cX3_add 62 = .ok (.invokevirtual 48, 3) := by decide +kernel
theorem dX3_add_65 : decode cX3_add 65 = .ok (.aload_n 0, 1) := by decide +kernel
theorem dX3_add_66 : decode cX3_add 66 = .ok (.getfield 32, 3) := by decide +kernel
theorem dX3_add_69 : decode cX3_add 69 = .ok (.iload 5, 2) := by decide +kernel
theorem dX3_add_71 : decode cX3_add 71 = .ok (.iconst 0, 1) := by decide +kernel
theorem dX3_add_72 : decode cX3_add 72 = .ok (.invokevirtual 48, 3) := by decide +kernel
theorem dX3_add_75 : decode cX3_add 75 = .ok (.aload_n 0, 1) := by decide +kernel
theorem dX3_add_76 : decode cX3_add 76 = .ok (.getfield 35, 3) := by decide +kernel
theorem dX3_add_79 : decode cX3_add 79 = .ok (.iload 5, 2) := by decide +kernel
theorem dX3_add_81 : decode cX3_add 81 = .ok (.iconst 0, 1) := by decide +kernel
theorem dX3_add_82 : decode cX3_add 82 = .ok (.invokevirtual 48, 3) := by decide +kernel
theorem dX3_add_85 : decode cX3_add 85 = .ok (.aload_n 0, 1) := by decide +kernel
theorem dX3_add_86 : decode cX3_add 86 = .ok (.getfield 38, 3) := by decide +kernel
theorem dX3_add_89 : decode cX3_add 89 = .ok (.iload 5, 2) := by decide +kernel
theorem dX3_add_91 : decode cX3_add 91 = .ok (.iconst 0, 1) := by decide +kernel
theorem dX3_add_92 : decode cX3_add 92 = .ok (.invokevirtual 48, 3) := by decide +kernel
theorem dX3_add_95 : decode cX3_add 95 = .ok (.aload_n 0, 1) := by decide +kernel
theorem dX3_add_96 : decode cX3_add 96 = .ok (.getfield 41, 3) := by decide +kernel
theorem dX3_add_99 : decode cX3_add 99 = .ok (.iload 5, 2) := by decide +kernel
theorem dX3_add_101 : decode cX3_add 101 = .ok (.bipush 23, 2) := by decide +kernel
theorem dX3_add_103 : decode cX3_add 103 = .ok (.invokevirtual 48, 3) := by decide +kernel
theorem dX3_add_106 : decode cX3_add 106 = .ok (.aload_n 0, 1) := by decide +kernel
theorem dX3_add_107 : decode cX3_add 107 = .ok (.dup, 1) := by decide +kernel
theorem dX3_add_108 : decode cX3_add 108 = .ok (.getfield 44, 3) := by decide +kernel
theorem dX3_add_111 : decode cX3_add 111 = .ok (.iconst 1, 1) := by decide +kernel
theorem dX3_add_112 : decode cX3_add 112 = .ok (.iadd, 1) := by decide +kernel
theorem dX3_add_113 : decode cX3_add 113 = .ok (.putfield 44, 3) := by decide +kernel
theorem dX3_add_116 : decode cX3_add 116 = .ok (.iload 5, 2) := by decide +kernel
theorem dX3_add_118 : decode cX3_add 118 = .ok (.ireturn, 1) := by decide +kernel
theorem dX3_drop_0 : decode cX3_drop 0 = .ok (.aload_n 0, 1) := by decide +kernel
theorem dX3_drop_1 : decode cX3_drop 1 = .ok (.getfield 14, 3) := by decide +kernel
theorem dX3_drop_4 : decode cX3_drop 4 = .ok (.iload_n 1, 1) := by decide +kernel
theorem dX3_drop_5 : decode cX3_drop 5 = .ok (.invokevirtual 51, 3) := by decide +kernel
theorem dX3_drop_8 : decode cX3_drop 8 = .ok (.aload_n 0, 1) := by decide +kernel
theorem dX3_drop_9 : decode cX3_drop 9 = .ok (.getfield 20, 3) := by decide +kernel
theorem dX3_drop_12 : decode cX3_drop 12 = .ok (.iload_n 1, 1) := by decide +kernel
theorem dX3_drop_13 : decode cX3_drop 13 = .ok (.invokevirtual 51, 3) := by decide +kernel
theorem dX3_drop_16 : decode cX3_drop 16 = .ok (.aload_n 0, 1) := by decide +kernel
theorem dX3_drop_17 : decode cX3_drop 17 = .ok (.getfield 23, 3) := by decide +kernel
theorem dX3_drop_20 : decode cX3_drop 20 = .ok (.iload_n 1, 1) := by decide +kernel
theorem dX3_drop_21 : decode cX3_drop 21 = .ok (.invokevirtual 51, 3) := by decide +kernel
theorem dX3_drop_24 : decode cX3_drop 24 = .ok (.aload_n 0, 1) := by decide +kernel
theorem dX3_drop_25 : decode cX3_drop 25 = .ok (.getfield 26, 3) := by decide +kernel
theorem dX3_drop_28 : decode cX3_drop 28 = .ok (.iload_n 1, 1) := by decide +kernel
theorem dX3_drop_29 : decode cX3_drop 29 = .ok (.invokevirtual 51, 3) := by decide +kernel
theorem dX3_drop_32 : decode cX3_drop 32 = .ok (.aload_n 0, 1) := by decide +kernel
theorem dX3_drop_33 : decode cX3_drop 33 = .ok (.getfield 29, 3) := by decide +kernel
theorem dX3_drop_36 : decode cX3_drop 36 = .ok (.iload_n 1, 1) := by decide +kernel
theorem dX3_drop_37 : decode cX3_drop 37 = .ok (.invokevirtual 51, 3) := by decide +kernel
theorem dX3_drop_40 : decode cX3_drop 40 = .ok (.aload_n 0, 1) := by decide +kernel
theorem dX3_drop_41 : decode cX3_drop 41 = .ok (.getfield 32, 3) := by decide +kernel
theorem dX3_drop_44 : decode cX3_drop 44 = .ok (.iload_n 1, 1) := by decide +kernel
theorem dX3_drop_45 : decode cX3_drop 45 = .ok (.invokevirtual 51, 3) := by decide +kernel
theorem dX3_drop_48 : decode cX3_drop 48 = .ok (.aload_n 0, 1) := by decide +kernel
theorem dX3_drop_49 : decode cX3_drop 49 = .ok (.getfield 35, 3) := by decide +kernel
theorem dX3_drop_52 : decode cX3_drop 52 = .ok (.iload_n 1, 1) := by decide +kernel
theorem dX3_drop_53 : decode cX3_drop 53 = .ok (.invokevirtual 51, 3) := by decide +kernel
theorem dX3_drop_56 : decode cX3_drop 56 = .ok (.aload_n 0, 1) := by decide +kernel
theorem dX3_drop_57 : decode cX3_drop 57 = .ok (.getfield 38, 3) := by decide +kernel
theorem dX3_drop_60 : decode cX3_drop 60 = .ok (.iload_n 1, 1) := by decide +kernel
theorem dX3_drop_61 : decode cX3_drop 61 = .ok (.invokevirtual 51, 3) := by decide +kernel
theorem dX3_drop_64 : decode cX3_drop 64 = .ok (.aload_n 0, 1) := by decide +kernel
theorem dX3_drop_65 : decode cX3_drop 65 = .ok (.getfield 41, 3) := by decide +kernel
theorem dX3_drop_68 : decode cX3_drop 68 = .ok (.iload_n 1, 1) := by decide +kernel
theorem dX3_drop_69 : decode cX3_drop 69 = .ok (.invokevirtual 51, 3) := by decide +kernel
theorem dX3_drop_72 : decode cX3_drop 72 = .ok (.aload_n 0, 1) := by decide +kernel
theorem dX3_drop_73 : decode cX3_drop 73 = .ok (.dup, 1) := by decide +kernel
theorem dX3_drop_74 : decode cX3_drop 74 = .ok (.getfield 44, 3) := by decide +kernel
theorem dX3_drop_77 : decode cX3_drop 77 = .ok (.iconst 1, 1) := by decide +kernel
theorem dX3_drop_78 : decode cX3_drop 78 = .ok (.isub, 1) := by decide +kernel
theorem dX3_drop_79 : decode cX3_drop 79 = .ok (.putfield 44, 3) := by decide +kernel
theorem dX3_drop_82 : decode cX3_drop 82 = .ok (.aload_n 0, 1) := by decide +kernel
theorem dX3_drop_83 : decode cX3_drop 83 = .ok (.getfield 44, 3) := by decide +kernel
theorem dX3_drop_86 : decode cX3_drop 86 = .ok (.ireturn, 1) := by decide +kernel
theorem dX3_holdsIn_0 : decode cX3_holdsIn 0 = .ok (.aload_n 0, 1) := by decide +kernel
theorem dX3_holdsIn_1 : decode cX3_holdsIn 1 = .ok (.getfield 38, 3) := by decide +kernel
theorem dX3_holdsIn_4 : decode cX3_holdsIn 4 = .ok (.iload_n 1, 1) := by decide +kernel
theorem dX3_holdsIn_5 : decode cX3_holdsIn 5 = .ok (.invokevirtual 55, 3) := by decide +kernel
theorem dX3_holdsIn_8 : decode cX3_holdsIn 8 = .ok (.istore_n 3, 1) := by decide +kernel
theorem dX3_holdsIn_9 : decode cX3_holdsIn 9 = .ok (.aload_n 0, 1) := by decide +kernel
theorem dX3_holdsIn_10 : decode cX3_holdsIn 10 = .ok (.getfield 41, 3) := by decide +kernel
theorem dX3_holdsIn_13 : decode cX3_holdsIn 13 = .ok (.iload_n 1, 1) := by decide +kernel
theorem dX3_holdsIn_14 : decode cX3_holdsIn 14 = .ok (.invokevirtual 55, 3) := by decide +kernel
theorem dX3_holdsIn_17 : decode cX3_holdsIn 17 = .ok (.istore 4, 2) := by decide +kernel
theorem dX3_holdsIn_19 : decode cX3_holdsIn 19 = .ok (.iload_n 3, 1) := by decide +kernel
theorem dX3_holdsIn_20 : decode cX3_holdsIn 20 = .ok (.iload 4, 2) := by decide +kernel
theorem dX3_holdsIn_22 : decode cX3_holdsIn 22 = .ok (.if_icmp .gt 22, 3) := by decide +kernel
theorem dX3_holdsIn_25 : decode cX3_holdsIn 25 = .ok (.iload_n 3, 1) := by decide +kernel
theorem dX3_holdsIn_26 : decode cX3_holdsIn 26 = .ok (.iload_n 2, 1) := by decide +kernel
theorem dX3_holdsIn_27 : decode cX3_holdsIn 27 = .ok (.if_icmp .gt 13, 3) := by decide +kernel
theorem dX3_holdsIn_30 : decode cX3_holdsIn 30 = .ok (.iload_n 2, 1) := by decide +kernel
theorem dX3_holdsIn_31 : decode cX3_holdsIn 31 = .ok (.iload 4, 2) := by decide +kernel
theorem dX3_holdsIn_33 : decode cX3_holdsIn 33 = .ok (.if_icmp .gt 7, 3) := by decide +kernel
theorem dX3_holdsIn_36 : decode cX3_holdsIn 36 = .ok (.iconst 1, 1) := by decide +kernel
theorem dX3_holdsIn_37 : decode cX3_holdsIn 37 = .ok (.goto 23, 3) := by decide +kernel
theorem dX3_holdsIn_40 : decode cX3_holdsIn 40 = .ok (.iconst 0, 1) := by decide +kernel
theorem dX3_holdsIn_41 : decode cX3_holdsIn 41 = .ok (.goto 19, 3) := by decide +kernel
theorem dX3_holdsIn_44 : decode cX3_holdsIn 44 = .ok (.iload_n 3, 1) := by decide +kernel
theorem dX3_holdsIn_45 : decode cX3_holdsIn 45 = .ok (.iload_n 2, 1) := by decide +kernel
theorem dX3_holdsIn_46 : decode cX3_holdsIn 46 = .ok (.if_icmp .le 9, 3) := by decide +kernel
theorem dX3_holdsIn_49 : decode cX3_holdsIn 49 = .ok (.iload_n 2, 1) := by decide +kernel
theorem dX3_holdsIn_50 : decode cX3_holdsIn 50 = .ok (.iload 4, 2) := by decide +kernel
theorem dX3_holdsIn_52 : decode cX3_holdsIn 52 = .ok (.if_icmp .gt 7, 3) := by decide +kernel
theorem dX3_holdsIn_55 : decode cX3_holdsIn 55 = .ok (.iconst 1, 1) := by decide +kernel
theorem dX3_holdsIn_56 : decode cX3_holdsIn 56 = .ok (.goto 4, 3) := by decide +kernel
theorem dX3_holdsIn_59 : decode cX3_holdsIn 59 = .ok (.iconst 0, 1) := by decide +kernel
theorem dX3_holdsIn_60 : decode cX3_holdsIn 60 = .ok (.ireturn, 1) := by decide +kernel
theorem dX4_init_0 : decode cX4_init 0 = .ok (.aload_n 0, 1) := by decide +kernel
theorem dX4_init_1 : decode cX4_init 1 = .ok (.invokespecial 1, 3) := by decide +kernel
theorem dX4_init_4 : decode cX4_init 4 = .ok (.aload_n 0, 1) := by decide +kernel
theorem dX4_init_5 : decode cX4_init 5 = .ok (.new 7, 3) := by decide +kernel
theorem dX4_init_8 : decode cX4_init 8 = .ok (.dup, 1) := by decide +kernel
theorem dX4_init_9 : decode cX4_init 9 = .ok (.invokespecial 9, 3) := by decide +kernel
theorem dX4_init_12 : decode cX4_init 12 = .ok (.putfield 10, 3) := by decide +kernel
theorem dX4_init_15 : decode cX4_init 15 = .ok (.aload_n 0, 1) := by decide +kernel
theorem dX4_init_16 : decode cX4_init 16 = .ok (.new 16, 3) := by decide +kernel
theorem dX4_init_19 : decode cX4_init 19 = .ok (.dup, 1) := by decide +kernel
theorem dX4_init_20 : decode cX4_init 20 = .ok (.invokespecial 18, 3) := by decide +kernel
theorem dX4_init_23 : decode cX4_init 23 = .ok (.putfield 19, 3) := by decide +kernel
theorem dX4_init_26 : decode cX4_init 26 = .ok (.aload_n 0, 1) := by decide +kernel
theorem dX4_init_27 : decode cX4_init 27 = .ok (.new 23, 3) := by decide +kernel
theorem dX4_init_30 : decode cX4_init 30 = .ok (.dup, 1) := by decide +kernel
theorem dX4_init_31 : decode cX4_init 31 = .ok (.invokespecial 25, 3) := by decide +kernel
theorem dX4_init_34 : decode cX4_init 34 = .ok (.putfield 26, 3) := by decide +kernel
theorem dX4_init_37 : decode cX4_init 37 = .ok (.aload_n 0, 1) := by decide +kernel
theorem dX4_init_38 : decode cX4_init 38 = .ok (.new 30, 3) := by decide +kernel
theorem dX4_init_41 : decode cX4_init 41 = .ok (.dup, 1) := by decide +kernel
theorem dX4_init_42 : decode cX4_init 42 = .ok (.invokespecial 32, 3) := by decide +kernel
theorem dX4_init_45 : decode cX4_init 45 = .ok (.putfield 33, 3) := by decide +kernel
theorem dX4_init_48 : decode cX4_init 48 = .ok (.aload_n 0, 1) := by decide +kernel
theorem dX4_init_49 : decode cX4_init 49 = .ok (.new 37, 3) := by decide +kernel
theorem dX4_init_52 : decode cX4_init 52 = .ok (.dup, 1) := by decide +kernel
theorem dX4_init_53 : decode cX4_init 53 = .ok (.invokespecial 39, 3) := by decide +kernel
theorem dX4_init_56 : decode cX4_init 56 = .ok (.putfield 40, 3) := by decide +kernel
theorem dX4_init_59 : decode cX4_init 59 = .ok (.return_, 1) := by decide +kernel
theorem dX4_hour_0 : decode cX4_hour 0 = .ok (.aload_n 0, 1) := by decide +kernel
theorem dX4_hour_1 : decode cX4_hour 1 = .ok (.getfield 44, 3) := by decide +kernel
theorem dX4_hour_4 : decode cX4_hour 4 = .ok (.bipush 60, 2) := by decide +kernel
theorem dX4_hour_6 : decode cX4_hour 6 = .ok (.idiv, 1) := by decide +kernel
theorem dX4_hour_7 : decode cX4_hour 7 = .ok (.bipush 24, 2) := by decide +kernel
theorem dX4_hour_9 : decode cX4_hour 9 = .ok (.irem, 1) := by decide +kernel
theorem dX4_hour_10 : decode cX4_hour 10 = .ok (.ireturn, 1) := by decide +kernel
theorem dX4_isThere_0 : decode cX4_isThere 0 = .ok (.aload_n 0, 1) := by decide +kernel
theorem dX4_isThere_1 : decode cX4_isThere 1 = .ok (.getfield 44, 3) := by decide +kernel
theorem dX4_isThere_4 : decode cX4_isThere 4 = .ok (.aload_n 0, 1) := by decide +kernel
theorem dX4_isThere_5 : decode cX4_isThere 5 = .ok (.getfield 40, 3) := by decide +kernel
theorem dX4_isThere_8 : decode cX4_isThere 8 = .ok (.getfield 48, 3) := by decide +kernel
theorem dX4_isThere_11 : decode cX4_isThere 11 = .ok (.iload_n 1, 1) := by decide +kernel
theorem dX4_isThere_12 : decode cX4_isThere 12 = .ok (.invokevirtual 52, 3) := by decide +kernel
theorem dX4_isThere_15 : decode cX4_isThere 15 = .ok (.if_icmp .ge 7, 3) := by decide +kernel
theorem dX4_isThere_18 : decode cX4_isThere 18 = .ok (.iconst 1, 1) := by decide +kernel
theorem dX4_isThere_19 : decode cX4_isThere 19 = .ok (.goto 4, 3) := by decide +kernel
theorem dX4_isThere_22 : decode cX4_isThere 22 = .ok (.iconst 0, 1) := by decide +kernel
theorem dX4_isThere_23 : decode cX4_isThere 23 = .ok (.ireturn, 1) := by decide +kernel
theorem dX4_isGiven_0 : decode cX4_isGiven 0 = .ok (.aload_n 0, 1) := by decide +kernel
theorem dX4_isGiven_1 : decode cX4_isGiven 1 = .ok (.getfield 40, 3) := by decide +kernel
theorem dX4_isGiven_4 : decode cX4_isGiven 4 = .ok (.getfield 58, 3) := by decide +kernel
theorem dX4_isGiven_7 : decode cX4_isGiven 7 = .ok (.iload_n 1, 1) := by decide +kernel
theorem dX4_isGiven_8 : decode cX4_isGiven 8 = .ok (.invokevirtual 52, 3) := by decide +kernel
theorem dX4_isGiven_11 : decode cX4_isGiven 11 = .ok (.iload_n 2, 1) := by decide +kernel
theorem dX4_isGiven_12 : decode cX4_isGiven 12 = .ok (.if_icmp .ne 45, 3) := by decide +kernel
theorem dX4_isGiven_15 : decode cX4_isGiven 15 = .ok (.aload_n 0, 1) := by decide +kernel
theorem dX4_isGiven_16 : decode cX4_isGiven 16 = .ok (.getfield 40, 3) := by decide +kernel
theorem dX4_isGiven_19 : decode cX4_isGiven 19 = .ok (.getfield 61, 3) := by decide +kernel
theorem dX4_isGiven_22 : decode cX4_isGiven 22 = .ok (.iload_n 1, 1) := by decide +kernel
theorem dX4_isGiven_23 : decode cX4_isGiven 23 = .ok (.invokevirtual 52, 3) := by decide +kernel
theorem dX4_isGiven_26 : decode cX4_isGiven 26 = .ok (.iload_n 3, 1) := by decide +kernel
theorem dX4_isGiven_27 : decode cX4_isGiven 27 = .ok (.if_icmp .ne 30, 3) := by decide +kernel
theorem dX4_isGiven_30 : decode cX4_isGiven 30 = .ok (.aload_n 0, 1) := by decide +kernel
theorem dX4_isGiven_31 : decode cX4_isGiven 31 = .ok (.getfield 26, 3) := by decide +kernel
theorem dX4_isGiven_34 : decode cX4_isGiven 34 = .ok (.iload 4, 2) := by decide +kernel
theorem dX4_isGiven_36 : decode cX4_isGiven 36 = .ok (.aload_n 0, 1) := by decide +kernel
theorem dX4_isGiven_37 : decode cX4_isGiven 37 = .ok (.getfield 40, 3) := by decide +kernel
theorem dX4_isGiven_40 : decode cX4_isGiven 40 = .ok (.getfield 64, 3) := by decide +kernel
theorem dX4_isGiven_43 : decode cX4_isGiven 43 = .ok (.iload_n 1, 1) := by decide +kernel
theorem dX4_isGiven_44 : decode cX4_isGiven 44 = .ok (.invokevirtual 52, 3) := by decide +kernel
theorem dX4_isGiven_47 : decode cX4_isGiven 47 = .ok (.invokevirtual 67, 3) := by decide +kernel
theorem dX4_isGiven_50 : decode cX4_isGiven 50 = .ok (.ifCond .eq 7, 3) := by decide +kernel
theorem dX4_isGiven_53 : decode cX4_isGiven 53 = .ok (.iconst 1, 1) := by decide +kernel
theorem dX4_isGiven_54 : decode cX4_isGiven 54 = .ok (.goto 4, 3) := by decide +kernel
theorem dX4_isGiven_57 : decode cX4_isGiven 57 = .ok (.iconst 0, 1) := by decide +kernel
theorem dX4_isGiven_58 : decode cX4_isGiven 58 = .ok (.ireturn, 1) := by decide +kernel
theorem dX5_init_0 : decode cX5_init 0 = .ok (.aload_n 0, 1) := by decide +kernel
theorem dX5_init_1 : decode cX5_init 1 = .ok (.invokespecial 3, 3) := by decide +kernel
theorem dX5_init_4 : decode cX5_init 4 = .ok (.aload_n 0, 1) := by decide +kernel
theorem dX5_init_5 : decode cX5_init 5 = .ok (.iconst 1, 1) := by decide +kernel
theorem dX5_init_6 : decode cX5_init 6 = .ok (.putfield 9, 3) := by decide +kernel
theorem dX5_init_9 : decode cX5_init 9 = .ok (.aload_n 0, 1) := by decide +kernel
theorem dX5_init_10 : decode cX5_init 10 = .ok (.new 15, 3) := by decide +kernel
theorem dX5_init_13 : decode cX5_init 13 = .ok (.dup, 1) := by decide +kernel
theorem dX5_init_14 : decode cX5_init 14 = .ok (.bipush 24, 2) := by decide +kernel
theorem dX5_init_16 : decode cX5_init 16 = .ok (.iconst 0, 1) := by decide +kernel
theorem dX5_init_17 : decode cX5_init 17 = .ok (.invokespecial 17, 3) := by decide +kernel
theorem dX5_init_20 : decode cX5_init 20 = .ok (.putfield 20, 3) := by decide +kernel
theorem dX5_init_23 : decode cX5_init 23 = .ok (.aload_n 0, 1) := by decide +kernel
theorem dX5_init_24 : decode cX5_init 24 = .ok (.new 15, 3) := by decide +kernel
theorem dX5_init_27 : decode cX5_init 27 = .ok (.dup, 1) := by decide +kernel
theorem dX5_init_28 : decode cX5_init 28 = .ok (.bipush 24, 2) := by decide +kernel
theorem dX5_init_30 : decode cX5_init 30 = .ok (.iconst 0, 1) := by decide +kernel
theorem dX5_init_31 : decode cX5_init 31 = .ok (.invokespecial 17, 3) := by decide +kernel
theorem dX5_init_34 : decode cX5_init 34 = .ok (.putfield 24, 3) := by decide +kernel
theorem dX5_init_37 : decode cX5_init 37 = .ok (.aload_n 0, 1) := by decide +kernel
theorem dX5_init_38 : decode cX5_init 38 = .ok (.new 15, 3) := by decide +kernel
theorem dX5_init_41 : decode cX5_init 41 = .ok (.dup, 1) := by decide +kernel
theorem dX5_init_42 : decode cX5_init 42 = .ok (.bipush 24, 2) := by decide +kernel
theorem dX5_init_44 : decode cX5_init 44 = .ok (.iconst 0, 1) := by decide +kernel
theorem dX5_init_45 : decode cX5_init 45 = .ok (.invokespecial 17, 3) := by decide +kernel
theorem dX5_init_48 : decode cX5_init 48 = .ok (.putfield 27, 3) := by decide +kernel
theorem dX5_init_51 : decode cX5_init 51 = .ok (.aload_n 0, 1) := by decide +kernel
theorem dX5_init_52 : decode cX5_init 52 = .ok (.new 15, 3) := by decide +kernel
theorem dX5_init_55 : decode cX5_init 55 = .ok (.dup, 1) := by decide +kernel
theorem dX5_init_56 : decode cX5_init 56 = .ok (.bipush 24, 2) := by decide +kernel
theorem dX5_init_58 : decode cX5_init 58 = .ok (.iconst (-1), 1) := by decide +kernel
theorem dX5_init_59 : decode cX5_init 59 = .ok (.invokespecial 17, 3) := by decide +kernel
theorem dX5_init_62 : decode cX5_init 62 = .ok (.putfield 30, 3) := by decide +kernel
theorem dX5_init_65 : decode cX5_init 65 = .ok (.aload_n 0, 1) := by decide +kernel
theorem dX5_init_66 : decode cX5_init 66 = .ok (.new 15, 3) := by decide +kernel
theorem dX5_init_69 : decode cX5_init 69 = .ok (.dup, 1) := by decide +kernel
theorem dX5_init_70 : decode cX5_init 70 = .ok (.bipush 24, 2) := by decide +kernel
theorem dX5_init_72 : decode cX5_init 72 = .ok (.iconst 0, 1) := by decide +kernel
theorem dX5_init_73 : decode cX5_init 73 = .ok (.invokespecial 17, 3) := by decide +kernel
theorem dX5_init_76 : decode cX5_init 76 = .ok (.putfield 33, 3) := by decide +kernel
theorem dX5_init_79 : decode cX5_init 79 = .ok (.return_, 1) := by decide +kernel
theorem dX5_add_0 : decode cX5_add 0 = .ok (.aload_n 0, 1) := by decide +kernel
theorem dX5_add_1 : decode cX5_add 1 = .ok (.getfield 9, 3) := by decide +kernel
theorem dX5_add_4 : decode cX5_add 4 = .ok (.istore_n 2, 1) := by decide +kernel
theorem dX5_add_5 : decode cX5_add 5 = .ok (.aload_n 0, 1) := by decide +kernel
theorem dX5_add_6 : decode cX5_add 6 = .ok (.getfield 20, 3) := by decide +kernel
theorem dX5_add_9 : decode cX5_add 9 = .ok (.iload_n 2, 1) := by decide +kernel
theorem dX5_add_10 : decode cX5_add 10 = .ok (.aload_n 0, 1) := by decide +kernel
theorem dX5_add_11 : decode cX5_add 11 = .ok (.getfield 20, 3) := by decide +kernel
theorem dX5_add_14 : decode cX5_add 14 = .ok (.iload_n 1, 1) := by decide +kernel
theorem dX5_add_15 : decode cX5_add 15 = .ok (.invokevirtual 36, 3) := by decide +kernel
theorem dX5_add_18 : decode cX5_add 18 = .ok (.iconst 1, 1) := by decide +kernel
theorem dX5_add_19 : decode cX5_add 19 = .ok (.iadd, 1) := by decide +kernel
theorem dX5_add_20 : decode cX5_add 20 = .ok (.invokevirtual 40, 3) := by decide +kernel
theorem dX5_add_23 : decode cX5_add 23 = .ok (.aload_n 0, 1) := by decide +kernel
theorem dX5_add_24 : decode cX5_add 24 = .ok (.getfield 24, 3) := by decide +kernel
theorem dX5_add_27 : decode cX5_add 27 = .ok (.iload_n 2, 1) := by decide +kernel
theorem dX5_add_28 : decode cX5_add 28 = .ok (.aload_n 0, 1) := by decide +kernel
theorem dX5_add_29 : decode cX5_add 29 = .ok (.getfield 24, 3) := by decide +kernel
theorem dX5_add_32 : decode cX5_add 32 = .ok (.iload_n 1, 1) := by decide +kernel
theorem dX5_add_33 : decode cX5_add 33 = .ok (.invokevirtual 36, 3) := by decide +kernel
theorem dX5_add_36 : decode cX5_add 36 = .ok (.iconst 1, 1) := by decide +kernel
theorem dX5_add_37 : decode cX5_add 37 = .ok (.iload_n 1, 1) := by decide +kernel
theorem dX5_add_38 : decode cX5_add 38 = .ok (.ishl, 1) := by decide +kernel
theorem dX5_add_39 : decode cX5_add 39 = .ok (.ior, 1) := by decide +kernel
theorem dX5_add_40 : decode cX5_add 40 = .ok (.invokevirtual 40, 3) := by decide +kernel
theorem dX5_add_43 : decode cX5_add 43 = .ok (.aload_n 0, 1) := by decide +kernel
theorem dX5_add_44 : decode cX5_add 44 = .ok (.dup, 1) := by decide +kernel
theorem dX5_add_45 : decode cX5_add 45 = .ok (.getfield 9, 3) := by decide +kernel
theorem dX5_add_48 : decode cX5_add 48 = .ok (.iconst 1, 1) := by decide +kernel
theorem dX5_add_49 : decode cX5_add 49 = .ok (.iadd, 1) := by decide +kernel
theorem dX5_add_50 : decode cX5_add 50 = .ok (.putfield 9, 3) := by decide +kernel
theorem dX5_add_53 : decode cX5_add 53 = .ok (.iload_n 2, 1) := by decide +kernel
theorem dX5_add_54 : decode cX5_add 54 = .ok (.ireturn, 1) := by decide +kernel
theorem dX5_isBeneath_0 : decode cX5_isBeneath 0 = .ok (.iload_n 1, 1) := by decide +kernel
theorem dX5_isBeneath_1 : decode cX5_isBeneath 1 = .ok (.iload_n 2, 1) := by decide +kernel
theorem dX5_isBeneath_2 : decode cX5_isBeneath 2 = .ok (.if_icmp .eq 18, 3) := by decide +kernel
theorem dX5_isBeneath_5 : decode cX5_isBeneath 5 = .ok (.aload_n 0, 1) := by decide +kernel
theorem dX5_isBeneath_6 : decode cX5_isBeneath 6 = .ok (.getfield 24, 3) := by decide +kernel
theorem dX5_isBeneath_9 : decode cX5_isBeneath 9 = .ok (.iload_n 1, 1) := by decide +kernel
theorem dX5_isBeneath_10 : decode cX5_isBeneath 10 = .ok (.invokevirtual 36, 3) := by decide +kernel
theorem dX5_isBeneath_13 : decode cX5_isBeneath 13 = .ok (.iload_n 2, 1) := by decide +kernel
theorem dX5_isBeneath_14 : decode cX5_isBeneath 14 = .ok (.invokestatic 43, 3) := by decide +kernel
theorem dX5_isBeneath_17 : decode cX5_isBeneath 17 = .ok (.ifCond .eq 7, 3) := by decide +kernel
theorem dX5_isBeneath_20 : decode cX5_isBeneath 20 = .ok (.iconst 1, 1) := by decide +kernel
theorem dX5_isBeneath_21 : decode cX5_isBeneath 21 = .ok (.goto 4, 3) := by decide +kernel
theorem dX5_isBeneath_24 : decode cX5_isBeneath 24 = .ok (.iconst 0, 1) := by decide +kernel
theorem dX5_isBeneath_25 : decode cX5_isBeneath 25 = .ok (.ireturn, 1) := by decide +kernel
theorem dX5_farUp_0 : decode cX5_farUp 0 = .ok (.aload_n 0, 1) := by decide +kernel
theorem dX5_farUp_1 : decode cX5_farUp 1 = .ok (.iload_n 1, 1) := by decide +kernel
theorem dX5_farUp_2 : decode cX5_farUp 2 = .ok (.iload_n 2, 1) := by decide +kernel
theorem dX5_farUp_3 : decode cX5_farUp 3 = .ok (.invokevirtual 47, 3) := by decide +kernel
theorem dX5_farUp_6 : decode cX5_farUp 6 = .ok (.ifCond .eq 23, 3) := by decide +kernel
theorem dX5_farUp_9 : decode cX5_farUp 9 = .ok (.aload_n 0, 1) := by decide +kernel
theorem dX5_farUp_10 : decode cX5_farUp 10 = .ok (.getfield 20, 3) := by decide +kernel
theorem dX5_farUp_13 : decode cX5_farUp 13 = .ok (.iload_n 1, 1) := by decide +kernel
theorem dX5_farUp_14 : decode cX5_farUp 14 = .ok (.invokevirtual 36, 3) := by decide +kernel
theorem dX5_farUp_17 : decode cX5_farUp 17 = .ok (.aload_n 0, 1) := by decide +kernel
theorem dX5_farUp_18 : decode cX5_farUp 18 = .ok (.getfield 20, 3) := by decide +kernel
theorem dX5_farUp_21 : decode cX5_farUp 21 = .ok (.iload_n 2, 1) := by decide +kernel
theorem dX5_farUp_22 : decode cX5_farUp 22 = .ok (.invokevirtual 36, 3) := by decide +kernel
theorem dX5_farUp_25 : decode cX5_farUp 25 = .ok (.isub, 1) := by decide +kernel
theorem dX5_farUp_26 : decode cX5_farUp 26 = .ok (.goto 4, 3) := by decide +kernel
theorem dX5_farUp_29 : decode cX5_farUp 29 = .ok (.iconst (-1), 1) := by decide +kernel
theorem dX5_farUp_30 : decode cX5_farUp 30 = .ok (.ireturn, 1) := by decide +kernel
theorem dX6_init_0 : decode cX6_init 0 = .ok (.aload_n 0, 1) := by decide +kernel
theorem dX6_init_1 : decode cX6_init 1 = .ok (.invokespecial 3, 3) := by decide +kernel
theorem dX6_init_4 : decode cX6_init 4 = .ok (.aload_n 0, 1) := by decide +kernel
theorem dX6_init_5 : decode cX6_init 5 = .ok (.new 9, 3) := by decide +kernel
theorem dX6_init_8 : decode cX6_init 8 = .ok (.dup, 1) := by decide +kernel
theorem dX6_init_9 : decode cX6_init 9 = .ok (.bipush 12, 2) := by decide +kernel
theorem dX6_init_11 : decode cX6_init 11 = .ok (.iconst 0, 1) := by decide +kernel
theorem dX6_init_12 : decode cX6_init 12 = .ok (.invokespecial 11, 3) := by decide +kernel
theorem dX6_init_15 : decode cX6_init 15 = .ok (.putfield 14, 3) := by decide +kernel
theorem dX6_init_18 : decode cX6_init 18 = .ok (.aload_n 0, 1) := by decide +kernel
theorem dX6_init_19 : decode cX6_init 19 = .ok (.new 9, 3) := by decide +kernel
theorem dX6_init_22 : decode cX6_init 22 = .ok (.dup, 1) := by decide +kernel
theorem dX6_init_23 : decode cX6_init 23 = .ok (.bipush 12, 2) := by decide +kernel
theorem dX6_init_25 : decode cX6_init 25 = .ok (.iconst 0, 1) := by decide +kernel
theorem dX6_init_26 : decode cX6_init 26 = .ok (.invokespecial 11, 3) := by decide +kernel
theorem dX6_init_29 : decode cX6_init 29 = .ok (.putfield 20, 3) := by decide +kernel
theorem dX6_init_32 : decode cX6_init 32 = .ok (.aload_n 0, 1) := by decide +kernel
theorem dX6_init_33 : decode cX6_init 33 = .ok (.new 9, 3) := by decide +kernel
theorem dX6_init_36 : decode cX6_init 36 = .ok (.dup, 1) := by decide +kernel
theorem dX6_init_37 : decode cX6_init 37 = .ok (.bipush 12, 2) := by decide +kernel
theorem dX6_init_39 : decode cX6_init 39 = .ok (.iconst 0, 1) := by decide +kernel
theorem dX6_init_40 : decode cX6_init 40 = .ok (.invokespecial 11, 3) := by decide +kernel
theorem dX6_init_43 : decode cX6_init 43 = .ok (.putfield 23, 3) := by decide +kernel
theorem dX6_init_46 : decode cX6_init 46 = .ok (.aload_n 0, 1) := by decide +kernel
theorem dX6_init_47 : decode cX6_init 47 = .ok (.new 9, 3) := by decide +kernel
theorem dX6_init_50 : decode cX6_init 50 = .ok (.dup, 1) := by decide +kernel
theorem dX6_init_51 : decode cX6_init 51 = .ok (.sipush 288, 3) := by decide +kernel
theorem dX6_init_54 : decode cX6_init 54 = .ok (.iconst 0, 1) := by decide +kernel
theorem dX6_init_55 : decode cX6_init 55 = .ok (.invokespecial 11, 3) := by decide +kernel
theorem dX6_init_58 : decode cX6_init 58 = .ok (.putfield 26, 3) := by decide +kernel
theorem dX6_init_61 : decode cX6_init 61 = .ok (.return_, 1) := by decide +kernel
theorem dX6_add_0 : decode cX6_add 0 = .ok (.aload_n 0, 1) := by decide +kernel
theorem dX6_add_1 : decode cX6_add 1 = .ok (.getfield 29, 3) := by decide +kernel
theorem dX6_add_4 : decode cX6_add 4 = .ok (.istore_n 3, 1) := by decide +kernel
theorem dX6_add_5 : decode cX6_add 5 = .ok (.aload_n 0, 1) := by decide +kernel
theorem dX6_add_6 : decode cX6_add 6 = .ok (.getfield 14, 3) := by decide +kernel
theorem dX6_add_9 : decode cX6_add 9 = .ok (.iload_n 3, 1) := by decide +kernel
theorem dX6_add_10 : decode cX6_add 10 = .ok (.iload_n 1, 1) := by decide +kernel
theorem dX6_add_11 : decode cX6_add 11 = .ok (.invokevirtual 33, 3) := by decide +kernel
theorem dX6_add_14 : decode cX6_add 14 = .ok (.aload_n 0, 1) := by decide +kernel
theorem dX6_add_15 : decode cX6_add 15 = .ok (.getfield 20, 3) := by decide +kernel
theorem dX6_add_18 : decode cX6_add 18 = .ok (.iload_n 3, 1) := by decide +kernel
theorem dX6_add_19 : decode cX6_add 19 = .ok (.iload_n 2, 1) := by decide +kernel
theorem dX6_add_20 : decode cX6_add 20 = .ok (.invokevirtual 33, 3) := by decide +kernel
theorem dX6_add_23 : decode cX6_add 23 = .ok (.aload_n 0, 1) := by decide +kernel
theorem dX6_add_24 : decode cX6_add 24 = .ok (.dup, 1) := by decide +kernel
theorem dX6_add_25 : decode cX6_add 25 = .ok (.getfield 29, 3) := by decide +kernel
theorem dX6_add_28 : decode cX6_add 28 = .ok (.iconst 1, 1) := by decide +kernel
theorem dX6_add_29 : decode cX6_add 29 = .ok (.iadd, 1) := by decide +kernel
theorem dX6_add_30 : decode cX6_add 30 = .ok (.putfield 29, 3) := by decide +kernel
theorem dX6_add_33 : decode cX6_add 33 = .ok (.iload_n 3, 1) := by decide +kernel
theorem dX6_add_34 : decode cX6_add 34 = .ok (.ireturn, 1) := by decide +kernel
theorem dX6_doneOn_0 : decode cX6_doneOn 0 = .ok (.aload_n 0, 1) := by decide +kernel
theorem dX6_doneOn_1 : decode cX6_doneOn 1 = .ok (.getfield 26, 3) := by decide +kernel
theorem dX6_doneOn_4 : decode cX6_doneOn 4 = .ok (.iload_n 1, 1) := by decide +kernel
theorem dX6_doneOn_5 : decode cX6_doneOn 5 = .ok (.bipush 24, 2) := by decide +kernel
theorem dX6_doneOn_7 : decode cX6_doneOn 7 = .ok (.imul, 1) := by decide +kernel
theorem dX6_doneOn_8 : decode cX6_doneOn 8 = .ok (.iload_n 2, 1) := by decide +kernel
theorem dX6_doneOn_9 : decode cX6_doneOn 9 = .ok (.iadd, 1) := by decide +kernel
theorem dX6_doneOn_10 : decode cX6_doneOn 10 = .ok (.invokevirtual 36, 3) := by decide +kernel
theorem dX6_doneOn_13 : decode cX6_doneOn 13 = .ok (.ireturn, 1) := by decide +kernel
theorem dX6_note_0 : decode cX6_note 0 = .ok (.aload_n 0, 1) := by decide +kernel
theorem dX6_note_1 : decode cX6_note 1 = .ok (.getfield 26, 3) := by decide +kernel
theorem dX6_note_4 : decode cX6_note 4 = .ok (.iload_n 1, 1) := by decide +kernel
theorem dX6_note_5 : decode cX6_note 5 = .ok (.bipush 24, 2) := by decide +kernel
theorem dX6_note_7 : decode cX6_note 7 = .ok (.imul, 1) := by decide +kernel
theorem dX6_note_8 : decode cX6_note 8 = .ok (.iload_n 3, 1) := by decide +kernel
theorem dX6_note_9 : decode cX6_note 9 = .ok (.iadd, 1) := by decide +kernel
theorem dX6_note_10 : decode cX6_note 10 = .ok (.aload_n 0, 1) := by decide +kernel
theorem dX6_note_11 : decode cX6_note 11 = .ok (.iload_n 1, 1) := by decide +kernel
theorem dX6_note_12 : decode cX6_note 12 = .ok (.iload_n 3, 1) := by decide +kernel
theorem dX6_note_13 : decode cX6_note 13 = .ok (.invokevirtual 40, 3) := by decide +kernel
theorem dX6_note_16 : decode cX6_note 16 = .ok (.iconst 1, 1) := by decide +kernel
theorem dX6_note_17 : decode cX6_note 17 = .ok (.iload_n 2, 1) := by decide +kernel
theorem dX6_note_18 : decode cX6_note 18 = .ok (.ishl, 1) := by decide +kernel
theorem dX6_note_19 : decode cX6_note 19 = .ok (.ior, 1) := by decide +kernel
theorem dX6_note_20 : decode cX6_note 20 = .ok (.invokevirtual 33, 3) := by decide +kernel
theorem dX6_note_23 : decode cX6_note 23 = .ok (.return_, 1) := by decide +kernel
theorem dX7_init_0 : decode cX7_init 0 = .ok (.aload_n 0, 1) := by decide +kernel
theorem dX7_init_1 : decode cX7_init 1 = .ok (.invokespecial 3, 3) := by decide +kernel
theorem dX7_init_4 : decode cX7_init 4 = .ok (.aload_n 0, 1) := by decide +kernel
theorem dX7_init_5 : decode cX7_init 5 = .ok (.new 9, 3) := by decide +kernel
theorem dX7_init_8 : decode cX7_init 8 = .ok (.dup, 1) := by decide +kernel
theorem dX7_init_9 : decode cX7_init 9 = .ok (.iconst 5, 1) := by decide +kernel
theorem dX7_init_10 : decode cX7_init 10 = .ok (.iconst 0, 1) := by decide +kernel
theorem dX7_init_11 : decode cX7_init 11 = .ok (.invokespecial 11, 3) := by decide +kernel
theorem dX7_init_14 : decode cX7_init 14 = .ok (.putfield 14, 3) := by decide +kernel
theorem dX7_init_17 : decode cX7_init 17 = .ok (.aload_n 0, 1) := by decide +kernel
theorem dX7_init_18 : decode cX7_init 18 = .ok (.new 9, 3) := by decide +kernel
theorem dX7_init_21 : decode cX7_init 21 = .ok (.dup, 1) := by decide +kernel
theorem dX7_init_22 : decode cX7_init 22 = .ok (.bipush 24, 2) := by decide +kernel
theorem dX7_init_24 : decode cX7_init 24 = .ok (.iconst 0, 1) := by decide +kernel
theorem dX7_init_25 : decode cX7_init 25 = .ok (.invokespecial 11, 3) := by decide +kernel
theorem dX7_init_28 : decode cX7_init 28 = .ok (.putfield 20, 3) := by decide +kernel
theorem dX7_init_31 : decode cX7_init 31 = .ok (.aload_n 0, 1) := by decide +kernel
theorem dX7_init_32 : decode cX7_init 32 = .ok (.new 9, 3) := by decide +kernel
theorem dX7_init_35 : decode cX7_init 35 = .ok (.dup, 1) := by decide +kernel
theorem dX7_init_36 : decode cX7_init 36 = .ok (.bipush 12, 2) := by decide +kernel
theorem dX7_init_38 : decode cX7_init 38 = .ok (.iconst 0, 1) := by decide +kernel
theorem dX7_init_39 : decode cX7_init 39 = .ok (.invokespecial 11, 3) := by decide +kernel
theorem dX7_init_42 : decode cX7_init 42 = .ok (.putfield 23, 3) := by decide +kernel
theorem dX7_init_45 : decode cX7_init 45 = .ok (.aload_n 0, 1) := by decide +kernel
theorem dX7_init_46 : decode cX7_init 46 = .ok (.new 9, 3) := by decide +kernel
theorem dX7_init_49 : decode cX7_init 49 = .ok (.dup, 1) := by decide +kernel
theorem dX7_init_50 : decode cX7_init 50 = .ok (.sipush 360, 3) := by decide +kernel
theorem dX7_init_53 : decode cX7_init 53 = .ok (.iconst 0, 1) := by decide +kernel
theorem dX7_init_54 : decode cX7_init 54 = .ok (.invokespecial 11, 3) := by decide +kernel
theorem dX7_init_57 : decode cX7_init 57 = .ok (.putfield 26, 3) := by decide +kernel
theorem dX7_init_60 : decode cX7_init 60 = .ok (.aload_n 0, 1) := by decide +kernel
theorem dX7_init_61 : decode cX7_init 61 = .ok (.new 9, 3) := by decide +kernel
theorem dX7_init_64 : decode cX7_init 64 = .ok (.dup, 1) := by decide +kernel
theorem dX7_init_65 : decode cX7_init 65 = .ok (.bipush 48, 2) := by decide +kernel
theorem dX7_init_67 : decode cX7_init 67 = .ok (.iconst 0, 1) := by decide +kernel
theorem dX7_init_68 : decode cX7_init 68 = .ok (.invokespecial 11, 3) := by decide +kernel
theorem dX7_init_71 : decode cX7_init 71 = .ok (.putfield 29, 3) := by decide +kernel
theorem dX7_init_74 : decode cX7_init 74 = .ok (.aload_n 0, 1) := by decide +kernel
theorem dX7_init_75 : decode cX7_init 75 = .ok (.new 9, 3) := by decide +kernel
theorem dX7_init_78 : decode cX7_init 78 = .ok (.dup, 1) := by decide +kernel
theorem dX7_init_79 : decode cX7_init 79 = .ok (.bipush 30, 2) := by decide +kernel
theorem dX7_init_81 : decode cX7_init 81 = .ok (.iconst 0, 1) := by decide +kernel
theorem dX7_init_82 : decode cX7_init 82 = .ok (.invokespecial 11, 3) := by decide +kernel
theorem dX7_init_85 : decode cX7_init 85 = .ok (.putfield 32, 3) := by decide +kernel
theorem dX7_init_88 : decode cX7_init 88 = .ok (.aload_n 0, 1) := by decide +kernel
theorem dX7_init_89 : decode cX7_init 89 = .ok (.aload_n 1, 1) := by decide +kernel
theorem dX7_init_90 : decode cX7_init 90 = .ok (.putfield 35, 3) := by decide +kernel
theorem dX7_init_93 : decode cX7_init 93 = .ok (.return_, 1) := by decide +kernel
theorem dX7_look_0 : decode cX7_look 0 = .ok (.aload_n 0, 1) := by decide +kernel
theorem dX7_look_1 : decode cX7_look 1 = .ok (.iload_n 1, 1) := by decide +kernel
theorem dX7_look_2 : decode cX7_look 2 = .ok (.putfield 39, 3) := by decide +kernel
theorem dX7_look_5 : decode cX7_look 5 = .ok (.aload_n 0, 1) := by decide +kernel
theorem dX7_look_6 : decode cX7_look 6 = .ok (.iload_n 2, 1) := by decide +kernel
theorem dX7_look_7 : decode cX7_look 7 = .ok (.invokevirtual 43, 3) := by decide +kernel
theorem dX7_look_10 : decode cX7_look 10 = .ok (.aload_n 0, 1) := by decide +kernel
theorem dX7_look_11 : decode cX7_look 11 = .ok (.invokevirtual 47, 3) := by decide +kernel
theorem dX7_look_14 : decode cX7_look 14 = .ok (.iconst 0, 1) := by decide +kernel
theorem dX7_look_15 : decode cX7_look 15 = .ok (.istore_n 3, 1) := by decide +kernel
theorem dX7_look_16 : decode cX7_look 16 = .ok (.iload_n 3, 1) := by decide +kernel
theorem dX7_look_17 : decode cX7_look 17 = .ok (.aload_n 0, 1) := by decide +kernel
theorem dX7_look_18 : decode cX7_look 18 = .ok (.getfield 35, 3) := by decide +kernel
theorem dX7_look_21 : decode cX7_look 21 = .ok (.getfield 50, 3) := by decide +kernel
theorem dX7_look_24 : decode cX7_look 24 = .ok (.getfield 56, 3) := by decide +kernel
theorem dX7_look_27 : decode cX7_look 27 = .ok (.if_icmp .ge 28, 3) := by decide +kernel
theorem dX7_look_30 : decode cX7_look 30 = .ok (.aload_n 0, 1) := by decide +kernel
theorem dX7_look_31 : decode cX7_look 31 = .ok (.iload_n 3, 1) := by decide +kernel
theorem dX7_look_32 : decode cX7_look 32 = .ok (.aload_n 0, 1) := by decide +kernel
theorem dX7_look_33 : decode cX7_look 33 = .ok (.getfield 35, 3) := by decide +kernel
theorem dX7_look_36 : decode cX7_look 36 = .ok (.getfield 50, 3) := by decide +kernel
theorem dX7_look_39 : decode cX7_look 39 = .ok (.getfield 61, 3) := by decide +kernel
theorem dX7_look_42 : decode cX7_look 42 = .ok (.iload_n 3, 1) := by decide +kernel
theorem dX7_look_43 : decode cX7_look 43 = .ok (.invokevirtual 64, 3) := by decide +kernel
theorem dX7_look_46 : decode cX7_look 46 = .ok (.invokevirtual 68, 3) := by decide +kernel
theorem dX7_look_49 : decode cX7_look 49 = .ok (.iinc 3 1, 3) := by decide +kernel
theorem dX7_look_52 : decode cX7_look 52 = .ok (.goto (-36), 3) := by decide +kernel
theorem dX7_look_55 : decode cX7_look 55 = .ok (.aload_n 0, 1) := by decide +kernel
theorem dX7_look_56 : decode cX7_look 56 = .ok (.invokevirtual 71, 3) := by decide +kernel
theorem dX7_look_59 : decode cX7_look 59 = .ok (.return_, 1) := by decide +kernel
theorem dX7_lookAtRules_0 : decode cX7_lookAtRules 0 = .ok (.aload_n 0, 1) := by decide +kernel
theorem dX7_lookAtRules_1 : decode cX7_lookAtRules 1 = .ok (.getfield 14, 3) := by decide +kernel
theorem dX7_lookAtRules_4 : decode cX7_lookAtRules 4 = .ok (.invokevirtual 74, 3) := by decide +kernel
theorem dX7_lookAtRules_7 : decode cX7_lookAtRules 7 = .ok (.aload_n 0, 1) := by decide +kernel
theorem dX7_lookAtRules_8 : decode cX7_lookAtRules 8 = .ok (.getfield 20, 3) := by decide +kernel
theorem dX7_lookAtRules_11 : decode cX7_lookAtRules 11 = .ok (.invokevirtual 74, 3) := by decide +kernel
theorem dX7_lookAtRules_14 : decode cX7_lookAtRules 14 = .ok (.aload_n 0, 1) := by decide +kernel
theorem dX7_lookAtRules_15 : decode cX7_lookAtRules 15 = .ok (.iconst 0, 1) := by decide +kernel
theorem dX7_lookAtRules_16 : decode cX7_lookAtRules 16 = .ok (.putfield 77, 3) := by decide +kernel
theorem dX7_lookAtRules_19 : decode cX7_lookAtRules 19 = .ok (.aload_n 0, 1) := by decide +kernel
theorem dX7_lookAtRules_20 : decode cX7_lookAtRules 20 = .ok (.iconst 0, 1) := by decide +kernel
theorem dX7_lookAtRules_21 : decode cX7_lookAtRules 21 = .ok (.putfield 80, 3) := by decide +kernel
theorem dX7_lookAtRules_24 : decode cX7_lookAtRules 24 = .ok (.aload_n 0, 1) := by decide +kernel
theorem dX7_lookAtRules_25 : decode cX7_lookAtRules 25 = .ok (.getfield 35, 3) := by decide +kernel
theorem dX7_lookAtRules_28 : decode cX7_lookAtRules 28 = .ok (.invokevirtual 83, 3) := by decide +kernel
theorem dX7_lookAtRules_31 : decode cX7_lookAtRules 31 = .ok (.istore_n 2, 1) := by decide +kernel
theorem dX7_lookAtRules_32 : decode cX7_lookAtRules 32 = .ok (.iconst 0, 1) := by decide +kernel
theorem dX7_lookAtRules_33 : decode cX7_lookAtRules 33 = .ok (.istore_n 3, 1) := by decide +kernel
theorem dX7_lookAtRules_34 : decode cX7_lookAtRules 34 = .ok (.iload_n 3, 1) := by decide +kernel
theorem dX7_lookAtRules_35 : decode cX7_lookAtRules 35 = .ok (.aload_n 0, 1) := by decide +kernel
theorem dX7_lookAtRules_36 : decode cX7_lookAtRules 36 = .ok (.getfield 35, 3) := by decide +kernel
theorem dX7_lookAtRules_39 : decode cX7_lookAtRules 39 = .ok (.getfield 87, 3) := by decide +kernel
theorem dX7_lookAtRules_42 : decode cX7_lookAtRules 42 = .ok (.getfield 91, 3) := by decide +kernel
theorem dX7_lookAtRules_45 : decode cX7_lookAtRules 45 = .ok (.if_icmp .ge 79, 3) := by decide +kernel
theorem dX7_lookAtRules_48 : decode cX7_lookAtRules 48 = .ok (.iload_n 1, 1) := by decide +kernel
theorem dX7_lookAtRules_49 : decode cX7_lookAtRules 49 = .ok (.iload_n 3, 1) := by decide +kernel
theorem dX7_lookAtRules_50 : decode cX7_lookAtRules 50 = .ok (.invokestatic 94, 3) := by decide +kernel
theorem dX7_lookAtRules_53 : decode cX7_lookAtRules 53 = .ok (.ifCond .ne 30, 3) := by decide +kernel
theorem dX7_lookAtRules_56 : decode cX7_lookAtRules 56 = .ok (.aload_n 0, 1) := by decide +kernel
theorem dX7_lookAtRules_57 : decode cX7_lookAtRules 57 = .ok (.getfield 35, 3) := by decide +kernel
theorem dX7_lookAtRules_60 : decode cX7_lookAtRules 60 = .ok (.getfield 87, 3) := by decide +kernel
theorem dX7_lookAtRules_63 : decode cX7_lookAtRules 63 = .ok (.iload_n 3, 1) := by decide +kernel
theorem dX7_lookAtRules_64 : decode cX7_lookAtRules 64 = .ok (.iload_n 2, 1) := by decide +kernel
theorem dX7_lookAtRules_65 : decode cX7_lookAtRules 65 = .ok (.invokevirtual 98, 3) := by decide +kernel
theorem dX7_lookAtRules_68 : decode cX7_lookAtRules 68 = .ok (.ifCond .eq 15, 3) := by decide +kernel
theorem dX7_lookAtRules_71 : decode cX7_lookAtRules 71 = .ok (.aload_n 0, 1) := by decide +kernel
theorem dX7_lookAtRules_72 : decode cX7_lookAtRules 72 = .ok (.dup, 1) := by decide +kernel
theorem dX7_lookAtRules_73 : decode cX7_lookAtRules 73 = .ok (.getfield 77, 3) := by decide +kernel
theorem dX7_lookAtRules_76 : decode cX7_lookAtRules 76 = .ok (.iconst 1, 1) := by decide +kernel
theorem dX7_lookAtRules_77 : decode cX7_lookAtRules 77 = .ok (.iload_n 3, 1) := by decide +kernel
theorem dX7_lookAtRules_78 : decode cX7_lookAtRules 78 = .ok (.ishl, 1) := by decide +kernel
theorem dX7_lookAtRules_79 : decode cX7_lookAtRules 79 = .ok (.ior, 1) := by decide +kernel
theorem dX7_lookAtRules_80 : decode cX7_lookAtRules 80 = .ok (.putfield 77, 3) := by decide +kernel
theorem dX7_lookAtRules_83 : decode cX7_lookAtRules 83 = .ok (.aload_n 0, 1) := by decide +kernel
theorem dX7_lookAtRules_84 : decode cX7_lookAtRules 84 = .ok (.getfield 35, 3) := by decide +kernel
theorem dX7_lookAtRules_87 : decode cX7_lookAtRules 87 = .ok (.getfield 87, 3) := by decide +kernel
theorem dX7_lookAtRules_90 : decode cX7_lookAtRules 90 = .ok (.getfield 101, 3) := by decide +kernel
theorem dX7_lookAtRules_93 : decode cX7_lookAtRules 93 = .ok (.iload_n 3, 1) := by decide +kernel
theorem dX7_lookAtRules_94 : decode cX7_lookAtRules 94 = .ok (.invokevirtual 64, 3) := by decide +kernel
theorem dX7_lookAtRules_97 : decode cX7_lookAtRules 97 = .ok (.iconst 1, 1) := by decide +kernel
theorem dX7_lookAtRules_98 : decode cX7_lookAtRules 98 = .ok (.if_icmp .ne 15, 3) := by decide +kernel
theorem dX7_lookAtRules_101 : decode cX7_lookAtRules 101 = .ok (.aload_n 0, 1) := by decide +kernel
theorem dX7_lookAtRules_102 : decode cX7_lookAtRules 102 = .ok (.dup, 1) := by decide +kernel
theorem dX7_lookAtRules_103 : decode cX7_lookAtRules 103 = .ok (.getfield 80, 3) := by decide +kernel
theorem dX7_lookAtRules_106 : decode cX7_lookAtRules 106 = .ok (.iconst 1, 1) := by decide +kernel
theorem dX7_lookAtRules_107 : decode cX7_lookAtRules 107 = .ok (.iload_n 3, 1) := by decide +kernel
theorem dX7_lookAtRules_108 : decode cX7_lookAtRules 108 = .ok (.ishl, 1) := by decide +kernel
theorem dX7_lookAtRules_109 : decode cX7_lookAtRules 109 = .ok (.ior, 1) := by decide +kernel
theorem dX7_lookAtRules_110 : decode cX7_lookAtRules 110 = .ok (.putfield 80, 3) := by decide +kernel
theorem dX7_lookAtRules_113 : decode cX7_lookAtRules 113 = .ok (.aload_n 0, 1) := by decide +kernel
theorem dX7_lookAtRules_114 : decode cX7_lookAtRules 114 = .ok (.iload_n 3, 1) := by decide +kernel
theorem dX7_lookAtRules_115 : decode cX7_lookAtRules 115 = .ok (.invokevirtual 104, 3) := by decide +kernel
theorem dX7_lookAtRules_118 : decode cX7_lookAtRules 118 = .ok (.iinc 3 1, 3) := by decide +kernel
theorem dX7_lookAtRules_121 : decode cX7_lookAtRules 121 = .ok (.goto (-87), 3) := by decide +kernel
theorem dX7_lookAtRules_124 : decode cX7_lookAtRules 124 = .ok (.return_, 1) := by decide +kernel
theorem dX7_lookWhere_0 : decode cX7_lookWhere 0 = .ok (.iconst 1, 1) := by decide +kernel
theorem dX7_lookWhere_1 : decode cX7_lookWhere 1 = .ok (.iload_n 1, 1) := by decide +kernel
theorem dX7_lookWhere_2 : decode cX7_lookWhere 2 = .ok (.ishl, 1) := by decide +kernel
theorem dX7_lookWhere_3 : decode cX7_lookWhere 3 = .ok (.istore_n 2, 1) := by decide +kernel
theorem dX7_lookWhere_4 : decode cX7_lookWhere 4 = .ok (.iconst 0, 1) := by decide +kernel
theorem dX7_lookWhere_5 : decode cX7_lookWhere 5 = .ok (.istore_n 3, 1) := by decide +kernel
theorem dX7_lookWhere_6 : decode cX7_lookWhere 6 = .ok (.iload_n 3, 1) := by decide +kernel
theorem dX7_lookWhere_7 : decode cX7_lookWhere 7 = .ok (.iconst 5, 1) := by decide +kernel
theorem dX7_lookWhere_8 : decode cX7_lookWhere 8 = .ok (.if_icmp .ge 48, 3) := by decide +kernel
theorem dX7_lookWhere_11 : decode cX7_lookWhere 11 = .ok (.aload_n 0, 1) := by decide +kernel
theorem dX7_lookWhere_12 : decode cX7_lookWhere 12 = .ok (.getfield 35, 3) := by decide +kernel
theorem dX7_lookWhere_15 : decode cX7_lookWhere 15 = .ok (.getfield 87, 3) := by decide +kernel
theorem dX7_lookWhere_18 : decode cX7_lookWhere 18 = .ok (.getfield 107, 3) := by decide +kernel
theorem dX7_lookWhere_21 : decode cX7_lookWhere 21 = .ok (.iload_n 1, 1) := by decide +kernel
theorem dX7_lookWhere_22 : decode cX7_lookWhere 22 = .ok (.invokevirtual 64, 3) := by decide +kernel
theorem dX7_lookWhere_25 : decode cX7_lookWhere 25 = .ok (.iload_n 3, 1) := by decide +kernel
theorem dX7_lookWhere_26 : decode cX7_lookWhere 26 = .ok (.invokestatic 94, 3) := by decide +kernel
theorem dX7_lookWhere_29 : decode cX7_lookWhere 29 = .ok (.ifCond .eq 21, 3) := by decide +kernel
theorem dX7_lookWhere_32 : decode cX7_lookWhere 32 = .ok (.aload_n 0, 1) := by decide +kernel
theorem dX7_lookWhere_33 : decode cX7_lookWhere 33 = .ok (.getfield 14, 3) := by decide +kernel
theorem dX7_lookWhere_36 : decode cX7_lookWhere 36 = .ok (.iload_n 3, 1) := by decide +kernel
theorem dX7_lookWhere_37 : decode cX7_lookWhere 37 = .ok (.aload_n 0, 1) := by decide +kernel
theorem dX7_lookWhere_38 : decode cX7_lookWhere 38 = .ok (.getfield 14, 3) := by decide +kernel
theorem dX7_lookWhere_41 : decode cX7_lookWhere 41 = .ok (.iload_n 3, 1) := by decide +kernel
theorem dX7_lookWhere_42 : decode cX7_lookWhere 42 = .ok (.invokevirtual 64, 3) := by decide +kernel
theorem dX7_lookWhere_45 : decode cX7_lookWhere 45 = .ok (.iload_n 2, 1) := by decide +kernel
theorem dX7_lookWhere_46 : decode cX7_lookWhere 46 = .ok (.ior, 1) := by decide +kernel
theorem dX7_lookWhere_47 : decode cX7_lookWhere 47 = .ok (.invokevirtual 110, 3) := by decide +kernel
theorem dX7_lookWhere_50 : decode cX7_lookWhere 50 = .ok (.iinc 3 1, 3) := by decide +kernel
theorem dX7_lookWhere_53 : decode cX7_lookWhere 53 = .ok (.goto (-47), 3) := by decide +kernel
theorem dX7_lookWhere_56 : decode cX7_lookWhere 56 = .ok (.aload_n 0, 1) := by decide +kernel
theorem dX7_lookWhere_57 : decode cX7_lookWhere 57 = .ok (.getfield 35, 3) := by decide +kernel
theorem dX7_lookWhere_60 : decode cX7_lookWhere 60 = .ok (.getfield 87, 3) := by decide +kernel
theorem dX7_lookWhere_63 : decode cX7_lookWhere 63 = .ok (.getfield 113, 3) := by decide +kernel
theorem dX7_lookWhere_66 : decode cX7_lookWhere 66 = .ok (.iload_n 1, 1) := by decide +kernel
theorem dX7_lookWhere_67 : decode cX7_lookWhere 67 = .ok (.invokevirtual 64, 3) := by decide +kernel
theorem dX7_lookWhere_70 : decode cX7_lookWhere 70 = .ok (.istore_n 3, 1) := by decide +kernel
theorem dX7_lookWhere_71 : decode cX7_lookWhere 71 = .ok (.aload_n 0, 1) := by decide +kernel
theorem dX7_lookWhere_72 : decode cX7_lookWhere 72 = .ok (.getfield 35, 3) := by decide +kernel
theorem dX7_lookWhere_75 : decode cX7_lookWhere 75 = .ok (.getfield 87, 3) := by decide +kernel
theorem dX7_lookWhere_78 : decode cX7_lookWhere 78 = .ok (.getfield 116, 3) := by decide +kernel
theorem dX7_lookWhere_81 : decode cX7_lookWhere 81 = .ok (.iload_n 1, 1) := by decide +kernel
theorem dX7_lookWhere_82 : decode cX7_lookWhere 82 = .ok (.invokevirtual 64, 3) := by decide +kernel
theorem dX7_lookWhere_85 : decode cX7_lookWhere 85 = .ok (.iconst 1, 1) := by decide +kernel
theorem dX7_lookWhere_86 : decode cX7_lookWhere 86 = .ok (.if_icmp .ne 7, 3) := by decide +kernel
theorem dX7_lookWhere_89 : decode cX7_lookWhere 89 = .ok (.iconst 1, 1) := by decide +kernel
theorem dX7_lookWhere_90 : decode cX7_lookWhere 90 = .ok (.goto 4, 3) := by decide +kernel
theorem dX7_lookWhere_93 : decode cX7_lookWhere 93 = .ok (.iconst 0, 1) := by decide +kernel
theorem dX7_lookWhere_94 : decode cX7_lookWhere 94 = .ok (.istore 4, 2) := by decide +kernel
theorem dX7_lookWhere_96 : decode cX7_lookWhere 96 = .ok (.iconst 0, 1) := by decide +kernel
theorem dX7_lookWhere_97 : decode cX7_lookWhere 97 = .ok (.istore 5, 2) := by decide +kernel
theorem dX7_lookWhere_99 : decode cX7_lookWhere 99 = .ok (.iload 5, 2) := by decide +kernel
theorem dX7_lookWhere_101 : decode cX7_lookWhere 101 = .ok (.aload_n 0, 1) := by decide +kernel
theorem dX7_lookWhere_102 : decode cX7_lookWhere 102 = .ok (.getfield 35, 3) := by decide +kernel
theorem dX7_lookWhere_105 : decode cX7_lookWhere 105 = .ok (.getfield 119, 3) := by decide +kernel
theorem dX7_lookWhere_108 : decode cX7_lookWhere 108 = .ok (.getfield 123, 3) := by decide +kernel
theorem dX7_lookWhere_111 : decode cX7_lookWhere 111 = .ok (.if_icmp .ge 56, 3) := by decide +kernel
theorem dX7_lookWhere_114 : decode cX7_lookWhere 114 = .ok (.iload 5, 2) := by decide +kernel
theorem dX7_lookWhere_116 : decode cX7_lookWhere 116 = .ok (.iload_n 3, 1) := by decide +kernel
theorem dX7_lookWhere_117 : decode cX7_lookWhere 117 = .ok (.if_icmp .eq 24, 3) := by decide +kernel
theorem dX7_lookWhere_120 : decode cX7_lookWhere 120 = .ok (.iload 4, 2) := by decide +kernel
theorem dX7_lookWhere_122 : decode cX7_lookWhere 122 = .ok (.ifCond .eq 39, 3) := by decide +kernel
theorem dX7_lookWhere_125 : decode cX7_lookWhere 125 = .ok (.aload_n 0, 1) := by decide +kernel
theorem dX7_lookWhere_126 : decode cX7_lookWhere 126 = .ok (.getfield 35, 3) := by decide +kernel
theorem dX7_lookWhere_129 : decode cX7_lookWhere 129 = .ok (.getfield 119, 3) := by decide +kernel
theorem dX7_lookWhere_132 : decode cX7_lookWhere 132 = .ok (.iload 5, 2) := by decide +kernel
theorem dX7_lookWhere_134 : decode cX7_lookWhere 134 = .ok (.iload_n 3, 1) := by decide +kernel
theorem dX7_lookWhere_135 : decode cX7_lookWhere 135 = .ok (.invokevirtual 126, 3) := by decide +kernel
theorem dX7_lookWhere_138 : decode cX7_lookWhere 138 = .ok (.ifCond .eq 23, 3) := by decide +kernel
theorem dX7_lookWhere_141 : decode cX7_lookWhere 141 = .ok (.aload_n 0, 1) := by decide +kernel
theorem dX7_lookWhere_142 : decode cX7_lookWhere 142 = .ok (.getfield 20, 3) := by decide +kernel
theorem dX7_lookWhere_145 : decode cX7_lookWhere 145 = .ok (.iload 5, 2) := by decide +kernel
theorem dX7_lookWhere_147 : decode cX7_lookWhere 147 = .ok (.aload_n 0, 1) := by decide +kernel
theorem dX7_lookWhere_148 : decode cX7_lookWhere 148 = .ok (.getfield 20, 3) := by decide +kernel
theorem dX7_lookWhere_151 : decode cX7_lookWhere 151 = .ok (.iload 5, 2) := by decide +kernel
theorem dX7_lookWhere_153 : decode cX7_lookWhere 153 = .ok (.invokevirtual 64, 3) := by decide +kernel
theorem dX7_lookWhere_156 : decode cX7_lookWhere 156 = .ok (.iload_n 2, 1) := by decide +kernel
theorem dX7_lookWhere_157 : decode cX7_lookWhere 157 = .ok (.ior, 1) := by decide +kernel
theorem dX7_lookWhere_158 : decode cX7_lookWhere 158 = .ok (.invokevirtual 110, 3) := by decide +kernel
theorem dX7_lookWhere_161 : decode cX7_lookWhere 161 = .ok (.iinc 5 1, 3) := by decide +kernel
theorem dX7_lookWhere_164 : decode cX7_lookWhere 164 = .ok (.goto (-65), 3) := by decide +kernel
theorem dX7_lookWhere_167 : decode cX7_lookWhere 167 = .ok (.return_, 1) := by decide +kernel
theorem dX7_lookAtWalls_0 : decode cX7_lookAtWalls 0 = .ok (.aload_n 0, 1) := by decide +kernel
theorem dX7_lookAtWalls_1 : decode cX7_lookAtWalls 1 = .ok (.getfield 29, 3) := by decide +kernel
theorem dX7_lookAtWalls_4 : decode cX7_lookAtWalls 4 = .ok (.invokevirtual 74, 3) := by decide +kernel
theorem dX7_lookAtWalls_7 : decode cX7_lookAtWalls 7 = .ok (.iconst 0, 1) := by decide +kernel
theorem dX7_lookAtWalls_8 : decode cX7_lookAtWalls 8 = .ok (.istore_n 1, 1) := by decide +kernel
theorem dX7_lookAtWalls_9 : decode cX7_lookAtWalls 9 = .ok (.iload_n 1, 1) := by decide +kernel
theorem dX7_lookAtWalls_10 : decode cX7_lookAtWalls 10 = .ok (.aload_n 0, 1) := by decide +kernel
theorem dX7_lookAtWalls_11 : decode cX7_lookAtWalls 11 = .ok (.getfield 35, 3) := by decide +kernel
theorem dX7_lookAtWalls_14 : decode cX7_lookAtWalls 14 = .ok (.getfield 50, 3) := by decide +kernel
theorem dX7_lookAtWalls_17 : decode cX7_lookAtWalls 17 = .ok (.getfield 56, 3) := by decide +kernel
theorem dX7_lookAtWalls_20 : decode cX7_lookAtWalls 20 = .ok (.if_icmp .ge 108, 3) := by decide +kernel
theorem dX7_lookAtWalls_23 : decode cX7_lookAtWalls 23 = .ok (.iconst 0, 1) := by decide +kernel
theorem dX7_lookAtWalls_24 : decode cX7_lookAtWalls 24 = .ok (.istore_n 2, 1) := by decide +kernel
theorem dX7_lookAtWalls_25 : decode cX7_lookAtWalls 25 = .ok (.iload_n 2, 1) := by decide +kernel
theorem dX7_lookAtWalls_26 : decode cX7_lookAtWalls 26 = .ok (.aload_n 0, 1) := by decide +kernel
theorem dX7_lookAtWalls_27 : decode cX7_lookAtWalls 27 = .ok (.getfield 35, 3) := by decide +kernel
theorem dX7_lookAtWalls_30 : decode cX7_lookAtWalls 30 = .ok (.getfield 119, 3) := by decide +kernel
theorem dX7_lookAtWalls_33 : decode cX7_lookAtWalls 33 = .ok (.getfield 123, 3) := by decide +kernel
theorem dX7_lookAtWalls_36 : decode cX7_lookAtWalls 36 = .ok (.if_icmp .ge 86, 3) := by decide +kernel
theorem dX7_lookAtWalls_39 : decode cX7_lookAtWalls 39 = .ok (.aload_n 0, 1) := by decide +kernel
theorem dX7_lookAtWalls_40 : decode cX7_lookAtWalls 40 = .ok (.getfield 35, 3) := by decide +kernel
theorem dX7_lookAtWalls_43 : decode cX7_lookAtWalls 43 = .ok (.getfield 119, 3) := by decide +kernel
theorem dX7_lookAtWalls_46 : decode cX7_lookAtWalls 46 = .ok (.getfield 129, 3) := by decide +kernel
theorem dX7_lookAtWalls_49 : decode cX7_lookAtWalls 49 = .ok (.iload_n 2, 1) := by decide +kernel
theorem dX7_lookAtWalls_50 : decode cX7_lookAtWalls 50 = .ok (.invokevirtual 64, 3) := by decide +kernel
theorem dX7_lookAtWalls_53 : decode cX7_lookAtWalls 53 = .ok (.istore_n 3, 1) := by decide +kernel
theorem dX7_lookAtWalls_54 : decode cX7_lookAtWalls 54 = .ok (.iload_n 3, 1) := by decide +kernel
theorem dX7_lookAtWalls_55 : decode cX7_lookAtWalls 55 = .ok (.iconst (-1), 1) := by decide +kernel
theorem dX7_lookAtWalls_56 : decode cX7_lookAtWalls 56 = .ok (.if_icmp .eq 60, 3) := by decide +kernel
theorem dX7_lookAtWalls_59 : decode cX7_lookAtWalls 59 = .ok (.aload_n 0, 1) := by decide +kernel
theorem dX7_lookAtWalls_60 : decode cX7_lookAtWalls 60 = .ok (.getfield 35, 3) := by decide +kernel
theorem dX7_lookAtWalls_63 : decode cX7_lookAtWalls 63 = .ok (.getfield 50, 3) := by decide +kernel
theorem dX7_lookAtWalls_66 : decode cX7_lookAtWalls 66 = .ok (.iload_n 1, 1) := by decide +kernel
theorem dX7_lookAtWalls_67 : decode cX7_lookAtWalls 67 = .ok (.iload_n 2, 1) := by decide +kernel
theorem dX7_lookAtWalls_68 : decode cX7_lookAtWalls 68 = .ok (.invokevirtual 132, 3) := by decide +kernel
theorem dX7_lookAtWalls_71 : decode cX7_lookAtWalls 71 = .ok (.ifCond .eq 45, 3) := by decide +kernel
theorem dX7_lookAtWalls_74 : decode cX7_lookAtWalls 74 = .ok (.iload_n 1, 1) := by decide +kernel
theorem dX7_lookAtWalls_75 : decode cX7_lookAtWalls 75 = .ok (.iconst 4, 1) := by decide +kernel
theorem dX7_lookAtWalls_76 : decode cX7_lookAtWalls 76 = .ok (.imul, 1) := by decide +kernel
theorem dX7_lookAtWalls_77 : decode cX7_lookAtWalls 77 = .ok (.iload_n 3, 1) := by decide +kernel
theorem dX7_lookAtWalls_78 : decode cX7_lookAtWalls 78 = .ok (.iadd, 1) := by decide +kernel
theorem dX7_lookAtWalls_79 : decode cX7_lookAtWalls 79 = .ok (.istore 4, 2) := by decide +kernel
theorem dX7_lookAtWalls_81 : decode cX7_lookAtWalls 81 = .ok (.aload_n 0, 1) := by decide +kernel
theorem dX7_lookAtWalls_82 : decode cX7_lookAtWalls 82 = .ok (.getfield 29, 3) := by decide +kernel
theorem dX7_lookAtWalls_85 : decode cX7_lookAtWalls 85 = .ok (.iload 4, 2) := by decide +kernel
theorem dX7_lookAtWalls_87 : decode cX7_lookAtWalls 87 = .ok (.aload_n 0, 1) := by decide +kernel
theorem dX7_lookAtWalls_88 : decode cX7_lookAtWalls 88 = .ok (.getfield 29, 3) := by decide +kernel
theorem dX7_lookAtWalls_91 : decode cX7_lookAtWalls 91 = .ok (.iload 4, 2) := by decide +kernel
theorem dX7_lookAtWalls_93 : decode cX7_lookAtWalls 93 = .ok (.invokevirtual 64, 3) := by decide +kernel
theorem dX7_lookAtWalls_96 : decode cX7_lookAtWalls 96 = .ok (.iconst 1, 1) := by decide +kernel
theorem dX7_lookAtWalls_97 : decode cX7_lookAtWalls 97 = .ok (.aload_n 0, 1) := by decide +kernel
theorem dX7_lookAtWalls_98 : decode cX7_lookAtWalls 98 = .ok (.getfield 35, 3) := by decide +kernel
theorem dX7_lookAtWalls_101 : decode cX7_lookAtWalls 101 = .ok (.getfield 119, 3) := by decide +kernel
theorem dX7_lookAtWalls_104 : decode cX7_lookAtWalls 104 = .ok (.getfield 136, 3) := by decide +kernel
theorem dX7_lookAtWalls_107 : decode cX7_lookAtWalls 107 = .ok (.iload_n 2, 1) := by decide +kernel
theorem dX7_lookAtWalls_108 : decode cX7_lookAtWalls 108 = .ok (.invokevirtual 64, 3) := by decide +kernel
theorem dX7_lookAtWalls_111 : decode cX7_lookAtWalls 111 = .ok (.ishl, 1) := by decide +kernel
theorem dX7_lookAtWalls_112 : decode cX7_lookAtWalls 112 = .ok (.ior, 1) := by decide +kernel
theorem dX7_lookAtWalls_113 : decode cX7_lookAtWalls 113 = .ok (.invokevirtual 110, 3) := by decide +kernel
theorem dX7_lookAtWalls_116 : decode cX7_lookAtWalls 116 = .ok (.iinc 2 1, 3) := by decide +kernel
theorem dX7_lookAtWalls_119 : decode cX7_lookAtWalls 119 = .ok (.goto (-94), 3) := by decide +kernel
theorem dX7_lookAtWalls_122 : decode cX7_lookAtWalls 122 = .ok (.iinc 1 1, 3) := by decide +kernel
theorem dX7_lookAtWalls_125 : decode cX7_lookAtWalls 125 = .ok (.goto (-116), 3) := by decide +kernel
theorem dX7_lookAtWalls_128 : decode cX7_lookAtWalls 128 = .ok (.return_, 1) := by decide +kernel
theorem dX7_giveSet_0 : decode cX7_giveSet 0 = .ok (.aload_n 0, 1) := by decide +kernel
theorem dX7_giveSet_1 : decode cX7_giveSet 1 = .ok (.getfield 35, 3) := by decide +kernel
theorem dX7_giveSet_4 : decode cX7_giveSet 4 = .ok (.getfield 50, 3) := by decide +kernel
theorem dX7_giveSet_7 : decode cX7_giveSet 7 = .ok (.getfield 139, 3) := by decide +kernel
theorem dX7_giveSet_10 : decode cX7_giveSet 10 = .ok (.iload_n 1, 1) := by decide +kernel
theorem dX7_giveSet_11 : decode cX7_giveSet 11 = .ok (.invokevirtual 64, 3) := by decide +kernel
theorem dX7_giveSet_14 : decode cX7_giveSet 14 = .ok (.istore_n 3, 1) := by decide +kernel
theorem dX7_giveSet_15 : decode cX7_giveSet 15 = .ok (.iconst 0, 1) := by decide +kernel
theorem dX7_giveSet_16 : decode cX7_giveSet 16 = .ok (.istore 4, 2) := by decide +kernel
theorem dX7_giveSet_18 : decode cX7_giveSet 18 = .ok (.iconst 0, 1) := by decide +kernel
theorem dX7_giveSet_19 : decode cX7_giveSet 19 = .ok (.istore 5, 2) := by decide +kernel
theorem dX7_giveSet_21 : decode cX7_giveSet 21 = .ok (.iload 5, 2) := by decide +kernel
theorem dX7_giveSet_23 : decode cX7_giveSet 23 = .ok (.aload_n 0, 1) := by decide +kernel
theorem dX7_giveSet_24 : decode cX7_giveSet 24 = .ok (.getfield 35, 3) := by decide +kernel
theorem dX7_giveSet_27 : decode cX7_giveSet 27 = .ok (.getfield 87, 3) := by decide +kernel
theorem dX7_giveSet_30 : decode cX7_giveSet 30 = .ok (.getfield 91, 3) := by decide +kernel
theorem dX7_giveSet_33 : decode cX7_giveSet 33 = .ok (.if_icmp .ge 105, 3) := by decide +kernel
theorem dX7_giveSet_36 : decode cX7_giveSet 36 = .ok (.aload_n 0, 1) := by decide +kernel
theorem dX7_giveSet_37 : decode cX7_giveSet 37 = .ok (.getfield 77, 3) := by decide +kernel
theorem dX7_giveSet_40 : decode cX7_giveSet 40 = .ok (.iload 5, 2) := by decide +kernel
theorem dX7_giveSet_42 : decode cX7_giveSet 42 = .ok (.invokestatic 94, 3) := by decide +kernel
theorem dX7_giveSet_45 : decode cX7_giveSet 45 = .ok (.ifCond .eq 29, 3) := by decide +kernel
theorem dX7_giveSet_48 : decode cX7_giveSet 48 = .ok (.aload_n 0, 1) := by decide +kernel
theorem dX7_giveSet_49 : decode cX7_giveSet 49 = .ok (.getfield 35, 3) := by decide +kernel
theorem dX7_giveSet_52 : decode cX7_giveSet 52 = .ok (.getfield 87, 3) := by decide +kernel
theorem dX7_giveSet_55 : decode cX7_giveSet 55 = .ok (.getfield 142, 3) := by decide +kernel
theorem dX7_giveSet_58 : decode cX7_giveSet 58 = .ok (.iload 5, 2) := by decide +kernel
theorem dX7_giveSet_60 : decode cX7_giveSet 60 = .ok (.invokevirtual 64, 3) := by decide +kernel
theorem dX7_giveSet_63 : decode cX7_giveSet 63 = .ok (.iload_n 3, 1) := by decide +kernel
theorem dX7_giveSet_64 : decode cX7_giveSet 64 = .ok (.iconst (-1), 1) := by decide +kernel
theorem dX7_giveSet_65 : decode cX7_giveSet 65 = .ok (.ixor, 1) := by decide +kernel
theorem dX7_giveSet_66 : decode cX7_giveSet 66 = .ok (.iand, 1) := by decide +kernel
theorem dX7_giveSet_67 : decode cX7_giveSet 67 = .ok (.ifCond .ne 7, 3) := by decide +kernel
theorem dX7_giveSet_70 : decode cX7_giveSet 70 = .ok (.iconst 1, 1) := by decide +kernel
theorem dX7_giveSet_71 : decode cX7_giveSet 71 = .ok (.goto 4, 3) := by decide +kernel
theorem dX7_giveSet_74 : decode cX7_giveSet 74 = .ok (.iconst 0, 1) := by decide +kernel
theorem dX7_giveSet_75 : decode cX7_giveSet 75 = .ok (.istore 6, 2) := by decide +kernel
theorem dX7_giveSet_77 : decode cX7_giveSet 77 = .ok (.iload 6, 2) := by decide +kernel
theorem dX7_giveSet_79 : decode cX7_giveSet 79 = .ok (.ifCond .eq 14, 3) := by decide +kernel
theorem dX7_giveSet_82 : decode cX7_giveSet 82 = .ok (.aload_n 0, 1) := by decide +kernel
theorem dX7_giveSet_83 : decode cX7_giveSet 83 = .ok (.iload 5, 2) := by decide +kernel
theorem dX7_giveSet_85 : decode cX7_giveSet 85 = .ok (.iload_n 1, 1) := by decide +kernel
theorem dX7_giveSet_86 : decode cX7_giveSet 86 = .ok (.iload_n 2, 1) := by decide +kernel
theorem dX7_giveSet_87 : decode cX7_giveSet 87 = .ok (.invokevirtual 143, 3) := by decide +kernel
theorem dX7_giveSet_90 : decode cX7_giveSet 90 = .ok (.goto 4, 3) := by decide +kernel
theorem dX7_giveSet_93 : decode cX7_giveSet 93 = .ok (.iconst (-1), 1) := by decide +kernel
theorem dX7_giveSet_94 : decode cX7_giveSet 94 = .ok (.istore 7, 2) := by decide +kernel
theorem dX7_giveSet_96 : decode cX7_giveSet 96 = .ok (.iload 7, 2) := by decide +kernel
theorem dX7_giveSet_98 : decode cX7_giveSet 98 = .ok (.ifCond .lt 34, 3) := by decide +kernel
theorem dX7_giveSet_101 : decode cX7_giveSet 101 = .ok (.iload 4, 2) := by decide +kernel
theorem dX7_giveSet_103 : decode cX7_giveSet 103 = .ok (.iconst 1, 1) := by decide +kernel
theorem dX7_giveSet_104 : decode cX7_giveSet 104 = .ok (.iload 5, 2) := by decide +kernel
theorem dX7_giveSet_106 : decode cX7_giveSet 106 = .ok (.ishl, 1) := by decide +kernel
theorem dX7_giveSet_107 : decode cX7_giveSet 107 = .ok (.ior, 1) := by decide +kernel
theorem dX7_giveSet_108 : decode cX7_giveSet 108 = .ok (.istore 4, 2) := by decide +kernel
theorem dX7_giveSet_110 : decode cX7_giveSet 110 = .ok (.aload_n 0, 1) := by decide +kernel
theorem dX7_giveSet_111 : decode cX7_giveSet 111 = .ok (.getfield 26, 3) := by decide +kernel
theorem dX7_giveSet_114 : decode cX7_giveSet 114 = .ok (.iload_n 1, 1) := by decide +kernel
theorem dX7_giveSet_115 : decode cX7_giveSet 115 = .ok (.bipush 30, 2) := by decide +kernel
theorem dX7_giveSet_117 : decode cX7_giveSet 117 = .ok (.imul, 1) := by decide +kernel
theorem dX7_giveSet_118 : decode cX7_giveSet 118 = .ok (.iload 5, 2) := by decide +kernel
theorem dX7_giveSet_120 : decode cX7_giveSet 120 = .ok (.iadd, 1) := by decide +kernel
theorem dX7_giveSet_121 : decode cX7_giveSet 121 = .ok (.aload_n 0, 1) := by decide +kernel
theorem dX7_giveSet_122 : decode cX7_giveSet 122 = .ok (.iload 5, 2) := by decide +kernel
theorem dX7_giveSet_124 : decode cX7_giveSet 124 = .ok (.iload 7, 2) := by decide +kernel
theorem dX7_giveSet_126 : decode cX7_giveSet 126 = .ok (.invokevirtual 147, 3) := by decide +kernel
theorem dX7_giveSet_129 : decode cX7_giveSet 129 = .ok (.invokevirtual 110, 3) := by decide +kernel
theorem dX7_giveSet_132 : decode cX7_giveSet 132 = .ok (.iinc 5 1, 3) := by decide +kernel
theorem dX7_giveSet_135 : decode cX7_giveSet 135 = .ok (.goto (-114), 3) := by decide +kernel
theorem dX7_giveSet_138 : decode cX7_giveSet 138 = .ok (.aload_n 0, 1) := by decide +kernel
theorem dX7_giveSet_139 : decode cX7_giveSet 139 = .ok (.getfield 23, 3) := by decide +kernel
theorem dX7_giveSet_142 : decode cX7_giveSet 142 = .ok (.iload_n 1, 1) := by decide +kernel
theorem dX7_giveSet_143 : decode cX7_giveSet 143 = .ok (.iload 4, 2) := by decide +kernel
theorem dX7_giveSet_145 : decode cX7_giveSet 145 = .ok (.invokevirtual 110, 3) := by decide +kernel
theorem dX7_giveSet_148 : decode cX7_giveSet 148 = .ok (.return_, 1) := by decide +kernel
theorem dX7_stepsTo_0 : decode cX7_stepsTo 0 = .ok (.aload_n 0, 1) := by decide +kernel
theorem dX7_stepsTo_1 : decode cX7_stepsTo 1 = .ok (.getfield 35, 3) := by decide +kernel
theorem dX7_stepsTo_4 : decode cX7_stepsTo 4 = .ok (.getfield 87, 3) := by decide +kernel
theorem dX7_stepsTo_7 : decode cX7_stepsTo 7 = .ok (.getfield 150, 3) := by decide +kernel
theorem dX7_stepsTo_10 : decode cX7_stepsTo 10 = .ok (.iload_n 1, 1) := by decide +kernel
theorem dX7_stepsTo_11 : decode cX7_stepsTo 11 = .ok (.invokevirtual 64, 3) := by decide +kernel
theorem dX7_stepsTo_14 : decode cX7_stepsTo 14 = .ok (.istore 4, 2) := by decide +kernel
theorem dX7_stepsTo_16 : decode cX7_stepsTo 16 = .ok (.iload 4, 2) := by decide +kernel
theorem dX7_stepsTo_18 : decode cX7_stepsTo 18 = .ok (.bipush 12, 2) := by decide +kernel
theorem dX7_stepsTo_20 : decode cX7_stepsTo 20 = .ok (.if_icmp .lt 20, 3) := by decide +kernel
theorem dX7_stepsTo_23 : decode cX7_stepsTo 23 = .ok (.aload_n 0, 1) := by decide +kernel
theorem dX7_stepsTo_24 : decode cX7_stepsTo 24 = .ok (.getfield 35, 3) := by decide +kernel
theorem dX7_stepsTo_27 : decode cX7_stepsTo 27 = .ok (.getfield 153, 3) := by decide +kernel
theorem dX7_stepsTo_30 : decode cX7_stepsTo 30 = .ok (.iload_n 3, 1) := by decide +kernel
theorem dX7_stepsTo_31 : decode cX7_stepsTo 31 = .ok (.iload 4, 2) := by decide +kernel
theorem dX7_stepsTo_33 : decode cX7_stepsTo 33 = .ok (.bipush 12, 2) := by decide +kernel
theorem dX7_stepsTo_35 : decode cX7_stepsTo 35 = .ok (.isub, 1) := by decide +kernel
theorem dX7_stepsTo_36 : decode cX7_stepsTo 36 = .ok (.invokevirtual 157, 3) := by decide +kernel
theorem dX7_stepsTo_39 : decode cX7_stepsTo 39 = .ok (.ireturn, 1) := by decide +kernel
theorem dX7_stepsTo_40 : decode cX7_stepsTo 40 = .ok (.iload 4, 2) := by decide +kernel
theorem dX7_stepsTo_42 : decode cX7_stepsTo 42 = .ok (.iload_n 2, 1) := by decide +kernel
theorem dX7_stepsTo_43 : decode cX7_stepsTo 43 = .ok (.if_icmp .ne 7, 3) := by decide +kernel
theorem dX7_stepsTo_46 : decode cX7_stepsTo 46 = .ok (.iconst 0, 1) := by decide +kernel
theorem dX7_stepsTo_47 : decode cX7_stepsTo 47 = .ok (.goto 4, 3) := by decide +kernel
theorem dX7_stepsTo_50 : decode cX7_stepsTo 50 = .ok (.iconst (-1), 1) := by decide +kernel
theorem dX7_stepsTo_51 : decode cX7_stepsTo 51 = .ok (.ireturn, 1) := by decide +kernel
theorem dX7_weightOf_0 : decode cX7_weightOf 0 = .ok (.iconst 0, 1) := by decide +kernel
theorem dX7_weightOf_1 : decode cX7_weightOf 1 = .ok (.istore_n 3, 1) := by decide +kernel
theorem dX7_weightOf_2 : decode cX7_weightOf 2 = .ok (.aload_n 0, 1) := by decide +kernel
theorem dX7_weightOf_3 : decode cX7_weightOf 3 = .ok (.getfield 39, 3) := by decide +kernel
theorem dX7_weightOf_6 : decode cX7_weightOf 6 = .ok (.iconst 2, 1) := by decide +kernel
theorem dX7_weightOf_7 : decode cX7_weightOf 7 = .ok (.if_icmp .ne 39, 3) := by decide +kernel
theorem dX7_weightOf_10 : decode cX7_weightOf 10 = .ok (.iload_n 2, 1) := by decide +kernel
theorem dX7_weightOf_11 : decode cX7_weightOf 11 = .ok (.bipush 16, 2) := by decide +kernel
theorem dX7_weightOf_13 : decode cX7_weightOf 13 = .ok (.aload_n 0, 1) := by decide +kernel
theorem dX7_weightOf_14 : decode cX7_weightOf 14 = .ok (.getfield 35, 3) := by decide +kernel
theorem dX7_weightOf_17 : decode cX7_weightOf 17 = .ok (.getfield 119, 3) := by decide +kernel
theorem dX7_weightOf_20 : decode cX7_weightOf 20 = .ok (.getfield 162, 3) := by decide +kernel
theorem dX7_weightOf_23 : decode cX7_weightOf 23 = .ok (.aload_n 0, 1) := by decide +kernel
theorem dX7_weightOf_24 : decode cX7_weightOf 24 = .ok (.getfield 35, 3) := by decide +kernel
theorem dX7_weightOf_27 : decode cX7_weightOf 27 = .ok (.getfield 87, 3) := by decide +kernel
theorem dX7_weightOf_30 : decode cX7_weightOf 30 = .ok (.getfield 113, 3) := by decide +kernel
theorem dX7_weightOf_33 : decode cX7_weightOf 33 = .ok (.iload_n 1, 1) := by decide +kernel
theorem dX7_weightOf_34 : decode cX7_weightOf 34 = .ok (.invokevirtual 64, 3) := by decide +kernel
theorem dX7_weightOf_37 : decode cX7_weightOf 37 = .ok (.invokevirtual 64, 3) := by decide +kernel
theorem dX7_weightOf_40 : decode cX7_weightOf 40 = .ok (.imul, 1) := by decide +kernel
theorem dX7_weightOf_41 : decode cX7_weightOf 41 = .ok (.isub, 1) := by decide +kernel
theorem dX7_weightOf_42 : decode cX7_weightOf 42 = .ok (.istore_n 3, 1) := by decide +kernel
theorem dX7_weightOf_43 : decode cX7_weightOf 43 = .ok (.goto 27, 3) := by decide +kernel
theorem dX7_weightOf_46 : decode cX7_weightOf 46 = .ok (.aload_n 0, 1) := by decide +kernel
theorem dX7_weightOf_47 : decode cX7_weightOf 47 = .ok (.getfield 39, 3) := by decide +kernel
theorem dX7_weightOf_50 : decode cX7_weightOf 50 = .ok (.iconst 3, 1) := by decide +kernel
theorem dX7_weightOf_51 : decode cX7_weightOf 51 = .ok (.if_icmp .ne 19, 3) := by decide +kernel
theorem dX7_weightOf_54 : decode cX7_weightOf 54 = .ok (.aload_n 0, 1) := by decide +kernel
theorem dX7_weightOf_55 : decode cX7_weightOf 55 = .ok (.getfield 35, 3) := by decide +kernel
theorem dX7_weightOf_58 : decode cX7_weightOf 58 = .ok (.getfield 87, 3) := by decide +kernel
theorem dX7_weightOf_61 : decode cX7_weightOf 61 = .ok (.getfield 165, 3) := by decide +kernel
theorem dX7_weightOf_64 : decode cX7_weightOf 64 = .ok (.iload_n 1, 1) := by decide +kernel
theorem dX7_weightOf_65 : decode cX7_weightOf 65 = .ok (.invokevirtual 64, 3) := by decide +kernel
theorem dX7_weightOf_68 : decode cX7_weightOf 68 = .ok (.ineg, 1) := by decide +kernel
theorem dX7_weightOf_69 : decode cX7_weightOf 69 = .ok (.istore_n 3, 1) := by decide +kernel
theorem dX7_weightOf_70 : decode cX7_weightOf 70 = .ok (.aload_n 0, 1) := by decide +kernel
theorem dX7_weightOf_71 : decode cX7_weightOf 71 = .ok (.getfield 80, 3) := by decide +kernel
theorem dX7_weightOf_74 : decode cX7_weightOf 74 = .ok (.iload_n 1, 1) := by decide +kernel
theorem dX7_weightOf_75 : decode cX7_weightOf 75 = .ok (.invokestatic 94, 3) := by decide +kernel
theorem dX7_weightOf_78 : decode cX7_weightOf 78 = .ok (.aload_n 0, 1) := by decide +kernel
theorem dX7_weightOf_79 : decode cX7_weightOf 79 = .ok (.getfield 39, 3) := by decide +kernel
theorem dX7_weightOf_82 : decode cX7_weightOf 82 = .ok (.iconst 1, 1) := by decide +kernel
theorem dX7_weightOf_83 : decode cX7_weightOf 83 = .ok (.if_icmp .ne 7, 3) := by decide +kernel
theorem dX7_weightOf_86 : decode cX7_weightOf 86 = .ok (.iconst 1, 1) := by decide +kernel
theorem dX7_weightOf_87 : decode cX7_weightOf 87 = .ok (.goto 4, 3) := by decide +kernel
theorem dX7_weightOf_90 : decode cX7_weightOf 90 = .ok (.iconst 0, 1) := by decide +kernel
theorem dX7_weightOf_91 : decode cX7_weightOf 91 = .ok (.if_icmp .ne 7, 3) := by decide +kernel
theorem dX7_weightOf_94 : decode cX7_weightOf 94 = .ok (.iconst 1, 1) := by decide +kernel
theorem dX7_weightOf_95 : decode cX7_weightOf 95 = .ok (.goto 4, 3) := by decide +kernel
theorem dX7_weightOf_98 : decode cX7_weightOf 98 = .ok (.iconst 0, 1) := by decide +kernel
theorem dX7_weightOf_99 : decode cX7_weightOf 99 = .ok (.istore 4, 2) := by decide +kernel
theorem dX7_weightOf_101 : decode cX7_weightOf 101 = .ok (.iload_n 3, 1) := by decide +kernel
theorem dX7_weightOf_102 : decode cX7_weightOf 102 = .ok (.iconst 2, 1) := by decide +kernel
theorem dX7_weightOf_103 : decode cX7_weightOf 103 = .ok (.imul, 1) := by decide +kernel
theorem dX7_weightOf_104 : decode cX7_weightOf 104 = .ok (.iload 4, 2) := by decide +kernel
theorem dX7_weightOf_106 : decode cX7_weightOf 106 = .ok (.ifCond .eq 7, 3) := by decide +kernel
theorem dX7_weightOf_109 : decode cX7_weightOf 109 = .ok (.iconst 0, 1) := by decide +kernel
theorem dX7_weightOf_110 : decode cX7_weightOf 110 = .ok (.goto 4, 3) := by decide +kernel
theorem dX7_weightOf_113 : decode cX7_weightOf 113 = .ok (.iconst 1, 1) := by decide +kernel
theorem dX7_weightOf_114 : decode cX7_weightOf 114 = .ok (.iadd, 1) := by decide +kernel
theorem dX7_weightOf_115 : decode cX7_weightOf 115 = .ok (.ireturn, 1) := by decide +kernel
theorem dX7_weighGrants_0 : decode cX7_weighGrants 0 = .ok (.aload_n 0, 1) := by decide +kernel
theorem dX7_weighGrants_1 : decode cX7_weighGrants 1 = .ok (.iconst 0, 1) := by decide +kernel
theorem dX7_weighGrants_2 : decode cX7_weighGrants 2 = .ok (.putfield 168, 3) := by decide +kernel
theorem dX7_weighGrants_5 : decode cX7_weighGrants 5 = .ok (.iconst 0, 1) := by decide +kernel
theorem dX7_weighGrants_6 : decode cX7_weighGrants 6 = .ok (.istore_n 1, 1) := by decide +kernel
theorem dX7_weighGrants_7 : decode cX7_weighGrants 7 = .ok (.iload_n 1, 1) := by decide +kernel
theorem dX7_weighGrants_8 : decode cX7_weighGrants 8 = .ok (.aload_n 0, 1) := by decide +kernel
theorem dX7_weighGrants_9 : decode cX7_weighGrants 9 = .ok (.getfield 35, 3) := by decide +kernel
theorem dX7_weighGrants_12 : decode cX7_weighGrants 12 = .ok (.getfield 171, 3) := by decide +kernel
theorem dX7_weighGrants_15 : decode cX7_weighGrants 15 = .ok (.getfield 175, 3) := by decide +kernel
theorem dX7_weighGrants_18 : decode cX7_weighGrants 18 = .ok (.if_icmp .ge 48, 3) := by decide +kernel
theorem dX7_weighGrants_21 : decode cX7_weighGrants 21 = .ok (.aload_n 0, 1) := by decide +kernel
theorem dX7_weighGrants_22 : decode cX7_weighGrants 22 = .ok (.getfield 35, 3) := by decide +kernel
theorem dX7_weighGrants_25 : decode cX7_weighGrants 25 = .ok (.iload_n 1, 1) := by decide +kernel
theorem dX7_weighGrants_26 : decode cX7_weighGrants 26 = .ok (.invokevirtual 178, 3) := by decide +kernel
theorem dX7_weighGrants_29 : decode cX7_weighGrants 29 = .ok (.ifCond .eq 31, 3) := by decide +kernel
theorem dX7_weighGrants_32 : decode cX7_weighGrants 32 = .ok (.aload_n 0, 1) := by decide +kernel
theorem dX7_weighGrants_33 : decode cX7_weighGrants 33 = .ok (.iload_n 1, 1) := by decide +kernel
theorem dX7_weighGrants_34 : decode cX7_weighGrants 34 = .ok (.invokevirtual 182, 3) := by decide +kernel
theorem dX7_weighGrants_37 : decode cX7_weighGrants 37 = .ok (.ifCond .ne 11, 3) := by decide +kernel
theorem dX7_weighGrants_40 : decode cX7_weighGrants 40 = .ok (.aload_n 0, 1) := by decide +kernel
theorem dX7_weighGrants_41 : decode cX7_weighGrants 41 = .ok (.iload_n 1, 1) := by decide +kernel
theorem dX7_weighGrants_42 : decode cX7_weighGrants 42 = .ok (.invokevirtual 185, 3) := by decide +kernel
theorem dX7_weighGrants_45 : decode cX7_weighGrants 45 = .ok (.ifCond .eq 15, 3) := by decide +kernel
theorem dX7_weighGrants_48 : decode cX7_weighGrants 48 = .ok (.aload_n 0, 1) := by decide +kernel
theorem dX7_weighGrants_49 : decode cX7_weighGrants 49 = .ok (.dup, 1) := by decide +kernel
theorem dX7_weighGrants_50 : decode cX7_weighGrants 50 = .ok (.getfield 168, 3) := by decide +kernel
theorem dX7_weighGrants_53 : decode cX7_weighGrants 53 = .ok (.iconst 1, 1) := by decide +kernel
theorem dX7_weighGrants_54 : decode cX7_weighGrants 54 = .ok (.iload_n 1, 1) := by decide +kernel
theorem dX7_weighGrants_55 : decode cX7_weighGrants 55 = .ok (.ishl, 1) := by decide +kernel
theorem dX7_weighGrants_56 : decode cX7_weighGrants 56 = .ok (.ior, 1) := by decide +kernel
theorem dX7_weighGrants_57 : decode cX7_weighGrants 57 = .ok (.putfield 168, 3) := by decide +kernel
theorem dX7_weighGrants_60 : decode cX7_weighGrants 60 = .ok (.iinc 1 1, 3) := by decide +kernel
theorem dX7_weighGrants_63 : decode cX7_weighGrants 63 = .ok (.goto (-56), 3) := by decide +kernel
theorem dX7_weighGrants_66 : decode cX7_weighGrants 66 = .ok (.return_, 1) := by decide +kernel
theorem dX7_isByRight_0 : decode cX7_isByRight 0 = .ok (.aload_n 0, 1) := by decide +kernel
theorem dX7_isByRight_1 : decode cX7_isByRight 1 = .ok (.getfield 35, 3) := by decide +kernel
theorem dX7_isByRight_4 : decode cX7_isByRight 4 = .ok (.getfield 171, 3) := by decide +kernel
theorem dX7_isByRight_7 : decode cX7_isByRight 7 = .ok (.getfield 188, 3) := by decide +kernel
theorem dX7_isByRight_10 : decode cX7_isByRight 10 = .ok (.iload_n 1, 1) := by decide +kernel
theorem dX7_isByRight_11 : decode cX7_isByRight 11 = .ok (.invokevirtual 64, 3) := by decide +kernel
theorem dX7_isByRight_14 : decode cX7_isByRight 14 = .ok (.istore_n 2, 1) := by decide +kernel
theorem dX7_isByRight_15 : decode cX7_isByRight 15 = .ok (.aload_n 0, 1) := by decide +kernel
theorem dX7_isByRight_16 : decode cX7_isByRight 16 = .ok (.getfield 35, 3) := by decide +kernel
theorem dX7_isByRight_19 : decode cX7_isByRight 19 = .ok (.getfield 171, 3) := by decide +kernel
theorem dX7_isByRight_22 : decode cX7_isByRight 22 = .ok (.getfield 191, 3) := by decide +kernel
theorem dX7_isByRight_25 : decode cX7_isByRight 25 = .ok (.iload_n 1, 1) := by decide +kernel
theorem dX7_isByRight_26 : decode cX7_isByRight 26 = .ok (.invokevirtual 64, 3) := by decide +kernel
theorem dX7_isByRight_29 : decode cX7_isByRight 29 = .ok (.istore_n 3, 1) := by decide +kernel
theorem dX7_isByRight_30 : decode cX7_isByRight 30 = .ok (.aload_n 0, 1) := by decide +kernel
theorem dX7_isByRight_31 : decode cX7_isByRight 31 = .ok (.iload_n 2, 1) := by decide +kernel
theorem dX7_isByRight_32 : decode cX7_isByRight 32 = .ok (.aload_n 0, 1) := by decide +kernel
theorem dX7_isByRight_33 : decode cX7_isByRight 33 = .ok (.getfield 35, 3) := by decide +kernel
theorem dX7_isByRight_36 : decode cX7_isByRight 36 = .ok (.getfield 171, 3) := by decide +kernel
theorem dX7_isByRight_39 : decode cX7_isByRight 39 = .ok (.getfield 192, 3) := by decide +kernel
theorem dX7_isByRight_42 : decode cX7_isByRight 42 = .ok (.iload_n 1, 1) := by decide +kernel
theorem dX7_isByRight_43 : decode cX7_isByRight 43 = .ok (.invokevirtual 64, 3) := by decide +kernel
theorem dX7_isByRight_46 : decode cX7_isByRight 46 = .ok (.iload_n 3, 1) := by decide +kernel
theorem dX7_isByRight_47 : decode cX7_isByRight 47 = .ok (.invokevirtual 195, 3) := by decide +kernel
theorem dX7_isByRight_50 : decode cX7_isByRight 50 = .ok (.iconst 1, 1) := by decide +kernel
theorem dX7_isByRight_51 : decode cX7_isByRight 51 = .ok (.if_icmp .ne 18, 3) := by decide +kernel
theorem dX7_isByRight_54 : decode cX7_isByRight 54 = .ok (.aload_n 0, 1) := by decide +kernel
theorem dX7_isByRight_55 : decode cX7_isByRight 55 = .ok (.iload_n 2, 1) := by decide +kernel
theorem dX7_isByRight_56 : decode cX7_isByRight 56 = .ok (.iconst 4, 1) := by decide +kernel
theorem dX7_isByRight_57 : decode cX7_isByRight 57 = .ok (.iload_n 3, 1) := by decide +kernel
theorem dX7_isByRight_58 : decode cX7_isByRight 58 = .ok (.invokevirtual 195, 3) := by decide +kernel
theorem dX7_isByRight_61 : decode cX7_isByRight 61 = .ok (.iconst 1, 1) := by decide +kernel
theorem dX7_isByRight_62 : decode cX7_isByRight 62 = .ok (.if_icmp .ne 7, 3) := by decide +kernel
theorem dX7_isByRight_65 : decode cX7_isByRight 65 = .ok (.iconst 1, 1) := by decide +kernel
theorem dX7_isByRight_66 : decode cX7_isByRight 66 = .ok (.goto 4, 3) := by decide +kernel
theorem dX7_isByRight_69 : decode cX7_isByRight 69 = .ok (.iconst 0, 1) := by decide +kernel
theorem dX7_isByRight_70 : decode cX7_isByRight 70 = .ok (.ireturn, 1) := by decide +kernel
theorem dX7_isPassedOn_0 : decode cX7_isPassedOn 0 = .ok (.aload_n 0, 1) := by decide +kernel
theorem dX7_isPassedOn_1 : decode cX7_isPassedOn 1 = .ok (.getfield 35, 3) := by decide +kernel
theorem dX7_isPassedOn_4 : decode cX7_isPassedOn 4 = .ok (.getfield 171, 3) := by decide +kernel
theorem dX7_isPassedOn_7 : decode cX7_isPassedOn 7 = .ok (.getfield 188, 3) := by decide +kernel
theorem dX7_isPassedOn_10 : decode cX7_isPassedOn 10 = .ok (.iload_n 1, 1) := by decide +kernel
theorem dX7_isPassedOn_11 : decode cX7_isPassedOn 11 = .ok (.invokevirtual 64, 3) := by decide +kernel
theorem dX7_isPassedOn_14 : decode cX7_isPassedOn 14 = .ok (.istore_n 2, 1) := by decide +kernel
theorem dX7_isPassedOn_15 : decode cX7_isPassedOn 15 = .ok (.aload_n 0, 1) := by decide +kernel
theorem dX7_isPassedOn_16 : decode cX7_isPassedOn 16 = .ok (.getfield 35, 3) := by decide +kernel
theorem dX7_isPassedOn_19 : decode cX7_isPassedOn 19 = .ok (.getfield 171, 3) := by decide +kernel
theorem dX7_isPassedOn_22 : decode cX7_isPassedOn 22 = .ok (.getfield 192, 3) := by decide +kernel
theorem dX7_isPassedOn_25 : decode cX7_isPassedOn 25 = .ok (.iload_n 1, 1) := by decide +kernel
theorem dX7_isPassedOn_26 : decode cX7_isPassedOn 26 = .ok (.invokevirtual 64, 3) := by decide +kernel
theorem dX7_isPassedOn_29 : decode cX7_isPassedOn 29 = .ok (.istore_n 3, 1) := by decide +kernel
theorem dX7_isPassedOn_30 : decode cX7_isPassedOn 30 = .ok (.aload_n 0, 1) := by decide +kernel
theorem dX7_isPassedOn_31 : decode cX7_isPassedOn 31 = .ok (.getfield 35, 3) := by decide +kernel
theorem dX7_isPassedOn_34 : decode cX7_isPassedOn 34 = .ok (.getfield 171, 3) := by decide +kernel
theorem dX7_isPassedOn_37 : decode cX7_isPassedOn 37 = .ok (.getfield 191, 3) := by decide +kernel
theorem dX7_isPassedOn_40 : decode cX7_isPassedOn 40 = .ok (.iload_n 1, 1) := by decide +kernel
theorem dX7_isPassedOn_41 : decode cX7_isPassedOn 41 = .ok (.invokevirtual 64, 3) := by decide +kernel
theorem dX7_isPassedOn_44 : decode cX7_isPassedOn 44 = .ok (.istore 4, 2) := by decide +kernel
theorem dX7_isPassedOn_46 : decode cX7_isPassedOn 46 = .ok (.iconst 0, 1) := by decide +kernel
theorem dX7_isPassedOn_47 : decode cX7_isPassedOn 47 = .ok (.istore 5, 2) := by decide +kernel
theorem dX7_isPassedOn_49 : decode cX7_isPassedOn 49 = .ok (.iload 5, 2) := by decide +kernel
theorem dX7_isPassedOn_51 : decode cX7_isPassedOn 51 = .ok (.iload_n 1, 1) := by decide +kernel
theorem dX7_isPassedOn_52 : decode cX7_isPassedOn 52 = .ok (.if_icmp .ge 71, 3) := by decide +kernel
theorem dX7_isPassedOn_55 : decode cX7_isPassedOn 55 = .ok (.aload_n 0, 1) := by decide +kernel
theorem dX7_isPassedOn_56 : decode cX7_isPassedOn 56 = .ok (.getfield 168, 3) := by decide +kernel
theorem dX7_isPassedOn_59 : decode cX7_isPassedOn 59 = .ok (.iload 5, 2) := by decide +kernel
theorem dX7_isPassedOn_61 : decode cX7_isPassedOn 61 = .ok (.invokestatic 94, 3) := by decide +kernel
theorem dX7_isPassedOn_64 : decode cX7_isPassedOn 64 = .ok (.ifCond .eq 53, 3) := by decide +kernel
theorem dX7_isPassedOn_67 : decode cX7_isPassedOn 67 = .ok (.aload_n 0, 1) := by decide +kernel
theorem dX7_isPassedOn_68 : decode cX7_isPassedOn 68 = .ok (.getfield 35, 3) := by decide +kernel
theorem dX7_isPassedOn_71 : decode cX7_isPassedOn 71 = .ok (.iload 5, 2) := by decide +kernel
theorem dX7_isPassedOn_73 : decode cX7_isPassedOn 73 = .ok (.iload_n 2, 1) := by decide +kernel
theorem dX7_isPassedOn_74 : decode cX7_isPassedOn 74 = .ok (.iload_n 3, 1) := by decide +kernel
theorem dX7_isPassedOn_75 : decode cX7_isPassedOn 75 = .ok (.iload 4, 2) := by decide +kernel
theorem dX7_isPassedOn_77 : decode cX7_isPassedOn 77 = .ok (.invokevirtual 198, 3) := by decide +kernel
theorem dX7_isPassedOn_80 : decode cX7_isPassedOn 80 = .ok (.ifCond .eq 37, 3) := by decide +kernel
theorem dX7_isPassedOn_83 : decode cX7_isPassedOn 83 = .ok (.aload_n 0, 1) := by decide +kernel
theorem dX7_isPassedOn_84 : decode cX7_isPassedOn 84 = .ok (.getfield 35, 3) := by decide +kernel
theorem dX7_isPassedOn_87 : decode cX7_isPassedOn 87 = .ok (.getfield 171, 3) := by decide +kernel
theorem dX7_isPassedOn_90 : decode cX7_isPassedOn 90 = .ok (.getfield 202, 3) := by decide +kernel
theorem dX7_isPassedOn_93 : decode cX7_isPassedOn 93 = .ok (.iload 5, 2) := by decide +kernel
theorem dX7_isPassedOn_95 : decode cX7_isPassedOn 95 = .ok (.invokevirtual 64, 3) := by decide +kernel
theorem dX7_isPassedOn_98 : decode cX7_isPassedOn 98 = .ok (.aload_n 0, 1) := by decide +kernel
theorem dX7_isPassedOn_99 : decode cX7_isPassedOn 99 = .ok (.getfield 35, 3) := by decide +kernel
theorem dX7_isPassedOn_102 : decode cX7_isPassedOn 102 = .ok (.getfield 171, 3) := by decide +kernel
theorem dX7_isPassedOn_105 : decode cX7_isPassedOn 105 = .ok (.getfield 202, 3) := by decide +kernel
theorem dX7_isPassedOn_108 : decode cX7_isPassedOn 108 = .ok (.iload_n 1, 1) := by decide +kernel
theorem dX7_isPassedOn_109 : decode cX7_isPassedOn 109 = .ok (.invokevirtual 64, 3) := by decide +kernel
theorem dX7_isPassedOn_112 : decode cX7_isPassedOn 112 = .ok (.if_icmp .le 5, 3) := by decide +kernel
theorem dX7_isPassedOn_115 : decode cX7_isPassedOn 115 = .ok (.iconst 1, 1) := by decide +kernel
theorem dX7_isPassedOn_116 : decode cX7_isPassedOn 116 = .ok (.ireturn, 1) := by decide +kernel
theorem dX7_isPassedOn_117 : decode cX7_isPassedOn 117 = .ok (.iinc 5 1, 3) := by decide +kernel
theorem dX7_isPassedOn_120 : decode cX7_isPassedOn 120 = .ok (.goto (-71), 3) := by decide +kernel
theorem dX7_isPassedOn_123 : decode cX7_isPassedOn 123 = .ok (.iconst 0, 1) := by decide +kernel
theorem dX7_isPassedOn_124 : decode cX7_isPassedOn 124 = .ok (.ireturn, 1) := by decide +kernel
theorem dX7_matching_0 : decode cX7_matching 0 = .ok (.aload_n 0, 1) := by decide +kernel
theorem dX7_matching_1 : decode cX7_matching 1 = .ok (.getfield 23, 3) := by decide +kernel
theorem dX7_matching_4 : decode cX7_matching 4 = .ok (.iload_n 1, 1) := by decide +kernel
theorem dX7_matching_5 : decode cX7_matching 5 = .ok (.invokevirtual 64, 3) := by decide +kernel
theorem dX7_matching_8 : decode cX7_matching 8 = .ok (.aload_n 0, 1) := by decide +kernel
theorem dX7_matching_9 : decode cX7_matching 9 = .ok (.getfield 14, 3) := by decide +kernel
theorem dX7_matching_12 : decode cX7_matching 12 = .ok (.iload_n 2, 1) := by decide +kernel
theorem dX7_matching_13 : decode cX7_matching 13 = .ok (.invokevirtual 64, 3) := by decide +kernel
theorem dX7_matching_16 : decode cX7_matching 16 = .ok (.iand, 1) := by decide +kernel
theorem dX7_matching_17 : decode cX7_matching 17 = .ok (.aload_n 0, 1) := by decide +kernel
theorem dX7_matching_18 : decode cX7_matching 18 = .ok (.getfield 20, 3) := by decide +kernel
theorem dX7_matching_21 : decode cX7_matching 21 = .ok (.iload_n 3, 1) := by decide +kernel
theorem dX7_matching_22 : decode cX7_matching 22 = .ok (.invokevirtual 64, 3) := by decide +kernel
theorem dX7_matching_25 : decode cX7_matching 25 = .ok (.iand, 1) := by decide +kernel
theorem dX7_matching_26 : decode cX7_matching 26 = .ok (.ireturn, 1) := by decide +kernel
theorem dX7_deciding_0 : decode cX7_deciding 0 = .ok (.iconst (-1), 1) := by decide +kernel
theorem dX7_deciding_1 : decode cX7_deciding 1 = .ok (.istore_n 3, 1) := by decide +kernel
theorem dX7_deciding_2 : decode cX7_deciding 2 = .ok (.iconst 0, 1) := by decide +kernel
theorem dX7_deciding_3 : decode cX7_deciding 3 = .ok (.istore 4, 2) := by decide +kernel
theorem dX7_deciding_5 : decode cX7_deciding 5 = .ok (.iconst 0, 1) := by decide +kernel
theorem dX7_deciding_6 : decode cX7_deciding 6 = .ok (.istore 5, 2) := by decide +kernel
theorem dX7_deciding_8 : decode cX7_deciding 8 = .ok (.iload 5, 2) := by decide +kernel
theorem dX7_deciding_10 : decode cX7_deciding 10 = .ok (.aload_n 0, 1) := by decide +kernel
theorem dX7_deciding_11 : decode cX7_deciding 11 = .ok (.getfield 35, 3) := by decide +kernel
theorem dX7_deciding_14 : decode cX7_deciding 14 = .ok (.getfield 87, 3) := by decide +kernel
theorem dX7_deciding_17 : decode cX7_deciding 17 = .ok (.getfield 91, 3) := by decide +kernel
theorem dX7_deciding_20 : decode cX7_deciding 20 = .ok (.if_icmp .ge 56, 3) := by decide +kernel
theorem dX7_deciding_23 : decode cX7_deciding 23 = .ok (.iload_n 2, 1) := by decide +kernel
theorem dX7_deciding_24 : decode cX7_deciding 24 = .ok (.ifCond .eq 52, 3) := by decide +kernel
theorem dX7_deciding_27 : decode cX7_deciding 27 = .ok (.iload_n 2, 1) := by decide +kernel
theorem dX7_deciding_28 : decode cX7_deciding 28 = .ok (.iload 5, 2) := by decide +kernel
theorem dX7_deciding_30 : decode cX7_deciding 30 = .ok (.invokestatic 94, 3) := by decide +kernel
theorem dX7_deciding_33 : decode cX7_deciding 33 = .ok (.ifCond .eq 37, 3) := by decide +kernel
theorem dX7_deciding_36 : decode cX7_deciding 36 = .ok (.aload_n 0, 1) := by decide +kernel
theorem dX7_deciding_37 : decode cX7_deciding 37 = .ok (.getfield 26, 3) := by decide +kernel
theorem dX7_deciding_40 : decode cX7_deciding 40 = .ok (.iload_n 1, 1) := by decide +kernel
theorem dX7_deciding_41 : decode cX7_deciding 41 = .ok (.bipush 30, 2) := by decide +kernel
theorem dX7_deciding_43 : decode cX7_deciding 43 = .ok (.imul, 1) := by decide +kernel
theorem dX7_deciding_44 : decode cX7_deciding 44 = .ok (.iload 5, 2) := by decide +kernel
theorem dX7_deciding_46 : decode cX7_deciding 46 = .ok (.iadd, 1) := by decide +kernel
theorem dX7_deciding_47 : decode cX7_deciding 47 = .ok (.invokevirtual 64, 3) := by decide +kernel
theorem dX7_deciding_50 : decode cX7_deciding 50 = .ok (.istore 6, 2) := by decide +kernel
theorem dX7_deciding_52 : decode cX7_deciding 52 = .ok (.iload_n 3, 1) := by decide +kernel
theorem dX7_deciding_53 : decode cX7_deciding 53 = .ok (.ifCond .lt 10, 3) := by decide +kernel
theorem dX7_deciding_56 : decode cX7_deciding 56 = .ok (.iload 6, 2) := by decide +kernel
theorem dX7_deciding_58 : decode cX7_deciding 58 = .ok (.iload 4, 2) := by decide +kernel
theorem dX7_deciding_60 : decode cX7_deciding 60 = .ok (.if_icmp .ge 10, 3) := by decide +kernel
theorem dX7_deciding_63 : decode cX7_deciding 63 = .ok (.iload 5, 2) := by decide +kernel
theorem dX7_deciding_65 : decode cX7_deciding 65 = .ok (.istore_n 3, 1) := by decide +kernel
theorem dX7_deciding_66 : decode cX7_deciding 66 = .ok (.iload 6, 2) := by decide +kernel
theorem dX7_deciding_68 : decode cX7_deciding 68 = .ok (.istore 4, 2) := by decide +kernel
theorem dX7_deciding_70 : decode cX7_deciding 70 = .ok (.iinc 5 1, 3) := by decide +kernel
theorem dX7_deciding_73 : decode cX7_deciding 73 = .ok (.goto (-65), 3) := by decide +kernel
theorem dX7_deciding_76 : decode cX7_deciding 76 = .ok (.iload_n 3, 1) := by decide +kernel
theorem dX7_deciding_77 : decode cX7_deciding 77 = .ok (.ireturn, 1) := by decide +kernel
theorem dX7_ruled_0 : decode cX7_ruled 0 = .ok (.aload_n 0, 1) := by decide +kernel
theorem dX7_ruled_1 : decode cX7_ruled 1 = .ok (.iload_n 1, 1) := by decide +kernel
theorem dX7_ruled_2 : decode cX7_ruled 2 = .ok (.iload_n 2, 1) := by decide +kernel
theorem dX7_ruled_3 : decode cX7_ruled 3 = .ok (.iload_n 3, 1) := by decide +kernel
theorem dX7_ruled_4 : decode cX7_ruled 4 = .ok (.invokevirtual 205, 3) := by decide +kernel
theorem dX7_ruled_7 : decode cX7_ruled 7 = .ok (.ifCond .eq 5, 3) := by decide +kernel
theorem dX7_ruled_10 : decode cX7_ruled 10 = .ok (.iconst 4, 1) := by decide +kernel
theorem dX7_ruled_11 : decode cX7_ruled 11 = .ok (.ireturn, 1) := by decide +kernel
theorem dX7_ruled_12 : decode cX7_ruled 12 = .ok (.aload_n 0, 1) := by decide +kernel
theorem dX7_ruled_13 : decode cX7_ruled 13 = .ok (.iload_n 1, 1) := by decide +kernel
theorem dX7_ruled_14 : decode cX7_ruled 14 = .ok (.iload_n 3, 1) := by decide +kernel
theorem dX7_ruled_15 : decode cX7_ruled 15 = .ok (.invokevirtual 209, 3) := by decide +kernel
theorem dX7_ruled_18 : decode cX7_ruled 18 = .ok (.ifCond .eq 5, 3) := by decide +kernel
theorem dX7_ruled_21 : decode cX7_ruled 21 = .ok (.iconst 5, 1) := by decide +kernel
theorem dX7_ruled_22 : decode cX7_ruled 22 = .ok (.ireturn, 1) := by decide +kernel
theorem dX7_ruled_23 : decode cX7_ruled 23 = .ok (.aload_n 0, 1) := by decide +kernel
theorem dX7_ruled_24 : decode cX7_ruled 24 = .ok (.iload_n 1, 1) := by decide +kernel
theorem dX7_ruled_25 : decode cX7_ruled 25 = .ok (.aload_n 0, 1) := by decide +kernel
theorem dX7_ruled_26 : decode cX7_ruled 26 = .ok (.iload_n 1, 1) := by decide +kernel
theorem dX7_ruled_27 : decode cX7_ruled 27 = .ok (.iload_n 2, 1) := by decide +kernel
theorem dX7_ruled_28 : decode cX7_ruled 28 = .ok (.iload_n 3, 1) := by decide +kernel
theorem dX7_ruled_29 : decode cX7_ruled 29 = .ok (.invokevirtual 212, 3) := by decide +kernel
theorem dX7_ruled_32 : decode cX7_ruled 32 = .ok (.invokevirtual 215, 3) := by decide +kernel
theorem dX7_ruled_35 : decode cX7_ruled 35 = .ok (.istore 4, 2) := by decide +kernel
theorem dX7_ruled_37 : decode cX7_ruled 37 = .ok (.iload 4, 2) := by decide +kernel
theorem dX7_ruled_39 : decode cX7_ruled 39 = .ok (.ifCond .ge 5, 3) := by decide +kernel
theorem dX7_ruled_42 : decode cX7_ruled 42 = .ok (.iconst 0, 1) := by decide +kernel
theorem dX7_ruled_43 : decode cX7_ruled 43 = .ok (.ireturn, 1) := by decide +kernel
theorem dX7_ruled_44 : decode cX7_ruled 44 = .ok (.aload_n 0, 1) := by decide +kernel
theorem dX7_ruled_45 : decode cX7_ruled 45 = .ok (.getfield 80, 3) := by decide +kernel
theorem dX7_ruled_48 : decode cX7_ruled 48 = .ok (.iload 4, 2) := by decide +kernel
theorem dX7_ruled_50 : decode cX7_ruled 50 = .ok (.invokestatic 94, 3) := by decide +kernel
theorem dX7_ruled_53 : decode cX7_ruled 53 = .ok (.ifCond .eq 7, 3) := by decide +kernel
theorem dX7_ruled_56 : decode cX7_ruled 56 = .ok (.iconst 1, 1) := by decide +kernel
theorem dX7_ruled_57 : decode cX7_ruled 57 = .ok (.goto 4, 3) := by decide +kernel
theorem dX7_ruled_60 : decode cX7_ruled 60 = .ok (.iconst 2, 1) := by decide +kernel
theorem dX7_ruled_61 : decode cX7_ruled 61 = .ok (.ireturn, 1) := by decide +kernel
theorem dX7_isAgainstLabel_0 : decode cX7_isAgainstLabel 0 = .ok (.aload_n 0, 1) := by decide +kernel
theorem dX7_isAgainstLabel_1 : decode cX7_isAgainstLabel 1 = .ok (.getfield 35, 3) := by decide +kernel
theorem dX7_isAgainstLabel_4 : decode cX7_isAgainstLabel 4 = .ok (.getfield 119, 3) := by decide +kernel
theorem dX7_isAgainstLabel_7 : decode cX7_isAgainstLabel 7 = .ok (.getfield 218, 3) := by decide +kernel
theorem dX7_isAgainstLabel_10 : decode cX7_isAgainstLabel 10 = .ok (.iload_n 3, 1) := by decide +kernel
theorem dX7_isAgainstLabel_11 : decode cX7_isAgainstLabel 11 = .ok (.invokevirtual 64, 3) := by decide +kernel
theorem dX7_isAgainstLabel_14 : decode cX7_isAgainstLabel 14 = .ok (.istore 4, 2) := by decide +kernel
theorem dX7_isAgainstLabel_16 : decode cX7_isAgainstLabel 16 = .ok (.aload_n 0, 1) := by decide +kernel
theorem dX7_isAgainstLabel_17 : decode cX7_isAgainstLabel 17 = .ok (.getfield 35, 3) := by decide +kernel
theorem dX7_isAgainstLabel_20 : decode cX7_isAgainstLabel 20 = .ok (.getfield 50, 3) := by decide +kernel
theorem dX7_isAgainstLabel_23 : decode cX7_isAgainstLabel 23 = .ok (.getfield 221, 3) := by decide +kernel
theorem dX7_isAgainstLabel_26 : decode cX7_isAgainstLabel 26 = .ok (.iload_n 1, 1) := by decide +kernel
theorem dX7_isAgainstLabel_27 : decode cX7_isAgainstLabel 27 = .ok (.invokevirtual 64, 3) := by decide +kernel
theorem dX7_isAgainstLabel_30 : decode cX7_isAgainstLabel 30 = .ok (.istore 5, 2) := by decide +kernel
theorem dX7_isAgainstLabel_32 : decode cX7_isAgainstLabel 32 = .ok (.iload_n 2, 1) := by decide +kernel
theorem dX7_isAgainstLabel_33 : decode cX7_isAgainstLabel 33 = .ok (.ifCond .ne 16, 3) := by decide +kernel
theorem dX7_isAgainstLabel_36 : decode cX7_isAgainstLabel 36 = .ok (.iload 4, 2) := by decide +kernel
theorem dX7_isAgainstLabel_38 : decode cX7_isAgainstLabel 38 = .ok (.iload 5, 2) := by decide +kernel
theorem dX7_isAgainstLabel_40 : decode cX7_isAgainstLabel 40 = .ok (.if_icmp .le 7, 3) := by decide +kernel
theorem dX7_isAgainstLabel_43 : decode cX7_isAgainstLabel 43 = .ok (.iconst 1, 1) := by decide +kernel
theorem dX7_isAgainstLabel_44 : decode cX7_isAgainstLabel 44 = .ok (.goto 4, 3) := by decide +kernel
theorem dX7_isAgainstLabel_47 : decode cX7_isAgainstLabel 47 = .ok (.iconst 0, 1) := by decide +kernel
theorem dX7_isAgainstLabel_48 : decode cX7_isAgainstLabel 48 = .ok (.ireturn, 1) := by decide +kernel
theorem dX7_isAgainstLabel_49 : decode cX7_isAgainstLabel 49 = .ok (.iload_n 2, 1) := by decide +kernel
theorem dX7_isAgainstLabel_50 : decode cX7_isAgainstLabel 50 = .ok (.iconst 4, 1) := by decide +kernel
theorem dX7_isAgainstLabel_51 : decode cX7_isAgainstLabel 51 = .ok (.if_icmp .eq 14, 3) := by decide +kernel
theorem dX7_isAgainstLabel_54 : decode cX7_isAgainstLabel 54 = .ok (.iload 4, 2) := by decide +kernel
theorem dX7_isAgainstLabel_56 : decode cX7_isAgainstLabel 56 = .ok (.iload 5, 2) := by decide +kernel
theorem dX7_isAgainstLabel_58 : decode cX7_isAgainstLabel 58 = .ok (.if_icmp .ge 7, 3) := by decide +kernel
theorem dX7_isAgainstLabel_61 : decode cX7_isAgainstLabel 61 = .ok (.iconst 1, 1) := by decide +kernel
theorem dX7_isAgainstLabel_62 : decode cX7_isAgainstLabel 62 = .ok (.goto 4, 3) := by decide +kernel
theorem dX7_isAgainstLabel_65 : decode cX7_isAgainstLabel 65 = .ok (.iconst 0, 1) := by decide +kernel
theorem dX7_isAgainstLabel_66 : decode cX7_isAgainstLabel 66 = .ok (.ireturn, 1) := by decide +kernel
theorem dX7_isWalledOff_0 : decode cX7_isWalledOff 0 = .ok (.aload_n 0, 1) := by decide +kernel
theorem dX7_isWalledOff_1 : decode cX7_isWalledOff 1 = .ok (.getfield 35, 3) := by decide +kernel
theorem dX7_isWalledOff_4 : decode cX7_isWalledOff 4 = .ok (.getfield 119, 3) := by decide +kernel
theorem dX7_isWalledOff_7 : decode cX7_isWalledOff 7 = .ok (.getfield 129, 3) := by decide +kernel
theorem dX7_isWalledOff_10 : decode cX7_isWalledOff 10 = .ok (.iload_n 2, 1) := by decide +kernel
theorem dX7_isWalledOff_11 : decode cX7_isWalledOff 11 = .ok (.invokevirtual 64, 3) := by decide +kernel
theorem dX7_isWalledOff_14 : decode cX7_isWalledOff 14 = .ok (.istore_n 3, 1) := by decide +kernel
theorem dX7_isWalledOff_15 : decode cX7_isWalledOff 15 = .ok (.iload_n 3, 1) := by decide +kernel
theorem dX7_isWalledOff_16 : decode cX7_isWalledOff 16 = .ok (.iconst (-1), 1) := by decide +kernel
theorem dX7_isWalledOff_17 : decode cX7_isWalledOff 17 = .ok (.if_icmp .ne 5, 3) := by decide +kernel
theorem dX7_isWalledOff_20 : decode cX7_isWalledOff 20 = .ok (.iconst 0, 1) := by decide +kernel
theorem dX7_isWalledOff_21 : decode cX7_isWalledOff 21 = .ok (.ireturn, 1) := by decide +kernel
theorem dX7_isWalledOff_22 : decode cX7_isWalledOff 22 = .ok (.aload_n 0, 1) := by decide +kernel
theorem dX7_isWalledOff_23 : decode cX7_isWalledOff 23 = .ok (.getfield 29, 3) := by decide +kernel
theorem dX7_isWalledOff_26 : decode cX7_isWalledOff 26 = .ok (.iload_n 1, 1) := by decide +kernel
theorem dX7_isWalledOff_27 : decode cX7_isWalledOff 27 = .ok (.iconst 4, 1) := by decide +kernel
theorem dX7_isWalledOff_28 : decode cX7_isWalledOff 28 = .ok (.imul, 1) := by decide +kernel
theorem dX7_isWalledOff_29 : decode cX7_isWalledOff 29 = .ok (.iload_n 3, 1) := by decide +kernel
theorem dX7_isWalledOff_30 : decode cX7_isWalledOff 30 = .ok (.iadd, 1) := by decide +kernel
theorem dX7_isWalledOff_31 : decode cX7_isWalledOff 31 = .ok (.invokevirtual 64, 3) := by decide +kernel
theorem dX7_isWalledOff_34 : decode cX7_isWalledOff 34 = .ok (.istore 4, 2) := by decide +kernel
theorem dX7_isWalledOff_36 : decode cX7_isWalledOff 36 = .ok (.iload 4, 2) := by decide +kernel
theorem dX7_isWalledOff_38 : decode cX7_isWalledOff 38 = .ok (.iconst 1, 1) := by decide +kernel
theorem dX7_isWalledOff_39 : decode cX7_isWalledOff 39 = .ok (.aload_n 0, 1) := by decide +kernel
theorem dX7_isWalledOff_40 : decode cX7_isWalledOff 40 = .ok (.getfield 35, 3) := by decide +kernel
theorem dX7_isWalledOff_43 : decode cX7_isWalledOff 43 = .ok (.getfield 119, 3) := by decide +kernel
theorem dX7_isWalledOff_46 : decode cX7_isWalledOff 46 = .ok (.getfield 136, 3) := by decide +kernel
theorem dX7_isWalledOff_49 : decode cX7_isWalledOff 49 = .ok (.iload_n 2, 1) := by decide +kernel
theorem dX7_isWalledOff_50 : decode cX7_isWalledOff 50 = .ok (.invokevirtual 64, 3) := by decide +kernel
theorem dX7_isWalledOff_53 : decode cX7_isWalledOff 53 = .ok (.ishl, 1) := by decide +kernel
theorem dX7_isWalledOff_54 : decode cX7_isWalledOff 54 = .ok (.iconst (-1), 1) := by decide +kernel
theorem dX7_isWalledOff_55 : decode cX7_isWalledOff 55 = .ok (.ixor, 1) := by decide +kernel
theorem dX7_isWalledOff_56 : decode cX7_isWalledOff 56 = .ok (.iand, 1) := by decide +kernel
theorem dX7_isWalledOff_57 : decode cX7_isWalledOff 57 = .ok (.ifCond .eq 7, 3) := by decide +kernel
theorem dX7_isWalledOff_60 : decode cX7_isWalledOff 60 = .ok (.iconst 1, 1) := by decide +kernel
theorem dX7_isWalledOff_61 : decode cX7_isWalledOff 61 = .ok (.goto 4, 3) := by decide +kernel
theorem dX7_isWalledOff_64 : decode cX7_isWalledOff 64 = .ok (.iconst 0, 1) := by decide +kernel
theorem dX7_isWalledOff_65 : decode cX7_isWalledOff 65 = .ok (.ireturn, 1) := by decide +kernel
theorem dX7_grantFor_0 : decode cX7_grantFor 0 = .ok (.iconst 0, 1) := by decide +kernel
theorem dX7_grantFor_1 : decode cX7_grantFor 1 = .ok (.istore 4, 2) := by decide +kernel
theorem dX7_grantFor_3 : decode cX7_grantFor 3 = .ok (.iload 4, 2) := by decide +kernel
theorem dX7_grantFor_5 : decode cX7_grantFor 5 = .ok (.aload_n 0, 1) := by decide +kernel
theorem dX7_grantFor_6 : decode cX7_grantFor 6 = .ok (.getfield 35, 3) := by decide +kernel
theorem dX7_grantFor_9 : decode cX7_grantFor 9 = .ok (.getfield 171, 3) := by decide +kernel
theorem dX7_grantFor_12 : decode cX7_grantFor 12 = .ok (.getfield 175, 3) := by decide +kernel
theorem dX7_grantFor_15 : decode cX7_grantFor 15 = .ok (.if_icmp .ge 39, 3) := by decide +kernel
theorem dX7_grantFor_18 : decode cX7_grantFor 18 = .ok (.aload_n 0, 1) := by decide +kernel
theorem dX7_grantFor_19 : decode cX7_grantFor 19 = .ok (.getfield 168, 3) := by decide +kernel
theorem dX7_grantFor_22 : decode cX7_grantFor 22 = .ok (.iload 4, 2) := by decide +kernel
theorem dX7_grantFor_24 : decode cX7_grantFor 24 = .ok (.invokestatic 94, 3) := by decide +kernel
theorem dX7_grantFor_27 : decode cX7_grantFor 27 = .ok (.ifCond .eq 21, 3) := by decide +kernel
theorem dX7_grantFor_30 : decode cX7_grantFor 30 = .ok (.aload_n 0, 1) := by decide +kernel
theorem dX7_grantFor_31 : decode cX7_grantFor 31 = .ok (.getfield 35, 3) := by decide +kernel
theorem dX7_grantFor_34 : decode cX7_grantFor 34 = .ok (.iload 4, 2) := by decide +kernel
theorem dX7_grantFor_36 : decode cX7_grantFor 36 = .ok (.iload_n 1, 1) := by decide +kernel
theorem dX7_grantFor_37 : decode cX7_grantFor 37 = .ok (.iload_n 2, 1) := by decide +kernel
theorem dX7_grantFor_38 : decode cX7_grantFor 38 = .ok (.iload_n 3, 1) := by decide +kernel
theorem dX7_grantFor_39 : decode cX7_grantFor 39 = .ok (.invokevirtual 198, 3) := by decide +kernel
theorem dX7_grantFor_42 : decode cX7_grantFor 42 = .ok (.ifCond .eq 6, 3) := by decide +kernel
theorem dX7_grantFor_45 : decode cX7_grantFor 45 = .ok (.iload 4, 2) := by decide +kernel
theorem dX7_grantFor_47 : decode cX7_grantFor 47 = .ok (.ireturn, 1) := by decide +kernel
theorem dX7_grantFor_48 : decode cX7_grantFor 48 = .ok (.iinc 4 1, 3) := by decide +kernel
theorem dX7_grantFor_51 : decode cX7_grantFor 51 = .ok (.goto (-48), 3) := by decide +kernel
theorem dX7_grantFor_54 : decode cX7_grantFor 54 = .ok (.iconst (-1), 1) := by decide +kernel
theorem dX7_grantFor_55 : decode cX7_grantFor 55 = .ok (.ireturn, 1) := by decide +kernel
theorem dX7_decided_0 : decode cX7_decided 0 = .ok (.aload_n 0, 1) := by decide +kernel
theorem dX7_decided_1 : decode cX7_decided 1 = .ok (.iload_n 1, 1) := by decide +kernel
theorem dX7_decided_2 : decode cX7_decided 2 = .ok (.iload_n 2, 1) := by decide +kernel
theorem dX7_decided_3 : decode cX7_decided 3 = .ok (.iload_n 3, 1) := by decide +kernel
theorem dX7_decided_4 : decode cX7_decided 4 = .ok (.invokevirtual 195, 3) := by decide +kernel
theorem dX7_decided_7 : decode cX7_decided 7 = .ok (.istore 4, 2) := by decide +kernel
theorem dX7_decided_9 : decode cX7_decided 9 = .ok (.iload 4, 2) := by decide +kernel
theorem dX7_decided_11 : decode cX7_decided 11 = .ok (.ifCond .ne 17, 3) := by decide +kernel
theorem dX7_decided_14 : decode cX7_decided 14 = .ok (.aload_n 0, 1) := by decide +kernel
theorem dX7_decided_15 : decode cX7_decided 15 = .ok (.iload_n 1, 1) := by decide +kernel
theorem dX7_decided_16 : decode cX7_decided 16 = .ok (.iload_n 2, 1) := by decide +kernel
theorem dX7_decided_17 : decode cX7_decided 17 = .ok (.iload_n 3, 1) := by decide +kernel
theorem dX7_decided_18 : decode cX7_decided 18 = .ok (.invokevirtual 224, 3) := by decide +kernel
theorem dX7_decided_21 : decode cX7_decided 21 = .ok (.ifCond .lt 7, 3) := by decide +kernel
theorem dX7_decided_24 : decode cX7_decided 24 = .ok (.iconst 3, 1) := by decide +kernel
theorem dX7_decided_25 : decode cX7_decided 25 = .ok (.goto 5, 3) := by decide +kernel
theorem dX7_decided_28 : decode cX7_decided 28 = .ok (.iload 4, 2) := by decide +kernel
theorem dX7_decided_30 : decode cX7_decided 30 = .ok (.ireturn, 1) := by decide +kernel
theorem dX7_isAllowed_0 : decode cX7_isAllowed 0 = .ok (.aload_n 0, 1) := by decide +kernel
theorem dX7_isAllowed_1 : decode cX7_isAllowed 1 = .ok (.iload_n 1, 1) := by decide +kernel
theorem dX7_isAllowed_2 : decode cX7_isAllowed 2 = .ok (.iload_n 2, 1) := by decide +kernel
theorem dX7_isAllowed_3 : decode cX7_isAllowed 3 = .ok (.iload_n 3, 1) := by decide +kernel
theorem dX7_isAllowed_4 : decode cX7_isAllowed 4 = .ok (.invokevirtual 227, 3) := by decide +kernel
theorem dX7_isAllowed_7 : decode cX7_isAllowed 7 = .ok (.istore 4, 2) := by decide +kernel
theorem dX7_isAllowed_9 : decode cX7_isAllowed 9 = .ok (.iload 4, 2) := by decide +kernel
theorem dX7_isAllowed_11 : decode cX7_isAllowed 11 = .ok (.iconst 1, 1) := by decide +kernel
theorem dX7_isAllowed_12 : decode cX7_isAllowed 12 = .ok (.if_icmp .eq 9, 3) := by decide +kernel
theorem dX7_isAllowed_15 : decode cX7_isAllowed 15 = .ok (.iload 4, 2) := by decide +kernel
theorem dX7_isAllowed_17 : decode cX7_isAllowed 17 = .ok (.iconst 3, 1) := by decide +kernel
theorem dX7_isAllowed_18 : decode cX7_isAllowed 18 = .ok (.if_icmp .ne 7, 3) := by decide +kernel
theorem dX7_isAllowed_21 : decode cX7_isAllowed 21 = .ok (.iconst 1, 1) := by decide +kernel
theorem dX7_isAllowed_22 : decode cX7_isAllowed 22 = .ok (.goto 4, 3) := by decide +kernel
theorem dX7_isAllowed_25 : decode cX7_isAllowed 25 = .ok (.iconst 0, 1) := by decide +kernel
theorem dX7_isAllowed_26 : decode cX7_isAllowed 26 = .ok (.ireturn, 1) := by decide +kernel
theorem dX7_reason_0 : decode cX7_reason 0 = .ok (.aload_n 0, 1) := by decide +kernel
theorem dX7_reason_1 : decode cX7_reason 1 = .ok (.iload_n 1, 1) := by decide +kernel
theorem dX7_reason_2 : decode cX7_reason 2 = .ok (.iload_n 2, 1) := by decide +kernel
theorem dX7_reason_3 : decode cX7_reason 3 = .ok (.iload_n 3, 1) := by decide +kernel
theorem dX7_reason_4 : decode cX7_reason 4 = .ok (.invokevirtual 195, 3) := by decide +kernel
theorem dX7_reason_7 : decode cX7_reason 7 = .ok (.istore 4, 2) := by decide +kernel
theorem dX7_reason_9 : decode cX7_reason 9 = .ok (.iload 4, 2) := by decide +kernel
theorem dX7_reason_11 : decode cX7_reason 11 = .ok (.iconst 1, 1) := by decide +kernel
theorem dX7_reason_12 : decode cX7_reason 12 = .ok (.if_icmp .eq 9, 3) := by decide +kernel
theorem dX7_reason_15 : decode cX7_reason 15 = .ok (.iload 4, 2) := by decide +kernel
theorem dX7_reason_17 : decode cX7_reason 17 = .ok (.iconst 2, 1) := by decide +kernel
theorem dX7_reason_18 : decode cX7_reason 18 = .ok (.if_icmp .ne 16, 3) := by decide +kernel
theorem dX7_reason_21 : decode cX7_reason 21 = .ok (.aload_n 0, 1) := by decide +kernel
theorem dX7_reason_22 : decode cX7_reason 22 = .ok (.iload_n 1, 1) := by decide +kernel
theorem dX7_reason_23 : decode cX7_reason 23 = .ok (.aload_n 0, 1) := by decide +kernel
theorem dX7_reason_24 : decode cX7_reason 24 = .ok (.iload_n 1, 1) := by decide +kernel
theorem dX7_reason_25 : decode cX7_reason 25 = .ok (.iload_n 2, 1) := by decide +kernel
theorem dX7_reason_26 : decode cX7_reason 26 = .ok (.iload_n 3, 1) := by decide +kernel
theorem dX7_reason_27 : decode cX7_reason 27 = .ok (.invokevirtual 212, 3) := by decide +kernel
theorem dX7_reason_30 : decode cX7_reason 30 = .ok (.invokevirtual 215, 3) := by decide +kernel
theorem dX7_reason_33 : decode cX7_reason 33 = .ok (.ireturn, 1) := by decide +kernel
theorem dX7_reason_34 : decode cX7_reason 34 = .ok (.iload 4, 2) := by decide +kernel
theorem dX7_reason_36 : decode cX7_reason 36 = .ok (.ifCond .ne 13, 3) := by decide +kernel
theorem dX7_reason_39 : decode cX7_reason 39 = .ok (.aload_n 0, 1) := by decide +kernel
theorem dX7_reason_40 : decode cX7_reason 40 = .ok (.iload_n 1, 1) := by decide +kernel
theorem dX7_reason_41 : decode cX7_reason 41 = .ok (.iload_n 2, 1) := by decide +kernel
theorem dX7_reason_42 : decode cX7_reason 42 = .ok (.iload_n 3, 1) := by decide +kernel
theorem dX7_reason_43 : decode cX7_reason 43 = .ok (.invokevirtual 224, 3) := by decide +kernel
theorem dX7_reason_46 : decode cX7_reason 46 = .ok (.goto 4, 3) := by decide +kernel
theorem dX7_reason_49 : decode cX7_reason 49 = .ok (.iconst (-1), 1) := by decide +kernel
theorem dX7_reason_50 : decode cX7_reason 50 = .ok (.ireturn, 1) := by decide +kernel
theorem dX7_allowedTo_0 : decode cX7_allowedTo 0 = .ok (.iconst 0, 1) := by decide +kernel
theorem dX7_allowedTo_1 : decode cX7_allowedTo 1 = .ok (.istore_n 3, 1) := by decide +kernel
theorem dX7_allowedTo_2 : decode cX7_allowedTo 2 = .ok (.iconst 0, 1) := by decide +kernel
theorem dX7_allowedTo_3 : decode cX7_allowedTo 3 = .ok (.istore 4, 2) := by decide +kernel
theorem dX7_allowedTo_5 : decode cX7_allowedTo 5 = .ok (.iload 4, 2) := by decide +kernel
theorem dX7_allowedTo_7 : decode cX7_allowedTo 7 = .ok (.aload_n 0, 1) := by decide +kernel
theorem dX7_allowedTo_8 : decode cX7_allowedTo 8 = .ok (.getfield 35, 3) := by decide +kernel
theorem dX7_allowedTo_11 : decode cX7_allowedTo 11 = .ok (.getfield 119, 3) := by decide +kernel
theorem dX7_allowedTo_14 : decode cX7_allowedTo 14 = .ok (.getfield 123, 3) := by decide +kernel
theorem dX7_allowedTo_17 : decode cX7_allowedTo 17 = .ok (.if_icmp .ge 23, 3) := by decide +kernel
theorem dX7_allowedTo_20 : decode cX7_allowedTo 20 = .ok (.aload_n 0, 1) := by decide +kernel
theorem dX7_allowedTo_21 : decode cX7_allowedTo 21 = .ok (.iload_n 1, 1) := by decide +kernel
theorem dX7_allowedTo_22 : decode cX7_allowedTo 22 = .ok (.iload_n 2, 1) := by decide +kernel
theorem dX7_allowedTo_23 : decode cX7_allowedTo 23 = .ok (.iload 4, 2) := by decide +kernel
theorem dX7_allowedTo_25 : decode cX7_allowedTo 25 = .ok (.invokevirtual 230, 3) := by decide +kernel
theorem dX7_allowedTo_28 : decode cX7_allowedTo 28 = .ok (.ifCond .eq 6, 3) := by decide +kernel
theorem dX7_allowedTo_31 : decode cX7_allowedTo 31 = .ok (.iinc 3 1, 3) := by decide +kernel
theorem dX7_allowedTo_34 : decode cX7_allowedTo 34 = .ok (.iinc 4 1, 3) := by decide +kernel
theorem dX7_allowedTo_37 : decode cX7_allowedTo 37 = .ok (.goto (-32), 3) := by decide +kernel
theorem dX7_allowedTo_40 : decode cX7_allowedTo 40 = .ok (.iload_n 3, 1) := by decide +kernel
theorem dX7_allowedTo_41 : decode cX7_allowedTo 41 = .ok (.ireturn, 1) := by decide +kernel
theorem dX7_differences_0 : decode cX7_differences 0 = .ok (.iconst 0, 1) := by decide +kernel
theorem dX7_differences_1 : decode cX7_differences 1 = .ok (.istore_n 2, 1) := by decide +kernel
theorem dX7_differences_2 : decode cX7_differences 2 = .ok (.iconst 0, 1) := by decide +kernel
theorem dX7_differences_3 : decode cX7_differences 3 = .ok (.istore_n 3, 1) := by decide +kernel
theorem dX7_differences_4 : decode cX7_differences 4 = .ok (.iload_n 3, 1) := by decide +kernel
theorem dX7_differences_5 : decode cX7_differences 5 = .ok (.aload_n 0, 1) := by decide +kernel
theorem dX7_differences_6 : decode cX7_differences 6 = .ok (.getfield 35, 3) := by decide +kernel
theorem dX7_differences_9 : decode cX7_differences 9 = .ok (.getfield 50, 3) := by decide +kernel
theorem dX7_differences_12 : decode cX7_differences 12 = .ok (.getfield 56, 3) := by decide +kernel
theorem dX7_differences_15 : decode cX7_differences 15 = .ok (.if_icmp .ge 72, 3) := by decide +kernel
theorem dX7_differences_18 : decode cX7_differences 18 = .ok (.iconst 0, 1) := by decide +kernel
theorem dX7_differences_19 : decode cX7_differences 19 = .ok (.istore 4, 2) := by decide +kernel
theorem dX7_differences_21 : decode cX7_differences 21 = .ok (.iload 4, 2) := by decide +kernel
theorem dX7_differences_23 : decode cX7_differences 23 = .ok (.iconst 5, 1) := by decide +kernel
theorem dX7_differences_24 : decode cX7_differences 24 = .ok (.if_icmp .ge 57, 3) := by decide +kernel
theorem dX7_differences_27 : decode cX7_differences 27 = .ok (.iconst 0, 1) := by decide +kernel
theorem dX7_differences_28 : decode cX7_differences 28 = .ok (.istore 5, 2) := by decide +kernel
theorem dX7_differences_30 : decode cX7_differences 30 = .ok (.iload 5, 2) := by decide +kernel
theorem dX7_differences_32 : decode cX7_differences 32 = .ok (.aload_n 0, 1) := by decide +kernel
theorem dX7_differences_33 : decode cX7_differences 33 = .ok (.getfield 35, 3) := by decide +kernel
theorem dX7_differences_36 : decode cX7_differences 36 = .ok (.getfield 119, 3) := by decide +kernel
theorem dX7_differences_39 : decode cX7_differences 39 = .ok (.getfield 123, 3) := by decide +kernel
theorem dX7_differences_42 : decode cX7_differences 42 = .ok (.if_icmp .ge 33, 3) := by decide +kernel
theorem dX7_differences_45 : decode cX7_differences 45 = .ok (.aload_n 0, 1) := by decide +kernel
theorem dX7_differences_46 : decode cX7_differences 46 = .ok (.iload_n 3, 1) := by decide +kernel
theorem dX7_differences_47 : decode cX7_differences 47 = .ok (.iload 4, 2) := by decide +kernel
theorem dX7_differences_49 : decode cX7_differences 49 = .ok (.iload 5, 2) := by decide +kernel
theorem dX7_differences_51 : decode cX7_differences 51 = .ok (.invokevirtual 227, 3) := by decide +kernel
theorem dX7_differences_54 : decode cX7_differences 54 = .ok (.aload_n 1, 1) := by decide +kernel
theorem dX7_differences_55 : decode cX7_differences 55 = .ok (.iload_n 3, 1) := by decide +kernel
theorem dX7_differences_56 : decode cX7_differences 56 = .ok (.iload 4, 2) := by decide +kernel
theorem dX7_differences_58 : decode cX7_differences 58 = .ok (.iload 5, 2) := by decide +kernel
theorem dX7_differences_60 : decode cX7_differences 60 = .ok (.invokevirtual 227, 3) := by decide +kernel
theorem dX7_differences_63 : decode cX7_differences 63 = .ok (.if_icmp .eq 6, 3) := by decide +kernel
theorem dX7_differences_66 : decode cX7_differences 66 = .ok (.iinc 2 1, 3) := by decide +kernel
theorem dX7_differences_69 : decode cX7_differences 69 = .ok (.iinc 5 1, 3) := by decide +kernel
theorem dX7_differences_72 : decode cX7_differences 72 = .ok (.goto (-42), 3) := by decide +kernel
theorem dX7_differences_75 : decode cX7_differences 75 = .ok (.iinc 4 1, 3) := by decide +kernel
theorem dX7_differences_78 : decode cX7_differences 78 = .ok (.goto (-57), 3) := by decide +kernel
theorem dX7_differences_81 : decode cX7_differences 81 = .ok (.iinc 3 1, 3) := by decide +kernel
theorem dX7_differences_84 : decode cX7_differences 84 = .ok (.goto (-80), 3) := by decide +kernel
theorem dX7_differences_87 : decode cX7_differences 87 = .ok (.iload_n 2, 1) := by decide +kernel
theorem dX7_differences_88 : decode cX7_differences 88 = .ok (.ireturn, 1) := by decide +kernel
theorem dX7_opposedPairs_0 : decode cX7_opposedPairs 0 = .ok (.aload_n 0, 1) := by decide +kernel
theorem dX7_opposedPairs_1 : decode cX7_opposedPairs 1 = .ok (.getfield 32, 3) := by decide +kernel
theorem dX7_opposedPairs_4 : decode cX7_opposedPairs 4 = .ok (.invokevirtual 74, 3) := by decide +kernel
theorem dX7_opposedPairs_7 : decode cX7_opposedPairs 7 = .ok (.iconst 0, 1) := by decide +kernel
theorem dX7_opposedPairs_8 : decode cX7_opposedPairs 8 = .ok (.istore_n 1, 1) := by decide +kernel
theorem dX7_opposedPairs_9 : decode cX7_opposedPairs 9 = .ok (.iload_n 1, 1) := by decide +kernel
theorem dX7_opposedPairs_10 : decode cX7_opposedPairs 10 = .ok (.aload_n 0, 1) := by decide +kernel
theorem dX7_opposedPairs_11 : decode cX7_opposedPairs 11 = .ok (.getfield 35, 3) := by decide +kernel
theorem dX7_opposedPairs_14 : decode cX7_opposedPairs 14 = .ok (.getfield 50, 3) := by decide +kernel
theorem dX7_opposedPairs_17 : decode cX7_opposedPairs 17 = .ok (.getfield 56, 3) := by decide +kernel
theorem dX7_opposedPairs_20 : decode cX7_opposedPairs 20 = .ok (.if_icmp .ge 55, 3) := by decide +kernel
theorem dX7_opposedPairs_23 : decode cX7_opposedPairs 23 = .ok (.iconst 0, 1) := by decide +kernel
theorem dX7_opposedPairs_24 : decode cX7_opposedPairs 24 = .ok (.istore_n 2, 1) := by decide +kernel
theorem dX7_opposedPairs_25 : decode cX7_opposedPairs 25 = .ok (.iload_n 2, 1) := by decide +kernel
theorem dX7_opposedPairs_26 : decode cX7_opposedPairs 26 = .ok (.iconst 5, 1) := by decide +kernel
theorem dX7_opposedPairs_27 : decode cX7_opposedPairs 27 = .ok (.if_icmp .ge 42, 3) := by decide +kernel
theorem dX7_opposedPairs_30 : decode cX7_opposedPairs 30 = .ok (.iconst 0, 1) := by decide +kernel
theorem dX7_opposedPairs_31 : decode cX7_opposedPairs 31 = .ok (.istore_n 3, 1) := by decide +kernel
theorem dX7_opposedPairs_32 : decode cX7_opposedPairs 32 = .ok (.iload_n 3, 1) := by decide +kernel
theorem dX7_opposedPairs_33 : decode cX7_opposedPairs 33 = .ok (.aload_n 0, 1) := by decide +kernel
theorem dX7_opposedPairs_34 : decode cX7_opposedPairs 34 = .ok (.getfield 35, 3) := by decide +kernel
theorem dX7_opposedPairs_37 : decode cX7_opposedPairs 37 = .ok (.getfield 119, 3) := by decide +kernel
theorem dX7_opposedPairs_40 : decode cX7_opposedPairs 40 = .ok (.getfield 123, 3) := by decide +kernel
theorem dX7_opposedPairs_43 : decode cX7_opposedPairs 43 = .ok (.if_icmp .ge 20, 3) := by decide +kernel
theorem dX7_opposedPairs_46 : decode cX7_opposedPairs 46 = .ok (.aload_n 0, 1) := by decide +kernel
theorem dX7_opposedPairs_47 : decode cX7_opposedPairs 47 = .ok (.aload_n 0, 1) := by decide +kernel
theorem dX7_opposedPairs_48 : decode cX7_opposedPairs 48 = .ok (.iload_n 1, 1) := by decide +kernel
theorem dX7_opposedPairs_49 : decode cX7_opposedPairs 49 = .ok (.iload_n 2, 1) := by decide +kernel
theorem dX7_opposedPairs_50 : decode cX7_opposedPairs 50 = .ok (.iload_n 3, 1) := by decide +kernel
theorem dX7_opposedPairs_51 : decode cX7_opposedPairs 51 = .ok (.invokevirtual 212, 3) := by decide +kernel
theorem dX7_opposedPairs_54 : decode cX7_opposedPairs 54 = .ok (.invokevirtual 233, 3) := by decide +kernel
theorem dX7_opposedPairs_57 : decode cX7_opposedPairs 57 = .ok (.iinc 3 1, 3) := by decide +kernel
theorem dX7_opposedPairs_60 : decode cX7_opposedPairs 60 = .ok (.goto (-28), 3) := by decide +kernel
theorem dX7_opposedPairs_63 : decode cX7_opposedPairs 63 = .ok (.iinc 2 1, 3) := by decide +kernel
theorem dX7_opposedPairs_66 : decode cX7_opposedPairs 66 = .ok (.goto (-41), 3) := by decide +kernel
theorem dX7_opposedPairs_69 : decode cX7_opposedPairs 69 = .ok (.iinc 1 1, 3) := by decide +kernel
theorem dX7_opposedPairs_72 : decode cX7_opposedPairs 72 = .ok (.goto (-63), 3) := by decide +kernel
theorem dX7_opposedPairs_75 : decode cX7_opposedPairs 75 = .ok (.iconst 0, 1) := by decide +kernel
theorem dX7_opposedPairs_76 : decode cX7_opposedPairs 76 = .ok (.istore_n 1, 1) := by decide +kernel
theorem dX7_opposedPairs_77 : decode cX7_opposedPairs 77 = .ok (.iconst 0, 1) := by decide +kernel
theorem dX7_opposedPairs_78 : decode cX7_opposedPairs 78 = .ok (.istore_n 2, 1) := by decide +kernel
theorem dX7_opposedPairs_79 : decode cX7_opposedPairs 79 = .ok (.iload_n 2, 1) := by decide +kernel
theorem dX7_opposedPairs_80 : decode cX7_opposedPairs 80 = .ok (.aload_n 0, 1) := by decide +kernel
theorem dX7_opposedPairs_81 : decode cX7_opposedPairs 81 = .ok (.getfield 35, 3) := by decide +kernel
theorem dX7_opposedPairs_84 : decode cX7_opposedPairs 84 = .ok (.getfield 87, 3) := by decide +kernel
theorem dX7_opposedPairs_87 : decode cX7_opposedPairs 87 = .ok (.getfield 91, 3) := by decide +kernel
theorem dX7_opposedPairs_90 : decode cX7_opposedPairs 90 = .ok (.if_icmp .ge 23, 3) := by decide +kernel
theorem dX7_opposedPairs_93 : decode cX7_opposedPairs 93 = .ok (.iload_n 1, 1) := by decide +kernel
theorem dX7_opposedPairs_94 : decode cX7_opposedPairs 94 = .ok (.aload_n 0, 1) := by decide +kernel
theorem dX7_opposedPairs_95 : decode cX7_opposedPairs 95 = .ok (.getfield 32, 3) := by decide +kernel
theorem dX7_opposedPairs_98 : decode cX7_opposedPairs 98 = .ok (.iload_n 2, 1) := by decide +kernel
theorem dX7_opposedPairs_99 : decode cX7_opposedPairs 99 = .ok (.invokevirtual 64, 3) := by decide +kernel
theorem dX7_opposedPairs_102 : decode cX7_opposedPairs 102 = .ok (.invokestatic 236, 3) := by decide +kernel
theorem dX7_opposedPairs_105 : decode cX7_opposedPairs 105 = .ok (.iadd, 1) := by decide +kernel
theorem dX7_opposedPairs_106 : decode cX7_opposedPairs 106 = .ok (.istore_n 1, 1) := by decide +kernel
theorem dX7_opposedPairs_107 : decode cX7_opposedPairs 107 = .ok (.iinc 2 1, 3) := by decide +kernel
theorem dX7_opposedPairs_110 : decode cX7_opposedPairs 110 = .ok (.goto (-31), 3) := by decide +kernel
theorem dX7_opposedPairs_113 : decode cX7_opposedPairs 113 = .ok (.iload_n 1, 1) := by decide +kernel
theorem dX7_opposedPairs_114 : decode cX7_opposedPairs 114 = .ok (.ireturn, 1) := by decide +kernel
theorem dX7_oppose_0 : decode cX7_oppose 0 = .ok (.iload_n 1, 1) := by decide +kernel
theorem dX7_oppose_1 : decode cX7_oppose 1 = .ok (.aload_n 0, 1) := by decide +kernel
theorem dX7_oppose_2 : decode cX7_oppose 2 = .ok (.getfield 80, 3) := by decide +kernel
theorem dX7_oppose_5 : decode cX7_oppose 5 = .ok (.iconst (-1), 1) := by decide +kernel
theorem dX7_oppose_6 : decode cX7_oppose 6 = .ok (.ixor, 1) := by decide +kernel
theorem dX7_oppose_7 : decode cX7_oppose 7 = .ok (.iand, 1) := by decide +kernel
theorem dX7_oppose_8 : decode cX7_oppose 8 = .ok (.istore_n 2, 1) := by decide +kernel
theorem dX7_oppose_9 : decode cX7_oppose 9 = .ok (.iconst 0, 1) := by decide +kernel
theorem dX7_oppose_10 : decode cX7_oppose 10 = .ok (.istore_n 3, 1) := by decide +kernel
theorem dX7_oppose_11 : decode cX7_oppose 11 = .ok (.iload_n 3, 1) := by decide +kernel
theorem dX7_oppose_12 : decode cX7_oppose 12 = .ok (.aload_n 0, 1) := by decide +kernel
theorem dX7_oppose_13 : decode cX7_oppose 13 = .ok (.getfield 35, 3) := by decide +kernel
theorem dX7_oppose_16 : decode cX7_oppose 16 = .ok (.getfield 87, 3) := by decide +kernel
theorem dX7_oppose_19 : decode cX7_oppose 19 = .ok (.getfield 91, 3) := by decide +kernel
theorem dX7_oppose_22 : decode cX7_oppose 22 = .ok (.if_icmp .ge 44, 3) := by decide +kernel
theorem dX7_oppose_25 : decode cX7_oppose 25 = .ok (.iload_n 2, 1) := by decide +kernel
theorem dX7_oppose_26 : decode cX7_oppose 26 = .ok (.ifCond .eq 40, 3) := by decide +kernel
theorem dX7_oppose_29 : decode cX7_oppose 29 = .ok (.iload_n 1, 1) := by decide +kernel
theorem dX7_oppose_30 : decode cX7_oppose 30 = .ok (.aload_n 0, 1) := by decide +kernel
theorem dX7_oppose_31 : decode cX7_oppose 31 = .ok (.getfield 80, 3) := by decide +kernel
theorem dX7_oppose_34 : decode cX7_oppose 34 = .ok (.iand, 1) := by decide +kernel
theorem dX7_oppose_35 : decode cX7_oppose 35 = .ok (.iload_n 3, 1) := by decide +kernel
theorem dX7_oppose_36 : decode cX7_oppose 36 = .ok (.invokestatic 94, 3) := by decide +kernel
theorem dX7_oppose_39 : decode cX7_oppose 39 = .ok (.ifCond .eq 21, 3) := by decide +kernel
theorem dX7_oppose_42 : decode cX7_oppose 42 = .ok (.aload_n 0, 1) := by decide +kernel
theorem dX7_oppose_43 : decode cX7_oppose 43 = .ok (.getfield 32, 3) := by decide +kernel
theorem dX7_oppose_46 : decode cX7_oppose 46 = .ok (.iload_n 3, 1) := by decide +kernel
theorem dX7_oppose_47 : decode cX7_oppose 47 = .ok (.aload_n 0, 1) := by decide +kernel
theorem dX7_oppose_48 : decode cX7_oppose 48 = .ok (.getfield 32, 3) := by decide +kernel
theorem dX7_oppose_51 : decode cX7_oppose 51 = .ok (.iload_n 3, 1) := by decide +kernel
theorem dX7_oppose_52 : decode cX7_oppose 52 = .ok (.invokevirtual 64, 3) := by decide +kernel
theorem dX7_oppose_55 : decode cX7_oppose 55 = .ok (.iload_n 2, 1) := by decide +kernel
theorem dX7_oppose_56 : decode cX7_oppose 56 = .ok (.ior, 1) := by decide +kernel
theorem dX7_oppose_57 : decode cX7_oppose 57 = .ok (.invokevirtual 110, 3) := by decide +kernel
theorem dX7_oppose_60 : decode cX7_oppose 60 = .ok (.iinc 3 1, 3) := by decide +kernel
theorem dX7_oppose_63 : decode cX7_oppose 63 = .ok (.goto (-52), 3) := by decide +kernel
theorem dX7_oppose_66 : decode cX7_oppose 66 = .ok (.return_, 1) := by decide +kernel
theorem dX8_init_0 : decode cX8_init 0 = .ok (.aload_n 0, 1) := by decide +kernel
theorem dX8_init_1 : decode cX8_init 1 = .ok (.invokespecial 1, 3) := by decide +kernel
theorem dX8_init_4 : decode cX8_init 4 = .ok (.new 7, 3) := by decide +kernel
theorem dX8_init_7 : decode cX8_init 7 = .ok (.dup, 1) := by decide +kernel
theorem dX8_init_8 : decode cX8_init 8 = .ok (.invokespecial 9, 3) := by decide +kernel
theorem dX8_init_11 : decode cX8_init 11 = .ok (.astore_n 1, 1) := by decide +kernel
theorem dX8_init_12 : decode cX8_init 12 = .ok (.aload_n 0, 1) := by decide +kernel
theorem dX8_init_13 : decode cX8_init 13 = .ok (.aload_n 1, 1) := by decide +kernel
theorem dX8_init_14 : decode cX8_init 14 = .ok (.putfield 10, 3) := by decide +kernel
theorem dX8_init_17 : decode cX8_init 17 = .ok (.aload_n 0, 1) := by decide +kernel
theorem dX8_init_18 : decode cX8_init 18 = .ok (.new 16, 3) := by decide +kernel
theorem dX8_init_21 : decode cX8_init 21 = .ok (.dup, 1) := by decide +kernel
theorem dX8_init_22 : decode cX8_init 22 = .ok (.aload_n 1, 1) := by decide +kernel
theorem dX8_init_23 : decode cX8_init 23 = .ok (.invokespecial 18, 3) := by decide +kernel
theorem dX8_init_26 : decode cX8_init 26 = .ok (.putfield 21, 3) := by decide +kernel
theorem dX8_init_29 : decode cX8_init 29 = .ok (.aload_n 0, 1) := by decide +kernel
theorem dX8_init_30 : decode cX8_init 30 = .ok (.new 16, 3) := by decide +kernel
theorem dX8_init_33 : decode cX8_init 33 = .ok (.dup, 1) := by decide +kernel
theorem dX8_init_34 : decode cX8_init 34 = .ok (.aload_n 1, 1) := by decide +kernel
theorem dX8_init_35 : decode cX8_init 35 = .ok (.invokespecial 18, 3) := by decide +kernel
theorem dX8_init_38 : decode cX8_init 38 = .ok (.putfield 25, 3) := by decide +kernel
theorem dX8_init_41 : decode cX8_init 41 = .ok (.aload_n 0, 1) := by decide +kernel
theorem dX8_init_42 : decode cX8_init 42 = .ok (.new 28, 3) := by decide +kernel
theorem dX8_init_45 : decode cX8_init 45 = .ok (.dup, 1) := by decide +kernel
theorem dX8_init_46 : decode cX8_init 46 = .ok (.bipush 6, 2) := by decide +kernel
theorem dX8_init_48 : decode cX8_init 48 = .ok (.iconst 0, 1) := by decide +kernel
theorem dX8_init_49 : decode cX8_init 49 = .ok (.invokespecial 30, 3) := by decide +kernel
theorem dX8_init_52 : decode cX8_init 52 = .ok (.putfield 33, 3) := by decide +kernel
theorem dX8_init_55 : decode cX8_init 55 = .ok (.return_, 1) := by decide +kernel
theorem dX8_addUser_0 : decode cX8_addUser 0 = .ok (.iload_n 1, 1) := by decide +kernel
theorem dX8_addUser_1 : decode cX8_addUser 1 = .ok (.iconst 3, 1) := by decide +kernel
theorem dX8_addUser_2 : decode cX8_addUser 2 = .ok (.invokestatic 37, 3) := by decide +kernel
theorem dX8_addUser_5 : decode cX8_addUser 5 = .ok (.ifCond .eq 17, 3) := by decide +kernel
theorem dX8_addUser_8 : decode cX8_addUser 8 = .ok (.iload_n 2, 1) := by decide +kernel
theorem dX8_addUser_9 : decode cX8_addUser 9 = .ok (.sipush 255, 3) := by decide +kernel
theorem dX8_addUser_12 : decode cX8_addUser 12 = .ok (.invokestatic 37, 3) := by decide +kernel
theorem dX8_addUser_15 : decode cX8_addUser 15 = .ok (.ifCond .eq 7, 3) := by decide +kernel
theorem dX8_addUser_18 : decode cX8_addUser 18 = .ok (.iconst 1, 1) := by decide +kernel
theorem dX8_addUser_19 : decode cX8_addUser 19 = .ok (.goto 4, 3) := by decide +kernel
theorem dX8_addUser_22 : decode cX8_addUser 22 = .ok (.iconst 0, 1) := by decide +kernel
theorem dX8_addUser_23 : decode cX8_addUser 23 = .ok (.invokestatic 41, 3) := by decide +kernel
theorem dX8_addUser_26 : decode cX8_addUser 26 = .ok (.aload_n 0, 1) := by decide +kernel
theorem dX8_addUser_27 : decode cX8_addUser 27 = .ok (.getfield 10, 3) := by decide +kernel
theorem dX8_addUser_30 : decode cX8_addUser 30 = .ok (.getfield 45, 3) := by decide +kernel
theorem dX8_addUser_33 : decode cX8_addUser 33 = .ok (.getfield 49, 3) := by decide +kernel
theorem dX8_addUser_36 : decode cX8_addUser 36 = .ok (.bipush 12, 2) := by decide +kernel
theorem dX8_addUser_38 : decode cX8_addUser 38 = .ok (.if_icmp .ge 7, 3) := by decide +kernel
theorem dX8_addUser_41 : decode cX8_addUser 41 = .ok (.iconst 1, 1) := by decide +kernel
theorem dX8_addUser_42 : decode cX8_addUser 42 = .ok (.goto 4, 3) := by decide +kernel
theorem dX8_addUser_45 : decode cX8_addUser 45 = .ok (.iconst 0, 1) := by decide +kernel
theorem dX8_addUser_46 : decode cX8_addUser 46 = .ok (.invokestatic 55, 3) := by decide +kernel
theorem dX8_addUser_49 : decode cX8_addUser 49 = .ok (.aload_n 0, 1) := by decide +kernel
theorem dX8_addUser_50 : decode cX8_addUser 50 = .ok (.getfield 10, 3) := by decide +kernel
theorem dX8_addUser_53 : decode cX8_addUser 53 = .ok (.getfield 45, 3) := by decide +kernel
theorem dX8_addUser_56 : decode cX8_addUser 56 = .ok (.iload_n 1, 1) := by decide +kernel
theorem dX8_addUser_57 : decode cX8_addUser 57 = .ok (.iload_n 2, 1) := by decide +kernel
theorem dX8_addUser_58 : decode cX8_addUser 58 = .ok (.invokevirtual 58, 3) := by decide +kernel
theorem dX8_addUser_61 : decode cX8_addUser 61 = .ok (.ireturn, 1) := by decide +kernel
theorem dX8_addRole_0 : decode cX8_addRole 0 = .ok (.aload_n 0, 1) := by decide +kernel
theorem dX8_addRole_1 : decode cX8_addRole 1 = .ok (.getfield 10, 3) := by decide +kernel
theorem dX8_addRole_4 : decode cX8_addRole 4 = .ok (.getfield 62, 3) := by decide +kernel
theorem dX8_addRole_7 : decode cX8_addRole 7 = .ok (.getfield 66, 3) := by decide +kernel
theorem dX8_addRole_10 : decode cX8_addRole 10 = .ok (.bipush 12, 2) := by decide +kernel
theorem dX8_addRole_12 : decode cX8_addRole 12 = .ok (.if_icmp .ge 7, 3) := by decide +kernel
theorem dX8_addRole_15 : decode cX8_addRole 15 = .ok (.iconst 1, 1) := by decide +kernel
theorem dX8_addRole_16 : decode cX8_addRole 16 = .ok (.goto 4, 3) := by decide +kernel
theorem dX8_addRole_19 : decode cX8_addRole 19 = .ok (.iconst 0, 1) := by decide +kernel
theorem dX8_addRole_20 : decode cX8_addRole 20 = .ok (.invokestatic 55, 3) := by decide +kernel
theorem dX8_addRole_23 : decode cX8_addRole 23 = .ok (.aload_n 0, 1) := by decide +kernel
theorem dX8_addRole_24 : decode cX8_addRole 24 = .ok (.getfield 10, 3) := by decide +kernel
theorem dX8_addRole_27 : decode cX8_addRole 27 = .ok (.getfield 62, 3) := by decide +kernel
theorem dX8_addRole_30 : decode cX8_addRole 30 = .ok (.invokevirtual 69, 3) := by decide +kernel
theorem dX8_addRole_33 : decode cX8_addRole 33 = .ok (.ireturn, 1) := by decide +kernel
theorem dX8_addResource_0 : decode cX8_addResource 0 = .ok (.aload_n 0, 1) := by decide +kernel
theorem dX8_addResource_1 : decode cX8_addResource 1 = .ok (.iload_n 1, 1) := by decide +kernel
theorem dX8_addResource_2 : decode cX8_addResource 2 = .ok (.invokevirtual 72, 3) := by decide +kernel
theorem dX8_addResource_5 : decode cX8_addResource 5 = .ok (.invokestatic 76, 3) := by decide +kernel
theorem dX8_addResource_8 : decode cX8_addResource 8 = .ok (.aload_n 0, 1) := by decide +kernel
theorem dX8_addResource_9 : decode cX8_addResource 9 = .ok (.getfield 10, 3) := by decide +kernel
theorem dX8_addResource_12 : decode cX8_addResource 12 = .ok (.getfield 79, 3) := by decide +kernel
theorem dX8_addResource_15 : decode cX8_addResource 15 = .ok (.getfield 83, 3) := by decide +kernel
theorem dX8_addResource_18 : decode cX8_addResource 18 = .ok (.bipush 24, 2) := by decide +kernel
theorem dX8_addResource_20 : decode cX8_addResource 20 = .ok (.if_icmp .ge 7, 3) := by decide +kernel
theorem dX8_addResource_23 : decode cX8_addResource 23 = .ok (.iconst 1, 1) := by decide +kernel
theorem dX8_addResource_24 : decode cX8_addResource 24 = .ok (.goto 4, 3) := by decide +kernel
theorem dX8_addResource_27 : decode cX8_addResource 27 = .ok (.iconst 0, 1) := by decide +kernel
theorem dX8_addResource_28 : decode cX8_addResource 28 = .ok (.invokestatic 55, 3) := by decide +kernel
theorem dX8_addResource_31 : decode cX8_addResource 31 = .ok (.aload_n 0, 1) := by decide +kernel
theorem dX8_addResource_32 : decode cX8_addResource 32 = .ok (.getfield 10, 3) := by decide +kernel
theorem dX8_addResource_35 : decode cX8_addResource 35 = .ok (.getfield 79, 3) := by decide +kernel
theorem dX8_addResource_38 : decode cX8_addResource 38 = .ok (.iload_n 1, 1) := by decide +kernel
theorem dX8_addResource_39 : decode cX8_addResource 39 = .ok (.invokevirtual 86, 3) := by decide +kernel
theorem dX8_addResource_42 : decode cX8_addResource 42 = .ok (.ireturn, 1) := by decide +kernel
theorem dX8_setRole_0 : decode cX8_setRole 0 = .ok (.aload_n 0, 1) := by decide +kernel
theorem dX8_setRole_1 : decode cX8_setRole 1 = .ok (.iload_n 1, 1) := by decide +kernel
theorem dX8_setRole_2 : decode cX8_setRole 2 = .ok (.invokevirtual 89, 3) := by decide +kernel
theorem dX8_setRole_5 : decode cX8_setRole 5 = .ok (.ifCond .eq 15, 3) := by decide +kernel
theorem dX8_setRole_8 : decode cX8_setRole 8 = .ok (.aload_n 0, 1) := by decide +kernel
theorem dX8_setRole_9 : decode cX8_setRole 9 = .ok (.iload_n 2, 1) := by decide +kernel
theorem dX8_setRole_10 : decode cX8_setRole 10 = .ok (.invokevirtual 92, 3) := by decide +kernel
theorem dX8_setRole_13 : decode cX8_setRole 13 = .ok (.ifCond .eq 7, 3) := by decide +kernel
theorem dX8_setRole_16 : decode cX8_setRole 16 = .ok (.iconst 1, 1) := by decide +kernel
theorem dX8_setRole_17 : decode cX8_setRole 17 = .ok (.goto 4, 3) := by decide +kernel
theorem dX8_setRole_20 : decode cX8_setRole 20 = .ok (.iconst 0, 1) := by decide +kernel
theorem dX8_setRole_21 : decode cX8_setRole 21 = .ok (.invokestatic 76, 3) := by decide +kernel
theorem dX8_setRole_24 : decode cX8_setRole 24 = .ok (.aload_n 0, 1) := by decide +kernel
theorem dX8_setRole_25 : decode cX8_setRole 25 = .ok (.getfield 10, 3) := by decide +kernel
theorem dX8_setRole_28 : decode cX8_setRole 28 = .ok (.getfield 45, 3) := by decide +kernel
theorem dX8_setRole_31 : decode cX8_setRole 31 = .ok (.getfield 95, 3) := by decide +kernel
theorem dX8_setRole_34 : decode cX8_setRole 34 = .ok (.iload_n 1, 1) := by decide +kernel
theorem dX8_setRole_35 : decode cX8_setRole 35 = .ok (.invokevirtual 98, 3) := by decide +kernel
theorem dX8_setRole_38 : decode cX8_setRole 38 = .ok (.istore 4, 2) := by decide +kernel
theorem dX8_setRole_40 : decode cX8_setRole 40 = .ok (.iload_n 3, 1) := by decide +kernel
theorem dX8_setRole_41 : decode cX8_setRole 41 = .ok (.ifCond .eq 12, 3) := by decide +kernel
theorem dX8_setRole_44 : decode cX8_setRole 44 = .ok (.iload 4, 2) := by decide +kernel
theorem dX8_setRole_46 : decode cX8_setRole 46 = .ok (.iconst 1, 1) := by decide +kernel
theorem dX8_setRole_47 : decode cX8_setRole 47 = .ok (.iload_n 2, 1) := by decide +kernel
theorem dX8_setRole_48 : decode cX8_setRole 48 = .ok (.ishl, 1) := by decide +kernel
theorem dX8_setRole_49 : decode cX8_setRole 49 = .ok (.ior, 1) := by decide +kernel
theorem dX8_setRole_50 : decode cX8_setRole 50 = .ok (.goto 11, 3) := by decide +kernel
theorem dX8_setRole_53 : decode cX8_setRole 53 = .ok (.iload 4, 2) := by decide +kernel
theorem dX8_setRole_55 : decode cX8_setRole 55 = .ok (.iconst 1, 1) := by decide +kernel
theorem dX8_setRole_56 : decode cX8_setRole 56 = .ok (.iload_n 2, 1) := by decide +kernel
theorem dX8_setRole_57 : decode cX8_setRole 57 = .ok (.ishl, 1) := by decide +kernel
theorem dX8_setRole_58 : decode cX8_setRole 58 = .ok (.iconst (-1), 1) := by decide +kernel
theorem dX8_setRole_59 : decode cX8_setRole 59 = .ok (.ixor, 1) := by decide +kernel
theorem dX8_setRole_60 : decode cX8_setRole 60 = .ok (.iand, 1) := by decide +kernel
theorem dX8_setRole_61 : decode cX8_setRole 61 = .ok (.istore 5, 2) := by decide +kernel
theorem dX8_setRole_63 : decode cX8_setRole 63 = .ok (.aload_n 0, 1) := by decide +kernel
theorem dX8_setRole_64 : decode cX8_setRole 64 = .ok (.getfield 10, 3) := by decide +kernel
theorem dX8_setRole_67 : decode cX8_setRole 67 = .ok (.getfield 62, 3) := by decide +kernel
theorem dX8_setRole_70 : decode cX8_setRole 70 = .ok (.aload_n 0, 1) := by decide +kernel
theorem dX8_setRole_71 : decode cX8_setRole 71 = .ok (.getfield 10, 3) := by decide +kernel
theorem dX8_setRole_74 : decode cX8_setRole 74 = .ok (.getfield 62, 3) := by decide +kernel
theorem dX8_setRole_77 : decode cX8_setRole 77 = .ok (.iload 5, 2) := by decide +kernel
theorem dX8_setRole_79 : decode cX8_setRole 79 = .ok (.invokevirtual 101, 3) := by decide +kernel
theorem dX8_setRole_82 : decode cX8_setRole 82 = .ok (.invokevirtual 104, 3) := by decide +kernel
theorem dX8_setRole_85 : decode cX8_setRole 85 = .ok (.ifCond .ne 7, 3) := by decide +kernel
theorem dX8_setRole_88 : decode cX8_setRole 88 = .ok (.iconst 1, 1) := by decide +kernel
theorem dX8_setRole_89 : decode cX8_setRole 89 = .ok (.goto 4, 3) := by decide +kernel
theorem dX8_setRole_92 : decode cX8_setRole 92 = .ok (.iconst 0, 1) := by decide +kernel
theorem dX8_setRole_93 : decode cX8_setRole 93 = .ok (.invokestatic 55, 3) := by decide +kernel
theorem dX8_setRole_96 : decode cX8_setRole 96 = .ok (.aload_n 0, 1) := by decide +kernel
theorem dX8_setRole_97 : decode cX8_setRole 97 = .ok (.getfield 10, 3) := by decide +kernel
theorem dX8_setRole_100 : decode cX8_setRole 100 = .ok (.getfield 45, 3) := by decide +kernel
theorem dX8_setRole_103 : decode cX8_setRole 103 = .ok (.getfield 95, 3) := by decide +kernel
theorem dX8_setRole_106 : decode cX8_setRole 106 = .ok (.iload_n 1, 1) := by decide +kernel
theorem dX8_setRole_107 : decode cX8_setRole 107 = .ok (.iload 5, 2) := by decide +kernel
theorem dX8_setRole_109 : decode cX8_setRole 109 = .ok (.invokevirtual 107, 3) := by decide +kernel
theorem dX8_setRole_112 : decode cX8_setRole 112 = .ok (.iload 4, 2) := by decide +kernel
theorem dX8_setRole_114 : decode cX8_setRole 114 = .ok (.iload_n 2, 1) := by decide +kernel
theorem dX8_setRole_115 : decode cX8_setRole 115 = .ok (.invokestatic 110, 3) := by decide +kernel
theorem dX8_setRole_118 : decode cX8_setRole 118 = .ok (.ireturn, 1) := by decide +kernel
theorem dX8_setHolds_0 : decode cX8_setHolds 0 = .ok (.aload_n 0, 1) := by decide +kernel
theorem dX8_setHolds_1 : decode cX8_setHolds 1 = .ok (.iload_n 1, 1) := by decide +kernel
theorem dX8_setHolds_2 : decode cX8_setHolds 2 = .ok (.invokevirtual 92, 3) := by decide +kernel
theorem dX8_setHolds_5 : decode cX8_setHolds 5 = .ok (.ifCond .eq 15, 3) := by decide +kernel
theorem dX8_setHolds_8 : decode cX8_setHolds 8 = .ok (.aload_n 0, 1) := by decide +kernel
theorem dX8_setHolds_9 : decode cX8_setHolds 9 = .ok (.iload_n 2, 1) := by decide +kernel
theorem dX8_setHolds_10 : decode cX8_setHolds 10 = .ok (.invokevirtual 92, 3) := by decide +kernel
theorem dX8_setHolds_13 : decode cX8_setHolds 13 = .ok (.ifCond .eq 7, 3) := by decide +kernel
theorem dX8_setHolds_16 : decode cX8_setHolds 16 = .ok (.iconst 1, 1) := by decide +kernel
theorem dX8_setHolds_17 : decode cX8_setHolds 17 = .ok (.goto 4, 3) := by decide +kernel
theorem dX8_setHolds_20 : decode cX8_setHolds 20 = .ok (.iconst 0, 1) := by decide +kernel
theorem dX8_setHolds_21 : decode cX8_setHolds 21 = .ok (.invokestatic 76, 3) := by decide +kernel
theorem dX8_setHolds_24 : decode cX8_setHolds 24 = .ok (.iload_n 1, 1) := by decide +kernel
theorem dX8_setHolds_25 : decode cX8_setHolds 25 = .ok (.iload_n 2, 1) := by decide +kernel
theorem dX8_setHolds_26 : decode cX8_setHolds 26 = .ok (.if_icmp .eq 31, 3) := by decide +kernel
theorem dX8_setHolds_29 : decode cX8_setHolds 29 = .ok (.iload_n 3, 1) := by decide +kernel
theorem dX8_setHolds_30 : decode cX8_setHolds 30 = .ok (.ifCond .eq 23, 3) := by decide +kernel
theorem dX8_setHolds_33 : decode cX8_setHolds 33 = .ok (.aload_n 0, 1) := by decide +kernel
theorem dX8_setHolds_34 : decode cX8_setHolds 34 = .ok (.getfield 10, 3) := by decide +kernel
theorem dX8_setHolds_37 : decode cX8_setHolds 37 = .ok (.getfield 62, 3) := by decide +kernel
theorem dX8_setHolds_40 : decode cX8_setHolds 40 = .ok (.iconst 1, 1) := by decide +kernel
theorem dX8_setHolds_41 : decode cX8_setHolds 41 = .ok (.iload_n 2, 1) := by decide +kernel
theorem dX8_setHolds_42 : decode cX8_setHolds 42 = .ok (.ishl, 1) := by decide +kernel
theorem dX8_setHolds_43 : decode cX8_setHolds 43 = .ok (.invokevirtual 101, 3) := by decide +kernel
theorem dX8_setHolds_46 : decode cX8_setHolds 46 = .ok (.iload_n 1, 1) := by decide +kernel
theorem dX8_setHolds_47 : decode cX8_setHolds 47 = .ok (.invokestatic 110, 3) := by decide +kernel
theorem dX8_setHolds_50 : decode cX8_setHolds 50 = .ok (.ifCond .ne 7, 3) := by decide +kernel
theorem dX8_setHolds_53 : decode cX8_setHolds 53 = .ok (.iconst 1, 1) := by decide +kernel
theorem dX8_setHolds_54 : decode cX8_setHolds 54 = .ok (.goto 4, 3) := by decide +kernel
theorem dX8_setHolds_57 : decode cX8_setHolds 57 = .ok (.iconst 0, 1) := by decide +kernel
theorem dX8_setHolds_58 : decode cX8_setHolds 58 = .ok (.invokestatic 41, 3) := by decide +kernel
theorem dX8_setHolds_61 : decode cX8_setHolds 61 = .ok (.iload_n 3, 1) := by decide +kernel
theorem dX8_setHolds_62 : decode cX8_setHolds 62 = .ok (.ifCond .eq 12, 3) := by decide +kernel
theorem dX8_setHolds_65 : decode cX8_setHolds 65 = .ok (.aload_n 0, 1) := by decide +kernel
theorem dX8_setHolds_66 : decode cX8_setHolds 66 = .ok (.iload_n 1, 1) := by decide +kernel
theorem dX8_setHolds_67 : decode cX8_setHolds 67 = .ok (.iload_n 2, 1) := by decide +kernel
theorem dX8_setHolds_68 : decode cX8_setHolds 68 = .ok (.invokevirtual 113, 3) := by decide +kernel
theorem dX8_setHolds_71 : decode cX8_setHolds 71 = .ok (.ifCond .ne 7, 3) := by decide +kernel
theorem dX8_setHolds_74 : decode cX8_setHolds 74 = .ok (.iconst 1, 1) := by decide +kernel
theorem dX8_setHolds_75 : decode cX8_setHolds 75 = .ok (.goto 4, 3) := by decide +kernel
theorem dX8_setHolds_78 : decode cX8_setHolds 78 = .ok (.iconst 0, 1) := by decide +kernel
theorem dX8_setHolds_79 : decode cX8_setHolds 79 = .ok (.invokestatic 55, 3) := by decide +kernel
theorem dX8_setHolds_82 : decode cX8_setHolds 82 = .ok (.aload_n 0, 1) := by decide +kernel
theorem dX8_setHolds_83 : decode cX8_setHolds 83 = .ok (.getfield 10, 3) := by decide +kernel
theorem dX8_setHolds_86 : decode cX8_setHolds 86 = .ok (.getfield 62, 3) := by decide +kernel
theorem dX8_setHolds_89 : decode cX8_setHolds 89 = .ok (.getfield 116, 3) := by decide +kernel
theorem dX8_setHolds_92 : decode cX8_setHolds 92 = .ok (.iload_n 1, 1) := by decide +kernel
theorem dX8_setHolds_93 : decode cX8_setHolds 93 = .ok (.invokevirtual 98, 3) := by decide +kernel
theorem dX8_setHolds_96 : decode cX8_setHolds 96 = .ok (.istore 4, 2) := by decide +kernel
theorem dX8_setHolds_98 : decode cX8_setHolds 98 = .ok (.aload_n 0, 1) := by decide +kernel
theorem dX8_setHolds_99 : decode cX8_setHolds 99 = .ok (.getfield 10, 3) := by decide +kernel
theorem dX8_setHolds_102 : decode cX8_setHolds 102 = .ok (.getfield 62, 3) := by decide +kernel
theorem dX8_setHolds_105 : decode cX8_setHolds 105 = .ok (.getfield 116, 3) := by decide +kernel
theorem dX8_setHolds_108 : decode cX8_setHolds 108 = .ok (.iload_n 1, 1) := by decide +kernel
theorem dX8_setHolds_109 : decode cX8_setHolds 109 = .ok (.iload_n 3, 1) := by decide +kernel
theorem dX8_setHolds_110 : decode cX8_setHolds 110 = .ok (.ifCond .eq 12, 3) := by decide +kernel
theorem dX8_setHolds_113 : decode cX8_setHolds 113 = .ok (.iload 4, 2) := by decide +kernel
theorem dX8_setHolds_115 : decode cX8_setHolds 115 = .ok (.iconst 1, 1) := by decide +kernel
theorem dX8_setHolds_116 : decode cX8_setHolds 116 = .ok (.iload_n 2, 1) := by decide +kernel
theorem dX8_setHolds_117 : decode cX8_setHolds 117 = .ok (.ishl, 1) := by decide +kernel
theorem dX8_setHolds_118 : decode cX8_setHolds 118 = .ok (.ior, 1) := by decide +kernel
theorem dX8_setHolds_119 : decode cX8_setHolds 119 = .ok (.goto 11, 3) := by decide +kernel
theorem dX8_setHolds_122 : decode cX8_setHolds 122 = .ok (.iload 4, 2) := by decide +kernel
theorem dX8_setHolds_124 : decode cX8_setHolds 124 = .ok (.iconst 1, 1) := by decide +kernel
theorem dX8_setHolds_125 : decode cX8_setHolds 125 = .ok (.iload_n 2, 1) := by decide +kernel
theorem dX8_setHolds_126 : decode cX8_setHolds 126 = .ok (.ishl, 1) := by decide +kernel
theorem dX8_setHolds_127 : decode cX8_setHolds 127 = .ok (.iconst (-1), 1) := by decide +kernel
theorem dX8_setHolds_128 : decode cX8_setHolds 128 = .ok (.ixor, 1) := by decide +kernel
theorem dX8_setHolds_129 : decode cX8_setHolds 129 = .ok (.iand, 1) := by decide +kernel
theorem dX8_setHolds_130 : decode cX8_setHolds 130 = .ok (.invokevirtual 107, 3) := by decide +kernel
theorem dX8_setHolds_133 : decode cX8_setHolds 133 = .ok (.iload 4, 2) := by decide +kernel
theorem dX8_setHolds_135 : decode cX8_setHolds 135 = .ok (.iload_n 2, 1) := by decide +kernel
theorem dX8_setHolds_136 : decode cX8_setHolds 136 = .ok (.invokestatic 110, 3) := by decide +kernel
theorem dX8_setHolds_139 : decode cX8_setHolds 139 = .ok (.ireturn, 1) := by decide +kernel
theorem dX8_setApart_0 : decode cX8_setApart 0 = .ok (.aload_n 0, 1) := by decide +kernel
theorem dX8_setApart_1 : decode cX8_setApart 1 = .ok (.iload_n 1, 1) := by decide +kernel
theorem dX8_setApart_2 : decode cX8_setApart 2 = .ok (.invokevirtual 92, 3) := by decide +kernel
theorem dX8_setApart_5 : decode cX8_setApart 5 = .ok (.ifCond .eq 15, 3) := by decide +kernel
theorem dX8_setApart_8 : decode cX8_setApart 8 = .ok (.aload_n 0, 1) := by decide +kernel
theorem dX8_setApart_9 : decode cX8_setApart 9 = .ok (.iload_n 2, 1) := by decide +kernel
theorem dX8_setApart_10 : decode cX8_setApart 10 = .ok (.invokevirtual 92, 3) := by decide +kernel
theorem dX8_setApart_13 : decode cX8_setApart 13 = .ok (.ifCond .eq 7, 3) := by decide +kernel
theorem dX8_setApart_16 : decode cX8_setApart 16 = .ok (.iconst 1, 1) := by decide +kernel
theorem dX8_setApart_17 : decode cX8_setApart 17 = .ok (.goto 4, 3) := by decide +kernel
theorem dX8_setApart_20 : decode cX8_setApart 20 = .ok (.iconst 0, 1) := by decide +kernel
theorem dX8_setApart_21 : decode cX8_setApart 21 = .ok (.invokestatic 76, 3) := by decide +kernel
theorem dX8_setApart_24 : decode cX8_setApart 24 = .ok (.iload_n 1, 1) := by decide +kernel
theorem dX8_setApart_25 : decode cX8_setApart 25 = .ok (.iload_n 2, 1) := by decide +kernel
theorem dX8_setApart_26 : decode cX8_setApart 26 = .ok (.if_icmp .eq 7, 3) := by decide +kernel
theorem dX8_setApart_29 : decode cX8_setApart 29 = .ok (.iconst 1, 1) := by decide +kernel
theorem dX8_setApart_30 : decode cX8_setApart 30 = .ok (.goto 4, 3) := by decide +kernel
theorem dX8_setApart_33 : decode cX8_setApart 33 = .ok (.iconst 0, 1) := by decide +kernel
theorem dX8_setApart_34 : decode cX8_setApart 34 = .ok (.invokestatic 41, 3) := by decide +kernel
theorem dX8_setApart_37 : decode cX8_setApart 37 = .ok (.aload_n 0, 1) := by decide +kernel
theorem dX8_setApart_38 : decode cX8_setApart 38 = .ok (.getfield 10, 3) := by decide +kernel
theorem dX8_setApart_41 : decode cX8_setApart 41 = .ok (.getfield 62, 3) := by decide +kernel
theorem dX8_setApart_44 : decode cX8_setApart 44 = .ok (.getfield 119, 3) := by decide +kernel
theorem dX8_setApart_47 : decode cX8_setApart 47 = .ok (.iload_n 1, 1) := by decide +kernel
theorem dX8_setApart_48 : decode cX8_setApart 48 = .ok (.invokevirtual 98, 3) := by decide +kernel
theorem dX8_setApart_51 : decode cX8_setApart 51 = .ok (.iload_n 2, 1) := by decide +kernel
theorem dX8_setApart_52 : decode cX8_setApart 52 = .ok (.invokestatic 110, 3) := by decide +kernel
theorem dX8_setApart_55 : decode cX8_setApart 55 = .ok (.ifCond .ne 31, 3) := by decide +kernel
theorem dX8_setApart_58 : decode cX8_setApart 58 = .ok (.aload_n 0, 1) := by decide +kernel
theorem dX8_setApart_59 : decode cX8_setApart 59 = .ok (.getfield 10, 3) := by decide +kernel
theorem dX8_setApart_62 : decode cX8_setApart 62 = .ok (.getfield 62, 3) := by decide +kernel
theorem dX8_setApart_65 : decode cX8_setApart 65 = .ok (.getfield 122, 3) := by decide +kernel
theorem dX8_setApart_68 : decode cX8_setApart 68 = .ok (.bipush 10, 2) := by decide +kernel
theorem dX8_setApart_70 : decode cX8_setApart 70 = .ok (.if_icmp .ge 16, 3) := by decide +kernel
theorem dX8_setApart_73 : decode cX8_setApart 73 = .ok (.aload_n 0, 1) := by decide +kernel
theorem dX8_setApart_74 : decode cX8_setApart 74 = .ok (.iload_n 1, 1) := by decide +kernel
theorem dX8_setApart_75 : decode cX8_setApart 75 = .ok (.iload_n 2, 1) := by decide +kernel
theorem dX8_setApart_76 : decode cX8_setApart 76 = .ok (.invokevirtual 125, 3) := by decide +kernel
theorem dX8_setApart_79 : decode cX8_setApart 79 = .ok (.ifCond .ne 7, 3) := by decide +kernel
theorem dX8_setApart_82 : decode cX8_setApart 82 = .ok (.iconst 1, 1) := by decide +kernel
theorem dX8_setApart_83 : decode cX8_setApart 83 = .ok (.goto 4, 3) := by decide +kernel
theorem dX8_setApart_86 : decode cX8_setApart 86 = .ok (.iconst 0, 1) := by decide +kernel
theorem dX8_setApart_87 : decode cX8_setApart 87 = .ok (.invokestatic 55, 3) := by decide +kernel
theorem dX8_setApart_90 : decode cX8_setApart 90 = .ok (.aload_n 0, 1) := by decide +kernel
theorem dX8_setApart_91 : decode cX8_setApart 91 = .ok (.getfield 10, 3) := by decide +kernel
theorem dX8_setApart_94 : decode cX8_setApart 94 = .ok (.getfield 62, 3) := by decide +kernel
theorem dX8_setApart_97 : decode cX8_setApart 97 = .ok (.iload_n 1, 1) := by decide +kernel
theorem dX8_setApart_98 : decode cX8_setApart 98 = .ok (.iload_n 2, 1) := by decide +kernel
theorem dX8_setApart_99 : decode cX8_setApart 99 = .ok (.invokevirtual 128, 3) := by decide +kernel
theorem dX8_setApart_102 : decode cX8_setApart 102 = .ok (.ireturn, 1) := by decide +kernel
theorem dX8_setLabel_0 : decode cX8_setLabel 0 = .ok (.aload_n 0, 1) := by decide +kernel
theorem dX8_setLabel_1 : decode cX8_setLabel 1 = .ok (.iload_n 1, 1) := by decide +kernel
theorem dX8_setLabel_2 : decode cX8_setLabel 2 = .ok (.invokevirtual 72, 3) := by decide +kernel
theorem dX8_setLabel_5 : decode cX8_setLabel 5 = .ok (.invokestatic 76, 3) := by decide +kernel
theorem dX8_setLabel_8 : decode cX8_setLabel 8 = .ok (.iload_n 2, 1) := by decide +kernel
theorem dX8_setLabel_9 : decode cX8_setLabel 9 = .ok (.iconst 3, 1) := by decide +kernel
theorem dX8_setLabel_10 : decode cX8_setLabel 10 = .ok (.invokestatic 37, 3) := by decide +kernel
theorem dX8_setLabel_13 : decode cX8_setLabel 13 = .ok (.invokestatic 41, 3) := by decide +kernel
theorem dX8_setLabel_16 : decode cX8_setLabel 16 = .ok (.aload_n 0, 1) := by decide +kernel
theorem dX8_setLabel_17 : decode cX8_setLabel 17 = .ok (.getfield 10, 3) := by decide +kernel
theorem dX8_setLabel_20 : decode cX8_setLabel 20 = .ok (.getfield 79, 3) := by decide +kernel
theorem dX8_setLabel_23 : decode cX8_setLabel 23 = .ok (.getfield 137, 3) := by decide +kernel
theorem dX8_setLabel_26 : decode cX8_setLabel 26 = .ok (.iload_n 1, 1) := by decide +kernel
theorem dX8_setLabel_27 : decode cX8_setLabel 27 = .ok (.invokevirtual 98, 3) := by decide +kernel
theorem dX8_setLabel_30 : decode cX8_setLabel 30 = .ok (.istore_n 3, 1) := by decide +kernel
theorem dX8_setLabel_31 : decode cX8_setLabel 31 = .ok (.aload_n 0, 1) := by decide +kernel
theorem dX8_setLabel_32 : decode cX8_setLabel 32 = .ok (.getfield 10, 3) := by decide +kernel
theorem dX8_setLabel_35 : decode cX8_setLabel 35 = .ok (.getfield 79, 3) := by decide +kernel
theorem dX8_setLabel_38 : decode cX8_setLabel 38 = .ok (.getfield 137, 3) := by decide +kernel
theorem dX8_setLabel_41 : decode cX8_setLabel 41 = .ok (.iload_n 1, 1) := by decide +kernel
theorem dX8_setLabel_42 : decode cX8_setLabel 42 = .ok (.iload_n 2, 1) := by decide +kernel
theorem dX8_setLabel_43 : decode cX8_setLabel 43 = .ok (.invokevirtual 107, 3) := by decide +kernel
theorem dX8_setLabel_46 : decode cX8_setLabel 46 = .ok (.iload_n 3, 1) := by decide +kernel
theorem dX8_setLabel_47 : decode cX8_setLabel 47 = .ok (.ireturn, 1) := by decide +kernel
theorem dX8_setWall_0 : decode cX8_setWall 0 = .ok (.aload_n 0, 1) := by decide +kernel
theorem dX8_setWall_1 : decode cX8_setWall 1 = .ok (.iload_n 1, 1) := by decide +kernel
theorem dX8_setWall_2 : decode cX8_setWall 2 = .ok (.invokevirtual 72, 3) := by decide +kernel
theorem dX8_setWall_5 : decode cX8_setWall 5 = .ok (.invokestatic 76, 3) := by decide +kernel
theorem dX8_setWall_8 : decode cX8_setWall 8 = .ok (.iload_n 2, 1) := by decide +kernel
theorem dX8_setWall_9 : decode cX8_setWall 9 = .ok (.iconst (-1), 1) := by decide +kernel
theorem dX8_setWall_10 : decode cX8_setWall 10 = .ok (.if_icmp .eq 19, 3) := by decide +kernel
theorem dX8_setWall_13 : decode cX8_setWall 13 = .ok (.iload_n 2, 1) := by decide +kernel
theorem dX8_setWall_14 : decode cX8_setWall 14 = .ok (.iconst 3, 1) := by decide +kernel
theorem dX8_setWall_15 : decode cX8_setWall 15 = .ok (.invokestatic 37, 3) := by decide +kernel
theorem dX8_setWall_18 : decode cX8_setWall 18 = .ok (.ifCond .eq 15, 3) := by decide +kernel
theorem dX8_setWall_21 : decode cX8_setWall 21 = .ok (.iload_n 3, 1) := by decide +kernel
theorem dX8_setWall_22 : decode cX8_setWall 22 = .ok (.iconst 3, 1) := by decide +kernel
theorem dX8_setWall_23 : decode cX8_setWall 23 = .ok (.invokestatic 37, 3) := by decide +kernel
theorem dX8_setWall_26 : decode cX8_setWall 26 = .ok (.ifCond .eq 7, 3) := by decide +kernel
theorem dX8_setWall_29 : decode cX8_setWall 29 = .ok (.iconst 1, 1) := by decide +kernel
theorem dX8_setWall_30 : decode cX8_setWall 30 = .ok (.goto 4, 3) := by decide +kernel
theorem dX8_setWall_33 : decode cX8_setWall 33 = .ok (.iconst 0, 1) := by decide +kernel
theorem dX8_setWall_34 : decode cX8_setWall 34 = .ok (.invokestatic 41, 3) := by decide +kernel
theorem dX8_setWall_37 : decode cX8_setWall 37 = .ok (.aload_n 0, 1) := by decide +kernel
theorem dX8_setWall_38 : decode cX8_setWall 38 = .ok (.getfield 10, 3) := by decide +kernel
theorem dX8_setWall_41 : decode cX8_setWall 41 = .ok (.getfield 79, 3) := by decide +kernel
theorem dX8_setWall_44 : decode cX8_setWall 44 = .ok (.getfield 140, 3) := by decide +kernel
theorem dX8_setWall_47 : decode cX8_setWall 47 = .ok (.iload_n 1, 1) := by decide +kernel
theorem dX8_setWall_48 : decode cX8_setWall 48 = .ok (.invokevirtual 98, 3) := by decide +kernel
theorem dX8_setWall_51 : decode cX8_setWall 51 = .ok (.iconst (-1), 1) := by decide +kernel
theorem dX8_setWall_52 : decode cX8_setWall 52 = .ok (.if_icmp .eq 7, 3) := by decide +kernel
theorem dX8_setWall_55 : decode cX8_setWall 55 = .ok (.iconst 1, 1) := by decide +kernel
theorem dX8_setWall_56 : decode cX8_setWall 56 = .ok (.goto 4, 3) := by decide +kernel
theorem dX8_setWall_59 : decode cX8_setWall 59 = .ok (.iconst 0, 1) := by decide +kernel
theorem dX8_setWall_60 : decode cX8_setWall 60 = .ok (.istore 4, 2) := by decide +kernel
theorem dX8_setWall_62 : decode cX8_setWall 62 = .ok (.aload_n 0, 1) := by decide +kernel
theorem dX8_setWall_63 : decode cX8_setWall 63 = .ok (.getfield 10, 3) := by decide +kernel
theorem dX8_setWall_66 : decode cX8_setWall 66 = .ok (.getfield 79, 3) := by decide +kernel
theorem dX8_setWall_69 : decode cX8_setWall 69 = .ok (.getfield 140, 3) := by decide +kernel
theorem dX8_setWall_72 : decode cX8_setWall 72 = .ok (.iload_n 1, 1) := by decide +kernel
theorem dX8_setWall_73 : decode cX8_setWall 73 = .ok (.iload_n 2, 1) := by decide +kernel
theorem dX8_setWall_74 : decode cX8_setWall 74 = .ok (.invokevirtual 107, 3) := by decide +kernel
theorem dX8_setWall_77 : decode cX8_setWall 77 = .ok (.aload_n 0, 1) := by decide +kernel
theorem dX8_setWall_78 : decode cX8_setWall 78 = .ok (.getfield 10, 3) := by decide +kernel
theorem dX8_setWall_81 : decode cX8_setWall 81 = .ok (.getfield 79, 3) := by decide +kernel
theorem dX8_setWall_84 : decode cX8_setWall 84 = .ok (.getfield 143, 3) := by decide +kernel
theorem dX8_setWall_87 : decode cX8_setWall 87 = .ok (.iload_n 1, 1) := by decide +kernel
theorem dX8_setWall_88 : decode cX8_setWall 88 = .ok (.iload_n 3, 1) := by decide +kernel
theorem dX8_setWall_89 : decode cX8_setWall 89 = .ok (.invokevirtual 107, 3) := by decide +kernel
theorem dX8_setWall_92 : decode cX8_setWall 92 = .ok (.iload 4, 2) := by decide +kernel
theorem dX8_setWall_94 : decode cX8_setWall 94 = .ok (.ireturn, 1) := by decide +kernel
theorem dX8_users_0 : decode cX8_users 0 = .ok (.aload_n 0, 1) := by decide +kernel
theorem dX8_users_1 : decode cX8_users 1 = .ok (.getfield 10, 3) := by decide +kernel
theorem dX8_users_4 : decode cX8_users 4 = .ok (.getfield 45, 3) := by decide +kernel
theorem dX8_users_7 : decode cX8_users 7 = .ok (.getfield 49, 3) := by decide +kernel
theorem dX8_users_10 : decode cX8_users 10 = .ok (.ireturn, 1) := by decide +kernel
theorem dX8_roles_0 : decode cX8_roles 0 = .ok (.aload_n 0, 1) := by decide +kernel
theorem dX8_roles_1 : decode cX8_roles 1 = .ok (.getfield 10, 3) := by decide +kernel
theorem dX8_roles_4 : decode cX8_roles 4 = .ok (.getfield 62, 3) := by decide +kernel
theorem dX8_roles_7 : decode cX8_roles 7 = .ok (.getfield 66, 3) := by decide +kernel
theorem dX8_roles_10 : decode cX8_roles 10 = .ok (.ireturn, 1) := by decide +kernel
theorem dX8_resources_0 : decode cX8_resources 0 = .ok (.aload_n 0, 1) := by decide +kernel
theorem dX8_resources_1 : decode cX8_resources 1 = .ok (.getfield 10, 3) := by decide +kernel
theorem dX8_resources_4 : decode cX8_resources 4 = .ok (.getfield 79, 3) := by decide +kernel
theorem dX8_resources_7 : decode cX8_resources 7 = .ok (.getfield 83, 3) := by decide +kernel
theorem dX8_resources_10 : decode cX8_resources 10 = .ok (.ireturn, 1) := by decide +kernel
theorem dX8_near_0 : decode cX8_near 0 = .ok (.aload_n 0, 1) := by decide +kernel
theorem dX8_near_1 : decode cX8_near 1 = .ok (.iload_n 1, 1) := by decide +kernel
theorem dX8_near_2 : decode cX8_near 2 = .ok (.invokevirtual 89, 3) := by decide +kernel
theorem dX8_near_5 : decode cX8_near 5 = .ok (.ifCond .eq 15, 3) := by decide +kernel
theorem dX8_near_8 : decode cX8_near 8 = .ok (.aload_n 0, 1) := by decide +kernel
theorem dX8_near_9 : decode cX8_near 9 = .ok (.iload_n 2, 1) := by decide +kernel
theorem dX8_near_10 : decode cX8_near 10 = .ok (.invokevirtual 92, 3) := by decide +kernel
theorem dX8_near_13 : decode cX8_near 13 = .ok (.ifCond .eq 7, 3) := by decide +kernel
theorem dX8_near_16 : decode cX8_near 16 = .ok (.iconst 1, 1) := by decide +kernel
theorem dX8_near_17 : decode cX8_near 17 = .ok (.goto 4, 3) := by decide +kernel
theorem dX8_near_20 : decode cX8_near 20 = .ok (.iconst 0, 1) := by decide +kernel
theorem dX8_near_21 : decode cX8_near 21 = .ok (.invokestatic 76, 3) := by decide +kernel
theorem dX8_near_24 : decode cX8_near 24 = .ok (.aload_n 0, 1) := by decide +kernel
theorem dX8_near_25 : decode cX8_near 25 = .ok (.getfield 10, 3) := by decide +kernel
theorem dX8_near_28 : decode cX8_near 28 = .ok (.getfield 62, 3) := by decide +kernel
theorem dX8_near_31 : decode cX8_near 31 = .ok (.aload_n 0, 1) := by decide +kernel
theorem dX8_near_32 : decode cX8_near 32 = .ok (.getfield 10, 3) := by decide +kernel
theorem dX8_near_35 : decode cX8_near 35 = .ok (.getfield 45, 3) := by decide +kernel
theorem dX8_near_38 : decode cX8_near 38 = .ok (.getfield 95, 3) := by decide +kernel
theorem dX8_near_41 : decode cX8_near 41 = .ok (.iload_n 1, 1) := by decide +kernel
theorem dX8_near_42 : decode cX8_near 42 = .ok (.invokevirtual 98, 3) := by decide +kernel
theorem dX8_near_45 : decode cX8_near 45 = .ok (.iload_n 2, 1) := by decide +kernel
theorem dX8_near_46 : decode cX8_near 46 = .ok (.invokevirtual 146, 3) := by decide +kernel
theorem dX8_near_49 : decode cX8_near 49 = .ok (.ireturn, 1) := by decide +kernel
theorem dX8_far_0 : decode cX8_far 0 = .ok (.aload_n 0, 1) := by decide +kernel
theorem dX8_far_1 : decode cX8_far 1 = .ok (.iload_n 1, 1) := by decide +kernel
theorem dX8_far_2 : decode cX8_far 2 = .ok (.invokevirtual 72, 3) := by decide +kernel
theorem dX8_far_5 : decode cX8_far 5 = .ok (.ifCond .eq 15, 3) := by decide +kernel
theorem dX8_far_8 : decode cX8_far 8 = .ok (.aload_n 0, 1) := by decide +kernel
theorem dX8_far_9 : decode cX8_far 9 = .ok (.iload_n 2, 1) := by decide +kernel
theorem dX8_far_10 : decode cX8_far 10 = .ok (.invokevirtual 72, 3) := by decide +kernel
theorem dX8_far_13 : decode cX8_far 13 = .ok (.ifCond .eq 7, 3) := by decide +kernel
theorem dX8_far_16 : decode cX8_far 16 = .ok (.iconst 1, 1) := by decide +kernel
theorem dX8_far_17 : decode cX8_far 17 = .ok (.goto 4, 3) := by decide +kernel
theorem dX8_far_20 : decode cX8_far 20 = .ok (.iconst 0, 1) := by decide +kernel
theorem dX8_far_21 : decode cX8_far 21 = .ok (.invokestatic 76, 3) := by decide +kernel
theorem dX8_far_24 : decode cX8_far 24 = .ok (.aload_n 0, 1) := by decide +kernel
theorem dX8_far_25 : decode cX8_far 25 = .ok (.getfield 10, 3) := by decide +kernel
theorem dX8_far_28 : decode cX8_far 28 = .ok (.getfield 79, 3) := by decide +kernel
theorem dX8_far_31 : decode cX8_far 31 = .ok (.iload_n 1, 1) := by decide +kernel
theorem dX8_far_32 : decode cX8_far 32 = .ok (.iload_n 2, 1) := by decide +kernel
theorem dX8_far_33 : decode cX8_far 33 = .ok (.invokevirtual 149, 3) := by decide +kernel
theorem dX8_far_36 : decode cX8_far 36 = .ok (.ireturn, 1) := by decide +kernel
theorem dX8_addRule_0 : decode cX8_addRule 0 = .ok (.iload_n 2, 1) := by decide +kernel
theorem dX8_addRule_1 : decode cX8_addRule 1 = .ok (.bipush 12, 2) := by decide +kernel
theorem dX8_addRule_3 : decode cX8_addRule 3 = .ok (.if_icmp .ge 14, 3) := by decide +kernel
theorem dX8_addRule_6 : decode cX8_addRule 6 = .ok (.aload_n 0, 1) := by decide +kernel
theorem dX8_addRule_7 : decode cX8_addRule 7 = .ok (.iload_n 2, 1) := by decide +kernel
theorem dX8_addRule_8 : decode cX8_addRule 8 = .ok (.invokevirtual 89, 3) := by decide +kernel
theorem dX8_addRule_11 : decode cX8_addRule 11 = .ok (.ifCond .eq 30, 3) := by decide +kernel
theorem dX8_addRule_14 : decode cX8_addRule 14 = .ok (.goto 14, 3) := by decide +kernel
theorem dX8_addRule_17 : decode cX8_addRule 17 = .ok (.aload_n 0, 1) := by decide +kernel
theorem dX8_addRule_18 : decode cX8_addRule 18 = .ok (.iload_n 2, 1) := by decide +kernel
theorem dX8_addRule_19 : decode cX8_addRule 19 = .ok (.bipush 12, 2) := by decide +kernel
theorem dX8_addRule_21 : decode cX8_addRule 21 = .ok (.isub, 1) := by decide +kernel
theorem dX8_addRule_22 : decode cX8_addRule 22 = .ok (.invokevirtual 92, 3) := by decide +kernel
theorem dX8_addRule_25 : decode cX8_addRule 25 = .ok (.ifCond .eq 16, 3) := by decide +kernel
theorem dX8_addRule_28 : decode cX8_addRule 28 = .ok (.aload_n 0, 1) := by decide +kernel
theorem dX8_addRule_29 : decode cX8_addRule 29 = .ok (.iload 4, 2) := by decide +kernel
theorem dX8_addRule_31 : decode cX8_addRule 31 = .ok (.invokevirtual 72, 3) := by decide +kernel
theorem dX8_addRule_34 : decode cX8_addRule 34 = .ok (.ifCond .eq 7, 3) := by decide +kernel
theorem dX8_addRule_37 : decode cX8_addRule 37 = .ok (.iconst 1, 1) := by decide +kernel
theorem dX8_addRule_38 : decode cX8_addRule 38 = .ok (.goto 4, 3) := by decide +kernel
theorem dX8_addRule_41 : decode cX8_addRule 41 = .ok (.iconst 0, 1) := by decide +kernel
theorem dX8_addRule_42 : decode cX8_addRule 42 = .ok (.invokestatic 76, 3) := by decide +kernel
theorem dX8_addRule_45 : decode cX8_addRule 45 = .ok (.iload_n 3, 1) := by decide +kernel
theorem dX8_addRule_46 : decode cX8_addRule 46 = .ok (.iconst 1, 1) := by decide +kernel
theorem dX8_addRule_47 : decode cX8_addRule 47 = .ok (.if_icmp .lt 13, 3) := by decide +kernel
theorem dX8_addRule_50 : decode cX8_addRule 50 = .ok (.iload_n 3, 1) := by decide +kernel
theorem dX8_addRule_51 : decode cX8_addRule 51 = .ok (.bipush 31, 2) := by decide +kernel
theorem dX8_addRule_53 : decode cX8_addRule 53 = .ok (.if_icmp .gt 7, 3) := by decide +kernel
theorem dX8_addRule_56 : decode cX8_addRule 56 = .ok (.iconst 1, 1) := by decide +kernel
theorem dX8_addRule_57 : decode cX8_addRule 57 = .ok (.goto 4, 3) := by decide +kernel
theorem dX8_addRule_60 : decode cX8_addRule 60 = .ok (.iconst 0, 1) := by decide +kernel
theorem dX8_addRule_61 : decode cX8_addRule 61 = .ok (.invokestatic 41, 3) := by decide +kernel
theorem dX8_addRule_64 : decode cX8_addRule 64 = .ok (.aload_n 0, 1) := by decide +kernel
theorem dX8_addRule_65 : decode cX8_addRule 65 = .ok (.getfield 10, 3) := by decide +kernel
theorem dX8_addRule_68 : decode cX8_addRule 68 = .ok (.getfield 152, 3) := by decide +kernel
theorem dX8_addRule_71 : decode cX8_addRule 71 = .ok (.getfield 156, 3) := by decide +kernel
theorem dX8_addRule_74 : decode cX8_addRule 74 = .ok (.bipush 30, 2) := by decide +kernel
theorem dX8_addRule_76 : decode cX8_addRule 76 = .ok (.if_icmp .ge 7, 3) := by decide +kernel
theorem dX8_addRule_79 : decode cX8_addRule 79 = .ok (.iconst 1, 1) := by decide +kernel
theorem dX8_addRule_80 : decode cX8_addRule 80 = .ok (.goto 4, 3) := by decide +kernel
theorem dX8_addRule_83 : decode cX8_addRule 83 = .ok (.iconst 0, 1) := by decide +kernel
theorem dX8_addRule_84 : decode cX8_addRule 84 = .ok (.invokestatic 55, 3) := by decide +kernel
theorem dX8_addRule_87 : decode cX8_addRule 87 = .ok (.aload_n 0, 1) := by decide +kernel
theorem dX8_addRule_88 : decode cX8_addRule 88 = .ok (.getfield 10, 3) := by decide +kernel
theorem dX8_addRule_91 : decode cX8_addRule 91 = .ok (.getfield 152, 3) := by decide +kernel
theorem dX8_addRule_94 : decode cX8_addRule 94 = .ok (.iload_n 1, 1) := by decide +kernel
theorem dX8_addRule_95 : decode cX8_addRule 95 = .ok (.iload_n 2, 1) := by decide +kernel
theorem dX8_addRule_96 : decode cX8_addRule 96 = .ok (.iload_n 3, 1) := by decide +kernel
theorem dX8_addRule_97 : decode cX8_addRule 97 = .ok (.iload 4, 2) := by decide +kernel
theorem dX8_addRule_99 : decode cX8_addRule 99 = .ok (.invokevirtual 159, 3) := by decide +kernel
theorem dX8_addRule_102 : decode cX8_addRule 102 = .ok (.ireturn, 1) := by decide +kernel
theorem dX8_setRule_0 : decode cX8_setRule 0 = .ok (.aload_n 0, 1) := by decide +kernel
theorem dX8_setRule_1 : decode cX8_setRule 1 = .ok (.iload_n 1, 1) := by decide +kernel
theorem dX8_setRule_2 : decode cX8_setRule 2 = .ok (.invokevirtual 162, 3) := by decide +kernel
theorem dX8_setRule_5 : decode cX8_setRule 5 = .ok (.invokestatic 76, 3) := by decide +kernel
theorem dX8_setRule_8 : decode cX8_setRule 8 = .ok (.iload_n 3, 1) := by decide +kernel
theorem dX8_setRule_9 : decode cX8_setRule 9 = .ok (.bipush 9, 2) := by decide +kernel
theorem dX8_setRule_11 : decode cX8_setRule 11 = .ok (.invokestatic 37, 3) := by decide +kernel
theorem dX8_setRule_14 : decode cX8_setRule 14 = .ok (.invokestatic 41, 3) := by decide +kernel
theorem dX8_setRule_17 : decode cX8_setRule 17 = .ok (.aload_n 0, 1) := by decide +kernel
theorem dX8_setRule_18 : decode cX8_setRule 18 = .ok (.getfield 10, 3) := by decide +kernel
theorem dX8_setRule_21 : decode cX8_setRule 21 = .ok (.getfield 152, 3) := by decide +kernel
theorem dX8_setRule_24 : decode cX8_setRule 24 = .ok (.getfield 165, 3) := by decide +kernel
theorem dX8_setRule_27 : decode cX8_setRule 27 = .ok (.iload_n 1, 1) := by decide +kernel
theorem dX8_setRule_28 : decode cX8_setRule 28 = .ok (.invokevirtual 98, 3) := by decide +kernel
theorem dX8_setRule_31 : decode cX8_setRule 31 = .ok (.istore 4, 2) := by decide +kernel
theorem dX8_setRule_33 : decode cX8_setRule 33 = .ok (.aload_n 0, 1) := by decide +kernel
theorem dX8_setRule_34 : decode cX8_setRule 34 = .ok (.getfield 10, 3) := by decide +kernel
theorem dX8_setRule_37 : decode cX8_setRule 37 = .ok (.getfield 152, 3) := by decide +kernel
theorem dX8_setRule_40 : decode cX8_setRule 40 = .ok (.getfield 168, 3) := by decide +kernel
theorem dX8_setRule_43 : decode cX8_setRule 43 = .ok (.iload_n 1, 1) := by decide +kernel
theorem dX8_setRule_44 : decode cX8_setRule 44 = .ok (.iload_n 2, 1) := by decide +kernel
theorem dX8_setRule_45 : decode cX8_setRule 45 = .ok (.ifCond .eq 7, 3) := by decide +kernel
theorem dX8_setRule_48 : decode cX8_setRule 48 = .ok (.iconst 1, 1) := by decide +kernel
theorem dX8_setRule_49 : decode cX8_setRule 49 = .ok (.goto 4, 3) := by decide +kernel
theorem dX8_setRule_52 : decode cX8_setRule 52 = .ok (.iconst 0, 1) := by decide +kernel
theorem dX8_setRule_53 : decode cX8_setRule 53 = .ok (.invokevirtual 107, 3) := by decide +kernel
theorem dX8_setRule_56 : decode cX8_setRule 56 = .ok (.aload_n 0, 1) := by decide +kernel
theorem dX8_setRule_57 : decode cX8_setRule 57 = .ok (.getfield 10, 3) := by decide +kernel
theorem dX8_setRule_60 : decode cX8_setRule 60 = .ok (.getfield 152, 3) := by decide +kernel
theorem dX8_setRule_63 : decode cX8_setRule 63 = .ok (.getfield 165, 3) := by decide +kernel
theorem dX8_setRule_66 : decode cX8_setRule 66 = .ok (.iload_n 1, 1) := by decide +kernel
theorem dX8_setRule_67 : decode cX8_setRule 67 = .ok (.iload_n 3, 1) := by decide +kernel
theorem dX8_setRule_68 : decode cX8_setRule 68 = .ok (.invokevirtual 107, 3) := by decide +kernel
theorem dX8_setRule_71 : decode cX8_setRule 71 = .ok (.iload 4, 2) := by decide +kernel
theorem dX8_setRule_73 : decode cX8_setRule 73 = .ok (.ireturn, 1) := by decide +kernel
theorem dX8_setTerms_0 : decode cX8_setTerms 0 = .ok (.aload_n 0, 1) := by decide +kernel
theorem dX8_setTerms_1 : decode cX8_setTerms 1 = .ok (.iload_n 1, 1) := by decide +kernel
theorem dX8_setTerms_2 : decode cX8_setTerms 2 = .ok (.invokevirtual 162, 3) := by decide +kernel
theorem dX8_setTerms_5 : decode cX8_setTerms 5 = .ok (.invokestatic 76, 3) := by decide +kernel
theorem dX8_setTerms_8 : decode cX8_setTerms 8 = .ok (.iload_n 2, 1) := by decide +kernel
theorem dX8_setTerms_9 : decode cX8_setTerms 9 = .ok (.sipush 255, 3) := by decide +kernel
theorem dX8_setTerms_12 : decode cX8_setTerms 12 = .ok (.invokestatic 37, 3) := by decide +kernel
theorem dX8_setTerms_15 : decode cX8_setTerms 15 = .ok (.ifCond .eq 26, 3) := by decide +kernel
theorem dX8_setTerms_18 : decode cX8_setTerms 18 = .ok (.iload_n 3, 1) := by decide +kernel
theorem dX8_setTerms_19 : decode cX8_setTerms 19 = .ok (.bipush 23, 2) := by decide +kernel
theorem dX8_setTerms_21 : decode cX8_setTerms 21 = .ok (.invokestatic 37, 3) := by decide +kernel
theorem dX8_setTerms_24 : decode cX8_setTerms 24 = .ok (.ifCond .eq 17, 3) := by decide +kernel
theorem dX8_setTerms_27 : decode cX8_setTerms 27 = .ok (.iload 4, 2) := by decide +kernel
theorem dX8_setTerms_29 : decode cX8_setTerms 29 = .ok (.bipush 23, 2) := by decide +kernel
theorem dX8_setTerms_31 : decode cX8_setTerms 31 = .ok (.invokestatic 37, 3) := by decide +kernel
theorem dX8_setTerms_34 : decode cX8_setTerms 34 = .ok (.ifCond .eq 7, 3) := by decide +kernel
theorem dX8_setTerms_37 : decode cX8_setTerms 37 = .ok (.iconst 1, 1) := by decide +kernel
theorem dX8_setTerms_38 : decode cX8_setTerms 38 = .ok (.goto 4, 3) := by decide +kernel
theorem dX8_setTerms_41 : decode cX8_setTerms 41 = .ok (.iconst 0, 1) := by decide +kernel
theorem dX8_setTerms_42 : decode cX8_setTerms 42 = .ok (.invokestatic 41, 3) := by decide +kernel
theorem dX8_setTerms_45 : decode cX8_setTerms 45 = .ok (.aload_n 0, 1) := by decide +kernel
theorem dX8_setTerms_46 : decode cX8_setTerms 46 = .ok (.getfield 10, 3) := by decide +kernel
theorem dX8_setTerms_49 : decode cX8_setTerms 49 = .ok (.getfield 152, 3) := by decide +kernel
theorem dX8_setTerms_52 : decode cX8_setTerms 52 = .ok (.getfield 171, 3) := by decide +kernel
theorem dX8_setTerms_55 : decode cX8_setTerms 55 = .ok (.iload_n 1, 1) := by decide +kernel
theorem dX8_setTerms_56 : decode cX8_setTerms 56 = .ok (.invokevirtual 98, 3) := by decide +kernel
theorem dX8_setTerms_59 : decode cX8_setTerms 59 = .ok (.istore 5, 2) := by decide +kernel
theorem dX8_setTerms_61 : decode cX8_setTerms 61 = .ok (.aload_n 0, 1) := by decide +kernel
theorem dX8_setTerms_62 : decode cX8_setTerms 62 = .ok (.getfield 10, 3) := by decide +kernel
theorem dX8_setTerms_65 : decode cX8_setTerms 65 = .ok (.getfield 152, 3) := by decide +kernel
theorem dX8_setTerms_68 : decode cX8_setTerms 68 = .ok (.getfield 171, 3) := by decide +kernel
theorem dX8_setTerms_71 : decode cX8_setTerms 71 = .ok (.iload_n 1, 1) := by decide +kernel
theorem dX8_setTerms_72 : decode cX8_setTerms 72 = .ok (.iload_n 2, 1) := by decide +kernel
theorem dX8_setTerms_73 : decode cX8_setTerms 73 = .ok (.invokevirtual 107, 3) := by decide +kernel
theorem dX8_setTerms_76 : decode cX8_setTerms 76 = .ok (.aload_n 0, 1) := by decide +kernel
theorem dX8_setTerms_77 : decode cX8_setTerms 77 = .ok (.getfield 10, 3) := by decide +kernel
theorem dX8_setTerms_80 : decode cX8_setTerms 80 = .ok (.getfield 152, 3) := by decide +kernel
theorem dX8_setTerms_83 : decode cX8_setTerms 83 = .ok (.getfield 172, 3) := by decide +kernel
theorem dX8_setTerms_86 : decode cX8_setTerms 86 = .ok (.iload_n 1, 1) := by decide +kernel
theorem dX8_setTerms_87 : decode cX8_setTerms 87 = .ok (.iload_n 3, 1) := by decide +kernel
theorem dX8_setTerms_88 : decode cX8_setTerms 88 = .ok (.invokevirtual 107, 3) := by decide +kernel
theorem dX8_setTerms_91 : decode cX8_setTerms 91 = .ok (.aload_n 0, 1) := by decide +kernel
theorem dX8_setTerms_92 : decode cX8_setTerms 92 = .ok (.getfield 10, 3) := by decide +kernel
theorem dX8_setTerms_95 : decode cX8_setTerms 95 = .ok (.getfield 152, 3) := by decide +kernel
theorem dX8_setTerms_98 : decode cX8_setTerms 98 = .ok (.getfield 175, 3) := by decide +kernel
theorem dX8_setTerms_101 : decode cX8_setTerms 101 = .ok (.iload_n 1, 1) := by decide +kernel
theorem dX8_setTerms_102 : decode cX8_setTerms 102 = .ok (.iload 4, 2) := by decide +kernel
theorem dX8_setTerms_104 : decode cX8_setTerms 104 = .ok (.invokevirtual 107, 3) := by decide +kernel
theorem dX8_setTerms_107 : decode cX8_setTerms 107 = .ok (.iload 5, 2) := by decide +kernel
theorem dX8_setTerms_109 : decode cX8_setTerms 109 = .ok (.ireturn, 1) := by decide +kernel
theorem dX8_dropRule_0 : decode cX8_dropRule 0 = .ok (.aload_n 0, 1) := by decide +kernel
theorem dX8_dropRule_1 : decode cX8_dropRule 1 = .ok (.iload_n 1, 1) := by decide +kernel
theorem dX8_dropRule_2 : decode cX8_dropRule 2 = .ok (.invokevirtual 162, 3) := by decide +kernel
theorem dX8_dropRule_5 : decode cX8_dropRule 5 = .ok (.invokestatic 76, 3) := by decide +kernel
theorem dX8_dropRule_8 : decode cX8_dropRule 8 = .ok (.aload_n 0, 1) := by decide +kernel
theorem dX8_dropRule_9 : decode cX8_dropRule 9 = .ok (.getfield 10, 3) := by decide +kernel
theorem dX8_dropRule_12 : decode cX8_dropRule 12 = .ok (.getfield 152, 3) := by decide +kernel
theorem dX8_dropRule_15 : decode cX8_dropRule 15 = .ok (.iload_n 1, 1) := by decide +kernel
theorem dX8_dropRule_16 : decode cX8_dropRule 16 = .ok (.invokevirtual 178, 3) := by decide +kernel
theorem dX8_dropRule_19 : decode cX8_dropRule 19 = .ok (.ireturn, 1) := by decide +kernel
theorem dX8_setWeighing_0 : decode cX8_setWeighing 0 = .ok (.iload_n 1, 1) := by decide +kernel
theorem dX8_setWeighing_1 : decode cX8_setWeighing 1 = .ok (.iconst 3, 1) := by decide +kernel
theorem dX8_setWeighing_2 : decode cX8_setWeighing 2 = .ok (.invokestatic 37, 3) := by decide +kernel
theorem dX8_setWeighing_5 : decode cX8_setWeighing 5 = .ok (.invokestatic 41, 3) := by decide +kernel
theorem dX8_setWeighing_8 : decode cX8_setWeighing 8 = .ok (.aload_n 0, 1) := by decide +kernel
theorem dX8_setWeighing_9 : decode cX8_setWeighing 9 = .ok (.getfield 10, 3) := by decide +kernel
theorem dX8_setWeighing_12 : decode cX8_setWeighing 12 = .ok (.getfield 181, 3) := by decide +kernel
theorem dX8_setWeighing_15 : decode cX8_setWeighing 15 = .ok (.istore_n 2, 1) := by decide +kernel
theorem dX8_setWeighing_16 : decode cX8_setWeighing 16 = .ok (.aload_n 0, 1) := by decide +kernel
theorem dX8_setWeighing_17 : decode cX8_setWeighing 17 = .ok (.getfield 10, 3) := by decide +kernel
theorem dX8_setWeighing_20 : decode cX8_setWeighing 20 = .ok (.iload_n 1, 1) := by decide +kernel
theorem dX8_setWeighing_21 : decode cX8_setWeighing 21 = .ok (.putfield 181, 3) := by decide +kernel
theorem dX8_setWeighing_24 : decode cX8_setWeighing 24 = .ok (.iload_n 2, 1) := by decide +kernel
theorem dX8_setWeighing_25 : decode cX8_setWeighing 25 = .ok (.ireturn, 1) := by decide +kernel
theorem dX8_matches_0 : decode cX8_matches 0 = .ok (.aload_n 0, 1) := by decide +kernel
theorem dX8_matches_1 : decode cX8_matches 1 = .ok (.iload_n 1, 1) := by decide +kernel
theorem dX8_matches_2 : decode cX8_matches 2 = .ok (.invokevirtual 162, 3) := by decide +kernel
theorem dX8_matches_5 : decode cX8_matches 5 = .ok (.invokestatic 76, 3) := by decide +kernel
theorem dX8_matches_8 : decode cX8_matches 8 = .ok (.aload_n 0, 1) := by decide +kernel
theorem dX8_matches_9 : decode cX8_matches 9 = .ok (.iload_n 2, 1) := by decide +kernel
theorem dX8_matches_10 : decode cX8_matches 10 = .ok (.iload_n 3, 1) := by decide +kernel
theorem dX8_matches_11 : decode cX8_matches 11 = .ok (.iload 4, 2) := by decide +kernel
theorem dX8_matches_13 : decode cX8_matches 13 = .ok (.invokevirtual 184, 3) := by decide +kernel
theorem dX8_matches_16 : decode cX8_matches 16 = .ok (.aload_n 0, 1) := by decide +kernel
theorem dX8_matches_17 : decode cX8_matches 17 = .ok (.getfield 21, 3) := by decide +kernel
theorem dX8_matches_20 : decode cX8_matches 20 = .ok (.aload_n 0, 1) := by decide +kernel
theorem dX8_matches_21 : decode cX8_matches 21 = .ok (.getfield 10, 3) := by decide +kernel
theorem dX8_matches_24 : decode cX8_matches 24 = .ok (.getfield 181, 3) := by decide +kernel
theorem dX8_matches_27 : decode cX8_matches 27 = .ok (.iconst 0, 1) := by decide +kernel
theorem dX8_matches_28 : decode cX8_matches 28 = .ok (.invokevirtual 188, 3) := by decide +kernel
theorem dX8_matches_31 : decode cX8_matches 31 = .ok (.aload_n 0, 1) := by decide +kernel
theorem dX8_matches_32 : decode cX8_matches 32 = .ok (.getfield 21, 3) := by decide +kernel
theorem dX8_matches_35 : decode cX8_matches 35 = .ok (.iload_n 2, 1) := by decide +kernel
theorem dX8_matches_36 : decode cX8_matches 36 = .ok (.iload_n 3, 1) := by decide +kernel
theorem dX8_matches_37 : decode cX8_matches 37 = .ok (.iload 4, 2) := by decide +kernel
theorem dX8_matches_39 : decode cX8_matches 39 = .ok (.invokevirtual 191, 3) := by decide +kernel
theorem dX8_matches_42 : decode cX8_matches 42 = .ok (.iload_n 1, 1) := by decide +kernel
theorem dX8_matches_43 : decode cX8_matches 43 = .ok (.invokestatic 110, 3) := by decide +kernel
theorem dX8_matches_46 : decode cX8_matches 46 = .ok (.ireturn, 1) := by decide +kernel
theorem dX8_goOn_0 : decode cX8_goOn 0 = .ok (.iload_n 1, 1) := by decide +kernel
theorem dX8_goOn_1 : decode cX8_goOn 1 = .ok (.iconst 1, 1) := by decide +kernel
theorem dX8_goOn_2 : decode cX8_goOn 2 = .ok (.if_icmp .lt 14, 3) := by decide +kernel
theorem dX8_goOn_5 : decode cX8_goOn 5 = .ok (.iload_n 1, 1) := by decide +kernel
theorem dX8_goOn_6 : decode cX8_goOn 6 = .ok (.sipush 10000, 3) := by decide +kernel
theorem dX8_goOn_9 : decode cX8_goOn 9 = .ok (.if_icmp .gt 7, 3) := by decide +kernel
theorem dX8_goOn_12 : decode cX8_goOn 12 = .ok (.iconst 1, 1) := by decide +kernel
theorem dX8_goOn_13 : decode cX8_goOn 13 = .ok (.goto 4, 3) := by decide +kernel
theorem dX8_goOn_16 : decode cX8_goOn 16 = .ok (.iconst 0, 1) := by decide +kernel
theorem dX8_goOn_17 : decode cX8_goOn 17 = .ok (.invokestatic 41, 3) := by decide +kernel
theorem dX8_goOn_20 : decode cX8_goOn 20 = .ok (.aload_n 0, 1) := by decide +kernel
theorem dX8_goOn_21 : decode cX8_goOn 21 = .ok (.getfield 10, 3) := by decide +kernel
theorem dX8_goOn_24 : decode cX8_goOn 24 = .ok (.dup, 1) := by decide +kernel
theorem dX8_goOn_25 : decode cX8_goOn 25 = .ok (.getfield 195, 3) := by decide +kernel
theorem dX8_goOn_28 : decode cX8_goOn 28 = .ok (.iload_n 1, 1) := by decide +kernel
theorem dX8_goOn_29 : decode cX8_goOn 29 = .ok (.iadd, 1) := by decide +kernel
theorem dX8_goOn_30 : decode cX8_goOn 30 = .ok (.putfield 195, 3) := by decide +kernel
theorem dX8_goOn_33 : decode cX8_goOn 33 = .ok (.aload_n 0, 1) := by decide +kernel
theorem dX8_goOn_34 : decode cX8_goOn 34 = .ok (.getfield 10, 3) := by decide +kernel
theorem dX8_goOn_37 : decode cX8_goOn 37 = .ok (.invokevirtual 198, 3) := by decide +kernel
theorem dX8_goOn_40 : decode cX8_goOn 40 = .ok (.ireturn, 1) := by decide +kernel
theorem dX8_grant_0 : decode cX8_grant 0 = .ok (.aload_n 0, 1) := by decide +kernel
theorem dX8_grant_1 : decode cX8_grant 1 = .ok (.iload_n 1, 1) := by decide +kernel
theorem dX8_grant_2 : decode cX8_grant 2 = .ok (.invokevirtual 89, 3) := by decide +kernel
theorem dX8_grant_5 : decode cX8_grant 5 = .ok (.ifCond .eq 31, 3) := by decide +kernel
theorem dX8_grant_8 : decode cX8_grant 8 = .ok (.aload_n 0, 1) := by decide +kernel
theorem dX8_grant_9 : decode cX8_grant 9 = .ok (.iload_n 2, 1) := by decide +kernel
theorem dX8_grant_10 : decode cX8_grant 10 = .ok (.invokevirtual 89, 3) := by decide +kernel
theorem dX8_grant_13 : decode cX8_grant 13 = .ok (.ifCond .eq 23, 3) := by decide +kernel
theorem dX8_grant_16 : decode cX8_grant 16 = .ok (.iload_n 3, 1) := by decide +kernel
theorem dX8_grant_17 : decode cX8_grant 17 = .ok (.invokestatic 201, 3) := by decide +kernel
theorem dX8_grant_20 : decode cX8_grant 20 = .ok (.ifCond .eq 16, 3) := by decide +kernel
theorem dX8_grant_23 : decode cX8_grant 23 = .ok (.aload_n 0, 1) := by decide +kernel
theorem dX8_grant_24 : decode cX8_grant 24 = .ok (.iload 4, 2) := by decide +kernel
theorem dX8_grant_26 : decode cX8_grant 26 = .ok (.invokevirtual 72, 3) := by decide +kernel
theorem dX8_grant_29 : decode cX8_grant 29 = .ok (.ifCond .eq 7, 3) := by decide +kernel
theorem dX8_grant_32 : decode cX8_grant 32 = .ok (.iconst 1, 1) := by decide +kernel
theorem dX8_grant_33 : decode cX8_grant 33 = .ok (.goto 4, 3) := by decide +kernel
theorem dX8_grant_36 : decode cX8_grant 36 = .ok (.iconst 0, 1) := by decide +kernel
theorem dX8_grant_37 : decode cX8_grant 37 = .ok (.invokestatic 76, 3) := by decide +kernel
theorem dX8_grant_40 : decode cX8_grant 40 = .ok (.iload_n 1, 1) := by decide +kernel
theorem dX8_grant_41 : decode cX8_grant 41 = .ok (.iload_n 2, 1) := by decide +kernel
theorem dX8_grant_42 : decode cX8_grant 42 = .ok (.if_icmp .eq 30, 3) := by decide +kernel
theorem dX8_grant_45 : decode cX8_grant 45 = .ok (.iload 5, 2) := by decide +kernel
theorem dX8_grant_47 : decode cX8_grant 47 = .ok (.iconst 3, 1) := by decide +kernel
theorem dX8_grant_48 : decode cX8_grant 48 = .ok (.invokestatic 37, 3) := by decide +kernel
theorem dX8_grant_51 : decode cX8_grant 51 = .ok (.ifCond .eq 21, 3) := by decide +kernel
theorem dX8_grant_54 : decode cX8_grant 54 = .ok (.iload 6, 2) := by decide +kernel
theorem dX8_grant_56 : decode cX8_grant 56 = .ok (.iconst 1, 1) := by decide +kernel
theorem dX8_grant_57 : decode cX8_grant 57 = .ok (.if_icmp .lt 15, 3) := by decide +kernel
theorem dX8_grant_60 : decode cX8_grant 60 = .ok (.iload 6, 2) := by decide +kernel
theorem dX8_grant_62 : decode cX8_grant 62 = .ok (.sipush 10000, 3) := by decide +kernel
theorem dX8_grant_65 : decode cX8_grant 65 = .ok (.if_icmp .gt 7, 3) := by decide +kernel
theorem dX8_grant_68 : decode cX8_grant 68 = .ok (.iconst 1, 1) := by decide +kernel
theorem dX8_grant_69 : decode cX8_grant 69 = .ok (.goto 4, 3) := by decide +kernel
theorem dX8_grant_72 : decode cX8_grant 72 = .ok (.iconst 0, 1) := by decide +kernel
theorem dX8_grant_73 : decode cX8_grant 73 = .ok (.invokestatic 41, 3) := by decide +kernel
theorem dX8_grant_76 : decode cX8_grant 76 = .ok (.aload_n 0, 1) := by decide +kernel
theorem dX8_grant_77 : decode cX8_grant 77 = .ok (.getfield 10, 3) := by decide +kernel
theorem dX8_grant_80 : decode cX8_grant 80 = .ok (.getfield 204, 3) := by decide +kernel
theorem dX8_grant_83 : decode cX8_grant 83 = .ok (.getfield 208, 3) := by decide +kernel
theorem dX8_grant_86 : decode cX8_grant 86 = .ok (.bipush 30, 2) := by decide +kernel
theorem dX8_grant_88 : decode cX8_grant 88 = .ok (.if_icmp .ge 7, 3) := by decide +kernel
theorem dX8_grant_91 : decode cX8_grant 91 = .ok (.iconst 1, 1) := by decide +kernel
theorem dX8_grant_92 : decode cX8_grant 92 = .ok (.goto 4, 3) := by decide +kernel
theorem dX8_grant_95 : decode cX8_grant 95 = .ok (.iconst 0, 1) := by decide +kernel
theorem dX8_grant_96 : decode cX8_grant 96 = .ok (.invokestatic 55, 3) := by decide +kernel
theorem dX8_grant_99 : decode cX8_grant 99 = .ok (.aload_n 0, 1) := by decide +kernel
theorem dX8_grant_100 : decode cX8_grant 100 = .ok (.getfield 10, 3) := by decide +kernel
theorem dX8_grant_103 : decode cX8_grant 103 = .ok (.getfield 204, 3) := by decide +kernel
theorem dX8_grant_106 : decode cX8_grant 106 = .ok (.iload_n 1, 1) := by decide +kernel
theorem dX8_grant_107 : decode cX8_grant 107 = .ok (.iload_n 2, 1) := by decide +kernel
theorem dX8_grant_108 : decode cX8_grant 108 = .ok (.iload_n 3, 1) := by decide +kernel
theorem dX8_grant_109 : decode cX8_grant 109 = .ok (.iload 4, 2) := by decide +kernel
theorem dX8_grant_111 : decode cX8_grant 111 = .ok (.iload 5, 2) := by decide +kernel
theorem dX8_grant_113 : decode cX8_grant 113 = .ok (.aload_n 0, 1) := by decide +kernel
theorem dX8_grant_114 : decode cX8_grant 114 = .ok (.getfield 10, 3) := by decide +kernel
theorem dX8_grant_117 : decode cX8_grant 117 = .ok (.getfield 195, 3) := by decide +kernel
theorem dX8_grant_120 : decode cX8_grant 120 = .ok (.iload 6, 2) := by decide +kernel
theorem dX8_grant_122 : decode cX8_grant 122 = .ok (.iadd, 1) := by decide +kernel
theorem dX8_grant_123 : decode cX8_grant 123 = .ok (.invokevirtual 211, 3) := by decide +kernel
theorem dX8_grant_126 : decode cX8_grant 126 = .ok (.ireturn, 1) := by decide +kernel
theorem dX8_isGood_0 : decode cX8_isGood 0 = .ok (.aload_n 0, 1) := by decide +kernel
theorem dX8_isGood_1 : decode cX8_isGood 1 = .ok (.iload_n 1, 1) := by decide +kernel
theorem dX8_isGood_2 : decode cX8_isGood 2 = .ok (.invokevirtual 214, 3) := by decide +kernel
theorem dX8_isGood_5 : decode cX8_isGood 5 = .ok (.invokestatic 76, 3) := by decide +kernel
theorem dX8_isGood_8 : decode cX8_isGood 8 = .ok (.aload_n 0, 1) := by decide +kernel
theorem dX8_isGood_9 : decode cX8_isGood 9 = .ok (.getfield 21, 3) := by decide +kernel
theorem dX8_isGood_12 : decode cX8_isGood 12 = .ok (.aload_n 0, 1) := by decide +kernel
theorem dX8_isGood_13 : decode cX8_isGood 13 = .ok (.getfield 10, 3) := by decide +kernel
theorem dX8_isGood_16 : decode cX8_isGood 16 = .ok (.getfield 181, 3) := by decide +kernel
theorem dX8_isGood_19 : decode cX8_isGood 19 = .ok (.iconst 0, 1) := by decide +kernel
theorem dX8_isGood_20 : decode cX8_isGood 20 = .ok (.invokevirtual 188, 3) := by decide +kernel
theorem dX8_isGood_23 : decode cX8_isGood 23 = .ok (.aload_n 0, 1) := by decide +kernel
theorem dX8_isGood_24 : decode cX8_isGood 24 = .ok (.getfield 21, 3) := by decide +kernel
theorem dX8_isGood_27 : decode cX8_isGood 27 = .ok (.getfield 223, 3) := by decide +kernel
theorem dX8_isGood_30 : decode cX8_isGood 30 = .ok (.iload_n 1, 1) := by decide +kernel
theorem dX8_isGood_31 : decode cX8_isGood 31 = .ok (.invokestatic 110, 3) := by decide +kernel
theorem dX8_isGood_34 : decode cX8_isGood 34 = .ok (.ireturn, 1) := by decide +kernel
theorem dX8_decide_0 : decode cX8_decide 0 = .ok (.aload_n 0, 1) := by decide +kernel
theorem dX8_decide_1 : decode cX8_decide 1 = .ok (.iload_n 1, 1) := by decide +kernel
theorem dX8_decide_2 : decode cX8_decide 2 = .ok (.iload_n 2, 1) := by decide +kernel
theorem dX8_decide_3 : decode cX8_decide 3 = .ok (.iload_n 3, 1) := by decide +kernel
theorem dX8_decide_4 : decode cX8_decide 4 = .ok (.invokevirtual 184, 3) := by decide +kernel
theorem dX8_decide_7 : decode cX8_decide 7 = .ok (.aload_n 0, 1) := by decide +kernel
theorem dX8_decide_8 : decode cX8_decide 8 = .ok (.getfield 21, 3) := by decide +kernel
theorem dX8_decide_11 : decode cX8_decide 11 = .ok (.aload_n 0, 1) := by decide +kernel
theorem dX8_decide_12 : decode cX8_decide 12 = .ok (.getfield 10, 3) := by decide +kernel
theorem dX8_decide_15 : decode cX8_decide 15 = .ok (.getfield 181, 3) := by decide +kernel
theorem dX8_decide_18 : decode cX8_decide 18 = .ok (.iconst 0, 1) := by decide +kernel
theorem dX8_decide_19 : decode cX8_decide 19 = .ok (.invokevirtual 188, 3) := by decide +kernel
theorem dX8_decide_22 : decode cX8_decide 22 = .ok (.aload_n 0, 1) := by decide +kernel
theorem dX8_decide_23 : decode cX8_decide 23 = .ok (.getfield 21, 3) := by decide +kernel
theorem dX8_decide_26 : decode cX8_decide 26 = .ok (.iload_n 1, 1) := by decide +kernel
theorem dX8_decide_27 : decode cX8_decide 27 = .ok (.iload_n 2, 1) := by decide +kernel
theorem dX8_decide_28 : decode cX8_decide 28 = .ok (.iload_n 3, 1) := by decide +kernel
theorem dX8_decide_29 : decode cX8_decide 29 = .ok (.invokevirtual 226, 3) := by decide +kernel
theorem dX8_decide_32 : decode cX8_decide 32 = .ok (.ireturn, 1) := by decide +kernel
theorem dX8_why_0 : decode cX8_why 0 = .ok (.aload_n 0, 1) := by decide +kernel
theorem dX8_why_1 : decode cX8_why 1 = .ok (.iload_n 1, 1) := by decide +kernel
theorem dX8_why_2 : decode cX8_why 2 = .ok (.iload_n 2, 1) := by decide +kernel
theorem dX8_why_3 : decode cX8_why 3 = .ok (.iload_n 3, 1) := by decide +kernel
theorem dX8_why_4 : decode cX8_why 4 = .ok (.invokevirtual 184, 3) := by decide +kernel
theorem dX8_why_7 : decode cX8_why 7 = .ok (.aload_n 0, 1) := by decide +kernel
theorem dX8_why_8 : decode cX8_why 8 = .ok (.getfield 21, 3) := by decide +kernel
theorem dX8_why_11 : decode cX8_why 11 = .ok (.aload_n 0, 1) := by decide +kernel
theorem dX8_why_12 : decode cX8_why 12 = .ok (.getfield 10, 3) := by decide +kernel
theorem dX8_why_15 : decode cX8_why 15 = .ok (.getfield 181, 3) := by decide +kernel
theorem dX8_why_18 : decode cX8_why 18 = .ok (.iconst 0, 1) := by decide +kernel
theorem dX8_why_19 : decode cX8_why 19 = .ok (.invokevirtual 188, 3) := by decide +kernel
theorem dX8_why_22 : decode cX8_why 22 = .ok (.aload_n 0, 1) := by decide +kernel
theorem dX8_why_23 : decode cX8_why 23 = .ok (.getfield 21, 3) := by decide +kernel
theorem dX8_why_26 : decode cX8_why 26 = .ok (.iload_n 1, 1) := by decide +kernel
theorem dX8_why_27 : decode cX8_why 27 = .ok (.iload_n 2, 1) := by decide +kernel
theorem dX8_why_28 : decode cX8_why 28 = .ok (.iload_n 3, 1) := by decide +kernel
theorem dX8_why_29 : decode cX8_why 29 = .ok (.invokevirtual 229, 3) := by decide +kernel
theorem dX8_why_32 : decode cX8_why 32 = .ok (.ireturn, 1) := by decide +kernel
theorem dX8_access_0 : decode cX8_access 0 = .ok (.aload_n 0, 1) := by decide +kernel
theorem dX8_access_1 : decode cX8_access 1 = .ok (.iload_n 1, 1) := by decide +kernel
theorem dX8_access_2 : decode cX8_access 2 = .ok (.iload_n 2, 1) := by decide +kernel
theorem dX8_access_3 : decode cX8_access 3 = .ok (.iload_n 3, 1) := by decide +kernel
theorem dX8_access_4 : decode cX8_access 4 = .ok (.invokevirtual 184, 3) := by decide +kernel
theorem dX8_access_7 : decode cX8_access 7 = .ok (.aload_n 0, 1) := by decide +kernel
theorem dX8_access_8 : decode cX8_access 8 = .ok (.getfield 21, 3) := by decide +kernel
theorem dX8_access_11 : decode cX8_access 11 = .ok (.aload_n 0, 1) := by decide +kernel
theorem dX8_access_12 : decode cX8_access 12 = .ok (.getfield 10, 3) := by decide +kernel
theorem dX8_access_15 : decode cX8_access 15 = .ok (.getfield 181, 3) := by decide +kernel
theorem dX8_access_18 : decode cX8_access 18 = .ok (.iconst 0, 1) := by decide +kernel
theorem dX8_access_19 : decode cX8_access 19 = .ok (.invokevirtual 188, 3) := by decide +kernel
theorem dX8_access_22 : decode cX8_access 22 = .ok (.aload_n 0, 1) := by decide +kernel
theorem dX8_access_23 : decode cX8_access 23 = .ok (.getfield 21, 3) := by decide +kernel
theorem dX8_access_26 : decode cX8_access 26 = .ok (.iload_n 1, 1) := by decide +kernel
theorem dX8_access_27 : decode cX8_access 27 = .ok (.iload_n 2, 1) := by decide +kernel
theorem dX8_access_28 : decode cX8_access 28 = .ok (.iload_n 3, 1) := by decide +kernel
theorem dX8_access_29 : decode cX8_access 29 = .ok (.invokevirtual 226, 3) := by decide +kernel
theorem dX8_access_32 : decode cX8_access 32 = .ok (.istore 4, 2) := by decide +kernel
theorem dX8_access_34 : decode cX8_access 34 = .ok (.iload 4, 2) := by decide +kernel
theorem dX8_access_36 : decode cX8_access 36 = .ok (.iconst 1, 1) := by decide +kernel
theorem dX8_access_37 : decode cX8_access 37 = .ok (.if_icmp .eq 9, 3) := by decide +kernel
theorem dX8_access_40 : decode cX8_access 40 = .ok (.iload 4, 2) := by decide +kernel
theorem dX8_access_42 : decode cX8_access 42 = .ok (.iconst 3, 1) := by decide +kernel
theorem dX8_access_43 : decode cX8_access 43 = .ok (.if_icmp .ne 16, 3) := by decide +kernel
theorem dX8_access_46 : decode cX8_access 46 = .ok (.aload_n 0, 1) := by decide +kernel
theorem dX8_access_47 : decode cX8_access 47 = .ok (.getfield 10, 3) := by decide +kernel
theorem dX8_access_50 : decode cX8_access 50 = .ok (.getfield 45, 3) := by decide +kernel
theorem dX8_access_53 : decode cX8_access 53 = .ok (.iload_n 1, 1) := by decide +kernel
theorem dX8_access_54 : decode cX8_access 54 = .ok (.iload_n 2, 1) := by decide +kernel
theorem dX8_access_55 : decode cX8_access 55 = .ok (.iload_n 3, 1) := by decide +kernel
theorem dX8_access_56 : decode cX8_access 56 = .ok (.invokevirtual 232, 3) := by decide +kernel
theorem dX8_access_59 : decode cX8_access 59 = .ok (.aload_n 0, 1) := by decide +kernel
theorem dX8_access_60 : decode cX8_access 60 = .ok (.getfield 33, 3) := by decide +kernel
theorem dX8_access_63 : decode cX8_access 63 = .ok (.iload 4, 2) := by decide +kernel
theorem dX8_access_65 : decode cX8_access 65 = .ok (.aload_n 0, 1) := by decide +kernel
theorem dX8_access_66 : decode cX8_access 66 = .ok (.getfield 33, 3) := by decide +kernel
theorem dX8_access_69 : decode cX8_access 69 = .ok (.iload 4, 2) := by decide +kernel
theorem dX8_access_71 : decode cX8_access 71 = .ok (.invokevirtual 98, 3) := by decide +kernel
theorem dX8_access_74 : decode cX8_access 74 = .ok (.iconst 1, 1) := by decide +kernel
theorem dX8_access_75 : decode cX8_access 75 = .ok (.iadd, 1) := by decide +kernel
theorem dX8_access_76 : decode cX8_access 76 = .ok (.invokevirtual 107, 3) := by decide +kernel
theorem dX8_access_79 : decode cX8_access 79 = .ok (.iload 4, 2) := by decide +kernel
theorem dX8_access_81 : decode cX8_access 81 = .ok (.ireturn, 1) := by decide +kernel
theorem dX8_done_0 : decode cX8_done 0 = .ok (.aload_n 0, 1) := by decide +kernel
theorem dX8_done_1 : decode cX8_done 1 = .ok (.iload_n 1, 1) := by decide +kernel
theorem dX8_done_2 : decode cX8_done 2 = .ok (.invokevirtual 89, 3) := by decide +kernel
theorem dX8_done_5 : decode cX8_done 5 = .ok (.ifCond .eq 15, 3) := by decide +kernel
theorem dX8_done_8 : decode cX8_done 8 = .ok (.aload_n 0, 1) := by decide +kernel
theorem dX8_done_9 : decode cX8_done 9 = .ok (.iload_n 2, 1) := by decide +kernel
theorem dX8_done_10 : decode cX8_done 10 = .ok (.invokevirtual 72, 3) := by decide +kernel
theorem dX8_done_13 : decode cX8_done 13 = .ok (.ifCond .eq 7, 3) := by decide +kernel
theorem dX8_done_16 : decode cX8_done 16 = .ok (.iconst 1, 1) := by decide +kernel
theorem dX8_done_17 : decode cX8_done 17 = .ok (.goto 4, 3) := by decide +kernel
theorem dX8_done_20 : decode cX8_done 20 = .ok (.iconst 0, 1) := by decide +kernel
theorem dX8_done_21 : decode cX8_done 21 = .ok (.invokestatic 76, 3) := by decide +kernel
theorem dX8_done_24 : decode cX8_done 24 = .ok (.aload_n 0, 1) := by decide +kernel
theorem dX8_done_25 : decode cX8_done 25 = .ok (.getfield 10, 3) := by decide +kernel
theorem dX8_done_28 : decode cX8_done 28 = .ok (.getfield 45, 3) := by decide +kernel
theorem dX8_done_31 : decode cX8_done 31 = .ok (.iload_n 1, 1) := by decide +kernel
theorem dX8_done_32 : decode cX8_done 32 = .ok (.iload_n 2, 1) := by decide +kernel
theorem dX8_done_33 : decode cX8_done 33 = .ok (.invokevirtual 235, 3) := by decide +kernel
theorem dX8_done_36 : decode cX8_done 36 = .ok (.ireturn, 1) := by decide +kernel
theorem dX8_who_0 : decode cX8_who 0 = .ok (.iload_n 1, 1) := by decide +kernel
theorem dX8_who_1 : decode cX8_who 1 = .ok (.invokestatic 201, 3) := by decide +kernel
theorem dX8_who_4 : decode cX8_who 4 = .ok (.ifCond .eq 15, 3) := by decide +kernel
theorem dX8_who_7 : decode cX8_who 7 = .ok (.aload_n 0, 1) := by decide +kernel
theorem dX8_who_8 : decode cX8_who 8 = .ok (.iload_n 2, 1) := by decide +kernel
theorem dX8_who_9 : decode cX8_who 9 = .ok (.invokevirtual 72, 3) := by decide +kernel
theorem dX8_who_12 : decode cX8_who 12 = .ok (.ifCond .eq 7, 3) := by decide +kernel
theorem dX8_who_15 : decode cX8_who 15 = .ok (.iconst 1, 1) := by decide +kernel
theorem dX8_who_16 : decode cX8_who 16 = .ok (.goto 4, 3) := by decide +kernel
theorem dX8_who_19 : decode cX8_who 19 = .ok (.iconst 0, 1) := by decide +kernel
theorem dX8_who_20 : decode cX8_who 20 = .ok (.invokestatic 76, 3) := by decide +kernel
theorem dX8_who_23 : decode cX8_who 23 = .ok (.aload_n 0, 1) := by decide +kernel
theorem dX8_who_24 : decode cX8_who 24 = .ok (.getfield 21, 3) := by decide +kernel
theorem dX8_who_27 : decode cX8_who 27 = .ok (.aload_n 0, 1) := by decide +kernel
theorem dX8_who_28 : decode cX8_who 28 = .ok (.getfield 10, 3) := by decide +kernel
theorem dX8_who_31 : decode cX8_who 31 = .ok (.getfield 181, 3) := by decide +kernel
theorem dX8_who_34 : decode cX8_who 34 = .ok (.iconst 0, 1) := by decide +kernel
theorem dX8_who_35 : decode cX8_who 35 = .ok (.invokevirtual 188, 3) := by decide +kernel
theorem dX8_who_38 : decode cX8_who 38 = .ok (.iconst 0, 1) := by decide +kernel
theorem dX8_who_39 : decode cX8_who 39 = .ok (.istore_n 3, 1) := by decide +kernel
theorem dX8_who_40 : decode cX8_who 40 = .ok (.iconst 0, 1) := by decide +kernel
theorem dX8_who_41 : decode cX8_who 41 = .ok (.istore 4, 2) := by decide +kernel
theorem dX8_who_43 : decode cX8_who 43 = .ok (.iload 4, 2) := by decide +kernel
theorem dX8_who_45 : decode cX8_who 45 = .ok (.aload_n 0, 1) := by decide +kernel
theorem dX8_who_46 : decode cX8_who 46 = .ok (.getfield 10, 3) := by decide +kernel
theorem dX8_who_49 : decode cX8_who 49 = .ok (.getfield 45, 3) := by decide +kernel
theorem dX8_who_52 : decode cX8_who 52 = .ok (.getfield 49, 3) := by decide +kernel
theorem dX8_who_55 : decode cX8_who 55 = .ok (.if_icmp .ge 30, 3) := by decide +kernel
theorem dX8_who_58 : decode cX8_who 58 = .ok (.aload_n 0, 1) := by decide +kernel
theorem dX8_who_59 : decode cX8_who 59 = .ok (.getfield 21, 3) := by decide +kernel
theorem dX8_who_62 : decode cX8_who 62 = .ok (.iload 4, 2) := by decide +kernel
theorem dX8_who_64 : decode cX8_who 64 = .ok (.iload_n 1, 1) := by decide +kernel
theorem dX8_who_65 : decode cX8_who 65 = .ok (.iload_n 2, 1) := by decide +kernel
theorem dX8_who_66 : decode cX8_who 66 = .ok (.invokevirtual 238, 3) := by decide +kernel
theorem dX8_who_69 : decode cX8_who 69 = .ok (.ifCond .eq 10, 3) := by decide +kernel
theorem dX8_who_72 : decode cX8_who 72 = .ok (.iload_n 3, 1) := by decide +kernel
theorem dX8_who_73 : decode cX8_who 73 = .ok (.iconst 1, 1) := by decide +kernel
theorem dX8_who_74 : decode cX8_who 74 = .ok (.iload 4, 2) := by decide +kernel
theorem dX8_who_76 : decode cX8_who 76 = .ok (.ishl, 1) := by decide +kernel
theorem dX8_who_77 : decode cX8_who 77 = .ok (.ior, 1) := by decide +kernel
theorem dX8_who_78 : decode cX8_who 78 = .ok (.istore_n 3, 1) := by decide +kernel
theorem dX8_who_79 : decode cX8_who 79 = .ok (.iinc 4 1, 3) := by decide +kernel
theorem dX8_who_82 : decode cX8_who 82 = .ok (.goto (-39), 3) := by decide +kernel
theorem dX8_who_85 : decode cX8_who 85 = .ok (.iload_n 3, 1) := by decide +kernel
theorem dX8_who_86 : decode cX8_who 86 = .ok (.ireturn, 1) := by decide +kernel
theorem dX8_reach_0 : decode cX8_reach 0 = .ok (.aload_n 0, 1) := by decide +kernel
theorem dX8_reach_1 : decode cX8_reach 1 = .ok (.iload_n 1, 1) := by decide +kernel
theorem dX8_reach_2 : decode cX8_reach 2 = .ok (.invokevirtual 89, 3) := by decide +kernel
theorem dX8_reach_5 : decode cX8_reach 5 = .ok (.ifCond .eq 14, 3) := by decide +kernel
theorem dX8_reach_8 : decode cX8_reach 8 = .ok (.iload_n 2, 1) := by decide +kernel
theorem dX8_reach_9 : decode cX8_reach 9 = .ok (.invokestatic 201, 3) := by decide +kernel
theorem dX8_reach_12 : decode cX8_reach 12 = .ok (.ifCond .eq 7, 3) := by decide +kernel
theorem dX8_reach_15 : decode cX8_reach 15 = .ok (.iconst 1, 1) := by decide +kernel
theorem dX8_reach_16 : decode cX8_reach 16 = .ok (.goto 4, 3) := by decide +kernel
theorem dX8_reach_19 : decode cX8_reach 19 = .ok (.iconst 0, 1) := by decide +kernel
theorem dX8_reach_20 : decode cX8_reach 20 = .ok (.invokestatic 76, 3) := by decide +kernel
theorem dX8_reach_23 : decode cX8_reach 23 = .ok (.aload_n 0, 1) := by decide +kernel
theorem dX8_reach_24 : decode cX8_reach 24 = .ok (.getfield 21, 3) := by decide +kernel
theorem dX8_reach_27 : decode cX8_reach 27 = .ok (.aload_n 0, 1) := by decide +kernel
theorem dX8_reach_28 : decode cX8_reach 28 = .ok (.getfield 10, 3) := by decide +kernel
theorem dX8_reach_31 : decode cX8_reach 31 = .ok (.getfield 181, 3) := by decide +kernel
theorem dX8_reach_34 : decode cX8_reach 34 = .ok (.iconst 0, 1) := by decide +kernel
theorem dX8_reach_35 : decode cX8_reach 35 = .ok (.invokevirtual 188, 3) := by decide +kernel
theorem dX8_reach_38 : decode cX8_reach 38 = .ok (.aload_n 0, 1) := by decide +kernel
theorem dX8_reach_39 : decode cX8_reach 39 = .ok (.getfield 21, 3) := by decide +kernel
theorem dX8_reach_42 : decode cX8_reach 42 = .ok (.iload_n 1, 1) := by decide +kernel
theorem dX8_reach_43 : decode cX8_reach 43 = .ok (.iload_n 2, 1) := by decide +kernel
theorem dX8_reach_44 : decode cX8_reach 44 = .ok (.invokevirtual 242, 3) := by decide +kernel
theorem dX8_reach_47 : decode cX8_reach 47 = .ok (.ireturn, 1) := by decide +kernel
theorem dX8_rolesNeeded_0 : decode cX8_rolesNeeded 0 = .ok (.aload_n 0, 1) := by decide +kernel
theorem dX8_rolesNeeded_1 : decode cX8_rolesNeeded 1 = .ok (.iload_n 1, 1) := by decide +kernel
theorem dX8_rolesNeeded_2 : decode cX8_rolesNeeded 2 = .ok (.iload_n 2, 1) := by decide +kernel
theorem dX8_rolesNeeded_3 : decode cX8_rolesNeeded 3 = .ok (.iload_n 3, 1) := by decide +kernel
theorem dX8_rolesNeeded_4 : decode cX8_rolesNeeded 4 = .ok (.invokevirtual 184, 3) := by decide +kernel
theorem dX8_rolesNeeded_7 : decode cX8_rolesNeeded 7 = .ok (.aload_n 0, 1) := by decide +kernel
theorem dX8_rolesNeeded_8 : decode cX8_rolesNeeded 8 = .ok (.getfield 25, 3) := by decide +kernel
theorem dX8_rolesNeeded_11 : decode cX8_rolesNeeded 11 = .ok (.aload_n 0, 1) := by decide +kernel
theorem dX8_rolesNeeded_12 : decode cX8_rolesNeeded 12 = .ok (.getfield 10, 3) := by decide +kernel
theorem dX8_rolesNeeded_15 : decode cX8_rolesNeeded 15 = .ok (.getfield 181, 3) := by decide +kernel
theorem dX8_rolesNeeded_18 : decode cX8_rolesNeeded 18 = .ok (.iconst 0, 1) := by decide +kernel
theorem dX8_rolesNeeded_19 : decode cX8_rolesNeeded 19 = .ok (.invokevirtual 188, 3) := by decide +kernel
theorem dX8_rolesNeeded_22 : decode cX8_rolesNeeded 22 = .ok (.aload_n 0, 1) := by decide +kernel
theorem dX8_rolesNeeded_23 : decode cX8_rolesNeeded 23 = .ok (.getfield 25, 3) := by decide +kernel
theorem dX8_rolesNeeded_26 : decode cX8_rolesNeeded 26 = .ok (.iload_n 1, 1) := by decide +kernel
theorem dX8_rolesNeeded_27 : decode cX8_rolesNeeded 27 = .ok (.iload_n 2, 1) := by decide +kernel
theorem dX8_rolesNeeded_28 : decode cX8_rolesNeeded 28 = .ok (.iload_n 3, 1) := by decide +kernel
theorem dX8_rolesNeeded_29 : decode cX8_rolesNeeded 29 = .ok (.invokevirtual 238, 3) := by decide +kernel
theorem dX8_rolesNeeded_32 : decode cX8_rolesNeeded 32 = .ok (.ifCond .eq 5, 3) := by decide +kernel
theorem dX8_rolesNeeded_35 : decode cX8_rolesNeeded 35 = .ok (.iconst 0, 1) := by decide +kernel
theorem dX8_rolesNeeded_36 : decode cX8_rolesNeeded 36 = .ok (.ireturn, 1) := by decide +kernel
theorem dX8_rolesNeeded_37 : decode cX8_rolesNeeded 37 = .ok (.aload_n 0, 1) := by decide +kernel
theorem dX8_rolesNeeded_38 : decode cX8_rolesNeeded 38 = .ok (.getfield 10, 3) := by decide +kernel
theorem dX8_rolesNeeded_41 : decode cX8_rolesNeeded 41 = .ok (.getfield 45, 3) := by decide +kernel
theorem dX8_rolesNeeded_44 : decode cX8_rolesNeeded 44 = .ok (.getfield 95, 3) := by decide +kernel
theorem dX8_rolesNeeded_47 : decode cX8_rolesNeeded 47 = .ok (.iload_n 1, 1) := by decide +kernel
theorem dX8_rolesNeeded_48 : decode cX8_rolesNeeded 48 = .ok (.invokevirtual 98, 3) := by decide +kernel
theorem dX8_rolesNeeded_51 : decode cX8_rolesNeeded 51 = .ok (.istore 4, 2) := by decide +kernel
theorem dX8_rolesNeeded_53 : decode cX8_rolesNeeded 53 = .ok (.iconst (-1), 1) := by decide +kernel
theorem dX8_rolesNeeded_54 : decode cX8_rolesNeeded 54 = .ok (.istore 5, 2) := by decide +kernel
theorem dX8_rolesNeeded_56 : decode cX8_rolesNeeded 56 = .ok (.iconst 0, 1) := by decide +kernel
theorem dX8_rolesNeeded_57 : decode cX8_rolesNeeded 57 = .ok (.istore 6, 2) := by decide +kernel
theorem dX8_rolesNeeded_59 : decode cX8_rolesNeeded 59 = .ok (.iload 6, 2) := by decide +kernel
theorem dX8_rolesNeeded_61 : decode cX8_rolesNeeded 61 = .ok (.aload_n 0, 1) := by decide +kernel
theorem dX8_rolesNeeded_62 : decode cX8_rolesNeeded 62 = .ok (.getfield 10, 3) := by decide +kernel
theorem dX8_rolesNeeded_65 : decode cX8_rolesNeeded 65 = .ok (.getfield 62, 3) := by decide +kernel
theorem dX8_rolesNeeded_68 : decode cX8_rolesNeeded 68 = .ok (.getfield 66, 3) := by decide +kernel
theorem dX8_rolesNeeded_71 : decode cX8_rolesNeeded 71 = .ok (.if_icmp .ge 96, 3) := by decide +kernel
theorem dX8_rolesNeeded_74 : decode cX8_rolesNeeded 74 = .ok (.iconst 0, 1) := by decide +kernel
theorem dX8_rolesNeeded_75 : decode cX8_rolesNeeded 75 = .ok (.istore 7, 2) := by decide +kernel
theorem dX8_rolesNeeded_77 : decode cX8_rolesNeeded 77 = .ok (.iload 7, 2) := by decide +kernel
theorem dX8_rolesNeeded_79 : decode cX8_rolesNeeded 79 = .ok (.iload 6, 2) := by decide +kernel
theorem dX8_rolesNeeded_81 : decode cX8_rolesNeeded 81 = .ok (.if_icmp .gt 80, 3) := by decide +kernel
theorem dX8_rolesNeeded_84 : decode cX8_rolesNeeded 84 = .ok (.iload 4, 2) := by decide +kernel
theorem dX8_rolesNeeded_86 : decode cX8_rolesNeeded 86 = .ok (.iconst 1, 1) := by decide +kernel
theorem dX8_rolesNeeded_87 : decode cX8_rolesNeeded 87 = .ok (.iload 6, 2) := by decide +kernel
theorem dX8_rolesNeeded_89 : decode cX8_rolesNeeded 89 = .ok (.ishl, 1) := by decide +kernel
theorem dX8_rolesNeeded_90 : decode cX8_rolesNeeded 90 = .ok (.ior, 1) := by decide +kernel
theorem dX8_rolesNeeded_91 : decode cX8_rolesNeeded 91 = .ok (.iconst 1, 1) := by decide +kernel
theorem dX8_rolesNeeded_92 : decode cX8_rolesNeeded 92 = .ok (.iload 7, 2) := by decide +kernel
theorem dX8_rolesNeeded_94 : decode cX8_rolesNeeded 94 = .ok (.ishl, 1) := by decide +kernel
theorem dX8_rolesNeeded_95 : decode cX8_rolesNeeded 95 = .ok (.ior, 1) := by decide +kernel
theorem dX8_rolesNeeded_96 : decode cX8_rolesNeeded 96 = .ok (.istore 8, 2) := by decide +kernel
theorem dX8_rolesNeeded_98 : decode cX8_rolesNeeded 98 = .ok (.iload 8, 2) := by decide +kernel
theorem dX8_rolesNeeded_100 : decode cX8_rolesNeeded 100 = .ok (.iload 4, 2) := by decide +kernel
theorem dX8_rolesNeeded_102 : decode cX8_rolesNeeded 102 = .ok (.iconst (-1), 1) := by decide +kernel
theorem dX8_rolesNeeded_103 : decode cX8_rolesNeeded 103 = .ok (.ixor, 1) := by decide +kernel
theorem dX8_rolesNeeded_104 : decode cX8_rolesNeeded 104 = .ok (.iand, 1) := by decide +kernel
theorem dX8_rolesNeeded_105 : decode cX8_rolesNeeded 105 = .ok (.invokestatic 245, 3) := by decide +kernel
theorem dX8_rolesNeeded_108 : decode cX8_rolesNeeded 108 = .ok (.istore 9, 2) := by decide +kernel
theorem dX8_rolesNeeded_110 : decode cX8_rolesNeeded 110 = .ok (.iload 9, 2) := by decide +kernel
theorem dX8_rolesNeeded_112 : decode cX8_rolesNeeded 112 = .ok (.ifCond .le 19, 3) := by decide +kernel
theorem dX8_rolesNeeded_115 : decode cX8_rolesNeeded 115 = .ok (.iload 5, 2) := by decide +kernel
theorem dX8_rolesNeeded_117 : decode cX8_rolesNeeded 117 = .ok (.ifCond .lt 10, 3) := by decide +kernel
theorem dX8_rolesNeeded_120 : decode cX8_rolesNeeded 120 = .ok (.iload 9, 2) := by decide +kernel
theorem dX8_rolesNeeded_122 : decode cX8_rolesNeeded 122 = .ok (.iload 5, 2) := by decide +kernel
theorem dX8_rolesNeeded_124 : decode cX8_rolesNeeded 124 = .ok (.if_icmp .ge 7, 3) := by decide +kernel
theorem dX8_rolesNeeded_127 : decode cX8_rolesNeeded 127 = .ok (.iconst 1, 1) := by decide +kernel
theorem dX8_rolesNeeded_128 : decode cX8_rolesNeeded 128 = .ok (.goto 4, 3) := by decide +kernel
theorem dX8_rolesNeeded_131 : decode cX8_rolesNeeded 131 = .ok (.iconst 0, 1) := by decide +kernel
theorem dX8_rolesNeeded_132 : decode cX8_rolesNeeded 132 = .ok (.istore 10, 2) := by decide +kernel
theorem dX8_rolesNeeded_134 : decode cX8_rolesNeeded 134 = .ok (.iload 10, 2) := by decide +kernel
theorem dX8_rolesNeeded_136 : decode cX8_rolesNeeded 136 = .ok (.ifCond .eq 19, 3) := by decide +kernel
theorem dX8_rolesNeeded_139 : decode cX8_rolesNeeded 139 = .ok (.aload_n 0, 1) := by decide +kernel
theorem dX8_rolesNeeded_140 : decode cX8_rolesNeeded 140 = .ok (.iload_n 1, 1) := by decide +kernel
theorem dX8_rolesNeeded_141 : decode cX8_rolesNeeded 141 = .ok (.iload 8, 2) := by decide +kernel
theorem dX8_rolesNeeded_143 : decode cX8_rolesNeeded 143 = .ok (.iload_n 2, 1) := by decide +kernel
theorem dX8_rolesNeeded_144 : decode cX8_rolesNeeded 144 = .ok (.iload_n 3, 1) := by decide +kernel
theorem dX8_rolesNeeded_145 : decode cX8_rolesNeeded 145 = .ok (.invokevirtual 250, 3) := by decide +kernel
theorem dX8_rolesNeeded_148 : decode cX8_rolesNeeded 148 = .ok (.ifCond .eq 7, 3) := by decide +kernel
theorem dX8_rolesNeeded_151 : decode cX8_rolesNeeded 151 = .ok (.iload 9, 2) := by decide +kernel
theorem dX8_rolesNeeded_153 : decode cX8_rolesNeeded 153 = .ok (.istore 5, 2) := by decide +kernel
theorem dX8_rolesNeeded_155 : decode cX8_rolesNeeded 155 = .ok (.iinc 7 1, 3) := by decide +kernel
theorem dX8_rolesNeeded_158 : decode cX8_rolesNeeded 158 = .ok (.goto (-81), 3) := by decide +kernel
theorem dX8_rolesNeeded_161 : decode cX8_rolesNeeded 161 = .ok (.iinc 6 1, 3) := by decide +kernel
theorem dX8_rolesNeeded_164 : decode cX8_rolesNeeded 164 = .ok (.goto (-105), 3) := by decide +kernel
theorem dX8_rolesNeeded_167 : decode cX8_rolesNeeded 167 = .ok (.iload 5, 2) := by decide +kernel
theorem dX8_rolesNeeded_169 : decode cX8_rolesNeeded 169 = .ok (.ireturn, 1) := by decide +kernel
theorem dX8_isIdle_0 : decode cX8_isIdle 0 = .ok (.aload_n 0, 1) := by decide +kernel
theorem dX8_isIdle_1 : decode cX8_isIdle 1 = .ok (.iload_n 1, 1) := by decide +kernel
theorem dX8_isIdle_2 : decode cX8_isIdle 2 = .ok (.invokevirtual 162, 3) := by decide +kernel
theorem dX8_isIdle_5 : decode cX8_isIdle 5 = .ok (.invokestatic 76, 3) := by decide +kernel
theorem dX8_isIdle_8 : decode cX8_isIdle 8 = .ok (.aload_n 0, 1) := by decide +kernel
theorem dX8_isIdle_9 : decode cX8_isIdle 9 = .ok (.getfield 21, 3) := by decide +kernel
theorem dX8_isIdle_12 : decode cX8_isIdle 12 = .ok (.aload_n 0, 1) := by decide +kernel
theorem dX8_isIdle_13 : decode cX8_isIdle 13 = .ok (.getfield 10, 3) := by decide +kernel
theorem dX8_isIdle_16 : decode cX8_isIdle 16 = .ok (.getfield 181, 3) := by decide +kernel
theorem dX8_isIdle_19 : decode cX8_isIdle 19 = .ok (.iconst 0, 1) := by decide +kernel
theorem dX8_isIdle_20 : decode cX8_isIdle 20 = .ok (.invokevirtual 188, 3) := by decide +kernel
theorem dX8_isIdle_23 : decode cX8_isIdle 23 = .ok (.aload_n 0, 1) := by decide +kernel
theorem dX8_isIdle_24 : decode cX8_isIdle 24 = .ok (.getfield 25, 3) := by decide +kernel
theorem dX8_isIdle_27 : decode cX8_isIdle 27 = .ok (.aload_n 0, 1) := by decide +kernel
theorem dX8_isIdle_28 : decode cX8_isIdle 28 = .ok (.getfield 10, 3) := by decide +kernel
theorem dX8_isIdle_31 : decode cX8_isIdle 31 = .ok (.getfield 181, 3) := by decide +kernel
theorem dX8_isIdle_34 : decode cX8_isIdle 34 = .ok (.iconst 1, 1) := by decide +kernel
theorem dX8_isIdle_35 : decode cX8_isIdle 35 = .ok (.iload_n 1, 1) := by decide +kernel
theorem dX8_isIdle_36 : decode cX8_isIdle 36 = .ok (.ishl, 1) := by decide +kernel
theorem dX8_isIdle_37 : decode cX8_isIdle 37 = .ok (.invokevirtual 188, 3) := by decide +kernel
theorem dX8_isIdle_40 : decode cX8_isIdle 40 = .ok (.aload_n 0, 1) := by decide +kernel
theorem dX8_isIdle_41 : decode cX8_isIdle 41 = .ok (.getfield 21, 3) := by decide +kernel
theorem dX8_isIdle_44 : decode cX8_isIdle 44 = .ok (.aload_n 0, 1) := by decide +kernel
theorem dX8_isIdle_45 : decode cX8_isIdle 45 = .ok (.getfield 25, 3) := by decide +kernel
theorem dX8_isIdle_48 : decode cX8_isIdle 48 = .ok (.invokevirtual 257, 3) := by decide +kernel
theorem dX8_isIdle_51 : decode cX8_isIdle 51 = .ok (.ifCond .ne 7, 3) := by decide +kernel
theorem dX8_isIdle_54 : decode cX8_isIdle 54 = .ok (.iconst 1, 1) := by decide +kernel
theorem dX8_isIdle_55 : decode cX8_isIdle 55 = .ok (.goto 4, 3) := by decide +kernel
theorem dX8_isIdle_58 : decode cX8_isIdle 58 = .ok (.iconst 0, 1) := by decide +kernel
theorem dX8_isIdle_59 : decode cX8_isIdle 59 = .ok (.ireturn, 1) := by decide +kernel
theorem dX8_openness_0 : decode cX8_openness 0 = .ok (.aload_n 0, 1) := by decide +kernel
theorem dX8_openness_1 : decode cX8_openness 1 = .ok (.getfield 10, 3) := by decide +kernel
theorem dX8_openness_4 : decode cX8_openness 4 = .ok (.getfield 45, 3) := by decide +kernel
theorem dX8_openness_7 : decode cX8_openness 7 = .ok (.getfield 49, 3) := by decide +kernel
theorem dX8_openness_10 : decode cX8_openness 10 = .ok (.iconst 5, 1) := by decide +kernel
theorem dX8_openness_11 : decode cX8_openness 11 = .ok (.imul, 1) := by decide +kernel
theorem dX8_openness_12 : decode cX8_openness 12 = .ok (.aload_n 0, 1) := by decide +kernel
theorem dX8_openness_13 : decode cX8_openness 13 = .ok (.getfield 10, 3) := by decide +kernel
theorem dX8_openness_16 : decode cX8_openness 16 = .ok (.getfield 79, 3) := by decide +kernel
theorem dX8_openness_19 : decode cX8_openness 19 = .ok (.getfield 83, 3) := by decide +kernel
theorem dX8_openness_22 : decode cX8_openness 22 = .ok (.imul, 1) := by decide +kernel
theorem dX8_openness_23 : decode cX8_openness 23 = .ok (.istore_n 1, 1) := by decide +kernel
theorem dX8_openness_24 : decode cX8_openness 24 = .ok (.iload_n 1, 1) := by decide +kernel
theorem dX8_openness_25 : decode cX8_openness 25 = .ok (.ifCond .gt 5, 3) := by decide +kernel
theorem dX8_openness_28 : decode cX8_openness 28 = .ok (.dconst 0, 1) := by decide +kernel
theorem dX8_openness_29 : decode cX8_openness 29 = .ok (.dreturn, 1) := by decide +kernel
theorem dX8_openness_30 : decode cX8_openness 30 = .ok (.aload_n 0, 1) := by decide +kernel
theorem dX8_openness_31 : decode cX8_openness 31 = .ok (.getfield 21, 3) := by decide +kernel
theorem dX8_openness_34 : decode cX8_openness 34 = .ok (.aload_n 0, 1) := by decide +kernel
theorem dX8_openness_35 : decode cX8_openness 35 = .ok (.getfield 10, 3) := by decide +kernel
theorem dX8_openness_38 : decode cX8_openness 38 = .ok (.getfield 181, 3) := by decide +kernel
theorem dX8_openness_41 : decode cX8_openness 41 = .ok (.iconst 0, 1) := by decide +kernel
theorem dX8_openness_42 : decode cX8_openness 42 = .ok (.invokevirtual 188, 3) := by decide +kernel
theorem dX8_openness_45 : decode cX8_openness 45 = .ok (.iconst 0, 1) := by decide +kernel
theorem dX8_openness_46 : decode cX8_openness 46 = .ok (.istore_n 2, 1) := by decide +kernel
theorem dX8_openness_47 : decode cX8_openness 47 = .ok (.iconst 0, 1) := by decide +kernel
theorem dX8_openness_48 : decode cX8_openness 48 = .ok (.istore_n 3, 1) := by decide +kernel
theorem dX8_openness_49 : decode cX8_openness 49 = .ok (.iload_n 3, 1) := by decide +kernel
theorem dX8_openness_50 : decode cX8_openness 50 = .ok (.aload_n 0, 1) := by decide +kernel
theorem dX8_openness_51 : decode cX8_openness 51 = .ok (.getfield 10, 3) := by decide +kernel
theorem dX8_openness_54 : decode cX8_openness 54 = .ok (.getfield 45, 3) := by decide +kernel
theorem dX8_openness_57 : decode cX8_openness 57 = .ok (.getfield 49, 3) := by decide +kernel
theorem dX8_openness_60 : decode cX8_openness 60 = .ok (.if_icmp .ge 37, 3) := by decide +kernel
theorem dX8_openness_63 : decode cX8_openness 63 = .ok (.iconst 0, 1) := by decide +kernel
theorem dX8_openness_64 : decode cX8_openness 64 = .ok (.istore 4, 2) := by decide +kernel
theorem dX8_openness_66 : decode cX8_openness 66 = .ok (.iload 4, 2) := by decide +kernel
theorem dX8_openness_68 : decode cX8_openness 68 = .ok (.iconst 5, 1) := by decide +kernel
theorem dX8_openness_69 : decode cX8_openness 69 = .ok (.if_icmp .ge 22, 3) := by decide +kernel
theorem dX8_openness_72 : decode cX8_openness 72 = .ok (.iload_n 2, 1) := by decide +kernel
theorem dX8_openness_73 : decode cX8_openness 73 = .ok (.aload_n 0, 1) := by decide +kernel
theorem dX8_openness_74 : decode cX8_openness 74 = .ok (.getfield 21, 3) := by decide +kernel
theorem dX8_openness_77 : decode cX8_openness 77 = .ok (.iload_n 3, 1) := by decide +kernel
theorem dX8_openness_78 : decode cX8_openness 78 = .ok (.iload 4, 2) := by decide +kernel
theorem dX8_openness_80 : decode cX8_openness 80 = .ok (.invokevirtual 242, 3) := by decide +kernel
theorem dX8_openness_83 : decode cX8_openness 83 = .ok (.iadd, 1) := by decide +kernel
theorem dX8_openness_84 : decode cX8_openness 84 = .ok (.istore_n 2, 1) := by decide +kernel
theorem dX8_openness_85 : decode cX8_openness 85 = .ok (.iinc 4 1, 3) := by decide +kernel
theorem dX8_openness_88 : decode cX8_openness 88 = .ok (.goto (-22), 3) := by decide +kernel
theorem dX8_openness_91 : decode cX8_openness 91 = .ok (.iinc 3 1, 3) := by decide +kernel
theorem dX8_openness_94 : decode cX8_openness 94 = .ok (.goto (-45), 3) := by decide +kernel
theorem dX8_openness_97 : decode cX8_openness 97 = .ok (.iload_n 2, 1) := by decide +kernel
theorem dX8_openness_98 : decode cX8_openness 98 = .ok (.i2d, 1) := by decide +kernel
theorem dX8_openness_99 : decode cX8_openness 99 = .ok (.iload_n 1, 1) := by decide +kernel
theorem dX8_openness_100 : decode cX8_openness 100 = .ok (.i2d, 1) := by decide +kernel
theorem dX8_openness_101 : decode cX8_openness 101 = .ok (.ddiv, 1) := by decide +kernel
theorem dX8_openness_102 : decode cX8_openness 102 = .ok (.dreturn, 1) := by decide +kernel
theorem dX8_digest_0 : decode cX8_digest 0 = .ok (.aload_n 0, 1) := by decide +kernel
theorem dX8_digest_1 : decode cX8_digest 1 = .ok (.getfield 21, 3) := by decide +kernel
theorem dX8_digest_4 : decode cX8_digest 4 = .ok (.aload_n 0, 1) := by decide +kernel
theorem dX8_digest_5 : decode cX8_digest 5 = .ok (.getfield 10, 3) := by decide +kernel
theorem dX8_digest_8 : decode cX8_digest 8 = .ok (.getfield 181, 3) := by decide +kernel
theorem dX8_digest_11 : decode cX8_digest 11 = .ok (.iconst 0, 1) := by decide +kernel
theorem dX8_digest_12 : decode cX8_digest 12 = .ok (.invokevirtual 188, 3) := by decide +kernel
theorem dX8_digest_15 : decode cX8_digest 15 = .ok (.aload_n 0, 1) := by decide +kernel
theorem dX8_digest_16 : decode cX8_digest 16 = .ok (.ldc2_w 267, 3) := by decide +kernel
theorem dX8_digest_19 : decode cX8_digest 19 = .ok (.invokevirtual 269, 3) := by decide +kernel
theorem dX8_digest_22 : decode cX8_digest 22 = .ok (.lstore_n 1, 1) := by decide +kernel
theorem dX8_digest_23 : decode cX8_digest 23 = .ok (.aload_n 0, 1) := by decide +kernel
theorem dX8_digest_24 : decode cX8_digest 24 = .ok (.lload_n 1, 1) := by decide +kernel
theorem dX8_digest_25 : decode cX8_digest 25 = .ok (.invokevirtual 273, 3) := by decide +kernel
theorem dX8_digest_28 : decode cX8_digest 28 = .ok (.lstore_n 1, 1) := by decide +kernel
theorem dX8_digest_29 : decode cX8_digest 29 = .ok (.iconst 0, 1) := by decide +kernel
theorem dX8_digest_30 : decode cX8_digest 30 = .ok (.istore_n 3, 1) := by decide +kernel
theorem dX8_digest_31 : decode cX8_digest 31 = .ok (.iload_n 3, 1) := by decide +kernel
theorem dX8_digest_32 : decode cX8_digest 32 = .ok (.aload_n 0, 1) := by decide +kernel
theorem dX8_digest_33 : decode cX8_digest 33 = .ok (.getfield 10, 3) := by decide +kernel
theorem dX8_digest_36 : decode cX8_digest 36 = .ok (.getfield 79, 3) := by decide +kernel
theorem dX8_digest_39 : decode cX8_digest 39 = .ok (.getfield 83, 3) := by decide +kernel
theorem dX8_digest_42 : decode cX8_digest 42 = .ok (.if_icmp .ge 29, 3) := by decide +kernel
theorem dX8_digest_45 : decode cX8_digest 45 = .ok (.lload_n 1, 1) := by decide +kernel
theorem dX8_digest_46 : decode cX8_digest 46 = .ok (.ldc2_w 276, 3) := by decide +kernel
theorem dX8_digest_49 : decode cX8_digest 49 = .ok (.lmul, 1) := by decide +kernel
theorem dX8_digest_50 : decode cX8_digest 50 = .ok (.aload_n 0, 1) := by decide +kernel
theorem dX8_digest_51 : decode cX8_digest 51 = .ok (.getfield 10, 3) := by decide +kernel
theorem dX8_digest_54 : decode cX8_digest 54 = .ok (.getfield 79, 3) := by decide +kernel
theorem dX8_digest_57 : decode cX8_digest 57 = .ok (.iload_n 3, 1) := by decide +kernel
theorem dX8_digest_58 : decode cX8_digest 58 = .ok (.iconst 0, 1) := by decide +kernel
theorem dX8_digest_59 : decode cX8_digest 59 = .ok (.invokevirtual 149, 3) := by decide +kernel
theorem dX8_digest_62 : decode cX8_digest 62 = .ok (.i2l, 1) := by decide +kernel
theorem dX8_digest_63 : decode cX8_digest 63 = .ok (.ladd, 1) := by decide +kernel
theorem dX8_digest_64 : decode cX8_digest 64 = .ok (.lstore_n 1, 1) := by decide +kernel
theorem dX8_digest_65 : decode cX8_digest 65 = .ok (.iinc 3 1, 3) := by decide +kernel
theorem dX8_digest_68 : decode cX8_digest 68 = .ok (.goto (-37), 3) := by decide +kernel
theorem dX8_digest_71 : decode cX8_digest 71 = .ok (.iconst 0, 1) := by decide +kernel
theorem dX8_digest_72 : decode cX8_digest 72 = .ok (.istore_n 3, 1) := by decide +kernel
theorem dX8_digest_73 : decode cX8_digest 73 = .ok (.iload_n 3, 1) := by decide +kernel
theorem dX8_digest_74 : decode cX8_digest 74 = .ok (.aload_n 0, 1) := by decide +kernel
theorem dX8_digest_75 : decode cX8_digest 75 = .ok (.getfield 10, 3) := by decide +kernel
theorem dX8_digest_78 : decode cX8_digest 78 = .ok (.getfield 204, 3) := by decide +kernel
theorem dX8_digest_81 : decode cX8_digest 81 = .ok (.getfield 208, 3) := by decide +kernel
theorem dX8_digest_84 : decode cX8_digest 84 = .ok (.if_icmp .ge 36, 3) := by decide +kernel
theorem dX8_digest_87 : decode cX8_digest 87 = .ok (.lload_n 1, 1) := by decide +kernel
theorem dX8_digest_88 : decode cX8_digest 88 = .ok (.ldc2_w 276, 3) := by decide +kernel
theorem dX8_digest_91 : decode cX8_digest 91 = .ok (.lmul, 1) := by decide +kernel
theorem dX8_digest_92 : decode cX8_digest 92 = .ok (.aload_n 0, 1) := by decide +kernel
theorem dX8_digest_93 : decode cX8_digest 93 = .ok (.getfield 21, 3) := by decide +kernel
theorem dX8_digest_96 : decode cX8_digest 96 = .ok (.getfield 223, 3) := by decide +kernel
theorem dX8_digest_99 : decode cX8_digest 99 = .ok (.iload_n 3, 1) := by decide +kernel
theorem dX8_digest_100 : decode cX8_digest 100 = .ok (.invokestatic 110, 3) := by decide +kernel
theorem dX8_digest_103 : decode cX8_digest 103 = .ok (.ifCond .eq 7, 3) := by decide +kernel
theorem dX8_digest_106 : decode cX8_digest 106 = .ok (.iconst 1, 1) := by decide +kernel
theorem dX8_digest_107 : decode cX8_digest 107 = .ok (.goto 4, 3) := by decide +kernel
theorem dX8_digest_110 : decode cX8_digest 110 = .ok (.iconst 0, 1) := by decide +kernel
theorem dX8_digest_111 : decode cX8_digest 111 = .ok (.i2l, 1) := by decide +kernel
theorem dX8_digest_112 : decode cX8_digest 112 = .ok (.ladd, 1) := by decide +kernel
theorem dX8_digest_113 : decode cX8_digest 113 = .ok (.lstore_n 1, 1) := by decide +kernel
theorem dX8_digest_114 : decode cX8_digest 114 = .ok (.iinc 3 1, 3) := by decide +kernel
theorem dX8_digest_117 : decode cX8_digest 117 = .ok (.goto (-44), 3) := by decide +kernel
theorem dX8_digest_120 : decode cX8_digest 120 = .ok (.aload_n 0, 1) := by decide +kernel
theorem dX8_digest_121 : decode cX8_digest 121 = .ok (.lload_n 1, 1) := by decide +kernel
theorem dX8_digest_122 : decode cX8_digest 122 = .ok (.invokevirtual 278, 3) := by decide +kernel
theorem dX8_digest_125 : decode cX8_digest 125 = .ok (.lstore_n 1, 1) := by decide +kernel
theorem dX8_digest_126 : decode cX8_digest 126 = .ok (.aload_n 0, 1) := by decide +kernel
theorem dX8_digest_127 : decode cX8_digest 127 = .ok (.lload_n 1, 1) := by decide +kernel
theorem dX8_digest_128 : decode cX8_digest 128 = .ok (.invokevirtual 281, 3) := by decide +kernel
theorem dX8_digest_131 : decode cX8_digest 131 = .ok (.lstore_n 1, 1) := by decide +kernel
theorem dX8_digest_132 : decode cX8_digest 132 = .ok (.iconst 0, 1) := by decide +kernel
theorem dX8_digest_133 : decode cX8_digest 133 = .ok (.istore_n 3, 1) := by decide +kernel
theorem dX8_digest_134 : decode cX8_digest 134 = .ok (.iload_n 3, 1) := by decide +kernel
theorem dX8_digest_135 : decode cX8_digest 135 = .ok (.bipush 6, 2) := by decide +kernel
theorem dX8_digest_137 : decode cX8_digest 137 = .ok (.if_icmp .ge 25, 3) := by decide +kernel
theorem dX8_digest_140 : decode cX8_digest 140 = .ok (.lload_n 1, 1) := by decide +kernel
theorem dX8_digest_141 : decode cX8_digest 141 = .ok (.ldc2_w 276, 3) := by decide +kernel
theorem dX8_digest_144 : decode cX8_digest 144 = .ok (.lmul, 1) := by decide +kernel
theorem dX8_digest_145 : decode cX8_digest 145 = .ok (.aload_n 0, 1) := by decide +kernel
theorem dX8_digest_146 : decode cX8_digest 146 = .ok (.getfield 33, 3) := by decide +kernel
theorem dX8_digest_149 : decode cX8_digest 149 = .ok (.iload_n 3, 1) := by decide +kernel
theorem dX8_digest_150 : decode cX8_digest 150 = .ok (.invokevirtual 98, 3) := by decide +kernel
theorem dX8_digest_153 : decode cX8_digest 153 = .ok (.i2l, 1) := by decide +kernel
theorem dX8_digest_154 : decode cX8_digest 154 = .ok (.ladd, 1) := by decide +kernel
theorem dX8_digest_155 : decode cX8_digest 155 = .ok (.lstore_n 1, 1) := by decide +kernel
theorem dX8_digest_156 : decode cX8_digest 156 = .ok (.iinc 3 1, 3) := by decide +kernel
theorem dX8_digest_159 : decode cX8_digest 159 = .ok (.goto (-25), 3) := by decide +kernel
theorem dX8_digest_162 : decode cX8_digest 162 = .ok (.aload_n 0, 1) := by decide +kernel
theorem dX8_digest_163 : decode cX8_digest 163 = .ok (.lload_n 1, 1) := by decide +kernel
theorem dX8_digest_164 : decode cX8_digest 164 = .ok (.invokevirtual 284, 3) := by decide +kernel
theorem dX8_digest_167 : decode cX8_digest 167 = .ok (.lstore_n 1, 1) := by decide +kernel
theorem dX8_digest_168 : decode cX8_digest 168 = .ok (.lload_n 1, 1) := by decide +kernel
theorem dX8_digest_169 : decode cX8_digest 169 = .ok (.ldc2_w 276, 3) := by decide +kernel
theorem dX8_digest_172 : decode cX8_digest 172 = .ok (.lmul, 1) := by decide +kernel
theorem dX8_digest_173 : decode cX8_digest 173 = .ok (.aload_n 0, 1) := by decide +kernel
theorem dX8_digest_174 : decode cX8_digest 174 = .ok (.getfield 21, 3) := by decide +kernel
theorem dX8_digest_177 : decode cX8_digest 177 = .ok (.invokevirtual 254, 3) := by decide +kernel
theorem dX8_digest_180 : decode cX8_digest 180 = .ok (.i2l, 1) := by decide +kernel
theorem dX8_digest_181 : decode cX8_digest 181 = .ok (.ladd, 1) := by decide +kernel
theorem dX8_digest_182 : decode cX8_digest 182 = .ok (.lreturn, 1) := by decide +kernel
theorem dX8_withNumbers_0 : decode cX8_withNumbers 0 = .ok (.lload_n 1, 1) := by decide +kernel
theorem dX8_withNumbers_1 : decode cX8_withNumbers 1 = .ok (.ldc2_w 276, 3) := by decide +kernel
theorem dX8_withNumbers_4 : decode cX8_withNumbers 4 = .ok (.lmul, 1) := by decide +kernel
theorem dX8_withNumbers_5 : decode cX8_withNumbers 5 = .ok (.aload_n 0, 1) := by decide +kernel
theorem dX8_withNumbers_6 : decode cX8_withNumbers 6 = .ok (.getfield 10, 3) := by decide +kernel
theorem dX8_withNumbers_9 : decode cX8_withNumbers 9 = .ok (.getfield 45, 3) := by decide +kernel
theorem dX8_withNumbers_12 : decode cX8_withNumbers 12 = .ok (.getfield 49, 3) := by decide +kernel
theorem dX8_withNumbers_15 : decode cX8_withNumbers 15 = .ok (.i2l, 1) := by decide +kernel
theorem dX8_withNumbers_16 : decode cX8_withNumbers 16 = .ok (.ladd, 1) := by decide +kernel
theorem dX8_withNumbers_17 : decode cX8_withNumbers 17 = .ok (.lstore_n 3, 1) := by decide +kernel
theorem dX8_withNumbers_18 : decode cX8_withNumbers 18 = .ok (.lload_n 3, 1) := by decide +kernel
theorem dX8_withNumbers_19 : decode cX8_withNumbers 19 = .ok (.ldc2_w 276, 3) := by decide +kernel
theorem dX8_withNumbers_22 : decode cX8_withNumbers 22 = .ok (.lmul, 1) := by decide +kernel
theorem dX8_withNumbers_23 : decode cX8_withNumbers 23 = .ok (.aload_n 0, 1) := by decide +kernel
theorem dX8_withNumbers_24 : decode cX8_withNumbers 24 = .ok (.getfield 10, 3) := by decide +kernel
theorem dX8_withNumbers_27 : decode cX8_withNumbers 27 = .ok (.getfield 62, 3) := by decide +kernel
theorem dX8_withNumbers_30 : decode cX8_withNumbers 30 = .ok (.getfield 66, 3) := by decide +kernel
theorem dX8_withNumbers_33 : decode cX8_withNumbers 33 = .ok (.i2l, 1) := by decide +kernel
theorem dX8_withNumbers_34 : decode cX8_withNumbers 34 = .ok (.ladd, 1) := by decide +kernel
theorem dX8_withNumbers_35 : decode cX8_withNumbers 35 = .ok (.lstore_n 3, 1) := by decide +kernel
theorem dX8_withNumbers_36 : decode cX8_withNumbers 36 = .ok (.lload_n 3, 1) := by decide +kernel
theorem dX8_withNumbers_37 : decode cX8_withNumbers 37 = .ok (.ldc2_w 276, 3) := by decide +kernel
theorem dX8_withNumbers_40 : decode cX8_withNumbers 40 = .ok (.lmul, 1) := by decide +kernel
theorem dX8_withNumbers_41 : decode cX8_withNumbers 41 = .ok (.aload_n 0, 1) := by decide +kernel
theorem dX8_withNumbers_42 : decode cX8_withNumbers 42 = .ok (.getfield 10, 3) := by decide +kernel
theorem dX8_withNumbers_45 : decode cX8_withNumbers 45 = .ok (.getfield 79, 3) := by decide +kernel
theorem dX8_withNumbers_48 : decode cX8_withNumbers 48 = .ok (.getfield 83, 3) := by decide +kernel
theorem dX8_withNumbers_51 : decode cX8_withNumbers 51 = .ok (.i2l, 1) := by decide +kernel
theorem dX8_withNumbers_52 : decode cX8_withNumbers 52 = .ok (.ladd, 1) := by decide +kernel
theorem dX8_withNumbers_53 : decode cX8_withNumbers 53 = .ok (.lstore_n 3, 1) := by decide +kernel
theorem dX8_withNumbers_54 : decode cX8_withNumbers 54 = .ok (.lload_n 3, 1) := by decide +kernel
theorem dX8_withNumbers_55 : decode cX8_withNumbers 55 = .ok (.ldc2_w 276, 3) := by decide +kernel
theorem dX8_withNumbers_58 : decode cX8_withNumbers 58 = .ok (.lmul, 1) := by decide +kernel
theorem dX8_withNumbers_59 : decode cX8_withNumbers 59 = .ok (.aload_n 0, 1) := by decide +kernel
theorem dX8_withNumbers_60 : decode cX8_withNumbers 60 = .ok (.getfield 10, 3) := by decide +kernel
theorem dX8_withNumbers_63 : decode cX8_withNumbers 63 = .ok (.getfield 152, 3) := by decide +kernel
theorem dX8_withNumbers_66 : decode cX8_withNumbers 66 = .ok (.getfield 156, 3) := by decide +kernel
theorem dX8_withNumbers_69 : decode cX8_withNumbers 69 = .ok (.i2l, 1) := by decide +kernel
theorem dX8_withNumbers_70 : decode cX8_withNumbers 70 = .ok (.ladd, 1) := by decide +kernel
theorem dX8_withNumbers_71 : decode cX8_withNumbers 71 = .ok (.lstore_n 3, 1) := by decide +kernel
theorem dX8_withNumbers_72 : decode cX8_withNumbers 72 = .ok (.lload_n 3, 1) := by decide +kernel
theorem dX8_withNumbers_73 : decode cX8_withNumbers 73 = .ok (.ldc2_w 276, 3) := by decide +kernel
theorem dX8_withNumbers_76 : decode cX8_withNumbers 76 = .ok (.lmul, 1) := by decide +kernel
theorem dX8_withNumbers_77 : decode cX8_withNumbers 77 = .ok (.aload_n 0, 1) := by decide +kernel
theorem dX8_withNumbers_78 : decode cX8_withNumbers 78 = .ok (.getfield 10, 3) := by decide +kernel
theorem dX8_withNumbers_81 : decode cX8_withNumbers 81 = .ok (.getfield 204, 3) := by decide +kernel
theorem dX8_withNumbers_84 : decode cX8_withNumbers 84 = .ok (.getfield 208, 3) := by decide +kernel
theorem dX8_withNumbers_87 : decode cX8_withNumbers 87 = .ok (.i2l, 1) := by decide +kernel
theorem dX8_withNumbers_88 : decode cX8_withNumbers 88 = .ok (.ladd, 1) := by decide +kernel
theorem dX8_withNumbers_89 : decode cX8_withNumbers 89 = .ok (.lstore_n 3, 1) := by decide +kernel
theorem dX8_withNumbers_90 : decode cX8_withNumbers 90 = .ok (.lload_n 3, 1) := by decide +kernel
theorem dX8_withNumbers_91 : decode cX8_withNumbers 91 = .ok (.ldc2_w 276, 3) := by decide +kernel
theorem dX8_withNumbers_94 : decode cX8_withNumbers 94 = .ok (.lmul, 1) := by decide +kernel
theorem dX8_withNumbers_95 : decode cX8_withNumbers 95 = .ok (.aload_n 0, 1) := by decide +kernel
theorem dX8_withNumbers_96 : decode cX8_withNumbers 96 = .ok (.getfield 10, 3) := by decide +kernel
theorem dX8_withNumbers_99 : decode cX8_withNumbers 99 = .ok (.getfield 195, 3) := by decide +kernel
theorem dX8_withNumbers_102 : decode cX8_withNumbers 102 = .ok (.i2l, 1) := by decide +kernel
theorem dX8_withNumbers_103 : decode cX8_withNumbers 103 = .ok (.ladd, 1) := by decide +kernel
theorem dX8_withNumbers_104 : decode cX8_withNumbers 104 = .ok (.lreturn, 1) := by decide +kernel
theorem dX8_withNear_0 : decode cX8_withNear 0 = .ok (.lload_n 1, 1) := by decide +kernel
theorem dX8_withNear_1 : decode cX8_withNear 1 = .ok (.lstore_n 3, 1) := by decide +kernel
theorem dX8_withNear_2 : decode cX8_withNear 2 = .ok (.iconst 0, 1) := by decide +kernel
theorem dX8_withNear_3 : decode cX8_withNear 3 = .ok (.istore 5, 2) := by decide +kernel
theorem dX8_withNear_5 : decode cX8_withNear 5 = .ok (.iload 5, 2) := by decide +kernel
theorem dX8_withNear_7 : decode cX8_withNear 7 = .ok (.aload_n 0, 1) := by decide +kernel
theorem dX8_withNear_8 : decode cX8_withNear 8 = .ok (.getfield 10, 3) := by decide +kernel
theorem dX8_withNear_11 : decode cX8_withNear 11 = .ok (.getfield 45, 3) := by decide +kernel
theorem dX8_withNear_14 : decode cX8_withNear 14 = .ok (.getfield 49, 3) := by decide +kernel
theorem dX8_withNear_17 : decode cX8_withNear 17 = .ok (.if_icmp .ge 68, 3) := by decide +kernel
theorem dX8_withNear_20 : decode cX8_withNear 20 = .ok (.iconst 0, 1) := by decide +kernel
theorem dX8_withNear_21 : decode cX8_withNear 21 = .ok (.istore 6, 2) := by decide +kernel
theorem dX8_withNear_23 : decode cX8_withNear 23 = .ok (.iload 6, 2) := by decide +kernel
theorem dX8_withNear_25 : decode cX8_withNear 25 = .ok (.aload_n 0, 1) := by decide +kernel
theorem dX8_withNear_26 : decode cX8_withNear 26 = .ok (.getfield 10, 3) := by decide +kernel
theorem dX8_withNear_29 : decode cX8_withNear 29 = .ok (.getfield 62, 3) := by decide +kernel
theorem dX8_withNear_32 : decode cX8_withNear 32 = .ok (.getfield 66, 3) := by decide +kernel
theorem dX8_withNear_35 : decode cX8_withNear 35 = .ok (.if_icmp .ge 44, 3) := by decide +kernel
theorem dX8_withNear_38 : decode cX8_withNear 38 = .ok (.lload_n 3, 1) := by decide +kernel
theorem dX8_withNear_39 : decode cX8_withNear 39 = .ok (.ldc2_w 276, 3) := by decide +kernel
theorem dX8_withNear_42 : decode cX8_withNear 42 = .ok (.lmul, 1) := by decide +kernel
theorem dX8_withNear_43 : decode cX8_withNear 43 = .ok (.aload_n 0, 1) := by decide +kernel
theorem dX8_withNear_44 : decode cX8_withNear 44 = .ok (.getfield 10, 3) := by decide +kernel
theorem dX8_withNear_47 : decode cX8_withNear 47 = .ok (.getfield 62, 3) := by decide +kernel
theorem dX8_withNear_50 : decode cX8_withNear 50 = .ok (.aload_n 0, 1) := by decide +kernel
theorem dX8_withNear_51 : decode cX8_withNear 51 = .ok (.getfield 10, 3) := by decide +kernel
theorem dX8_withNear_54 : decode cX8_withNear 54 = .ok (.getfield 45, 3) := by decide +kernel
theorem dX8_withNear_57 : decode cX8_withNear 57 = .ok (.getfield 95, 3) := by decide +kernel
theorem dX8_withNear_60 : decode cX8_withNear 60 = .ok (.iload 5, 2) := by decide +kernel
theorem dX8_withNear_62 : decode cX8_withNear 62 = .ok (.invokevirtual 98, 3) := by decide +kernel
theorem dX8_withNear_65 : decode cX8_withNear 65 = .ok (.iload 6, 2) := by decide +kernel
theorem dX8_withNear_67 : decode cX8_withNear 67 = .ok (.invokevirtual 146, 3) := by decide +kernel
theorem dX8_withNear_70 : decode cX8_withNear 70 = .ok (.i2l, 1) := by decide +kernel
theorem dX8_withNear_71 : decode cX8_withNear 71 = .ok (.ladd, 1) := by decide +kernel
theorem dX8_withNear_72 : decode cX8_withNear 72 = .ok (.lstore_n 3, 1) := by decide +kernel
theorem dX8_withNear_73 : decode cX8_withNear 73 = .ok (.iinc 6 1, 3) := by decide +kernel
theorem dX8_withNear_76 : decode cX8_withNear 76 = .ok (.goto (-53), 3) := by decide +kernel
theorem dX8_withNear_79 : decode cX8_withNear 79 = .ok (.iinc 5 1, 3) := by decide +kernel
theorem dX8_withNear_82 : decode cX8_withNear 82 = .ok (.goto (-77), 3) := by decide +kernel
theorem dX8_withNear_85 : decode cX8_withNear 85 = .ok (.lload_n 3, 1) := by decide +kernel
theorem dX8_withNear_86 : decode cX8_withNear 86 = .ok (.lreturn, 1) := by decide +kernel
theorem dX8_withDecisions_0 : decode cX8_withDecisions 0 = .ok (.lload_n 1, 1) := by decide +kernel
theorem dX8_withDecisions_1 : decode cX8_withDecisions 1 = .ok (.lstore_n 3, 1) := by decide +kernel
theorem dX8_withDecisions_2 : decode cX8_withDecisions 2 = .ok (.iconst 0, 1) := by decide +kernel
theorem dX8_withDecisions_3 : decode cX8_withDecisions 3 = .ok (.istore 5, 2) := by decide +kernel
theorem dX8_withDecisions_5 : decode cX8_withDecisions 5 = .ok (.iload 5, 2) := by decide +kernel
theorem dX8_withDecisions_7 : decode cX8_withDecisions 7 = .ok (.aload_n 0, 1) := by decide +kernel
theorem dX8_withDecisions_8 : decode cX8_withDecisions 8 = .ok (.getfield 10, 3) := by decide +kernel
theorem dX8_withDecisions_11 : decode cX8_withDecisions 11 = .ok (.getfield 45, 3) := by decide +kernel
theorem dX8_withDecisions_14 : decode cX8_withDecisions 14 = .ok (.getfield 49, 3) := by decide +kernel
theorem dX8_withDecisions_17 : decode cX8_withDecisions 17 = .ok (.if_icmp .ge 69, 3) := by decide +kernel
theorem dX8_withDecisions_20 : decode cX8_withDecisions 20 = .ok (.iconst 0, 1) := by decide +kernel
theorem dX8_withDecisions_21 : decode cX8_withDecisions 21 = .ok (.istore 6, 2) := by decide +kernel
theorem dX8_withDecisions_23 : decode cX8_withDecisions 23 = .ok (.iload 6, 2) := by decide +kernel
theorem dX8_withDecisions_25 : decode cX8_withDecisions 25 = .ok (.iconst 5, 1) := by decide +kernel
theorem dX8_withDecisions_26 : decode cX8_withDecisions 26 = .ok (.if_icmp .ge 54, 3) := by decide +kernel
theorem dX8_withDecisions_29 : decode cX8_withDecisions 29 = .ok (.iconst 0, 1) := by decide +kernel
theorem dX8_withDecisions_30 : decode cX8_withDecisions 30 = .ok (.istore 7, 2) := by decide +kernel
theorem dX8_withDecisions_32 : decode cX8_withDecisions 32 = .ok (.iload 7, 2) := by decide +kernel
theorem dX8_withDecisions_34 : decode cX8_withDecisions 34 = .ok (.aload_n 0, 1) := by decide +kernel
theorem dX8_withDecisions_35 : decode cX8_withDecisions 35 = .ok (.getfield 10, 3) := by decide +kernel
theorem dX8_withDecisions_38 : decode cX8_withDecisions 38 = .ok (.getfield 79, 3) := by decide +kernel
theorem dX8_withDecisions_41 : decode cX8_withDecisions 41 = .ok (.getfield 83, 3) := by decide +kernel
theorem dX8_withDecisions_44 : decode cX8_withDecisions 44 = .ok (.if_icmp .ge 30, 3) := by decide +kernel
theorem dX8_withDecisions_47 : decode cX8_withDecisions 47 = .ok (.lload_n 3, 1) := by decide +kernel
theorem dX8_withDecisions_48 : decode cX8_withDecisions 48 = .ok (.ldc2_w 276, 3) := by decide +kernel
theorem dX8_withDecisions_51 : decode cX8_withDecisions 51 = .ok (.lmul, 1) := by decide +kernel
theorem dX8_withDecisions_52 : decode cX8_withDecisions 52 = .ok (.aload_n 0, 1) := by decide +kernel
theorem dX8_withDecisions_53 : decode cX8_withDecisions 53 = .ok (.getfield 21, 3) := by decide +kernel
theorem dX8_withDecisions_56 : decode cX8_withDecisions 56 = .ok (.iload 5, 2) := by decide +kernel
theorem dX8_withDecisions_58 : decode cX8_withDecisions 58 = .ok (.iload 6, 2) := by decide +kernel
theorem dX8_withDecisions_60 : decode cX8_withDecisions 60 = .ok (.iload 7, 2) := by decide +kernel
theorem dX8_withDecisions_62 : decode cX8_withDecisions 62 = .ok (.invokevirtual 226, 3) := by decide +kernel
theorem dX8_withDecisions_65 : decode cX8_withDecisions 65 = .ok (.i2l, 1) := by decide +kernel
theorem dX8_withDecisions_66 : decode cX8_withDecisions 66 = .ok (.ladd, 1) := by decide +kernel
theorem dX8_withDecisions_67 : decode cX8_withDecisions 67 = .ok (.lstore_n 3, 1) := by decide +kernel
theorem dX8_withDecisions_68 : decode cX8_withDecisions 68 = .ok (.iinc 7 1, 3) := by decide +kernel
theorem dX8_withDecisions_71 : decode cX8_withDecisions 71 = .ok (.goto (-39), 3) := by decide +kernel
theorem dX8_withDecisions_74 : decode cX8_withDecisions 74 = .ok (.iinc 6 1, 3) := by decide +kernel
theorem dX8_withDecisions_77 : decode cX8_withDecisions 77 = .ok (.goto (-54), 3) := by decide +kernel
theorem dX8_withDecisions_80 : decode cX8_withDecisions 80 = .ok (.iinc 5 1, 3) := by decide +kernel
theorem dX8_withDecisions_83 : decode cX8_withDecisions 83 = .ok (.goto (-78), 3) := by decide +kernel
theorem dX8_withDecisions_86 : decode cX8_withDecisions 86 = .ok (.lload_n 3, 1) := by decide +kernel
theorem dX8_withDecisions_87 : decode cX8_withDecisions 87 = .ok (.lreturn, 1) := by decide +kernel
theorem dX8_withReasons_0 : decode cX8_withReasons 0 = .ok (.lload_n 1, 1) := by decide +kernel
theorem dX8_withReasons_1 : decode cX8_withReasons 1 = .ok (.lstore_n 3, 1) := by decide +kernel
theorem dX8_withReasons_2 : decode cX8_withReasons 2 = .ok (.iconst 0, 1) := by decide +kernel
theorem dX8_withReasons_3 : decode cX8_withReasons 3 = .ok (.istore 5, 2) := by decide +kernel
theorem dX8_withReasons_5 : decode cX8_withReasons 5 = .ok (.iload 5, 2) := by decide +kernel
theorem dX8_withReasons_7 : decode cX8_withReasons 7 = .ok (.aload_n 0, 1) := by decide +kernel
theorem dX8_withReasons_8 : decode cX8_withReasons 8 = .ok (.getfield 10, 3) := by decide +kernel
theorem dX8_withReasons_11 : decode cX8_withReasons 11 = .ok (.getfield 45, 3) := by decide +kernel
theorem dX8_withReasons_14 : decode cX8_withReasons 14 = .ok (.getfield 49, 3) := by decide +kernel
theorem dX8_withReasons_17 : decode cX8_withReasons 17 = .ok (.if_icmp .ge 69, 3) := by decide +kernel
theorem dX8_withReasons_20 : decode cX8_withReasons 20 = .ok (.iconst 0, 1) := by decide +kernel
theorem dX8_withReasons_21 : decode cX8_withReasons 21 = .ok (.istore 6, 2) := by decide +kernel
theorem dX8_withReasons_23 : decode cX8_withReasons 23 = .ok (.iload 6, 2) := by decide +kernel
theorem dX8_withReasons_25 : decode cX8_withReasons 25 = .ok (.iconst 5, 1) := by decide +kernel
theorem dX8_withReasons_26 : decode cX8_withReasons 26 = .ok (.if_icmp .ge 54, 3) := by decide +kernel
theorem dX8_withReasons_29 : decode cX8_withReasons 29 = .ok (.iconst 0, 1) := by decide +kernel
theorem dX8_withReasons_30 : decode cX8_withReasons 30 = .ok (.istore 7, 2) := by decide +kernel
theorem dX8_withReasons_32 : decode cX8_withReasons 32 = .ok (.iload 7, 2) := by decide +kernel
theorem dX8_withReasons_34 : decode cX8_withReasons 34 = .ok (.aload_n 0, 1) := by decide +kernel
theorem dX8_withReasons_35 : decode cX8_withReasons 35 = .ok (.getfield 10, 3) := by decide +kernel
theorem dX8_withReasons_38 : decode cX8_withReasons 38 = .ok (.getfield 79, 3) := by decide +kernel
theorem dX8_withReasons_41 : decode cX8_withReasons 41 = .ok (.getfield 83, 3) := by decide +kernel
theorem dX8_withReasons_44 : decode cX8_withReasons 44 = .ok (.if_icmp .ge 30, 3) := by decide +kernel
theorem dX8_withReasons_47 : decode cX8_withReasons 47 = .ok (.lload_n 3, 1) := by decide +kernel
theorem dX8_withReasons_48 : decode cX8_withReasons 48 = .ok (.ldc2_w 276, 3) := by decide +kernel
theorem dX8_withReasons_51 : decode cX8_withReasons 51 = .ok (.lmul, 1) := by decide +kernel
theorem dX8_withReasons_52 : decode cX8_withReasons 52 = .ok (.aload_n 0, 1) := by decide +kernel
theorem dX8_withReasons_53 : decode cX8_withReasons 53 = .ok (.getfield 21, 3) := by decide +kernel
theorem dX8_withReasons_56 : decode cX8_withReasons 56 = .ok (.iload 5, 2) := by decide +kernel
theorem dX8_withReasons_58 : decode cX8_withReasons 58 = .ok (.iload 6, 2) := by decide +kernel
theorem dX8_withReasons_60 : decode cX8_withReasons 60 = .ok (.iload 7, 2) := by decide +kernel
theorem dX8_withReasons_62 : decode cX8_withReasons 62 = .ok (.invokevirtual 229, 3) := by decide +kernel
theorem dX8_withReasons_65 : decode cX8_withReasons 65 = .ok (.i2l, 1) := by decide +kernel
theorem dX8_withReasons_66 : decode cX8_withReasons 66 = .ok (.ladd, 1) := by decide +kernel
theorem dX8_withReasons_67 : decode cX8_withReasons 67 = .ok (.lstore_n 3, 1) := by decide +kernel
theorem dX8_withReasons_68 : decode cX8_withReasons 68 = .ok (.iinc 7 1, 3) := by decide +kernel
theorem dX8_withReasons_71 : decode cX8_withReasons 71 = .ok (.goto (-39), 3) := by decide +kernel
theorem dX8_withReasons_74 : decode cX8_withReasons 74 = .ok (.iinc 6 1, 3) := by decide +kernel
theorem dX8_withReasons_77 : decode cX8_withReasons 77 = .ok (.goto (-54), 3) := by decide +kernel
theorem dX8_withReasons_80 : decode cX8_withReasons 80 = .ok (.iinc 5 1, 3) := by decide +kernel
theorem dX8_withReasons_83 : decode cX8_withReasons 83 = .ok (.goto (-78), 3) := by decide +kernel
theorem dX8_withReasons_86 : decode cX8_withReasons 86 = .ok (.lload_n 3, 1) := by decide +kernel
theorem dX8_withReasons_87 : decode cX8_withReasons 87 = .ok (.lreturn, 1) := by decide +kernel
theorem dX8_withDone_0 : decode cX8_withDone 0 = .ok (.lload_n 1, 1) := by decide +kernel
theorem dX8_withDone_1 : decode cX8_withDone 1 = .ok (.lstore_n 3, 1) := by decide +kernel
theorem dX8_withDone_2 : decode cX8_withDone 2 = .ok (.iconst 0, 1) := by decide +kernel
theorem dX8_withDone_3 : decode cX8_withDone 3 = .ok (.istore 5, 2) := by decide +kernel
theorem dX8_withDone_5 : decode cX8_withDone 5 = .ok (.iload 5, 2) := by decide +kernel
theorem dX8_withDone_7 : decode cX8_withDone 7 = .ok (.aload_n 0, 1) := by decide +kernel
theorem dX8_withDone_8 : decode cX8_withDone 8 = .ok (.getfield 10, 3) := by decide +kernel
theorem dX8_withDone_11 : decode cX8_withDone 11 = .ok (.getfield 45, 3) := by decide +kernel
theorem dX8_withDone_14 : decode cX8_withDone 14 = .ok (.getfield 49, 3) := by decide +kernel
theorem dX8_withDone_17 : decode cX8_withDone 17 = .ok (.if_icmp .ge 55, 3) := by decide +kernel
theorem dX8_withDone_20 : decode cX8_withDone 20 = .ok (.iconst 0, 1) := by decide +kernel
theorem dX8_withDone_21 : decode cX8_withDone 21 = .ok (.istore 6, 2) := by decide +kernel
theorem dX8_withDone_23 : decode cX8_withDone 23 = .ok (.iload 6, 2) := by decide +kernel
theorem dX8_withDone_25 : decode cX8_withDone 25 = .ok (.aload_n 0, 1) := by decide +kernel
theorem dX8_withDone_26 : decode cX8_withDone 26 = .ok (.getfield 10, 3) := by decide +kernel
theorem dX8_withDone_29 : decode cX8_withDone 29 = .ok (.getfield 79, 3) := by decide +kernel
theorem dX8_withDone_32 : decode cX8_withDone 32 = .ok (.getfield 83, 3) := by decide +kernel
theorem dX8_withDone_35 : decode cX8_withDone 35 = .ok (.if_icmp .ge 31, 3) := by decide +kernel
theorem dX8_withDone_38 : decode cX8_withDone 38 = .ok (.lload_n 3, 1) := by decide +kernel
theorem dX8_withDone_39 : decode cX8_withDone 39 = .ok (.ldc2_w 276, 3) := by decide +kernel
theorem dX8_withDone_42 : decode cX8_withDone 42 = .ok (.lmul, 1) := by decide +kernel
theorem dX8_withDone_43 : decode cX8_withDone 43 = .ok (.aload_n 0, 1) := by decide +kernel
theorem dX8_withDone_44 : decode cX8_withDone 44 = .ok (.getfield 10, 3) := by decide +kernel
theorem dX8_withDone_47 : decode cX8_withDone 47 = .ok (.getfield 45, 3) := by decide +kernel
theorem dX8_withDone_50 : decode cX8_withDone 50 = .ok (.iload 5, 2) := by decide +kernel
theorem dX8_withDone_52 : decode cX8_withDone 52 = .ok (.iload 6, 2) := by decide +kernel
theorem dX8_withDone_54 : decode cX8_withDone 54 = .ok (.invokevirtual 235, 3) := by decide +kernel
theorem dX8_withDone_57 : decode cX8_withDone 57 = .ok (.i2l, 1) := by decide +kernel
theorem dX8_withDone_58 : decode cX8_withDone 58 = .ok (.ladd, 1) := by decide +kernel
theorem dX8_withDone_59 : decode cX8_withDone 59 = .ok (.lstore_n 3, 1) := by decide +kernel
theorem dX8_withDone_60 : decode cX8_withDone 60 = .ok (.iinc 6 1, 3) := by decide +kernel
theorem dX8_withDone_63 : decode cX8_withDone 63 = .ok (.goto (-40), 3) := by decide +kernel
theorem dX8_withDone_66 : decode cX8_withDone 66 = .ok (.iinc 5 1, 3) := by decide +kernel
theorem dX8_withDone_69 : decode cX8_withDone 69 = .ok (.goto (-64), 3) := by decide +kernel
theorem dX8_withDone_72 : decode cX8_withDone 72 = .ok (.lload_n 3, 1) := by decide +kernel
theorem dX8_withDone_73 : decode cX8_withDone 73 = .ok (.lreturn, 1) := by decide +kernel
theorem dX8_wouldBeAllowed_0 : decode cX8_wouldBeAllowed 0 = .ok (.aload_n 0, 1) := by decide +kernel
theorem dX8_wouldBeAllowed_1 : decode cX8_wouldBeAllowed 1 = .ok (.getfield 10, 3) := by decide +kernel
theorem dX8_wouldBeAllowed_4 : decode cX8_wouldBeAllowed 4 = .ok (.getfield 62, 3) := by decide +kernel
theorem dX8_wouldBeAllowed_7 : decode cX8_wouldBeAllowed 7 = .ok (.aload_n 0, 1) := by decide +kernel
theorem dX8_wouldBeAllowed_8 : decode cX8_wouldBeAllowed 8 = .ok (.getfield 10, 3) := by decide +kernel
theorem dX8_wouldBeAllowed_11 : decode cX8_wouldBeAllowed 11 = .ok (.getfield 62, 3) := by decide +kernel
theorem dX8_wouldBeAllowed_14 : decode cX8_wouldBeAllowed 14 = .ok (.iload_n 2, 1) := by decide +kernel
theorem dX8_wouldBeAllowed_15 : decode cX8_wouldBeAllowed 15 = .ok (.invokevirtual 101, 3) := by decide +kernel
theorem dX8_wouldBeAllowed_18 : decode cX8_wouldBeAllowed 18 = .ok (.invokevirtual 104, 3) := by decide +kernel
theorem dX8_wouldBeAllowed_21 : decode cX8_wouldBeAllowed 21 = .ok (.ifCond .eq 5, 3) := by decide +kernel
theorem dX8_wouldBeAllowed_24 : decode cX8_wouldBeAllowed 24 = .ok (.iconst 0, 1) := by decide +kernel
theorem dX8_wouldBeAllowed_25 : decode cX8_wouldBeAllowed 25 = .ok (.ireturn, 1) := by decide +kernel
theorem dX8_wouldBeAllowed_26 : decode cX8_wouldBeAllowed 26 = .ok (.aload_n 0, 1) := by decide +kernel
theorem dX8_wouldBeAllowed_27 : decode cX8_wouldBeAllowed 27 = .ok (.getfield 25, 3) := by decide +kernel
theorem dX8_wouldBeAllowed_30 : decode cX8_wouldBeAllowed 30 = .ok (.iload_n 1, 1) := by decide +kernel
theorem dX8_wouldBeAllowed_31 : decode cX8_wouldBeAllowed 31 = .ok (.iload_n 2, 1) := by decide +kernel
theorem dX8_wouldBeAllowed_32 : decode cX8_wouldBeAllowed 32 = .ok (.invokevirtual 261, 3) := by decide +kernel
theorem dX8_wouldBeAllowed_35 : decode cX8_wouldBeAllowed 35 = .ok (.aload_n 0, 1) := by decide +kernel
theorem dX8_wouldBeAllowed_36 : decode cX8_wouldBeAllowed 36 = .ok (.getfield 25, 3) := by decide +kernel
theorem dX8_wouldBeAllowed_39 : decode cX8_wouldBeAllowed 39 = .ok (.iload_n 1, 1) := by decide +kernel
theorem dX8_wouldBeAllowed_40 : decode cX8_wouldBeAllowed 40 = .ok (.iload_n 3, 1) := by decide +kernel
theorem dX8_wouldBeAllowed_41 : decode cX8_wouldBeAllowed 41 = .ok (.iload 4, 2) := by decide +kernel
theorem dX8_wouldBeAllowed_43 : decode cX8_wouldBeAllowed 43 = .ok (.invokevirtual 287, 3) := by decide +kernel
theorem dX8_wouldBeAllowed_46 : decode cX8_wouldBeAllowed 46 = .ok (.istore 5, 2) := by decide +kernel
theorem dX8_wouldBeAllowed_48 : decode cX8_wouldBeAllowed 48 = .ok (.iload 5, 2) := by decide +kernel
theorem dX8_wouldBeAllowed_50 : decode cX8_wouldBeAllowed 50 = .ok (.ifCond .eq 15, 3) := by decide +kernel
theorem dX8_wouldBeAllowed_53 : decode cX8_wouldBeAllowed 53 = .ok (.iload 5, 2) := by decide +kernel
theorem dX8_wouldBeAllowed_55 : decode cX8_wouldBeAllowed 55 = .ok (.iconst 1, 1) := by decide +kernel
theorem dX8_wouldBeAllowed_56 : decode cX8_wouldBeAllowed 56 = .ok (.if_icmp .ne 7, 3) := by decide +kernel
theorem dX8_wouldBeAllowed_59 : decode cX8_wouldBeAllowed 59 = .ok (.iconst 1, 1) := by decide +kernel
theorem dX8_wouldBeAllowed_60 : decode cX8_wouldBeAllowed 60 = .ok (.goto 4, 3) := by decide +kernel
theorem dX8_wouldBeAllowed_63 : decode cX8_wouldBeAllowed 63 = .ok (.iconst 0, 1) := by decide +kernel
theorem dX8_wouldBeAllowed_64 : decode cX8_wouldBeAllowed 64 = .ok (.ireturn, 1) := by decide +kernel
theorem dX8_wouldBeAllowed_65 : decode cX8_wouldBeAllowed 65 = .ok (.aload_n 0, 1) := by decide +kernel
theorem dX8_wouldBeAllowed_66 : decode cX8_wouldBeAllowed 66 = .ok (.getfield 25, 3) := by decide +kernel
theorem dX8_wouldBeAllowed_69 : decode cX8_wouldBeAllowed 69 = .ok (.invokevirtual 264, 3) := by decide +kernel
theorem dX8_wouldBeAllowed_72 : decode cX8_wouldBeAllowed 72 = .ok (.aload_n 0, 1) := by decide +kernel
theorem dX8_wouldBeAllowed_73 : decode cX8_wouldBeAllowed 73 = .ok (.getfield 25, 3) := by decide +kernel
theorem dX8_wouldBeAllowed_76 : decode cX8_wouldBeAllowed 76 = .ok (.iload_n 1, 1) := by decide +kernel
theorem dX8_wouldBeAllowed_77 : decode cX8_wouldBeAllowed 77 = .ok (.iload_n 3, 1) := by decide +kernel
theorem dX8_wouldBeAllowed_78 : decode cX8_wouldBeAllowed 78 = .ok (.iload 4, 2) := by decide +kernel
theorem dX8_wouldBeAllowed_80 : decode cX8_wouldBeAllowed 80 = .ok (.invokevirtual 290, 3) := by decide +kernel
theorem dX8_wouldBeAllowed_83 : decode cX8_wouldBeAllowed 83 = .ok (.ifCond .lt 7, 3) := by decide +kernel
theorem dX8_wouldBeAllowed_86 : decode cX8_wouldBeAllowed 86 = .ok (.iconst 1, 1) := by decide +kernel
theorem dX8_wouldBeAllowed_87 : decode cX8_wouldBeAllowed 87 = .ok (.goto 4, 3) := by decide +kernel
theorem dX8_wouldBeAllowed_90 : decode cX8_wouldBeAllowed 90 = .ok (.iconst 0, 1) := by decide +kernel
theorem dX8_wouldBeAllowed_91 : decode cX8_wouldBeAllowed 91 = .ok (.ireturn, 1) := by decide +kernel
theorem dX8_wouldSplitSomeone_0 : decode cX8_wouldSplitSomeone 0 = .ok (.aload_n 0, 1) := by decide +kernel
theorem dX8_wouldSplitSomeone_1 : decode cX8_wouldSplitSomeone 1 = .ok (.getfield 10, 3) := by decide +kernel
theorem dX8_wouldSplitSomeone_4 : decode cX8_wouldSplitSomeone 4 = .ok (.getfield 62, 3) := by decide +kernel
theorem dX8_wouldSplitSomeone_7 : decode cX8_wouldSplitSomeone 7 = .ok (.iconst 1, 1) := by decide +kernel
theorem dX8_wouldSplitSomeone_8 : decode cX8_wouldSplitSomeone 8 = .ok (.iload_n 2, 1) := by decide +kernel
theorem dX8_wouldSplitSomeone_9 : decode cX8_wouldSplitSomeone 9 = .ok (.ishl, 1) := by decide +kernel
theorem dX8_wouldSplitSomeone_10 : decode cX8_wouldSplitSomeone 10 = .ok (.invokevirtual 101, 3) := by decide +kernel
theorem dX8_wouldSplitSomeone_13 : decode cX8_wouldSplitSomeone 13 = .ok (.istore_n 3, 1) := by decide +kernel
theorem dX8_wouldSplitSomeone_14 : decode cX8_wouldSplitSomeone 14 = .ok (.iconst 0, 1) := by decide +kernel
theorem dX8_wouldSplitSomeone_15 : decode cX8_wouldSplitSomeone 15 = .ok (.istore 4, 2) := by decide +kernel
theorem dX8_wouldSplitSomeone_17 : decode cX8_wouldSplitSomeone 17 = .ok (.iload 4, 2) := by decide +kernel
theorem dX8_wouldSplitSomeone_19 : decode cX8_wouldSplitSomeone 19 = .ok (.aload_n 0, 1) := by decide +kernel
theorem dX8_wouldSplitSomeone_20 : decode cX8_wouldSplitSomeone 20 = .ok (.getfield 10, 3) := by decide +kernel
theorem dX8_wouldSplitSomeone_23 : decode cX8_wouldSplitSomeone 23 = .ok (.getfield 45, 3) := by decide +kernel
theorem dX8_wouldSplitSomeone_26 : decode cX8_wouldSplitSomeone 26 = .ok (.getfield 49, 3) := by decide +kernel
theorem dX8_wouldSplitSomeone_29 : decode cX8_wouldSplitSomeone 29 = .ok (.if_icmp .ge 64, 3) := by decide +kernel
theorem dX8_wouldSplitSomeone_32 : decode cX8_wouldSplitSomeone 32 = .ok (.aload_n 0, 1) := by decide +kernel
theorem dX8_wouldSplitSomeone_33 : decode cX8_wouldSplitSomeone 33 = .ok (.getfield 10, 3) := by decide +kernel
theorem dX8_wouldSplitSomeone_36 : decode cX8_wouldSplitSomeone 36 = .ok (.getfield 62, 3) := by decide +kernel
theorem dX8_wouldSplitSomeone_39 : decode cX8_wouldSplitSomeone 39 = .ok (.aload_n 0, 1) := by decide +kernel
theorem dX8_wouldSplitSomeone_40 : decode cX8_wouldSplitSomeone 40 = .ok (.getfield 10, 3) := by decide +kernel
theorem dX8_wouldSplitSomeone_43 : decode cX8_wouldSplitSomeone 43 = .ok (.getfield 45, 3) := by decide +kernel
theorem dX8_wouldSplitSomeone_46 : decode cX8_wouldSplitSomeone 46 = .ok (.getfield 95, 3) := by decide +kernel
theorem dX8_wouldSplitSomeone_49 : decode cX8_wouldSplitSomeone 49 = .ok (.iload 4, 2) := by decide +kernel
theorem dX8_wouldSplitSomeone_51 : decode cX8_wouldSplitSomeone 51 = .ok (.invokevirtual 98, 3) := by decide +kernel
theorem dX8_wouldSplitSomeone_54 : decode cX8_wouldSplitSomeone 54 = .ok (.invokevirtual 101, 3) := by decide +kernel
theorem dX8_wouldSplitSomeone_57 : decode cX8_wouldSplitSomeone 57 = .ok (.istore 5, 2) := by decide +kernel
theorem dX8_wouldSplitSomeone_59 : decode cX8_wouldSplitSomeone 59 = .ok (.iload 5, 2) := by decide +kernel
theorem dX8_wouldSplitSomeone_61 : decode cX8_wouldSplitSomeone 61 = .ok (.iload_n 1, 1) := by decide +kernel
theorem dX8_wouldSplitSomeone_62 : decode cX8_wouldSplitSomeone 62 = .ok (.invokestatic 110, 3) := by decide +kernel
theorem dX8_wouldSplitSomeone_65 : decode cX8_wouldSplitSomeone 65 = .ok (.ifCond .eq 22, 3) := by decide +kernel
theorem dX8_wouldSplitSomeone_68 : decode cX8_wouldSplitSomeone 68 = .ok (.aload_n 0, 1) := by decide +kernel
theorem dX8_wouldSplitSomeone_69 : decode cX8_wouldSplitSomeone 69 = .ok (.getfield 10, 3) := by decide +kernel
theorem dX8_wouldSplitSomeone_72 : decode cX8_wouldSplitSomeone 72 = .ok (.getfield 62, 3) := by decide +kernel
theorem dX8_wouldSplitSomeone_75 : decode cX8_wouldSplitSomeone 75 = .ok (.iload 5, 2) := by decide +kernel
theorem dX8_wouldSplitSomeone_77 : decode cX8_wouldSplitSomeone 77 = .ok (.iload_n 3, 1) := by decide +kernel
theorem dX8_wouldSplitSomeone_78 : decode cX8_wouldSplitSomeone 78 = .ok (.ior, 1) := by decide +kernel
theorem dX8_wouldSplitSomeone_79 : decode cX8_wouldSplitSomeone 79 = .ok (.invokevirtual 104, 3) := by decide +kernel
theorem dX8_wouldSplitSomeone_82 : decode cX8_wouldSplitSomeone 82 = .ok (.ifCond .eq 5, 3) := by decide +kernel
theorem dX8_wouldSplitSomeone_85 : decode cX8_wouldSplitSomeone 85 = .ok (.iconst 1, 1) := by decide +kernel
theorem dX8_wouldSplitSomeone_86 : decode cX8_wouldSplitSomeone 86 = .ok (.ireturn, 1) := by decide +kernel
theorem dX8_wouldSplitSomeone_87 : decode cX8_wouldSplitSomeone 87 = .ok (.iinc 4 1, 3) := by decide +kernel
theorem dX8_wouldSplitSomeone_90 : decode cX8_wouldSplitSomeone 90 = .ok (.goto (-73), 3) := by decide +kernel
theorem dX8_wouldSplitSomeone_93 : decode cX8_wouldSplitSomeone 93 = .ok (.iconst 0, 1) := by decide +kernel
theorem dX8_wouldSplitSomeone_94 : decode cX8_wouldSplitSomeone 94 = .ok (.ireturn, 1) := by decide +kernel
theorem dX8_isAnyoneWith_0 : decode cX8_isAnyoneWith 0 = .ok (.iconst 0, 1) := by decide +kernel
theorem dX8_isAnyoneWith_1 : decode cX8_isAnyoneWith 1 = .ok (.istore_n 3, 1) := by decide +kernel
theorem dX8_isAnyoneWith_2 : decode cX8_isAnyoneWith 2 = .ok (.iload_n 3, 1) := by decide +kernel
theorem dX8_isAnyoneWith_3 : decode cX8_isAnyoneWith 3 = .ok (.aload_n 0, 1) := by decide +kernel
theorem dX8_isAnyoneWith_4 : decode cX8_isAnyoneWith 4 = .ok (.getfield 10, 3) := by decide +kernel
theorem dX8_isAnyoneWith_7 : decode cX8_isAnyoneWith 7 = .ok (.getfield 45, 3) := by decide +kernel
theorem dX8_isAnyoneWith_10 : decode cX8_isAnyoneWith 10 = .ok (.getfield 49, 3) := by decide +kernel
theorem dX8_isAnyoneWith_13 : decode cX8_isAnyoneWith 13 = .ok (.if_icmp .ge 55, 3) := by decide +kernel
theorem dX8_isAnyoneWith_16 : decode cX8_isAnyoneWith 16 = .ok (.aload_n 0, 1) := by decide +kernel
theorem dX8_isAnyoneWith_17 : decode cX8_isAnyoneWith 17 = .ok (.getfield 10, 3) := by decide +kernel
theorem dX8_isAnyoneWith_20 : decode cX8_isAnyoneWith 20 = .ok (.getfield 62, 3) := by decide +kernel
theorem dX8_isAnyoneWith_23 : decode cX8_isAnyoneWith 23 = .ok (.aload_n 0, 1) := by decide +kernel
theorem dX8_isAnyoneWith_24 : decode cX8_isAnyoneWith 24 = .ok (.getfield 10, 3) := by decide +kernel
theorem dX8_isAnyoneWith_27 : decode cX8_isAnyoneWith 27 = .ok (.getfield 45, 3) := by decide +kernel
theorem dX8_isAnyoneWith_30 : decode cX8_isAnyoneWith 30 = .ok (.getfield 95, 3) := by decide +kernel
theorem dX8_isAnyoneWith_33 : decode cX8_isAnyoneWith 33 = .ok (.iload_n 3, 1) := by decide +kernel
theorem dX8_isAnyoneWith_34 : decode cX8_isAnyoneWith 34 = .ok (.invokevirtual 98, 3) := by decide +kernel
theorem dX8_isAnyoneWith_37 : decode cX8_isAnyoneWith 37 = .ok (.invokevirtual 101, 3) := by decide +kernel
theorem dX8_isAnyoneWith_40 : decode cX8_isAnyoneWith 40 = .ok (.istore 4, 2) := by decide +kernel
theorem dX8_isAnyoneWith_42 : decode cX8_isAnyoneWith 42 = .ok (.iload 4, 2) := by decide +kernel
theorem dX8_isAnyoneWith_44 : decode cX8_isAnyoneWith 44 = .ok (.iload_n 1, 1) := by decide +kernel
theorem dX8_isAnyoneWith_45 : decode cX8_isAnyoneWith 45 = .ok (.invokestatic 110, 3) := by decide +kernel
theorem dX8_isAnyoneWith_48 : decode cX8_isAnyoneWith 48 = .ok (.ifCond .eq 14, 3) := by decide +kernel
theorem dX8_isAnyoneWith_51 : decode cX8_isAnyoneWith 51 = .ok (.iload 4, 2) := by decide +kernel
theorem dX8_isAnyoneWith_53 : decode cX8_isAnyoneWith 53 = .ok (.iload_n 2, 1) := by decide +kernel
theorem dX8_isAnyoneWith_54 : decode cX8_isAnyoneWith 54 = .ok (.invokestatic 110, 3) := by decide +kernel
theorem dX8_isAnyoneWith_57 : decode cX8_isAnyoneWith 57 = .ok (.ifCond .eq 5, 3) := by decide +kernel
theorem dX8_isAnyoneWith_60 : decode cX8_isAnyoneWith 60 = .ok (.iconst 1, 1) := by decide +kernel
theorem dX8_isAnyoneWith_61 : decode cX8_isAnyoneWith 61 = .ok (.ireturn, 1) := by decide +kernel
theorem dX8_isAnyoneWith_62 : decode cX8_isAnyoneWith 62 = .ok (.iinc 3 1, 3) := by decide +kernel
theorem dX8_isAnyoneWith_65 : decode cX8_isAnyoneWith 65 = .ok (.goto (-63), 3) := by decide +kernel
theorem dX8_isAnyoneWith_68 : decode cX8_isAnyoneWith 68 = .ok (.iconst 0, 1) := by decide +kernel
theorem dX8_isAnyoneWith_69 : decode cX8_isAnyoneWith 69 = .ok (.ireturn, 1) := by decide +kernel
theorem dX8_isUser_0 : decode cX8_isUser 0 = .ok (.iload_n 1, 1) := by decide +kernel
theorem dX8_isUser_1 : decode cX8_isUser 1 = .ok (.ifCond .lt 21, 3) := by decide +kernel
theorem dX8_isUser_4 : decode cX8_isUser 4 = .ok (.iload_n 1, 1) := by decide +kernel
theorem dX8_isUser_5 : decode cX8_isUser 5 = .ok (.aload_n 0, 1) := by decide +kernel
theorem dX8_isUser_6 : decode cX8_isUser 6 = .ok (.getfield 10, 3) := by decide +kernel
theorem dX8_isUser_9 : decode cX8_isUser 9 = .ok (.getfield 45, 3) := by decide +kernel
theorem dX8_isUser_12 : decode cX8_isUser 12 = .ok (.getfield 49, 3) := by decide +kernel
theorem dX8_isUser_15 : decode cX8_isUser 15 = .ok (.if_icmp .ge 7, 3) := by decide +kernel
theorem dX8_isUser_18 : decode cX8_isUser 18 = .ok (.iconst 1, 1) := by decide +kernel
theorem dX8_isUser_19 : decode cX8_isUser 19 = .ok (.goto 4, 3) := by decide +kernel
theorem dX8_isUser_22 : decode cX8_isUser 22 = .ok (.iconst 0, 1) := by decide +kernel
theorem dX8_isUser_23 : decode cX8_isUser 23 = .ok (.ireturn, 1) := by decide +kernel
theorem dX8_isRole_0 : decode cX8_isRole 0 = .ok (.iload_n 1, 1) := by decide +kernel
theorem dX8_isRole_1 : decode cX8_isRole 1 = .ok (.ifCond .lt 21, 3) := by decide +kernel
theorem dX8_isRole_4 : decode cX8_isRole 4 = .ok (.iload_n 1, 1) := by decide +kernel
theorem dX8_isRole_5 : decode cX8_isRole 5 = .ok (.aload_n 0, 1) := by decide +kernel
theorem dX8_isRole_6 : decode cX8_isRole 6 = .ok (.getfield 10, 3) := by decide +kernel
theorem dX8_isRole_9 : decode cX8_isRole 9 = .ok (.getfield 62, 3) := by decide +kernel
theorem dX8_isRole_12 : decode cX8_isRole 12 = .ok (.getfield 66, 3) := by decide +kernel
theorem dX8_isRole_15 : decode cX8_isRole 15 = .ok (.if_icmp .ge 7, 3) := by decide +kernel
theorem dX8_isRole_18 : decode cX8_isRole 18 = .ok (.iconst 1, 1) := by decide +kernel
theorem dX8_isRole_19 : decode cX8_isRole 19 = .ok (.goto 4, 3) := by decide +kernel
theorem dX8_isRole_22 : decode cX8_isRole 22 = .ok (.iconst 0, 1) := by decide +kernel
theorem dX8_isRole_23 : decode cX8_isRole 23 = .ok (.ireturn, 1) := by decide +kernel
theorem dX8_isResource_0 : decode cX8_isResource 0 = .ok (.iload_n 1, 1) := by decide +kernel
theorem dX8_isResource_1 : decode cX8_isResource 1 = .ok (.ifCond .lt 21, 3) := by decide +kernel
theorem dX8_isResource_4 : decode cX8_isResource 4 = .ok (.iload_n 1, 1) := by decide +kernel
theorem dX8_isResource_5 : decode cX8_isResource 5 = .ok (.aload_n 0, 1) := by decide +kernel
theorem dX8_isResource_6 : decode cX8_isResource 6 = .ok (.getfield 10, 3) := by decide +kernel
theorem dX8_isResource_9 : decode cX8_isResource 9 = .ok (.getfield 79, 3) := by decide +kernel
theorem dX8_isResource_12 : decode cX8_isResource 12 = .ok (.getfield 83, 3) := by decide +kernel
theorem dX8_isResource_15 : decode cX8_isResource 15 = .ok (.if_icmp .ge 7, 3) := by decide +kernel
theorem dX8_isResource_18 : decode cX8_isResource 18 = .ok (.iconst 1, 1) := by decide +kernel
theorem dX8_isResource_19 : decode cX8_isResource 19 = .ok (.goto 4, 3) := by decide +kernel
theorem dX8_isResource_22 : decode cX8_isResource 22 = .ok (.iconst 0, 1) := by decide +kernel
theorem dX8_isResource_23 : decode cX8_isResource 23 = .ok (.ireturn, 1) := by decide +kernel
theorem dX8_isRule_0 : decode cX8_isRule 0 = .ok (.iload_n 1, 1) := by decide +kernel
theorem dX8_isRule_1 : decode cX8_isRule 1 = .ok (.ifCond .lt 21, 3) := by decide +kernel
theorem dX8_isRule_4 : decode cX8_isRule 4 = .ok (.iload_n 1, 1) := by decide +kernel
theorem dX8_isRule_5 : decode cX8_isRule 5 = .ok (.aload_n 0, 1) := by decide +kernel
theorem dX8_isRule_6 : decode cX8_isRule 6 = .ok (.getfield 10, 3) := by decide +kernel
theorem dX8_isRule_9 : decode cX8_isRule 9 = .ok (.getfield 152, 3) := by decide +kernel
theorem dX8_isRule_12 : decode cX8_isRule 12 = .ok (.getfield 156, 3) := by decide +kernel
theorem dX8_isRule_15 : decode cX8_isRule 15 = .ok (.if_icmp .ge 7, 3) := by decide +kernel
theorem dX8_isRule_18 : decode cX8_isRule 18 = .ok (.iconst 1, 1) := by decide +kernel
theorem dX8_isRule_19 : decode cX8_isRule 19 = .ok (.goto 4, 3) := by decide +kernel
theorem dX8_isRule_22 : decode cX8_isRule 22 = .ok (.iconst 0, 1) := by decide +kernel
theorem dX8_isRule_23 : decode cX8_isRule 23 = .ok (.ireturn, 1) := by decide +kernel
theorem dX8_isGrant_0 : decode cX8_isGrant 0 = .ok (.iload_n 1, 1) := by decide +kernel
theorem dX8_isGrant_1 : decode cX8_isGrant 1 = .ok (.ifCond .lt 21, 3) := by decide +kernel
theorem dX8_isGrant_4 : decode cX8_isGrant 4 = .ok (.iload_n 1, 1) := by decide +kernel
theorem dX8_isGrant_5 : decode cX8_isGrant 5 = .ok (.aload_n 0, 1) := by decide +kernel
theorem dX8_isGrant_6 : decode cX8_isGrant 6 = .ok (.getfield 10, 3) := by decide +kernel
theorem dX8_isGrant_9 : decode cX8_isGrant 9 = .ok (.getfield 204, 3) := by decide +kernel
theorem dX8_isGrant_12 : decode cX8_isGrant 12 = .ok (.getfield 208, 3) := by decide +kernel
theorem dX8_isGrant_15 : decode cX8_isGrant 15 = .ok (.if_icmp .ge 7, 3) := by decide +kernel
theorem dX8_isGrant_18 : decode cX8_isGrant 18 = .ok (.iconst 1, 1) := by decide +kernel
theorem dX8_isGrant_19 : decode cX8_isGrant 19 = .ok (.goto 4, 3) := by decide +kernel
theorem dX8_isGrant_22 : decode cX8_isGrant 22 = .ok (.iconst 0, 1) := by decide +kernel
theorem dX8_isGrant_23 : decode cX8_isGrant 23 = .ok (.ireturn, 1) := by decide +kernel
theorem dX8_isAction_0 : decode cX8_isAction 0 = .ok (.iload_n 0, 1) := by decide +kernel
theorem dX8_isAction_1 : decode cX8_isAction 1 = .ok (.ifCond .lt 12, 3) := by decide +kernel
theorem dX8_isAction_4 : decode cX8_isAction 4 = .ok (.iload_n 0, 1) := by decide +kernel
theorem dX8_isAction_5 : decode cX8_isAction 5 = .ok (.iconst 5, 1) := by decide +kernel
theorem dX8_isAction_6 : decode cX8_isAction 6 = .ok (.if_icmp .ge 7, 3) := by decide +kernel
theorem dX8_isAction_9 : decode cX8_isAction 9 = .ok (.iconst 1, 1) := by decide +kernel
theorem dX8_isAction_10 : decode cX8_isAction 10 = .ok (.goto 4, 3) := by decide +kernel
theorem dX8_isAction_13 : decode cX8_isAction 13 = .ok (.iconst 0, 1) := by decide +kernel
theorem dX8_isAction_14 : decode cX8_isAction 14 = .ok (.ireturn, 1) := by decide +kernel
theorem dX8_isUpTo_0 : decode cX8_isUpTo 0 = .ok (.iload_n 0, 1) := by decide +kernel
theorem dX8_isUpTo_1 : decode cX8_isUpTo 1 = .ok (.ifCond .lt 12, 3) := by decide +kernel
theorem dX8_isUpTo_4 : decode cX8_isUpTo 4 = .ok (.iload_n 0, 1) := by decide +kernel
theorem dX8_isUpTo_5 : decode cX8_isUpTo 5 = .ok (.iload_n 1, 1) := by decide +kernel
theorem dX8_isUpTo_6 : decode cX8_isUpTo 6 = .ok (.if_icmp .gt 7, 3) := by decide +kernel
theorem dX8_isUpTo_9 : decode cX8_isUpTo 9 = .ok (.iconst 1, 1) := by decide +kernel
theorem dX8_isUpTo_10 : decode cX8_isUpTo 10 = .ok (.goto 4, 3) := by decide +kernel
theorem dX8_isUpTo_13 : decode cX8_isUpTo 13 = .ok (.iconst 0, 1) := by decide +kernel
theorem dX8_isUpTo_14 : decode cX8_isUpTo 14 = .ok (.ireturn, 1) := by decide +kernel
theorem dX8_isIn_0 : decode cX8_isIn 0 = .ok (.iload_n 0, 1) := by decide +kernel
theorem dX8_isIn_1 : decode cX8_isIn 1 = .ok (.iload_n 1, 1) := by decide +kernel
theorem dX8_isIn_2 : decode cX8_isIn 2 = .ok (.ishr, 1) := by decide +kernel
theorem dX8_isIn_3 : decode cX8_isIn 3 = .ok (.iconst 1, 1) := by decide +kernel
theorem dX8_isIn_4 : decode cX8_isIn 4 = .ok (.iand, 1) := by decide +kernel
theorem dX8_isIn_5 : decode cX8_isIn 5 = .ok (.iconst 1, 1) := by decide +kernel
theorem dX8_isIn_6 : decode cX8_isIn 6 = .ok (.if_icmp .ne 7, 3) := by decide +kernel
theorem dX8_isIn_9 : decode cX8_isIn 9 = .ok (.iconst 1, 1) := by decide +kernel
theorem dX8_isIn_10 : decode cX8_isIn 10 = .ok (.goto 4, 3) := by decide +kernel
theorem dX8_isIn_13 : decode cX8_isIn 13 = .ok (.iconst 0, 1) := by decide +kernel
theorem dX8_isIn_14 : decode cX8_isIn 14 = .ok (.ireturn, 1) := by decide +kernel
theorem dX8_checkAsked_0 : decode cX8_checkAsked 0 = .ok (.aload_n 0, 1) := by decide +kernel
theorem dX8_checkAsked_1 : decode cX8_checkAsked 1 = .ok (.iload_n 1, 1) := by decide +kernel
theorem dX8_checkAsked_2 : decode cX8_checkAsked 2 = .ok (.invokevirtual 89, 3) := by decide +kernel
theorem dX8_checkAsked_5 : decode cX8_checkAsked 5 = .ok (.ifCond .eq 22, 3) := by decide +kernel
theorem dX8_checkAsked_8 : decode cX8_checkAsked 8 = .ok (.iload_n 2, 1) := by decide +kernel
theorem dX8_checkAsked_9 : decode cX8_checkAsked 9 = .ok (.invokestatic 201, 3) := by decide +kernel
theorem dX8_checkAsked_12 : decode cX8_checkAsked 12 = .ok (.ifCond .eq 15, 3) := by decide +kernel
theorem dX8_checkAsked_15 : decode cX8_checkAsked 15 = .ok (.aload_n 0, 1) := by decide +kernel
theorem dX8_checkAsked_16 : decode cX8_checkAsked 16 = .ok (.iload_n 3, 1) := by decide +kernel
theorem dX8_checkAsked_17 : decode cX8_checkAsked 17 = .ok (.invokevirtual 72, 3) := by decide +kernel
theorem dX8_checkAsked_20 : decode cX8_checkAsked 20 = .ok (.ifCond .eq 7, 3) := by decide +kernel
theorem dX8_checkAsked_23 : decode cX8_checkAsked 23 = .ok (.iconst 1, 1) := by decide +kernel
theorem dX8_checkAsked_24 : decode cX8_checkAsked 24 = .ok (.goto 4, 3) := by decide +kernel
theorem dX8_checkAsked_27 : decode cX8_checkAsked 27 = .ok (.iconst 0, 1) := by decide +kernel
theorem dX8_checkAsked_28 : decode cX8_checkAsked 28 = .ok (.invokestatic 76, 3) := by decide +kernel
theorem dX8_checkAsked_31 : decode cX8_checkAsked 31 = .ok (.return_, 1) := by decide +kernel
theorem dX8_checkThere_0 : decode cX8_checkThere 0 = .ok (.iload_n 0, 1) := by decide +kernel
theorem dX8_checkThere_1 : decode cX8_checkThere 1 = .ok (.ifCond .ne 14, 3) := by decide +kernel
theorem dX8_checkThere_4 : decode cX8_checkThere 4 = .ok (.new 293, 3) := by decide +kernel
theorem dX8_checkThere_7 : decode cX8_checkThere 7 = .ok (.dup, 1) := by decide +kernel
theorem dX8_checkThere_8 : decode cX8_checkThere 8 = .ok (.ldc_w 295, 3) := by decide +kernel
theorem dX8_checkThere_11 : decode cX8_checkThere 11 = .ok (.invokespecial 297, 3) := by decide +kernel
theorem dX8_checkThere_14 : decode cX8_checkThere 14 = .ok (.athrow, 1) := by decide +kernel
theorem dX8_checkThere_15 : decode cX8_checkThere 15 = .ok (.return_, 1) := by decide +kernel
theorem dX8_checkArguments_0 : decode cX8_checkArguments 0 = .ok (.iload_n 0, 1) := by decide +kernel
theorem dX8_checkArguments_1 : decode cX8_checkArguments 1 = .ok (.ifCond .ne 14, 3) := by decide +kernel
theorem dX8_checkArguments_4 : decode cX8_checkArguments 4 = .ok (.new 300, 3) := by decide +kernel
theorem dX8_checkArguments_7 : decode cX8_checkArguments 7 = .ok (.dup, 1) := by decide +kernel
theorem dX8_checkArguments_8 : decode cX8_checkArguments 8 = .ok (.ldc_w 302, 3) := by decide +kernel
theorem dX8_checkArguments_11 : decode cX8_checkArguments 11 = .ok (.invokespecial 304, 3) := by decide +kernel
theorem dX8_checkArguments_14 : decode cX8_checkArguments 14 = .ok (.athrow, 1) := by decide +kernel
theorem dX8_checkArguments_15 : decode cX8_checkArguments 15 = .ok (.return_, 1) := by decide +kernel
theorem dX8_checkState_0 : decode cX8_checkState 0 = .ok (.iload_n 0, 1) := by decide +kernel
theorem dX8_checkState_1 : decode cX8_checkState 1 = .ok (.ifCond .ne 14, 3) := by decide +kernel
theorem dX8_checkState_4 : decode cX8_checkState 4 = .ok (.new 305, 3) := by decide +kernel
theorem dX8_checkState_7 : decode cX8_checkState 7 = .ok (.dup, 1) := by decide +kernel
theorem dX8_checkState_8 : decode cX8_checkState 8 = .ok (.ldc_w 307, 3) := by decide +kernel
theorem dX8_checkState_11 : decode cX8_checkState 11 = .ok (.invokespecial 309, 3) := by decide +kernel
theorem dX8_checkState_14 : decode cX8_checkState 14 = .ok (.athrow, 1) := by decide +kernel
theorem dX8_checkState_15 : decode cX8_checkState 15 = .ok (.return_, 1) := by decide +kernel
theorem dJ6_bitCount_0f7a4_0 : decode cJ6_bitCount_0f7a4 0 = .ok (.iload_n 0, 1) := by decide +kernel
theorem dJ6_bitCount_0f7a4_1 : decode cJ6_bitCount_0f7a4 1 = .ok (.iload_n 0, 1) := by decide +kernel
theorem dJ6_bitCount_0f7a4_2 : decode cJ6_bitCount_0f7a4 2 = .ok (.iconst 1, 1) := by decide +kernel
theorem dJ6_bitCount_0f7a4_3 : decode cJ6_bitCount_0f7a4 3 = .ok (.iushr, 1) := by decide +kernel
theorem dJ6_bitCount_0f7a4_4 : decode cJ6_bitCount_0f7a4 4 = .ok (.ldc_w 265, 3) := by decide +kernel
theorem dJ6_bitCount_0f7a4_7 : decode cJ6_bitCount_0f7a4 7 = .ok (.iand, 1) := by decide +kernel
theorem dJ6_bitCount_0f7a4_8 : decode cJ6_bitCount_0f7a4 8 = .ok (.isub, 1) := by decide +kernel
theorem dJ6_bitCount_0f7a4_9 : decode cJ6_bitCount_0f7a4 9 = .ok (.istore_n 0, 1) := by decide +kernel
theorem dJ6_bitCount_0f7a4_10 : decode cJ6_bitCount_0f7a4 10 = .ok (.iload_n 0, 1) := by decide +kernel
theorem dJ6_bitCount_0f7a4_11 : decode cJ6_bitCount_0f7a4 11 = .ok (.ldc_w 266, 3) := by decide +kernel
theorem dJ6_bitCount_0f7a4_14 : decode cJ6_bitCount_0f7a4 14 = .ok (.iand, 1) := by decide +kernel
theorem dJ6_bitCount_0f7a4_15 : decode cJ6_bitCount_0f7a4 15 = .ok (.iload_n 0, 1) := by decide +kernel
theorem dJ6_bitCount_0f7a4_16 : decode cJ6_bitCount_0f7a4 16 = .ok (.iconst 2, 1) := by decide +kernel
theorem dJ6_bitCount_0f7a4_17 : decode cJ6_bitCount_0f7a4 17 = .ok (.iushr, 1) := by decide +kernel
theorem dJ6_bitCount_0f7a4_18 : decode cJ6_bitCount_0f7a4 18 = .ok (.ldc_w 266, 3) := by decide +kernel
theorem dJ6_bitCount_0f7a4_21 : decode cJ6_bitCount_0f7a4 21 = .ok (.iand, 1) := by decide +kernel
theorem dJ6_bitCount_0f7a4_22 : decode cJ6_bitCount_0f7a4 22 = .ok (.iadd, 1) := by decide +kernel
theorem dJ6_bitCount_0f7a4_23 : decode cJ6_bitCount_0f7a4 23 = .ok (.istore_n 0, 1) := by decide +kernel
theorem dJ6_bitCount_0f7a4_24 : decode cJ6_bitCount_0f7a4 24 = .ok (.iload_n 0, 1) := by decide +kernel
theorem dJ6_bitCount_0f7a4_25 : decode cJ6_bitCount_0f7a4 25 = .ok (.iload_n 0, 1) := by decide +kernel
theorem dJ6_bitCount_0f7a4_26 : decode cJ6_bitCount_0f7a4 26 = .ok (.iconst 4, 1) := by decide +kernel
theorem dJ6_bitCount_0f7a4_27 : decode cJ6_bitCount_0f7a4 27 = .ok (.iushr, 1) := by decide +kernel
theorem dJ6_bitCount_0f7a4_28 : decode cJ6_bitCount_0f7a4 28 = .ok (.iadd, 1) := by decide +kernel
theorem dJ6_bitCount_0f7a4_29 : decode cJ6_bitCount_0f7a4 29 = .ok (.ldc_w 267, 3) := by decide +kernel
theorem dJ6_bitCount_0f7a4_32 : decode cJ6_bitCount_0f7a4 32 = .ok (.iand, 1) := by decide +kernel
theorem dJ6_bitCount_0f7a4_33 : decode cJ6_bitCount_0f7a4 33 = .ok (.istore_n 0, 1) := by decide +kernel
theorem dJ6_bitCount_0f7a4_34 : decode cJ6_bitCount_0f7a4 34 = .ok (.iload_n 0, 1) := by decide +kernel
theorem dJ6_bitCount_0f7a4_35 : decode cJ6_bitCount_0f7a4 35 = .ok (.iload_n 0, 1) := by decide +kernel
theorem dJ6_bitCount_0f7a4_36 : decode cJ6_bitCount_0f7a4 36 = .ok (.bipush 8, 2) := by decide +kernel
theorem dJ6_bitCount_0f7a4_38 : decode cJ6_bitCount_0f7a4 38 = .ok (.iushr, 1) := by decide +kernel
theorem dJ6_bitCount_0f7a4_39 : decode cJ6_bitCount_0f7a4 39 = .ok (.iadd, 1) := by decide +kernel
theorem dJ6_bitCount_0f7a4_40 : decode cJ6_bitCount_0f7a4 40 = .ok (.istore_n 0, 1) := by decide +kernel
theorem dJ6_bitCount_0f7a4_41 : decode cJ6_bitCount_0f7a4 41 = .ok (.iload_n 0, 1) := by decide +kernel
theorem dJ6_bitCount_0f7a4_42 : decode cJ6_bitCount_0f7a4 42 = .ok (.iload_n 0, 1) := by decide +kernel
theorem dJ6_bitCount_0f7a4_43 : decode cJ6_bitCount_0f7a4 43 = .ok (.bipush 16, 2) := by decide +kernel
theorem dJ6_bitCount_0f7a4_45 : decode cJ6_bitCount_0f7a4 45 = .ok (.iushr, 1) := by decide +kernel
theorem dJ6_bitCount_0f7a4_46 : decode cJ6_bitCount_0f7a4 46 = .ok (.iadd, 1) := by decide +kernel
theorem dJ6_bitCount_0f7a4_47 : decode cJ6_bitCount_0f7a4 47 = .ok (.istore_n 0, 1) := by decide +kernel
theorem dJ6_bitCount_0f7a4_48 : decode cJ6_bitCount_0f7a4 48 = .ok (.iload_n 0, 1) := by decide +kernel
theorem dJ6_bitCount_0f7a4_49 : decode cJ6_bitCount_0f7a4 49 = .ok (.bipush 63, 2) := by decide +kernel
theorem dJ6_bitCount_0f7a4_51 : decode cJ6_bitCount_0f7a4 51 = .ok (.iand, 1) := by decide +kernel
theorem dJ6_bitCount_0f7a4_52 : decode cJ6_bitCount_0f7a4 52 = .ok (.ireturn, 1) := by decide +kernel
theorem dJ9_max_7cf53_0 : decode cJ9_max_7cf53 0 = .ok (.iload_n 0, 1) := by decide +kernel
theorem dJ9_max_7cf53_1 : decode cJ9_max_7cf53 1 = .ok (.iload_n 1, 1) := by decide +kernel
theorem dJ9_max_7cf53_2 : decode cJ9_max_7cf53 2 = .ok (.if_icmp .lt 7, 3) := by decide +kernel
theorem dJ9_max_7cf53_5 : decode cJ9_max_7cf53 5 = .ok (.iload_n 0, 1) := by decide +kernel
theorem dJ9_max_7cf53_6 : decode cJ9_max_7cf53 6 = .ok (.goto 4, 3) := by decide +kernel
theorem dJ9_max_7cf53_9 : decode cJ9_max_7cf53 9 = .ok (.iload_n 1, 1) := by decide +kernel
theorem dJ9_max_7cf53_10 : decode cJ9_max_7cf53 10 = .ok (.ireturn, 1) := by decide +kernel
theorem dJ9_min_7cf53_0 : decode cJ9_min_7cf53 0 = .ok (.iload_n 0, 1) := by decide +kernel
theorem dJ9_min_7cf53_1 : decode cJ9_min_7cf53 1 = .ok (.iload_n 1, 1) := by decide +kernel
theorem dJ9_min_7cf53_2 : decode cJ9_min_7cf53 2 = .ok (.if_icmp .gt 7, 3) := by decide +kernel
theorem dJ9_min_7cf53_5 : decode cJ9_min_7cf53 5 = .ok (.iload_n 0, 1) := by decide +kernel
theorem dJ9_min_7cf53_6 : decode cJ9_min_7cf53 6 = .ok (.goto 4, 3) := by decide +kernel
theorem dJ9_min_7cf53_9 : decode cJ9_min_7cf53 9 = .ok (.iload_n 1, 1) := by decide +kernel
theorem dJ9_min_7cf53_10 : decode cJ9_min_7cf53 10 = .ok (.ireturn, 1) := by decide +kernel
theorem dJ7_fill_53178_0 : decode cJ7_fill_53178 0 = .ok (.iconst 0, 1) := by decide +kernel
theorem dJ7_fill_53178_1 : decode cJ7_fill_53178 1 = .ok (.istore_n 2, 1) := by decide +kernel
theorem dJ7_fill_53178_2 : decode cJ7_fill_53178 2 = .ok (.aload_n 0, 1) := by decide +kernel
theorem dJ7_fill_53178_3 : decode cJ7_fill_53178 3 = .ok (.arraylength, 1) := by decide +kernel
theorem dJ7_fill_53178_4 : decode cJ7_fill_53178 4 = .ok (.istore_n 3, 1) := by decide +kernel
theorem dJ7_fill_53178_5 : decode cJ7_fill_53178 5 = .ok (.iload_n 2, 1) := by decide +kernel
theorem dJ7_fill_53178_6 : decode cJ7_fill_53178 6 = .ok (.iload_n 3, 1) := by decide +kernel
theorem dJ7_fill_53178_7 : decode cJ7_fill_53178 7 = .ok (.if_icmp .ge 13, 3) := by decide +kernel
theorem dJ7_fill_53178_10 : decode cJ7_fill_53178 10 = .ok (.aload_n 0, 1) := by decide +kernel
theorem dJ7_fill_53178_11 : decode cJ7_fill_53178 11 = .ok (.iload_n 2, 1) := by decide +kernel
theorem dJ7_fill_53178_12 : decode cJ7_fill_53178 12 = .ok (.iload_n 1, 1) := by decide +kernel
theorem dJ7_fill_53178_13 : decode cJ7_fill_53178 13 = .ok (.iastore, 1) := by decide +kernel
theorem dJ7_fill_53178_14 : decode cJ7_fill_53178 14 = .ok (.iinc 2 1, 3) := by decide +kernel
theorem dJ7_fill_53178_17 : decode cJ7_fill_53178 17 = .ok (.goto (-12), 3) := by decide +kernel
theorem dJ7_fill_53178_20 : decode cJ7_fill_53178 20 = .ok (.return_, 1) := by decide +kernel
