theorem dX3_readCurtain_0 : decode cX3_readCurtain 0 = .ok (.aload_n 1, 1) := by decide +kernel
theorem dX3_readCurtain_1 : decode cX3_readCurtain 1 = .ok (.invokevirtual 60, 3) := by decide +kernel
theorem dX3_readCurtain_4 : decode cX3_readCurtain 4 = .ok (.ifCond .eq 5, 3) := by decide +kernel
theorem dX3_readCurtain_7 : decode cX3_readCurtain 7 = .ok (.iconst 0, 1) := by decide +kernel
theorem dX3_readCurtain_8 : decode cX3_readCurtain 8 = .ok (.ireturn, 1) := by decide +kernel
theorem dX3_readCurtain_9 : decode cX3_readCurtain 9 = .ok (.aload_n 0, 1) := by decide +kernel
theorem dX3_readCurtain_10 : decode cX3_readCurtain 10 = .ok (.invokevirtual 22, 3) := by decide +kernel
theorem dX3_readCurtain_13 : decode cX3_readCurtain 13 = .ok (.aload_n 1, 1) := by decide +kernel
theorem dX3_readCurtain_14 : decode cX3_readCurtain 14 = .ok (.iload_n 2, 1) := by decide +kernel
theorem dX3_readCurtain_15 : decode cX3_readCurtain 15 = .ok (.invokevirtual 64, 3) := by decide +kernel
theorem dX3_readCurtain_18 : decode cX3_readCurtain 18 = .ok (.astore_n 3, 1) := by decide +kernel
theorem dX3_readCurtain_19 : decode cX3_readCurtain 19 = .ok (.aload_n 0, 1) := by decide +kernel
theorem dX3_readCurtain_20 : decode cX3_readCurtain 20 = .ok (.aload_n 3, 1) := by decide +kernel
theorem dX3_readCurtain_21 : decode cX3_readCurtain 21 = .ok (.ldc 68, 2) := by decide +kernel
theorem dX3_readCurtain_23 : decode cX3_readCurtain 23 = .ok (.iconst 1, 1) := by decide +kernel
theorem dX3_readCurtain_24 : decode cX3_readCurtain 24 = .ok (.invokevirtual 70, 3) := by decide +kernel
theorem dX3_readCurtain_27 : decode cX3_readCurtain 27 = .ok (.ifCond .eq 25, 3) := by decide +kernel
theorem dX3_readCurtain_30 : decode cX3_readCurtain 30 = .ok (.aload_n 0, 1) := by decide +kernel
theorem dX3_readCurtain_31 : decode cX3_readCurtain 31 = .ok (.aload_n 3, 1) := by decide +kernel
theorem dX3_readCurtain_32 : decode cX3_readCurtain 32 = .ok (.ldc 74, 2) := by decide +kernel
theorem dX3_readCurtain_34 : decode cX3_readCurtain 34 = .ok (.iconst 2, 1) := by decide +kernel
theorem dX3_readCurtain_35 : decode cX3_readCurtain 35 = .ok (.invokevirtual 70, 3) := by decide +kernel
theorem dX3_readCurtain_38 : decode cX3_readCurtain 38 = .ok (.ifCond .eq 14, 3) := by decide +kernel
theorem dX3_readCurtain_41 : decode cX3_readCurtain 41 = .ok (.aload_n 0, 1) := by decide +kernel
theorem dX3_readCurtain_42 : decode cX3_readCurtain 42 = .ok (.aload_n 3, 1) := by decide +kernel
theorem dX3_readCurtain_43 : decode cX3_readCurtain 43 = .ok (.ldc 76, 2) := by decide +kernel
theorem dX3_readCurtain_45 : decode cX3_readCurtain 45 = .ok (.iconst 3, 1) := by decide +kernel
theorem dX3_readCurtain_46 : decode cX3_readCurtain 46 = .ok (.invokevirtual 70, 3) := by decide +kernel
theorem dX3_readCurtain_49 : decode cX3_readCurtain 49 = .ok (.ifCond .ne 5, 3) := by decide +kernel
theorem dX3_readCurtain_52 : decode cX3_readCurtain 52 = .ok (.iconst 0, 1) := by decide +kernel
theorem dX3_readCurtain_53 : decode cX3_readCurtain 53 = .ok (.ireturn, 1) := by decide +kernel
theorem dX3_readCurtain_54 : decode cX3_readCurtain 54 = .ok (.aload_n 3, 1) := by decide +kernel
theorem dX3_readCurtain_55 : decode cX3_readCurtain 55 = .ok (.aload_n 0, 1) := by decide +kernel
theorem dX3_readCurtain_56 : decode cX3_readCurtain 56 = .ok (.ldc 78, 2) := by decide +kernel
theorem dX3_readCurtain_58 : decode cX3_readCurtain 58 = .ok (.invokevirtual 45, 3) := by decide +kernel
theorem dX3_readCurtain_61 : decode cX3_readCurtain 61 = .ok (.ifCond .eq 7, 3) := by decide +kernel
theorem dX3_readCurtain_64 : decode cX3_readCurtain 64 = .ok (.iconst 1, 1) := by decide +kernel
theorem dX3_readCurtain_65 : decode cX3_readCurtain 65 = .ok (.goto 4, 3) := by decide +kernel
theorem dX3_readCurtain_68 : decode cX3_readCurtain 68 = .ok (.iconst 0, 1) := by decide +kernel
theorem dX3_readCurtain_69 : decode cX3_readCurtain 69 = .ok (.putfield 80, 3) := by decide +kernel
theorem dX3_readCurtain_72 : decode cX3_readCurtain 72 = .ok (.iconst 1, 1) := by decide +kernel
theorem dX3_readCurtain_73 : decode cX3_readCurtain 73 = .ok (.ireturn, 1) := by decide +kernel
theorem dX3_readPart_0 : decode cX3_readPart 0 = .ok (.aload_n 0, 1) := by decide +kernel
theorem dX3_readPart_1 : decode cX3_readPart 1 = .ok (.aload_n 2, 1) := by decide +kernel
theorem dX3_readPart_2 : decode cX3_readPart 2 = .ok (.invokevirtual 45, 3) := by decide +kernel
theorem dX3_readPart_5 : decode cX3_readPart 5 = .ok (.ifCond .ne 5, 3) := by decide +kernel
theorem dX3_readPart_8 : decode cX3_readPart 8 = .ok (.iconst 1, 1) := by decide +kernel
theorem dX3_readPart_9 : decode cX3_readPart 9 = .ok (.ireturn, 1) := by decide +kernel
theorem dX3_readPart_10 : decode cX3_readPart 10 = .ok (.aload_n 0, 1) := by decide +kernel
theorem dX3_readPart_11 : decode cX3_readPart 11 = .ok (.getstatic 84, 3) := by decide +kernel
theorem dX3_readPart_14 : decode cX3_readPart 14 = .ok (.iload_n 3, 1) := by decide +kernel
theorem dX3_readPart_15 : decode cX3_readPart 15 = .ok (.iaload, 1) := by decide +kernel
theorem dX3_readPart_16 : decode cX3_readPart 16 = .ok (.invokevirtual 88, 3) := by decide +kernel
theorem dX3_readPart_19 : decode cX3_readPart 19 = .ok (.istore 4, 2) := by decide +kernel
theorem dX3_readPart_21 : decode cX3_readPart 21 = .ok (.iload 4, 2) := by decide +kernel
theorem dX3_readPart_23 : decode cX3_readPart 23 = .ok (.iconst (-1), 1) := by decide +kernel
theorem dX3_readPart_24 : decode cX3_readPart 24 = .ok (.if_icmp .ne 5, 3) := by decide +kernel
theorem dX3_readPart_27 : decode cX3_readPart 27 = .ok (.iconst 0, 1) := by decide +kernel
theorem dX3_readPart_28 : decode cX3_readPart 28 = .ok (.ireturn, 1) := by decide +kernel
theorem dX3_readPart_29 : decode cX3_readPart 29 = .ok (.aload_n 1, 1) := by decide +kernel
theorem dX3_readPart_30 : decode cX3_readPart 30 = .ok (.iload_n 3, 1) := by decide +kernel
theorem dX3_readPart_31 : decode cX3_readPart 31 = .ok (.iload 4, 2) := by decide +kernel
theorem dX3_readPart_33 : decode cX3_readPart 33 = .ok (.invokevirtual 92, 3) := by decide +kernel
theorem dX3_readPart_36 : decode cX3_readPart 36 = .ok (.iconst 1, 1) := by decide +kernel
theorem dX3_readPart_37 : decode cX3_readPart 37 = .ok (.ireturn, 1) := by decide +kernel
theorem dX3_readScene_0 : decode cX3_readScene 0 = .ok (.aload_n 0, 1) := by decide +kernel
theorem dX3_readScene_1 : decode cX3_readScene 1 = .ok (.iconst 5, 1) := by decide +kernel
theorem dX3_readScene_2 : decode cX3_readScene 2 = .ok (.invokevirtual 88, 3) := by decide +kernel
theorem dX3_readScene_5 : decode cX3_readScene 5 = .ok (.istore_n 2, 1) := by decide +kernel
theorem dX3_readScene_6 : decode cX3_readScene 6 = .ok (.iload_n 2, 1) := by decide +kernel
theorem dX3_readScene_7 : decode cX3_readScene 7 = .ok (.iconst (-1), 1) := by decide +kernel
theorem dX3_readScene_8 : decode cX3_readScene 8 = .ok (.if_icmp .ne 5, 3) := by decide +kernel
theorem dX3_readScene_11 : decode cX3_readScene 11 = .ok (.iconst 0, 1) := by decide +kernel
theorem dX3_readScene_12 : decode cX3_readScene 12 = .ok (.ireturn, 1) := by decide +kernel
theorem dX3_readScene_13 : decode cX3_readScene 13 = .ok (.aload_n 0, 1) := by decide +kernel
theorem dX3_readScene_14 : decode cX3_readScene 14 = .ok (.bipush 11, 2) := by decide +kernel
theorem dX3_readScene_16 : decode cX3_readScene 16 = .ok (.invokevirtual 88, 3) := by decide +kernel
theorem dX3_readScene_19 : decode cX3_readScene 19 = .ok (.istore_n 3, 1) := by decide +kernel
theorem dX3_readScene_20 : decode cX3_readScene 20 = .ok (.iload_n 3, 1) := by decide +kernel
theorem dX3_readScene_21 : decode cX3_readScene 21 = .ok (.iconst (-1), 1) := by decide +kernel
theorem dX3_readScene_22 : decode cX3_readScene 22 = .ok (.if_icmp .ne 5, 3) := by decide +kernel
theorem dX3_readScene_25 : decode cX3_readScene 25 = .ok (.iconst 0, 1) := by decide +kernel
theorem dX3_readScene_26 : decode cX3_readScene 26 = .ok (.ireturn, 1) := by decide +kernel
theorem dX3_readScene_27 : decode cX3_readScene 27 = .ok (.aload_n 1, 1) := by decide +kernel
theorem dX3_readScene_28 : decode cX3_readScene 28 = .ok (.getfield 96, 3) := by decide +kernel
theorem dX3_readScene_31 : decode cX3_readScene 31 = .ok (.iload_n 2, 1) := by decide +kernel
theorem dX3_readScene_32 : decode cX3_readScene 32 = .ok (.iload_n 3, 1) := by decide +kernel
theorem dX3_readScene_33 : decode cX3_readScene 33 = .ok (.iastore, 1) := by decide +kernel
theorem dX3_readScene_34 : decode cX3_readScene 34 = .ok (.iconst 1, 1) := by decide +kernel
theorem dX3_readScene_35 : decode cX3_readScene 35 = .ok (.ireturn, 1) := by decide +kernel
theorem dX3_kindAtHand_0 : decode cX3_kindAtHand 0 = .ok (.aload_n 0, 1) := by decide +kernel
theorem dX3_kindAtHand_1 : decode cX3_kindAtHand 1 = .ok (.ldc 99, 2) := by decide +kernel
theorem dX3_kindAtHand_3 : decode cX3_kindAtHand 3 = .ok (.invokevirtual 101, 3) := by decide +kernel
theorem dX3_kindAtHand_6 : decode cX3_kindAtHand 6 = .ok (.ifCond .eq 5, 3) := by decide +kernel
theorem dX3_kindAtHand_9 : decode cX3_kindAtHand 9 = .ok (.iconst 0, 1) := by decide +kernel
theorem dX3_kindAtHand_10 : decode cX3_kindAtHand 10 = .ok (.ireturn, 1) := by decide +kernel
theorem dX3_kindAtHand_11 : decode cX3_kindAtHand 11 = .ok (.aload_n 0, 1) := by decide +kernel
theorem dX3_kindAtHand_12 : decode cX3_kindAtHand 12 = .ok (.ldc 104, 2) := by decide +kernel
theorem dX3_kindAtHand_14 : decode cX3_kindAtHand 14 = .ok (.invokevirtual 101, 3) := by decide +kernel
theorem dX3_kindAtHand_17 : decode cX3_kindAtHand 17 = .ok (.ifCond .eq 5, 3) := by decide +kernel
theorem dX3_kindAtHand_20 : decode cX3_kindAtHand 20 = .ok (.iconst 1, 1) := by decide +kernel
theorem dX3_kindAtHand_21 : decode cX3_kindAtHand 21 = .ok (.ireturn, 1) := by decide +kernel
theorem dX3_kindAtHand_22 : decode cX3_kindAtHand 22 = .ok (.aload_n 0, 1) := by decide +kernel
theorem dX3_kindAtHand_23 : decode cX3_kindAtHand 23 = .ok (.ldc 106, 2) := by decide +kernel
theorem dX3_kindAtHand_25 : decode cX3_kindAtHand 25 = .ok (.invokevirtual 101, 3) := by decide +kernel
theorem dX3_kindAtHand_28 : decode cX3_kindAtHand 28 = .ok (.ifCond .eq 5, 3) := by decide +kernel
theorem dX3_kindAtHand_31 : decode cX3_kindAtHand 31 = .ok (.iconst 2, 1) := by decide +kernel
theorem dX3_kindAtHand_32 : decode cX3_kindAtHand 32 = .ok (.ireturn, 1) := by decide +kernel
theorem dX3_kindAtHand_33 : decode cX3_kindAtHand 33 = .ok (.aload_n 0, 1) := by decide +kernel
theorem dX3_kindAtHand_34 : decode cX3_kindAtHand 34 = .ok (.ldc 108, 2) := by decide +kernel
theorem dX3_kindAtHand_36 : decode cX3_kindAtHand 36 = .ok (.invokevirtual 101, 3) := by decide +kernel
theorem dX3_kindAtHand_39 : decode cX3_kindAtHand 39 = .ok (.ifCond .eq 5, 3) := by decide +kernel
theorem dX3_kindAtHand_42 : decode cX3_kindAtHand 42 = .ok (.iconst 3, 1) := by decide +kernel
theorem dX3_kindAtHand_43 : decode cX3_kindAtHand 43 = .ok (.ireturn, 1) := by decide +kernel
theorem dX3_kindAtHand_44 : decode cX3_kindAtHand 44 = .ok (.aload_n 0, 1) := by decide +kernel
theorem dX3_kindAtHand_45 : decode cX3_kindAtHand 45 = .ok (.ldc 110, 2) := by decide +kernel
theorem dX3_kindAtHand_47 : decode cX3_kindAtHand 47 = .ok (.invokevirtual 101, 3) := by decide +kernel
theorem dX3_kindAtHand_50 : decode cX3_kindAtHand 50 = .ok (.ifCond .eq 5, 3) := by decide +kernel
theorem dX3_kindAtHand_53 : decode cX3_kindAtHand 53 = .ok (.iconst 4, 1) := by decide +kernel
theorem dX3_kindAtHand_54 : decode cX3_kindAtHand 54 = .ok (.ireturn, 1) := by decide +kernel
theorem dX3_kindAtHand_55 : decode cX3_kindAtHand 55 = .ok (.aload_n 0, 1) := by decide +kernel
theorem dX3_kindAtHand_56 : decode cX3_kindAtHand 56 = .ok (.ldc 112, 2) := by decide +kernel
theorem dX3_kindAtHand_58 : decode cX3_kindAtHand 58 = .ok (.invokevirtual 101, 3) := by decide +kernel
theorem dX3_kindAtHand_61 : decode cX3_kindAtHand 61 = .ok (.ifCond .eq 5, 3) := by decide +kernel
theorem dX3_kindAtHand_64 : decode cX3_kindAtHand 64 = .ok (.iconst 5, 1) := by decide +kernel
theorem dX3_kindAtHand_65 : decode cX3_kindAtHand 65 = .ok (.ireturn, 1) := by decide +kernel
theorem dX3_kindAtHand_66 : decode cX3_kindAtHand 66 = .ok (.aload_n 0, 1) := by decide +kernel
theorem dX3_kindAtHand_67 : decode cX3_kindAtHand 67 = .ok (.ldc 114, 2) := by decide +kernel
theorem dX3_kindAtHand_69 : decode cX3_kindAtHand 69 = .ok (.invokevirtual 101, 3) := by decide +kernel
theorem dX3_kindAtHand_72 : decode cX3_kindAtHand 72 = .ok (.ifCond .eq 8, 3) := by decide +kernel
theorem dX3_kindAtHand_75 : decode cX3_kindAtHand 75 = .ok (.bipush 6, 2) := by decide +kernel
theorem dX3_kindAtHand_77 : decode cX3_kindAtHand 77 = .ok (.goto 4, 3) := by decide +kernel
theorem dX3_kindAtHand_80 : decode cX3_kindAtHand 80 = .ok (.iconst (-1), 1) := by decide +kernel
theorem dX3_kindAtHand_81 : decode cX3_kindAtHand 81 = .ok (.ireturn, 1) := by decide +kernel
theorem dX3_isWord_0 : decode cX3_isWord 0 = .ok (.aload_n 0, 1) := by decide +kernel
theorem dX3_isWord_1 : decode cX3_isWord 1 = .ok (.getfield 37, 3) := by decide +kernel
theorem dX3_isWord_4 : decode cX3_isWord 4 = .ok (.ifCond .ne 19, 3) := by decide +kernel
theorem dX3_isWord_7 : decode cX3_isWord 7 = .ok (.aload_n 0, 1) := by decide +kernel
theorem dX3_isWord_8 : decode cX3_isWord 8 = .ok (.getfield 19, 3) := by decide +kernel
theorem dX3_isWord_11 : decode cX3_isWord 11 = .ok (.aload_n 0, 1) := by decide +kernel
theorem dX3_isWord_12 : decode cX3_isWord 12 = .ok (.getfield 40, 3) := by decide +kernel
theorem dX3_isWord_15 : decode cX3_isWord 15 = .ok (.isub, 1) := by decide +kernel
theorem dX3_isWord_16 : decode cX3_isWord 16 = .ok (.aload_n 1, 1) := by decide +kernel
theorem dX3_isWord_17 : decode cX3_isWord 17 = .ok (.invokevirtual 116, 3) := by decide +kernel
theorem dX3_isWord_20 : decode cX3_isWord 20 = .ok (.if_icmp .eq 5, 3) := by decide +kernel
theorem dX3_isWord_23 : decode cX3_isWord 23 = .ok (.iconst 0, 1) := by decide +kernel
theorem dX3_isWord_24 : decode cX3_isWord 24 = .ok (.ireturn, 1) := by decide +kernel
theorem dX3_isWord_25 : decode cX3_isWord 25 = .ok (.iconst 0, 1) := by decide +kernel
theorem dX3_isWord_26 : decode cX3_isWord 26 = .ok (.istore_n 2, 1) := by decide +kernel
theorem dX3_isWord_27 : decode cX3_isWord 27 = .ok (.iload_n 2, 1) := by decide +kernel
theorem dX3_isWord_28 : decode cX3_isWord 28 = .ok (.aload_n 1, 1) := by decide +kernel
theorem dX3_isWord_29 : decode cX3_isWord 29 = .ok (.invokevirtual 116, 3) := by decide +kernel
theorem dX3_isWord_32 : decode cX3_isWord 32 = .ok (.if_icmp .ge 30, 3) := by decide +kernel
theorem dX3_isWord_35 : decode cX3_isWord 35 = .ok (.aload_n 0, 1) := by decide +kernel
theorem dX3_isWord_36 : decode cX3_isWord 36 = .ok (.getfield 9, 3) := by decide +kernel
theorem dX3_isWord_39 : decode cX3_isWord 39 = .ok (.aload_n 0, 1) := by decide +kernel
theorem dX3_isWord_40 : decode cX3_isWord 40 = .ok (.getfield 40, 3) := by decide +kernel
theorem dX3_isWord_43 : decode cX3_isWord 43 = .ok (.iload_n 2, 1) := by decide +kernel
theorem dX3_isWord_44 : decode cX3_isWord 44 = .ok (.iadd, 1) := by decide +kernel
theorem dX3_isWord_45 : decode cX3_isWord 45 = .ok (.baload, 1) := by decide +kernel
theorem dX3_isWord_46 : decode cX3_isWord 46 = .ok (.aload_n 1, 1) := by decide +kernel
theorem dX3_isWord_47 : decode cX3_isWord 47 = .ok (.iload_n 2, 1) := by decide +kernel
theorem dX3_isWord_48 : decode cX3_isWord 48 = .ok (.invokevirtual 120, 3) := by decide +kernel
theorem dX3_isWord_51 : decode cX3_isWord 51 = .ok (.if_icmp .eq 5, 3) := by decide +kernel
theorem dX3_isWord_54 : decode cX3_isWord 54 = .ok (.iconst 0, 1) := by decide +kernel
theorem dX3_isWord_55 : decode cX3_isWord 55 = .ok (.ireturn, 1) := by decide +kernel
theorem dX3_isWord_56 : decode cX3_isWord 56 = .ok (.iinc 2 1, 3) := by decide +kernel
theorem dX3_isWord_59 : decode cX3_isWord 59 = .ok (.goto (-32), 3) := by decide +kernel
theorem dX3_isWord_62 : decode cX3_isWord 62 = .ok (.iconst 1, 1) := by decide +kernel
theorem dX3_isWord_63 : decode cX3_isWord 63 = .ok (.ireturn, 1) := by decide +kernel
theorem dX3_takeWord_0 : decode cX3_takeWord 0 = .ok (.aload_n 0, 1) := by decide +kernel
theorem dX3_takeWord_1 : decode cX3_takeWord 1 = .ok (.aload_n 1, 1) := by decide +kernel
theorem dX3_takeWord_2 : decode cX3_takeWord 2 = .ok (.invokevirtual 101, 3) := by decide +kernel
theorem dX3_takeWord_5 : decode cX3_takeWord 5 = .ok (.istore_n 2, 1) := by decide +kernel
theorem dX3_takeWord_6 : decode cX3_takeWord 6 = .ok (.iload_n 2, 1) := by decide +kernel
theorem dX3_takeWord_7 : decode cX3_takeWord 7 = .ok (.ifCond .eq 7, 3) := by decide +kernel
theorem dX3_takeWord_10 : decode cX3_takeWord 10 = .ok (.aload_n 0, 1) := by decide +kernel
theorem dX3_takeWord_11 : decode cX3_takeWord 11 = .ok (.invokevirtual 22, 3) := by decide +kernel
theorem dX3_takeWord_14 : decode cX3_takeWord 14 = .ok (.iload_n 2, 1) := by decide +kernel
theorem dX3_takeWord_15 : decode cX3_takeWord 15 = .ok (.ireturn, 1) := by decide +kernel
theorem dX3_takeNumber_0 : decode cX3_takeNumber 0 = .ok (.aload_n 0, 1) := by decide +kernel
theorem dX3_takeNumber_1 : decode cX3_takeNumber 1 = .ok (.getfield 37, 3) := by decide +kernel
theorem dX3_takeNumber_4 : decode cX3_takeNumber 4 = .ok (.iconst 1, 1) := by decide +kernel
theorem dX3_takeNumber_5 : decode cX3_takeNumber 5 = .ok (.if_icmp .ne 11, 3) := by decide +kernel
theorem dX3_takeNumber_8 : decode cX3_takeNumber 8 = .ok (.aload_n 0, 1) := by decide +kernel
theorem dX3_takeNumber_9 : decode cX3_takeNumber 9 = .ok (.getfield 124, 3) := by decide +kernel
theorem dX3_takeNumber_12 : decode cX3_takeNumber 12 = .ok (.iload_n 1, 1) := by decide +kernel
theorem dX3_takeNumber_13 : decode cX3_takeNumber 13 = .ok (.if_icmp .le 5, 3) := by decide +kernel
theorem dX3_takeNumber_16 : decode cX3_takeNumber 16 = .ok (.iconst (-1), 1) := by decide +kernel
theorem dX3_takeNumber_17 : decode cX3_takeNumber 17 = .ok (.ireturn, 1) := by decide +kernel
theorem dX3_takeNumber_18 : decode cX3_takeNumber 18 = .ok (.aload_n 0, 1) := by decide +kernel
theorem dX3_takeNumber_19 : decode cX3_takeNumber 19 = .ok (.getfield 124, 3) := by decide +kernel
theorem dX3_takeNumber_22 : decode cX3_takeNumber 22 = .ok (.istore_n 2, 1) := by decide +kernel
theorem dX3_takeNumber_23 : decode cX3_takeNumber 23 = .ok (.aload_n 0, 1) := by decide +kernel
theorem dX3_takeNumber_24 : decode cX3_takeNumber 24 = .ok (.invokevirtual 22, 3) := by decide +kernel
theorem dX3_takeNumber_27 : decode cX3_takeNumber 27 = .ok (.iload_n 2, 1) := by decide +kernel
theorem dX3_takeNumber_28 : decode cX3_takeNumber 28 = .ok (.ireturn, 1) := by decide +kernel
theorem dX3_step_0 : decode cX3_step 0 = .ok (.aload_n 0, 1) := by decide +kernel
theorem dX3_step_1 : decode cX3_step 1 = .ok (.aload_n 0, 1) := by decide +kernel
theorem dX3_step_2 : decode cX3_step 2 = .ok (.getfield 19, 3) := by decide +kernel
theorem dX3_step_5 : decode cX3_step 5 = .ok (.putfield 40, 3) := by decide +kernel
theorem dX3_step_8 : decode cX3_step 8 = .ok (.aload_n 0, 1) := by decide +kernel
theorem dX3_step_9 : decode cX3_step 9 = .ok (.getfield 40, 3) := by decide +kernel
theorem dX3_step_12 : decode cX3_step 12 = .ok (.aload_n 0, 1) := by decide +kernel
theorem dX3_step_13 : decode cX3_step 13 = .ok (.getfield 15, 3) := by decide +kernel
theorem dX3_step_16 : decode cX3_step 16 = .ok (.if_icmp .ge 30, 3) := by decide +kernel
theorem dX3_step_19 : decode cX3_step 19 = .ok (.aload_n 0, 1) := by decide +kernel
theorem dX3_step_20 : decode cX3_step 20 = .ok (.getfield 9, 3) := by decide +kernel
theorem dX3_step_23 : decode cX3_step 23 = .ok (.aload_n 0, 1) := by decide +kernel
theorem dX3_step_24 : decode cX3_step 24 = .ok (.getfield 40, 3) := by decide +kernel
theorem dX3_step_27 : decode cX3_step 27 = .ok (.baload, 1) := by decide +kernel
theorem dX3_step_28 : decode cX3_step 28 = .ok (.bipush 32, 2) := by decide +kernel
theorem dX3_step_30 : decode cX3_step 30 = .ok (.if_icmp .ne 16, 3) := by decide +kernel
theorem dX3_step_33 : decode cX3_step 33 = .ok (.aload_n 0, 1) := by decide +kernel
theorem dX3_step_34 : decode cX3_step 34 = .ok (.dup, 1) := by decide +kernel
theorem dX3_step_35 : decode cX3_step 35 = .ok (.getfield 40, 3) := by decide +kernel
theorem dX3_step_38 : decode cX3_step 38 = .ok (.iconst 1, 1) := by decide +kernel
theorem dX3_step_39 : decode cX3_step 39 = .ok (.iadd, 1) := by decide +kernel
theorem dX3_step_40 : decode cX3_step 40 = .ok (.putfield 40, 3) := by decide +kernel
theorem dX3_step_43 : decode cX3_step 43 = .ok (.goto (-35), 3) := by decide +kernel
theorem dX3_step_46 : decode cX3_step 46 = .ok (.aload_n 0, 1) := by decide +kernel
theorem dX3_step_47 : decode cX3_step 47 = .ok (.aload_n 0, 1) := by decide +kernel
theorem dX3_step_48 : decode cX3_step 48 = .ok (.getfield 40, 3) := by decide +kernel
theorem dX3_step_51 : decode cX3_step 51 = .ok (.aload_n 0, 1) := by decide +kernel
theorem dX3_step_52 : decode cX3_step 52 = .ok (.getfield 15, 3) := by decide +kernel
theorem dX3_step_55 : decode cX3_step 55 = .ok (.if_icmp .ge 18, 3) := by decide +kernel
theorem dX3_step_58 : decode cX3_step 58 = .ok (.aload_n 0, 1) := by decide +kernel
theorem dX3_step_59 : decode cX3_step 59 = .ok (.getfield 9, 3) := by decide +kernel
theorem dX3_step_62 : decode cX3_step 62 = .ok (.aload_n 0, 1) := by decide +kernel
theorem dX3_step_63 : decode cX3_step 63 = .ok (.getfield 40, 3) := by decide +kernel
theorem dX3_step_66 : decode cX3_step 66 = .ok (.baload, 1) := by decide +kernel
theorem dX3_step_67 : decode cX3_step 67 = .ok (.invokestatic 127, 3) := by decide +kernel
theorem dX3_step_70 : decode cX3_step 70 = .ok (.goto 4, 3) := by decide +kernel
theorem dX3_step_73 : decode cX3_step 73 = .ok (.iconst 3, 1) := by decide +kernel
theorem dX3_step_74 : decode cX3_step 74 = .ok (.putfield 37, 3) := by decide +kernel
theorem dX3_step_77 : decode cX3_step 77 = .ok (.aload_n 0, 1) := by decide +kernel
theorem dX3_step_78 : decode cX3_step 78 = .ok (.aload_n 0, 1) := by decide +kernel
theorem dX3_step_79 : decode cX3_step 79 = .ok (.getfield 15, 3) := by decide +kernel
theorem dX3_step_82 : decode cX3_step 82 = .ok (.aload_n 0, 1) := by decide +kernel
theorem dX3_step_83 : decode cX3_step 83 = .ok (.getfield 40, 3) := by decide +kernel
theorem dX3_step_86 : decode cX3_step 86 = .ok (.iconst 1, 1) := by decide +kernel
theorem dX3_step_87 : decode cX3_step 87 = .ok (.iadd, 1) := by decide +kernel
theorem dX3_step_88 : decode cX3_step 88 = .ok (.invokestatic 131, 3) := by decide +kernel
theorem dX3_step_91 : decode cX3_step 91 = .ok (.putfield 19, 3) := by decide +kernel
theorem dX3_step_94 : decode cX3_step 94 = .ok (.aload_n 0, 1) := by decide +kernel
theorem dX3_step_95 : decode cX3_step 95 = .ok (.getfield 37, 3) := by decide +kernel
theorem dX3_step_98 : decode cX3_step 98 = .ok (.ifCond .eq 11, 3) := by decide +kernel
theorem dX3_step_101 : decode cX3_step 101 = .ok (.aload_n 0, 1) := by decide +kernel
theorem dX3_step_102 : decode cX3_step 102 = .ok (.getfield 37, 3) := by decide +kernel
theorem dX3_step_105 : decode cX3_step 105 = .ok (.iconst 1, 1) := by decide +kernel
theorem dX3_step_106 : decode cX3_step 106 = .ok (.if_icmp .ne 46, 3) := by decide +kernel
theorem dX3_step_109 : decode cX3_step 109 = .ok (.aload_n 0, 1) := by decide +kernel
theorem dX3_step_110 : decode cX3_step 110 = .ok (.getfield 19, 3) := by decide +kernel
theorem dX3_step_113 : decode cX3_step 113 = .ok (.aload_n 0, 1) := by decide +kernel
theorem dX3_step_114 : decode cX3_step 114 = .ok (.getfield 15, 3) := by decide +kernel
theorem dX3_step_117 : decode cX3_step 117 = .ok (.if_icmp .ge 35, 3) := by decide +kernel
theorem dX3_step_120 : decode cX3_step 120 = .ok (.aload_n 0, 1) := by decide +kernel
theorem dX3_step_121 : decode cX3_step 121 = .ok (.getfield 9, 3) := by decide +kernel
theorem dX3_step_124 : decode cX3_step 124 = .ok (.aload_n 0, 1) := by decide +kernel
theorem dX3_step_125 : decode cX3_step 125 = .ok (.getfield 19, 3) := by decide +kernel
theorem dX3_step_128 : decode cX3_step 128 = .ok (.baload, 1) := by decide +kernel
theorem dX3_step_129 : decode cX3_step 129 = .ok (.invokestatic 127, 3) := by decide +kernel
theorem dX3_step_132 : decode cX3_step 132 = .ok (.aload_n 0, 1) := by decide +kernel
theorem dX3_step_133 : decode cX3_step 133 = .ok (.getfield 37, 3) := by decide +kernel
theorem dX3_step_136 : decode cX3_step 136 = .ok (.if_icmp .ne 16, 3) := by decide +kernel
theorem dX3_step_139 : decode cX3_step 139 = .ok (.aload_n 0, 1) := by decide +kernel
theorem dX3_step_140 : decode cX3_step 140 = .ok (.dup, 1) := by decide +kernel
theorem dX3_step_141 : decode cX3_step 141 = .ok (.getfield 19, 3) := by decide +kernel
theorem dX3_step_144 : decode cX3_step 144 = .ok (.iconst 1, 1) := by decide +kernel
theorem dX3_step_145 : decode cX3_step 145 = .ok (.iadd, 1) := by decide +kernel
theorem dX3_step_146 : decode cX3_step 146 = .ok (.putfield 19, 3) := by decide +kernel
theorem dX3_step_149 : decode cX3_step 149 = .ok (.goto (-55), 3) := by decide +kernel
theorem dX3_step_152 : decode cX3_step 152 = .ok (.aload_n 0, 1) := by decide +kernel
theorem dX3_step_153 : decode cX3_step 153 = .ok (.aload_n 0, 1) := by decide +kernel
theorem dX3_step_154 : decode cX3_step 154 = .ok (.getfield 37, 3) := by decide +kernel
theorem dX3_step_157 : decode cX3_step 157 = .ok (.iconst 1, 1) := by decide +kernel
theorem dX3_step_158 : decode cX3_step 158 = .ok (.if_icmp .ne 10, 3) := by decide +kernel
theorem dX3_step_161 : decode cX3_step 161 = .ok (.aload_n 0, 1) := by decide +kernel
theorem dX3_step_162 : decode cX3_step 162 = .ok (.invokevirtual 137, 3) := by decide +kernel
theorem dX3_step_165 : decode cX3_step 165 = .ok (.goto 4, 3) := by decide +kernel
theorem dX3_step_168 : decode cX3_step 168 = .ok (.iconst 0, 1) := by decide +kernel
theorem dX3_step_169 : decode cX3_step 169 = .ok (.putfield 124, 3) := by decide +kernel
theorem dX3_step_172 : decode cX3_step 172 = .ok (.return_, 1) := by decide +kernel
theorem dX3_tokenBegunBy_0 : decode cX3_tokenBegunBy 0 = .ok (.iload_n 0, 1) := by decide +kernel
theorem dX3_tokenBegunBy_1 : decode cX3_tokenBegunBy 1 = .ok (.bipush 97, 2) := by decide +kernel
theorem dX3_tokenBegunBy_3 : decode cX3_tokenBegunBy 3 = .ok (.if_icmp .lt 11, 3) := by decide +kernel
theorem dX3_tokenBegunBy_6 : decode cX3_tokenBegunBy 6 = .ok (.iload_n 0, 1) := by decide +kernel
theorem dX3_tokenBegunBy_7 : decode cX3_tokenBegunBy 7 = .ok (.bipush 122, 2) := by decide +kernel
theorem dX3_tokenBegunBy_9 : decode cX3_tokenBegunBy 9 = .ok (.if_icmp .gt 5, 3) := by decide +kernel
theorem dX3_tokenBegunBy_12 : decode cX3_tokenBegunBy 12 = .ok (.iconst 0, 1) := by decide +kernel
theorem dX3_tokenBegunBy_13 : decode cX3_tokenBegunBy 13 = .ok (.ireturn, 1) := by decide +kernel
theorem dX3_tokenBegunBy_14 : decode cX3_tokenBegunBy 14 = .ok (.iload_n 0, 1) := by decide +kernel
theorem dX3_tokenBegunBy_15 : decode cX3_tokenBegunBy 15 = .ok (.bipush 48, 2) := by decide +kernel
theorem dX3_tokenBegunBy_17 : decode cX3_tokenBegunBy 17 = .ok (.if_icmp .lt 11, 3) := by decide +kernel
theorem dX3_tokenBegunBy_20 : decode cX3_tokenBegunBy 20 = .ok (.iload_n 0, 1) := by decide +kernel
theorem dX3_tokenBegunBy_21 : decode cX3_tokenBegunBy 21 = .ok (.bipush 57, 2) := by decide +kernel
theorem dX3_tokenBegunBy_23 : decode cX3_tokenBegunBy 23 = .ok (.if_icmp .gt 5, 3) := by decide +kernel
theorem dX3_tokenBegunBy_26 : decode cX3_tokenBegunBy 26 = .ok (.iconst 1, 1) := by decide +kernel
theorem dX3_tokenBegunBy_27 : decode cX3_tokenBegunBy 27 = .ok (.ireturn, 1) := by decide +kernel
theorem dX3_tokenBegunBy_28 : decode cX3_tokenBegunBy 28 = .ok (.iload_n 0, 1) := by decide +kernel
theorem dX3_tokenBegunBy_29 : decode cX3_tokenBegunBy 29 = .ok (.bipush 59, 2) := by decide +kernel
theorem dX3_tokenBegunBy_31 : decode cX3_tokenBegunBy 31 = .ok (.if_icmp .ne 7, 3) := by decide +kernel
theorem dX3_tokenBegunBy_34 : decode cX3_tokenBegunBy 34 = .ok (.iconst 2, 1) := by decide +kernel
theorem dX3_tokenBegunBy_35 : decode cX3_tokenBegunBy 35 = .ok (.goto 4, 3) := by decide +kernel
theorem dX3_tokenBegunBy_38 : decode cX3_tokenBegunBy 38 = .ok (.iconst 4, 1) := by decide +kernel
theorem dX3_tokenBegunBy_39 : decode cX3_tokenBegunBy 39 = .ok (.ireturn, 1) := by decide +kernel
theorem dX3_valueAtHand_0 : decode cX3_valueAtHand 0 = .ok (.iconst 0, 1) := by decide +kernel
theorem dX3_valueAtHand_1 : decode cX3_valueAtHand 1 = .ok (.istore_n 1, 1) := by decide +kernel
theorem dX3_valueAtHand_2 : decode cX3_valueAtHand 2 = .ok (.aload_n 0, 1) := by decide +kernel
theorem dX3_valueAtHand_3 : decode cX3_valueAtHand 3 = .ok (.getfield 40, 3) := by decide +kernel
theorem dX3_valueAtHand_6 : decode cX3_valueAtHand 6 = .ok (.istore_n 2, 1) := by decide +kernel
theorem dX3_valueAtHand_7 : decode cX3_valueAtHand 7 = .ok (.iload_n 2, 1) := by decide +kernel
theorem dX3_valueAtHand_8 : decode cX3_valueAtHand 8 = .ok (.aload_n 0, 1) := by decide +kernel
theorem dX3_valueAtHand_9 : decode cX3_valueAtHand 9 = .ok (.getfield 19, 3) := by decide +kernel
theorem dX3_valueAtHand_12 : decode cX3_valueAtHand 12 = .ok (.if_icmp .ge 30, 3) := by decide +kernel
theorem dX3_valueAtHand_15 : decode cX3_valueAtHand 15 = .ok (.sipush 10000, 3) := by decide +kernel
theorem dX3_valueAtHand_18 : decode cX3_valueAtHand 18 = .ok (.iload_n 1, 1) := by decide +kernel
theorem dX3_valueAtHand_19 : decode cX3_valueAtHand 19 = .ok (.bipush 10, 2) := by decide +kernel
theorem dX3_valueAtHand_21 : decode cX3_valueAtHand 21 = .ok (.imul, 1) := by decide +kernel
theorem dX3_valueAtHand_22 : decode cX3_valueAtHand 22 = .ok (.aload_n 0, 1) := by decide +kernel
theorem dX3_valueAtHand_23 : decode cX3_valueAtHand 23 = .ok (.getfield 9, 3) := by decide +kernel
theorem dX3_valueAtHand_26 : decode cX3_valueAtHand 26 = .ok (.iload_n 2, 1) := by decide +kernel
theorem dX3_valueAtHand_27 : decode cX3_valueAtHand 27 = .ok (.baload, 1) := by decide +kernel
theorem dX3_valueAtHand_28 : decode cX3_valueAtHand 28 = .ok (.iadd, 1) := by decide +kernel
theorem dX3_valueAtHand_29 : decode cX3_valueAtHand 29 = .ok (.bipush 48, 2) := by decide +kernel
theorem dX3_valueAtHand_31 : decode cX3_valueAtHand 31 = .ok (.isub, 1) := by decide +kernel
theorem dX3_valueAtHand_32 : decode cX3_valueAtHand 32 = .ok (.invokestatic 131, 3) := by decide +kernel
theorem dX3_valueAtHand_35 : decode cX3_valueAtHand 35 = .ok (.istore_n 1, 1) := by decide +kernel
theorem dX3_valueAtHand_36 : decode cX3_valueAtHand 36 = .ok (.iinc 2 1, 3) := by decide +kernel
theorem dX3_valueAtHand_39 : decode cX3_valueAtHand 39 = .ok (.goto (-32), 3) := by decide +kernel
theorem dX3_valueAtHand_42 : decode cX3_valueAtHand 42 = .ok (.iload_n 1, 1) := by decide +kernel
theorem dX3_valueAtHand_43 : decode cX3_valueAtHand 43 = .ok (.ireturn, 1) := by decide +kernel
theorem dJ6_bitCount_0f7a4_0 : decode cJ6_bitCount_0f7a4 0 = .ok (.iload_n 0, 1) := by decide +kernel
theorem dJ6_bitCount_0f7a4_1 : decode cJ6_bitCount_0f7a4 1 = .ok (.iload_n 0, 1) := by decide +kernel
theorem dJ6_bitCount_0f7a4_2 : decode cJ6_bitCount_0f7a4 2 = .ok (.iconst 1, 1) := by decide +kernel
theorem dJ6_bitCount_0f7a4_3 : decode cJ6_bitCount_0f7a4 3 = .ok (.iushr, 1) := by decide +kernel
theorem dJ6_bitCount_0f7a4_4 : decode cJ6_bitCount_0f7a4 4 = .ok (.ldc_w 265, 3) := by decide +kernel
theorem dJ6_bitCount_0f7a4_7 : decode cJ6_bitCount_0f7a4 7 = .ok (.iand, 1) := by decide +kernel
theorem dJ6_bitCount_0f7a4_8 : decode cJ6_bitCount_0f7a4 8 = .ok (.isub, 1) := by decide +kernel
theorem dJ6_bitCount_0f7a4_9 : decode cJ6_bitCount_0f7a4 9 = .ok (.istore_n 0, 1) := by decide +kernel
theorem dJ6_bitCount_0f7a4_10 : decode cJ6_bitCount_0f7a4 10 = .ok (.iload_n 0, 1) := by decide +kernel
theorem dJ6_bitCount_0f7a4_11 : decode cJ6_bitCount_0f7a4 11 = .ok (.ldc_w 266, 3) := by decide +kernel
theorem dJ6_bitCount_0f7a4_14 : decode cJ6_bitCount_0f7a4 14 = .ok (.iand, 1) := by decide +kernel
theorem dJ6_bitCount_0f7a4_15 : decode cJ6_bitCount_0f7a4 15 = .ok (.iload_n 0, 1) := by decide +kernel
theorem dJ6_bitCount_0f7a4_16 : decode cJ6_bitCount_0f7a4 16 = .ok (.iconst 2, 1) := by decide +kernel
theorem dJ6_bitCount_0f7a4_17 : decode cJ6_bitCount_0f7a4 17 = .ok (.iushr, 1) := by decide +kernel
theorem dJ6_bitCount_0f7a4_18 : decode cJ6_bitCount_0f7a4 18 = .ok (.ldc_w 266, 3) := by decide +kernel
theorem dJ6_bitCount_0f7a4_21 : decode cJ6_bitCount_0f7a4 21 = .ok (.iand, 1) := by decide +kernel
theorem dJ6_bitCount_0f7a4_22 : decode cJ6_bitCount_0f7a4 22 = .ok (.iadd, 1) := by decide +kernel
theorem dJ6_bitCount_0f7a4_23 : decode cJ6_bitCount_0f7a4 23 = .ok (.istore_n 0, 1) := by decide +kernel
theorem dJ6_bitCount_0f7a4_24 : decode cJ6_bitCount_0f7a4 24 = .ok (.iload_n 0, 1) := by decide +kernel
theorem dJ6_bitCount_0f7a4_25 : decode cJ6_bitCount_0f7a4 25 = .ok (.iload_n 0, 1) := by decide +kernel
theorem dJ6_bitCount_0f7a4_26 : decode cJ6_bitCount_0f7a4 26 = .ok (.iconst 4, 1) := by decide +kernel
theorem dJ6_bitCount_0f7a4_27 : decode cJ6_bitCount_0f7a4 27 = .ok (.iushr, 1) := by decide +kernel
theorem dJ6_bitCount_0f7a4_28 : decode cJ6_bitCount_0f7a4 28 = .ok (.iadd, 1) := by decide +kernel
theorem dJ6_bitCount_0f7a4_29 : decode cJ6_bitCount_0f7a4 29 = .ok (.ldc_w 267, 3) := by decide +kernel
theorem dJ6_bitCount_0f7a4_32 : decode cJ6_bitCount_0f7a4 32 = .ok (.iand, 1) := by decide +kernel
theorem dJ6_bitCount_0f7a4_33 : decode cJ6_bitCount_0f7a4 33 = .ok (.istore_n 0, 1) := by decide +kernel
theorem dJ6_bitCount_0f7a4_34 : decode cJ6_bitCount_0f7a4 34 = .ok (.iload_n 0, 1) := by decide +kernel
theorem dJ6_bitCount_0f7a4_35 : decode cJ6_bitCount_0f7a4 35 = .ok (.iload_n 0, 1) := by decide +kernel
theorem dJ6_bitCount_0f7a4_36 : decode cJ6_bitCount_0f7a4 36 = .ok (.bipush 8, 2) := by decide +kernel
theorem dJ6_bitCount_0f7a4_38 : decode cJ6_bitCount_0f7a4 38 = .ok (.iushr, 1) := by decide +kernel
theorem dJ6_bitCount_0f7a4_39 : decode cJ6_bitCount_0f7a4 39 = .ok (.iadd, 1) := by decide +kernel
theorem dJ6_bitCount_0f7a4_40 : decode cJ6_bitCount_0f7a4 40 = .ok (.istore_n 0, 1) := by decide +kernel
theorem dJ6_bitCount_0f7a4_41 : decode cJ6_bitCount_0f7a4 41 = .ok (.iload_n 0, 1) := by decide +kernel
theorem dJ6_bitCount_0f7a4_42 : decode cJ6_bitCount_0f7a4 42 = .ok (.iload_n 0, 1) := by decide +kernel
theorem dJ6_bitCount_0f7a4_43 : decode cJ6_bitCount_0f7a4 43 = .ok (.bipush 16, 2) := by decide +kernel
theorem dJ6_bitCount_0f7a4_45 : decode cJ6_bitCount_0f7a4 45 = .ok (.iushr, 1) := by decide +kernel
theorem dJ6_bitCount_0f7a4_46 : decode cJ6_bitCount_0f7a4 46 = .ok (.iadd, 1) := by decide +kernel
theorem dJ6_bitCount_0f7a4_47 : decode cJ6_bitCount_0f7a4 47 = .ok (.istore_n 0, 1) := by decide +kernel
theorem dJ6_bitCount_0f7a4_48 : decode cJ6_bitCount_0f7a4 48 = .ok (.iload_n 0, 1) := by decide +kernel
theorem dJ6_bitCount_0f7a4_49 : decode cJ6_bitCount_0f7a4 49 = .ok (.bipush 63, 2) := by decide +kernel
theorem dJ6_bitCount_0f7a4_51 : decode cJ6_bitCount_0f7a4 51 = .ok (.iand, 1) := by decide +kernel
theorem dJ6_bitCount_0f7a4_52 : decode cJ6_bitCount_0f7a4 52 = .ok (.ireturn, 1) := by decide +kernel
theorem dJ0_length_8abf5_0 : decode cJ0_length_8abf5 0 = .ok (.aload_n 0, 1) := by decide +kernel
theorem dJ0_length_8abf5_1 : decode cJ0_length_8abf5 1 = .ok (.getfield 9, 3) := by decide +kernel
theorem dJ0_length_8abf5_4 : decode cJ0_length_8abf5 4 = .ok (.arraylength, 1) := by decide +kernel
theorem dJ0_length_8abf5_5 : decode cJ0_length_8abf5 5 = .ok (.aload_n 0, 1) := by decide +kernel
theorem dJ0_length_8abf5_6 : decode cJ0_length_8abf5 6 = .ok (.invokevirtual 335, 3) := by decide +kernel
theorem dJ0_length_8abf5_9 : decode cJ0_length_8abf5 9 = .ok (.ishr, 1) := by decide +kernel
theorem dJ0_length_8abf5_10 : decode cJ0_length_8abf5 10 = .ok (.ireturn, 1) := by decide +kernel
theorem dJ0_charAt_5068e_0 : decode cJ0_charAt_5068e 0 = .ok (.aload_n 0, 1) := by decide +kernel
theorem dJ0_charAt_5068e_1 : decode cJ0_charAt_5068e 1 = .ok (.invokevirtual 492, 3) := by decide +kernel
theorem dJ0_charAt_5068e_4 : decode cJ0_charAt_5068e 4 = .ok (.ifCond .eq 12, 3) := by decide +kernel
theorem dJ0_charAt_5068e_7 : decode cJ0_charAt_5068e 7 = .ok (.aload_n 0, 1) := by decide +kernel
theorem dJ0_charAt_5068e_8 : decode cJ0_charAt_5068e 8 = .ok (.getfield 9, 3) := by decide +kernel
theorem dJ0_charAt_5068e_11 : decode cJ0_charAt_5068e 11 = .ok (.iload_n 1, 1) := by decide +kernel
theorem dJ0_charAt_5068e_12 : decode cJ0_charAt_5068e 12 = .ok (.invokestatic 495, 3) := by decide +kernel
theorem dJ0_charAt_5068e_15 : decode cJ0_charAt_5068e 15 = .ok (.ireturn, 1) := by decide +kernel
theorem dJ0_charAt_5068e_16 : decode cJ0_charAt_5068e 16 = .ok (.aload_n 0, 1) := by decide +kernel
theorem dJ0_charAt_5068e_17 : decode cJ0_charAt_5068e 17 = .ok (.getfield 9, 3) := by decide +kernel
theorem dJ0_charAt_5068e_20 : decode cJ0_charAt_5068e 20 = .ok (.iload_n 1, 1) := by decide +kernel
theorem dJ0_charAt_5068e_21 : decode cJ0_charAt_5068e 21 = .ok (.invokestatic 498, 3) := by decide +kernel
theorem dJ0_charAt_5068e_24 : decode cJ0_charAt_5068e 24 = .ok (.ireturn, 1) := by decide +kernel
theorem dJ0_coder_7d493_0 : decode cJ0_coder_7d493 0 = .ok (.getstatic 38, 3) := by decide +kernel
theorem dJ0_coder_7d493_3 : decode cJ0_coder_7d493 3 = .ok (.ifCond .eq 10, 3) := by decide +kernel
theorem dJ0_coder_7d493_6 : decode cJ0_coder_7d493 6 = .ok (.aload_n 0, 1) := by decide +kernel
theorem dJ0_coder_7d493_7 : decode cJ0_coder_7d493 7 = .ok (.getfield 15, 3) := by decide +kernel
theorem dJ0_coder_7d493_10 : decode cJ0_coder_7d493 10 = .ok (.goto 4, 3) := by decide +kernel
theorem dJ0_coder_7d493_13 : decode cJ0_coder_7d493 13 = .ok (.iconst 1, 1) := by decide +kernel
theorem dJ0_coder_7d493_14 : decode cJ0_coder_7d493 14 = .ok (.ireturn, 1) := by decide +kernel
theorem dJ0_isLatin1_aae02_0 : decode cJ0_isLatin1_aae02 0 = .ok (.getstatic 38, 3) := by decide +kernel
theorem dJ0_isLatin1_aae02_3 : decode cJ0_isLatin1_aae02 3 = .ok (.ifCond .eq 14, 3) := by decide +kernel
theorem dJ0_isLatin1_aae02_6 : decode cJ0_isLatin1_aae02 6 = .ok (.aload_n 0, 1) := by decide +kernel
theorem dJ0_isLatin1_aae02_7 : decode cJ0_isLatin1_aae02 7 = .ok (.getfield 15, 3) := by decide +kernel
theorem dJ0_isLatin1_aae02_10 : decode cJ0_isLatin1_aae02 10 = .ok (.ifCond .ne 7, 3) := by decide +kernel
theorem dJ0_isLatin1_aae02_13 : decode cJ0_isLatin1_aae02 13 = .ok (.iconst 1, 1) := by decide +kernel
theorem dJ0_isLatin1_aae02_14 : decode cJ0_isLatin1_aae02 14 = .ok (.goto 4, 3) := by decide +kernel
theorem dJ0_isLatin1_aae02_17 : decode cJ0_isLatin1_aae02 17 = .ok (.iconst 0, 1) := by decide +kernel
theorem dJ0_isLatin1_aae02_18 : decode cJ0_isLatin1_aae02 18 = .ok (.ireturn, 1) := by decide +kernel
theorem dJ0_checkIndex_df160_0 : decode cJ0_checkIndex_df160 0 = .ok (.iload_n 0, 1) := by decide +kernel
theorem dJ0_checkIndex_df160_1 : decode cJ0_checkIndex_df160 1 = .ok (.iload_n 1, 1) := by decide +kernel
theorem dJ0_checkIndex_df160_2 : decode cJ0_checkIndex_df160 2 = .ok (.getstatic 1053, 3) := by decide +kernel
theorem dJ0_checkIndex_df160_5 : decode cJ0_checkIndex_df160 5 = .ok (.invokestatic 1059, 3) := by decide +kernel
theorem dJ0_checkIndex_df160_8 : decode cJ0_checkIndex_df160 8 = .ok (.pop, 1) := by decide +kernel
theorem dJ0_checkIndex_df160_9 : decode cJ0_checkIndex_df160 9 = .ok (.return_, 1) := by decide +kernel
theorem dJ1_charAt_3b067_0 : decode cJ1_charAt_3b067 0 = .ok (.iload_n 1, 1) := by decide +kernel
theorem dJ1_charAt_3b067_1 : decode cJ1_charAt_3b067 1 = .ok (.aload_n 0, 1) := by decide +kernel
theorem dJ1_charAt_3b067_2 : decode cJ1_charAt_3b067 2 = .ok (.arraylength, 1) := by decide +kernel
theorem dJ1_charAt_3b067_3 : decode cJ1_charAt_3b067 3 = .ok (.invokestatic 9, 3) := by decide +kernel
theorem dJ1_charAt_3b067_6 : decode cJ1_charAt_3b067 6 = .ok (.aload_n 0, 1) := by decide +kernel
theorem dJ1_charAt_3b067_7 : decode cJ1_charAt_3b067 7 = .ok (.iload_n 1, 1) := by decide +kernel
theorem dJ1_charAt_3b067_8 : decode cJ1_charAt_3b067 8 = .ok (.baload, 1) := by decide +kernel
theorem dJ1_charAt_3b067_9 : decode cJ1_charAt_3b067 9 = .ok (.sipush 255, 3) := by decide +kernel
theorem dJ1_charAt_3b067_12 : decode cJ1_charAt_3b067 12 = .ok (.iand, 1) := by decide +kernel
theorem dJ1_charAt_3b067_13 : decode cJ1_charAt_3b067 13 = .ok (.i2c, 1) := by decide +kernel
theorem dJ1_charAt_3b067_14 : decode cJ1_charAt_3b067 14 = .ok (.ireturn, 1) := by decide +kernel
theorem dX4_init_0 : decode cX4_init 0 = .ok (.aload_n 0, 1) := by decide +kernel
theorem dX4_init_1 : decode cX4_init 1 = .ok (.invokespecial 1, 3) := by decide +kernel
theorem dX4_init_4 : decode cX4_init 4 = .ok (.aload_n 0, 1) := by decide +kernel
theorem dX4_init_5 : decode cX4_init 5 = .ok (.new 7, 3) := by decide +kernel
theorem dX4_init_8 : decode cX4_init 8 = .ok (.dup, 1) := by decide +kernel
theorem dX4_init_9 : decode cX4_init 9 = .ok (.invokespecial 9, 3) := by decide +kernel
theorem dX4_init_12 : decode cX4_init 12 = .ok (.putfield 10, 3) := by decide +kernel
theorem dX4_init_15 : decode cX4_init 15 = .ok (.aload_n 0, 1) := by decide +kernel
theorem dX4_init_16 : decode cX4_init 16 = .ok (.new 7, 3) := by decide +kernel
theorem dX4_init_19 : decode cX4_init 19 = .ok (.dup, 1) := by decide +kernel
theorem dX4_init_20 : decode cX4_init 20 = .ok (.invokespecial 9, 3) := by decide +kernel
theorem dX4_init_23 : decode cX4_init 23 = .ok (.putfield 16, 3) := by decide +kernel
theorem dX4_init_26 : decode cX4_init 26 = .ok (.aload_n 0, 1) := by decide +kernel
theorem dX4_init_27 : decode cX4_init 27 = .ok (.new 7, 3) := by decide +kernel
theorem dX4_init_30 : decode cX4_init 30 = .ok (.dup, 1) := by decide +kernel
theorem dX4_init_31 : decode cX4_init 31 = .ok (.invokespecial 9, 3) := by decide +kernel
theorem dX4_init_34 : decode cX4_init 34 = .ok (.putfield 19, 3) := by decide +kernel
theorem dX4_init_37 : decode cX4_init 37 = .ok (.aload_n 0, 1) := by decide +kernel
theorem dX4_init_38 : decode cX4_init 38 = .ok (.new 22, 3) := by decide +kernel
theorem dX4_init_41 : decode cX4_init 41 = .ok (.dup, 1) := by decide +kernel
theorem dX4_init_42 : decode cX4_init 42 = .ok (.invokespecial 24, 3) := by decide +kernel
theorem dX4_init_45 : decode cX4_init 45 = .ok (.putfield 25, 3) := by decide +kernel
theorem dX4_init_48 : decode cX4_init 48 = .ok (.aload_n 0, 1) := by decide +kernel
theorem dX4_init_49 : decode cX4_init 49 = .ok (.new 29, 3) := by decide +kernel
theorem dX4_init_52 : decode cX4_init 52 = .ok (.dup, 1) := by decide +kernel
theorem dX4_init_53 : decode cX4_init 53 = .ok (.invokespecial 31, 3) := by decide +kernel
theorem dX4_init_56 : decode cX4_init 56 = .ok (.putfield 32, 3) := by decide +kernel
theorem dX4_init_59 : decode cX4_init 59 = .ok (.aload_n 0, 1) := by decide +kernel
theorem dX4_init_60 : decode cX4_init 60 = .ok (.iconst 4, 1) := by decide +kernel
theorem dX4_init_61 : decode cX4_init 61 = .ok (.anewarray 36, 3) := by decide +kernel
theorem dX4_init_64 : decode cX4_init 64 = .ok (.putfield 38, 3) := by decide +kernel
theorem dX4_init_67 : decode cX4_init 67 = .ok (.aload_n 0, 1) := by decide +kernel
theorem dX4_init_68 : decode cX4_init 68 = .ok (.bipush 7, 2) := by decide +kernel
theorem dX4_init_70 : decode cX4_init 70 = .ok (.newarray .int, 2) := by decide +kernel
theorem dX4_init_72 : decode cX4_init 72 = .ok (.putfield 42, 3) := by decide +kernel
theorem dX4_init_75 : decode cX4_init 75 = .ok (.iconst 0, 1) := by decide +kernel
theorem dX4_init_76 : decode cX4_init 76 = .ok (.istore_n 1, 1) := by decide +kernel
theorem dX4_init_77 : decode cX4_init 77 = .ok (.iload_n 1, 1) := by decide +kernel
theorem dX4_init_78 : decode cX4_init 78 = .ok (.iconst 4, 1) := by decide +kernel
theorem dX4_init_79 : decode cX4_init 79 = .ok (.if_icmp .ge 22, 3) := by decide +kernel
theorem dX4_init_82 : decode cX4_init 82 = .ok (.aload_n 0, 1) := by decide +kernel
theorem dX4_init_83 : decode cX4_init 83 = .ok (.getfield 38, 3) := by decide +kernel
theorem dX4_init_86 : decode cX4_init 86 = .ok (.iload_n 1, 1) := by decide +kernel
theorem dX4_init_87 : decode cX4_init 87 = .ok (.new 36, 3) := by decide +kernel
theorem dX4_init_90 : decode cX4_init 90 = .ok (.dup, 1) := by decide +kernel
theorem dX4_init_91 : decode cX4_init 91 = .ok (.invokespecial 46, 3) := by decide +kernel
theorem dX4_init_94 : decode cX4_init 94 = .ok (.aastore, 1) := by decide +kernel
theorem dX4_init_95 : decode cX4_init 95 = .ok (.iinc 1 1, 3) := by decide +kernel
theorem dX4_init_98 : decode cX4_init 98 = .ok (.goto (-21), 3) := by decide +kernel
theorem dX4_init_101 : decode cX4_init 101 = .ok (.return_, 1) := by decide +kernel
theorem dX4_fire_0 : decode cX4_fire 0 = .ok (.iload_n 1, 1) := by decide +kernel
theorem dX4_fire_1 : decode cX4_fire 1 = .ok (.iconst 0, 1) := by decide +kernel
theorem dX4_fire_2 : decode cX4_fire 2 = .ok (.iconst 1, 1) := by decide +kernel
theorem dX4_fire_3 : decode cX4_fire 3 = .ok (.invokestatic 47, 3) := by decide +kernel
theorem dX4_fire_6 : decode cX4_fire 6 = .ok (.ifCond .ne 9, 3) := by decide +kernel
theorem dX4_fire_9 : decode cX4_fire 9 = .ok (.aload_n 0, 1) := by decide +kernel
theorem dX4_fire_10 : decode cX4_fire 10 = .ok (.iconst 0, 1) := by decide +kernel
theorem dX4_fire_11 : decode cX4_fire 11 = .ok (.invokevirtual 51, 3) := by decide +kernel
theorem dX4_fire_14 : decode cX4_fire 14 = .ok (.ireturn, 1) := by decide +kernel
theorem dX4_fire_15 : decode cX4_fire 15 = .ok (.aload_n 0, 1) := by decide +kernel
theorem dX4_fire_16 : decode cX4_fire 16 = .ok (.getfield 10, 3) := by decide +kernel
theorem dX4_fire_19 : decode cX4_fire 19 = .ok (.getfield 55, 3) := by decide +kernel
theorem dX4_fire_22 : decode cX4_fire 22 = .ok (.istore_n 2, 1) := by decide +kernel
theorem dX4_fire_23 : decode cX4_fire 23 = .ok (.aload_n 0, 1) := by decide +kernel
theorem dX4_fire_24 : decode cX4_fire 24 = .ok (.getfield 10, 3) := by decide +kernel
theorem dX4_fire_27 : decode cX4_fire 27 = .ok (.iload_n 1, 1) := by decide +kernel
theorem dX4_fire_28 : decode cX4_fire 28 = .ok (.putfield 55, 3) := by decide +kernel
theorem dX4_fire_31 : decode cX4_fire 31 = .ok (.iload_n 2, 1) := by decide +kernel
theorem dX4_fire_32 : decode cX4_fire 32 = .ok (.ireturn, 1) := by decide +kernel
theorem dX4_scene_0 : decode cX4_scene 0 = .ok (.iload_n 1, 1) := by decide +kernel
theorem dX4_scene_1 : decode cX4_scene 1 = .ok (.invokestatic 59, 3) := by decide +kernel
theorem dX4_scene_4 : decode cX4_scene 4 = .ok (.ifCond .eq 13, 3) := by decide +kernel
theorem dX4_scene_7 : decode cX4_scene 7 = .ok (.iload_n 2, 1) := by decide +kernel
theorem dX4_scene_8 : decode cX4_scene 8 = .ok (.iconst 0, 1) := by decide +kernel
theorem dX4_scene_9 : decode cX4_scene 9 = .ok (.bipush 11, 2) := by decide +kernel
theorem dX4_scene_11 : decode cX4_scene 11 = .ok (.invokestatic 47, 3) := by decide +kernel
theorem dX4_scene_14 : decode cX4_scene 14 = .ok (.ifCond .ne 9, 3) := by decide +kernel
theorem dX4_scene_17 : decode cX4_scene 17 = .ok (.aload_n 0, 1) := by decide +kernel
theorem dX4_scene_18 : decode cX4_scene 18 = .ok (.iconst 0, 1) := by decide +kernel
theorem dX4_scene_19 : decode cX4_scene 19 = .ok (.invokevirtual 51, 3) := by decide +kernel
theorem dX4_scene_22 : decode cX4_scene 22 = .ok (.ireturn, 1) := by decide +kernel
theorem dX4_scene_23 : decode cX4_scene 23 = .ok (.aload_n 0, 1) := by decide +kernel
theorem dX4_scene_24 : decode cX4_scene 24 = .ok (.getfield 10, 3) := by decide +kernel
theorem dX4_scene_27 : decode cX4_scene 27 = .ok (.getfield 63, 3) := by decide +kernel
theorem dX4_scene_30 : decode cX4_scene 30 = .ok (.iload_n 1, 1) := by decide +kernel
theorem dX4_scene_31 : decode cX4_scene 31 = .ok (.iaload, 1) := by decide +kernel
theorem dX4_scene_32 : decode cX4_scene 32 = .ok (.istore_n 3, 1) := by decide +kernel
theorem dX4_scene_33 : decode cX4_scene 33 = .ok (.aload_n 0, 1) := by decide +kernel
theorem dX4_scene_34 : decode cX4_scene 34 = .ok (.getfield 10, 3) := by decide +kernel
theorem dX4_scene_37 : decode cX4_scene 37 = .ok (.getfield 63, 3) := by decide +kernel
theorem dX4_scene_40 : decode cX4_scene 40 = .ok (.iload_n 1, 1) := by decide +kernel
theorem dX4_scene_41 : decode cX4_scene 41 = .ok (.iload_n 2, 1) := by decide +kernel
theorem dX4_scene_42 : decode cX4_scene 42 = .ok (.iastore, 1) := by decide +kernel
theorem dX4_scene_43 : decode cX4_scene 43 = .ok (.iload_n 3, 1) := by decide +kernel
theorem dX4_scene_44 : decode cX4_scene 44 = .ok (.ireturn, 1) := by decide +kernel
theorem dX4_listed_0 : decode cX4_listed 0 = .ok (.iload_n 1, 1) := by decide +kernel
theorem dX4_listed_1 : decode cX4_listed 1 = .ok (.invokestatic 59, 3) := by decide +kernel
theorem dX4_listed_4 : decode cX4_listed 4 = .ok (.ifCond .ne 9, 3) := by decide +kernel
theorem dX4_listed_7 : decode cX4_listed 7 = .ok (.aload_n 0, 1) := by decide +kernel
theorem dX4_listed_8 : decode cX4_listed 8 = .ok (.iconst 0, 1) := by decide +kernel
theorem dX4_listed_9 : decode cX4_listed 9 = .ok (.invokevirtual 51, 3) := by decide +kernel
theorem dX4_listed_12 : decode cX4_listed 12 = .ok (.ireturn, 1) := by decide +kernel
theorem dX4_listed_13 : decode cX4_listed 13 = .ok (.aload_n 0, 1) := by decide +kernel
theorem dX4_listed_14 : decode cX4_listed 14 = .ok (.getfield 10, 3) := by decide +kernel
theorem dX4_listed_17 : decode cX4_listed 17 = .ok (.getfield 63, 3) := by decide +kernel
theorem dX4_listed_20 : decode cX4_listed 20 = .ok (.iload_n 1, 1) := by decide +kernel
theorem dX4_listed_21 : decode cX4_listed 21 = .ok (.iaload, 1) := by decide +kernel
theorem dX4_listed_22 : decode cX4_listed 22 = .ok (.ireturn, 1) := by decide +kernel
theorem dX4_curtain_0 : decode cX4_curtain 0 = .ok (.iload_n 1, 1) := by decide +kernel
theorem dX4_curtain_1 : decode cX4_curtain 1 = .ok (.invokestatic 66, 3) := by decide +kernel
theorem dX4_curtain_4 : decode cX4_curtain 4 = .ok (.ifCond .eq 14, 3) := by decide +kernel
theorem dX4_curtain_7 : decode cX4_curtain 7 = .ok (.iload_n 2, 1) := by decide +kernel
theorem dX4_curtain_8 : decode cX4_curtain 8 = .ok (.iconst 0, 1) := by decide +kernel
theorem dX4_curtain_9 : decode cX4_curtain 9 = .ok (.sipush 4095, 3) := by decide +kernel
theorem dX4_curtain_12 : decode cX4_curtain 12 = .ok (.invokestatic 47, 3) := by decide +kernel
theorem dX4_curtain_15 : decode cX4_curtain 15 = .ok (.ifCond .ne 9, 3) := by decide +kernel
theorem dX4_curtain_18 : decode cX4_curtain 18 = .ok (.aload_n 0, 1) := by decide +kernel
theorem dX4_curtain_19 : decode cX4_curtain 19 = .ok (.iconst 0, 1) := by decide +kernel
theorem dX4_curtain_20 : decode cX4_curtain 20 = .ok (.invokevirtual 51, 3) := by decide +kernel
theorem dX4_curtain_23 : decode cX4_curtain 23 = .ok (.ireturn, 1) := by decide +kernel
theorem dX4_curtain_24 : decode cX4_curtain 24 = .ok (.aload_n 0, 1) := by decide +kernel
theorem dX4_curtain_25 : decode cX4_curtain 25 = .ok (.getfield 10, 3) := by decide +kernel
theorem dX4_curtain_28 : decode cX4_curtain 28 = .ok (.invokevirtual 69, 3) := by decide +kernel
theorem dX4_curtain_31 : decode cX4_curtain 31 = .ok (.ifCond .eq 9, 3) := by decide +kernel
theorem dX4_curtain_34 : decode cX4_curtain 34 = .ok (.aload_n 0, 1) := by decide +kernel
theorem dX4_curtain_35 : decode cX4_curtain 35 = .ok (.iconst 1, 1) := by decide +kernel
theorem dX4_curtain_36 : decode cX4_curtain 36 = .ok (.invokevirtual 51, 3) := by decide +kernel
theorem dX4_curtain_39 : decode cX4_curtain 39 = .ok (.ireturn, 1) := by decide +kernel
theorem dX4_curtain_40 : decode cX4_curtain 40 = .ok (.aload_n 0, 1) := by decide +kernel
theorem dX4_curtain_41 : decode cX4_curtain 41 = .ok (.getfield 10, 3) := by decide +kernel
theorem dX4_curtain_44 : decode cX4_curtain 44 = .ok (.iload_n 1, 1) := by decide +kernel
theorem dX4_curtain_45 : decode cX4_curtain 45 = .ok (.invokevirtual 73, 3) := by decide +kernel
theorem dX4_curtain_48 : decode cX4_curtain 48 = .ok (.iload_n 2, 1) := by decide +kernel
theorem dX4_curtain_49 : decode cX4_curtain 49 = .ok (.putfield 77, 3) := by decide +kernel
theorem dX4_curtain_52 : decode cX4_curtain 52 = .ok (.aload_n 0, 1) := by decide +kernel
theorem dX4_curtain_53 : decode cX4_curtain 53 = .ok (.getfield 10, 3) := by decide +kernel
theorem dX4_curtain_56 : decode cX4_curtain 56 = .ok (.getfield 80, 3) := by decide +kernel
theorem dX4_curtain_59 : decode cX4_curtain 59 = .ok (.iconst 1, 1) := by decide +kernel
theorem dX4_curtain_60 : decode cX4_curtain 60 = .ok (.isub, 1) := by decide +kernel
theorem dX4_curtain_61 : decode cX4_curtain 61 = .ok (.ireturn, 1) := by decide +kernel
theorem dX4_of_0 : decode cX4_of 0 = .ok (.aload_n 0, 1) := by decide +kernel
theorem dX4_of_1 : decode cX4_of 1 = .ok (.iload_n 1, 1) := by decide +kernel
theorem dX4_of_2 : decode cX4_of 2 = .ok (.invokevirtual 83, 3) := by decide +kernel
theorem dX4_of_5 : decode cX4_of 5 = .ok (.ifCond .eq 13, 3) := by decide +kernel
theorem dX4_of_8 : decode cX4_of 8 = .ok (.iload_n 2, 1) := by decide +kernel
theorem dX4_of_9 : decode cX4_of 9 = .ok (.iconst 0, 1) := by decide +kernel
theorem dX4_of_10 : decode cX4_of 10 = .ok (.bipush 10, 2) := by decide +kernel
theorem dX4_of_12 : decode cX4_of 12 = .ok (.invokestatic 47, 3) := by decide +kernel
theorem dX4_of_15 : decode cX4_of 15 = .ok (.ifCond .ne 9, 3) := by decide +kernel
theorem dX4_of_18 : decode cX4_of 18 = .ok (.aload_n 0, 1) := by decide +kernel
theorem dX4_of_19 : decode cX4_of 19 = .ok (.iconst 0, 1) := by decide +kernel
theorem dX4_of_20 : decode cX4_of 20 = .ok (.invokevirtual 51, 3) := by decide +kernel
theorem dX4_of_23 : decode cX4_of 23 = .ok (.ireturn, 1) := by decide +kernel
theorem dX4_of_24 : decode cX4_of 24 = .ok (.aload_n 0, 1) := by decide +kernel
theorem dX4_of_25 : decode cX4_of 25 = .ok (.getfield 10, 3) := by decide +kernel
theorem dX4_of_28 : decode cX4_of 28 = .ok (.getfield 86, 3) := by decide +kernel
theorem dX4_of_31 : decode cX4_of 31 = .ok (.iload_n 1, 1) := by decide +kernel
theorem dX4_of_32 : decode cX4_of 32 = .ok (.aaload, 1) := by decide +kernel
theorem dX4_of_33 : decode cX4_of 33 = .ok (.iload_n 2, 1) := by decide +kernel
theorem dX4_of_34 : decode cX4_of 34 = .ok (.aload_n 0, 1) := by decide +kernel
theorem dX4_of_35 : decode cX4_of 35 = .ok (.getfield 10, 3) := by decide +kernel
theorem dX4_of_38 : decode cX4_of 38 = .ok (.iconst 0, 1) := by decide +kernel
theorem dX4_of_39 : decode cX4_of 39 = .ok (.invokevirtual 90, 3) := by decide +kernel
theorem dX4_of_42 : decode cX4_of 42 = .ok (.aload_n 0, 1) := by decide +kernel
theorem dX4_of_43 : decode cX4_of 43 = .ok (.getfield 10, 3) := by decide +kernel
theorem dX4_of_46 : decode cX4_of 46 = .ok (.getfield 55, 3) := by decide +kernel
theorem dX4_of_49 : decode cX4_of 49 = .ok (.invokevirtual 93, 3) := by decide +kernel
theorem dX4_of_52 : decode cX4_of 52 = .ok (.ireturn, 1) := by decide +kernel
theorem dX4_change_0 : decode cX4_change 0 = .ok (.aload_n 0, 1) := by decide +kernel
theorem dX4_change_1 : decode cX4_change 1 = .ok (.iload_n 1, 1) := by decide +kernel
theorem dX4_change_2 : decode cX4_change 2 = .ok (.invokevirtual 83, 3) := by decide +kernel
theorem dX4_change_5 : decode cX4_change 5 = .ok (.ifCond .eq 25, 3) := by decide +kernel
theorem dX4_change_8 : decode cX4_change 8 = .ok (.iload_n 2, 1) := by decide +kernel
theorem dX4_change_9 : decode cX4_change 9 = .ok (.iconst 0, 1) := by decide +kernel
theorem dX4_change_10 : decode cX4_change 10 = .ok (.iconst 5, 1) := by decide +kernel
theorem dX4_change_11 : decode cX4_change 11 = .ok (.invokestatic 47, 3) := by decide +kernel
theorem dX4_change_14 : decode cX4_change 14 = .ok (.ifCond .eq 16, 3) := by decide +kernel
theorem dX4_change_17 : decode cX4_change 17 = .ok (.iload_n 3, 1) := by decide +kernel
theorem dX4_change_18 : decode cX4_change 18 = .ok (.iconst 0, 1) := by decide +kernel
theorem dX4_change_19 : decode cX4_change 19 = .ok (.getstatic 97, 3) := by decide +kernel
theorem dX4_change_22 : decode cX4_change 22 = .ok (.iload_n 2, 1) := by decide +kernel
theorem dX4_change_23 : decode cX4_change 23 = .ok (.iaload, 1) := by decide +kernel
theorem dX4_change_24 : decode cX4_change 24 = .ok (.invokestatic 47, 3) := by decide +kernel
theorem dX4_change_27 : decode cX4_change 27 = .ok (.ifCond .ne 9, 3) := by decide +kernel
theorem dX4_change_30 : decode cX4_change 30 = .ok (.aload_n 0, 1) := by decide +kernel
theorem dX4_change_31 : decode cX4_change 31 = .ok (.iconst 0, 1) := by decide +kernel
theorem dX4_change_32 : decode cX4_change 32 = .ok (.invokevirtual 51, 3) := by decide +kernel
theorem dX4_change_35 : decode cX4_change 35 = .ok (.ireturn, 1) := by decide +kernel
theorem dX4_change_36 : decode cX4_change 36 = .ok (.aload_n 0, 1) := by decide +kernel
theorem dX4_change_37 : decode cX4_change 37 = .ok (.getfield 10, 3) := by decide +kernel
theorem dX4_change_40 : decode cX4_change 40 = .ok (.getfield 86, 3) := by decide +kernel
theorem dX4_change_43 : decode cX4_change 43 = .ok (.iload_n 1, 1) := by decide +kernel
theorem dX4_change_44 : decode cX4_change 44 = .ok (.aaload, 1) := by decide +kernel
theorem dX4_change_45 : decode cX4_change 45 = .ok (.astore 4, 2) := by decide +kernel
theorem dX4_change_47 : decode cX4_change 47 = .ok (.aload 4, 2) := by decide +kernel
theorem dX4_change_49 : decode cX4_change 49 = .ok (.iload_n 2, 1) := by decide +kernel
theorem dX4_change_50 : decode cX4_change 50 = .ok (.aload_n 0, 1) := by decide +kernel
theorem dX4_change_51 : decode cX4_change 51 = .ok (.getfield 10, 3) := by decide +kernel
theorem dX4_change_54 : decode cX4_change 54 = .ok (.iconst 0, 1) := by decide +kernel
theorem dX4_change_55 : decode cX4_change 55 = .ok (.invokevirtual 90, 3) := by decide +kernel
theorem dX4_change_58 : decode cX4_change 58 = .ok (.aload_n 0, 1) := by decide +kernel
theorem dX4_change_59 : decode cX4_change 59 = .ok (.getfield 10, 3) := by decide +kernel
theorem dX4_change_62 : decode cX4_change 62 = .ok (.getfield 55, 3) := by decide +kernel
theorem dX4_change_65 : decode cX4_change 65 = .ok (.invokevirtual 93, 3) := by decide +kernel
theorem dX4_change_68 : decode cX4_change 68 = .ok (.istore 5, 2) := by decide +kernel
theorem dX4_change_70 : decode cX4_change 70 = .ok (.aload 4, 2) := by decide +kernel
theorem dX4_change_72 : decode cX4_change 72 = .ok (.iload_n 2, 1) := by decide +kernel
theorem dX4_change_73 : decode cX4_change 73 = .ok (.iload_n 3, 1) := by decide +kernel
theorem dX4_change_74 : decode cX4_change 74 = .ok (.invokevirtual 100, 3) := by decide +kernel
theorem dX4_change_77 : decode cX4_change 77 = .ok (.iload 5, 2) := by decide +kernel
theorem dX4_change_79 : decode cX4_change 79 = .ok (.ireturn, 1) := by decide +kernel
theorem dX4_pull_0 : decode cX4_pull 0 = .ok (.aload_n 0, 1) := by decide +kernel
theorem dX4_pull_1 : decode cX4_pull 1 = .ok (.iload_n 1, 1) := by decide +kernel
theorem dX4_pull_2 : decode cX4_pull 2 = .ok (.invokevirtual 83, 3) := by decide +kernel
theorem dX4_pull_5 : decode cX4_pull 5 = .ok (.ifCond .eq 13, 3) := by decide +kernel
theorem dX4_pull_8 : decode cX4_pull 8 = .ok (.iload_n 2, 1) := by decide +kernel
theorem dX4_pull_9 : decode cX4_pull 9 = .ok (.iconst 1, 1) := by decide +kernel
theorem dX4_pull_10 : decode cX4_pull 10 = .ok (.bipush 40, 2) := by decide +kernel
theorem dX4_pull_12 : decode cX4_pull 12 = .ok (.invokestatic 47, 3) := by decide +kernel
theorem dX4_pull_15 : decode cX4_pull 15 = .ok (.ifCond .ne 9, 3) := by decide +kernel
theorem dX4_pull_18 : decode cX4_pull 18 = .ok (.aload_n 0, 1) := by decide +kernel
theorem dX4_pull_19 : decode cX4_pull 19 = .ok (.iconst 0, 1) := by decide +kernel
theorem dX4_pull_20 : decode cX4_pull 20 = .ok (.invokevirtual 51, 3) := by decide +kernel
theorem dX4_pull_23 : decode cX4_pull 23 = .ok (.ireturn, 1) := by decide +kernel
theorem dX4_pull_24 : decode cX4_pull 24 = .ok (.aload_n 0, 1) := by decide +kernel
theorem dX4_pull_25 : decode cX4_pull 25 = .ok (.getfield 10, 3) := by decide +kernel
theorem dX4_pull_28 : decode cX4_pull 28 = .ok (.getfield 86, 3) := by decide +kernel
theorem dX4_pull_31 : decode cX4_pull 31 = .ok (.iload_n 1, 1) := by decide +kernel
theorem dX4_pull_32 : decode cX4_pull 32 = .ok (.aaload, 1) := by decide +kernel
theorem dX4_pull_33 : decode cX4_pull 33 = .ok (.astore_n 3, 1) := by decide +kernel
theorem dX4_pull_34 : decode cX4_pull 34 = .ok (.aload_n 3, 1) := by decide +kernel
theorem dX4_pull_35 : decode cX4_pull 35 = .ok (.getfield 104, 3) := by decide +kernel
theorem dX4_pull_38 : decode cX4_pull 38 = .ok (.iconst 1, 1) := by decide +kernel
theorem dX4_pull_39 : decode cX4_pull 39 = .ok (.if_icmp .ne 9, 3) := by decide +kernel
theorem dX4_pull_42 : decode cX4_pull 42 = .ok (.aload_n 0, 1) := by decide +kernel
theorem dX4_pull_43 : decode cX4_pull 43 = .ok (.iconst 4, 1) := by decide +kernel
theorem dX4_pull_44 : decode cX4_pull 44 = .ok (.invokevirtual 51, 3) := by decide +kernel
theorem dX4_pull_47 : decode cX4_pull 47 = .ok (.ireturn, 1) := by decide +kernel
theorem dX4_pull_48 : decode cX4_pull 48 = .ok (.aload_n 3, 1) := by decide +kernel
theorem dX4_pull_49 : decode cX4_pull 49 = .ok (.iload_n 2, 1) := by decide +kernel
theorem dX4_pull_50 : decode cX4_pull 50 = .ok (.invokevirtual 107, 3) := by decide +kernel
theorem dX4_pull_53 : decode cX4_pull 53 = .ok (.aload_n 3, 1) := by decide +kernel
theorem dX4_pull_54 : decode cX4_pull 54 = .ok (.getfield 111, 3) := by decide +kernel
theorem dX4_pull_57 : decode cX4_pull 57 = .ok (.ireturn, 1) := by decide +kernel
theorem dX4_go_0 : decode cX4_go 0 = .ok (.iload_n 1, 1) := by decide +kernel
theorem dX4_go_1 : decode cX4_go 1 = .ok (.iconst 1, 1) := by decide +kernel
theorem dX4_go_2 : decode cX4_go 2 = .ok (.bipush 60, 2) := by decide +kernel
theorem dX4_go_4 : decode cX4_go 4 = .ok (.invokestatic 47, 3) := by decide +kernel
theorem dX4_go_7 : decode cX4_go 7 = .ok (.ifCond .ne 9, 3) := by decide +kernel
theorem dX4_go_10 : decode cX4_go 10 = .ok (.aload_n 0, 1) := by decide +kernel
theorem dX4_go_11 : decode cX4_go 11 = .ok (.iconst 0, 1) := by decide +kernel
theorem dX4_go_12 : decode cX4_go 12 = .ok (.invokevirtual 51, 3) := by decide +kernel
theorem dX4_go_15 : decode cX4_go 15 = .ok (.ireturn, 1) := by decide +kernel
theorem dX4_go_16 : decode cX4_go 16 = .ok (.aload_n 0, 1) := by decide +kernel
theorem dX4_go_17 : decode cX4_go 17 = .ok (.getfield 10, 3) := by decide +kernel
theorem dX4_go_20 : decode cX4_go 20 = .ok (.getfield 114, 3) := by decide +kernel
theorem dX4_go_23 : decode cX4_go 23 = .ok (.ldc 117, 2) := by decide +kernel
theorem dX4_go_25 : decode cX4_go 25 = .ok (.iload_n 1, 1) := by decide +kernel
theorem dX4_go_26 : decode cX4_go 26 = .ok (.isub, 1) := by decide +kernel
theorem dX4_go_27 : decode cX4_go 27 = .ok (.if_icmp .le 9, 3) := by decide +kernel
theorem dX4_go_30 : decode cX4_go 30 = .ok (.aload_n 0, 1) := by decide +kernel
theorem dX4_go_31 : decode cX4_go 31 = .ok (.iconst 4, 1) := by decide +kernel
theorem dX4_go_32 : decode cX4_go 32 = .ok (.invokevirtual 51, 3) := by decide +kernel
theorem dX4_go_35 : decode cX4_go 35 = .ok (.ireturn, 1) := by decide +kernel
theorem dX4_go_36 : decode cX4_go 36 = .ok (.aload_n 0, 1) := by decide +kernel
theorem dX4_go_37 : decode cX4_go 37 = .ok (.getfield 10, 3) := by decide +kernel
theorem dX4_go_40 : decode cX4_go 40 = .ok (.iload_n 1, 1) := by decide +kernel
theorem dX4_go_41 : decode cX4_go 41 = .ok (.invokevirtual 118, 3) := by decide +kernel
theorem dX4_go_44 : decode cX4_go 44 = .ok (.aload_n 0, 1) := by decide +kernel
theorem dX4_go_45 : decode cX4_go 45 = .ok (.getfield 10, 3) := by decide +kernel
theorem dX4_go_48 : decode cX4_go 48 = .ok (.getfield 121, 3) := by decide +kernel
theorem dX4_go_51 : decode cX4_go 51 = .ok (.ireturn, 1) := by decide +kernel
theorem dX4_now_0 : decode cX4_now 0 = .ok (.iload_n 1, 1) := by decide +kernel
theorem dX4_now_1 : decode cX4_now 1 = .ok (.tableswitch 111 0 7 #[47, 55, 63, 71, 79, 87, 95, 103], 47) := by decide +kernel
theorem dX4_now_48 : decode cX4_now 48 = .ok (.aload_n 0, 1) := by decide +kernel
theorem dX4_now_49 : decode cX4_now 49 = .ok (.getfield 10, 3) := by decide +kernel
theorem dX4_now_52 : decode cX4_now 52 = .ok (.getfield 114, 3) := by decide +kernel
theorem dX4_now_55 : decode cX4_now 55 = .ok (.ireturn, 1) := by decide +kernel
theorem dX4_now_56 : decode cX4_now 56 = .ok (.aload_n 0, 1) := by decide +kernel
theorem dX4_now_57 : decode cX4_now 57 = .ok (.getfield 10, 3) := by decide +kernel
theorem dX4_now_60 : decode cX4_now 60 = .ok (.getfield 121, 3) := by decide +kernel
theorem dX4_now_63 : decode cX4_now 63 = .ok (.ireturn, 1) := by decide +kernel
theorem dX4_now_64 : decode cX4_now 64 = .ok (.aload_n 0, 1) := by decide +kernel
theorem dX4_now_65 : decode cX4_now 65 = .ok (.getfield 10, 3) := by decide +kernel
theorem dX4_now_68 : decode cX4_now 68 = .ok (.getfield 124, 3) := by decide +kernel
theorem dX4_now_71 : decode cX4_now 71 = .ok (.ireturn, 1) := by decide +kernel
theorem dX4_now_72 : decode cX4_now 72 = .ok (.aload_n 0, 1) := by decide +kernel
theorem dX4_now_73 : decode cX4_now 73 = .ok (.getfield 10, 3) := by decide +kernel
theorem dX4_now_76 : decode cX4_now 76 = .ok (.invokevirtual 127, 3) := by decide +kernel
theorem dX4_now_79 : decode cX4_now 79 = .ok (.ireturn, 1) := by decide +kernel
theorem dX4_now_80 : decode cX4_now 80 = .ok (.aload_n 0, 1) := by decide +kernel
theorem dX4_now_81 : decode cX4_now 81 = .ok (.getfield 10, 3) := by decide +kernel
theorem dX4_now_84 : decode cX4_now 84 = .ok (.invokevirtual 131, 3) := by decide +kernel
theorem dX4_now_87 : decode cX4_now 87 = .ok (.ireturn, 1) := by decide +kernel
theorem dX4_now_88 : decode cX4_now 88 = .ok (.aload_n 0, 1) := by decide +kernel
theorem dX4_now_89 : decode cX4_now 89 = .ok (.getfield 10, 3) := by decide +kernel
theorem dX4_now_92 : decode cX4_now 92 = .ok (.invokevirtual 134, 3) := by decide +kernel
theorem dX4_now_95 : decode cX4_now 95 = .ok (.ireturn, 1) := by decide +kernel
theorem dX4_now_96 : decode cX4_now 96 = .ok (.aload_n 0, 1) := by decide +kernel
theorem dX4_now_97 : decode cX4_now 97 = .ok (.getfield 10, 3) := by decide +kernel
theorem dX4_now_100 : decode cX4_now 100 = .ok (.invokevirtual 137, 3) := by decide +kernel
theorem dX4_now_103 : decode cX4_now 103 = .ok (.ireturn, 1) := by decide +kernel
theorem dX4_now_104 : decode cX4_now 104 = .ok (.aload_n 0, 1) := by decide +kernel
theorem dX4_now_105 : decode cX4_now 105 = .ok (.getfield 10, 3) := by decide +kernel
theorem dX4_now_108 : decode cX4_now 108 = .ok (.getfield 55, 3) := by decide +kernel
theorem dX4_now_111 : decode cX4_now 111 = .ok (.ireturn, 1) := by decide +kernel
theorem dX4_now_112 : decode cX4_now 112 = .ok (.aload_n 0, 1) := by decide +kernel
theorem dX4_now_113 : decode cX4_now 113 = .ok (.iconst 0, 1) := by decide +kernel
theorem dX4_now_114 : decode cX4_now 114 = .ok (.invokevirtual 51, 3) := by decide +kernel
theorem dX4_now_117 : decode cX4_now 117 = .ok (.ireturn, 1) := by decide +kernel
theorem dX4_ahead_0 : decode cX4_ahead 0 = .ok (.iload_n 2, 1) := by decide +kernel
theorem dX4_ahead_1 : decode cX4_ahead 1 = .ok (.iconst 1, 1) := by decide +kernel
theorem dX4_ahead_2 : decode cX4_ahead 2 = .ok (.if_icmp .eq 19, 3) := by decide +kernel
theorem dX4_ahead_5 : decode cX4_ahead 5 = .ok (.iload_n 2, 1) := by decide +kernel
theorem dX4_ahead_6 : decode cX4_ahead 6 = .ok (.iconst 3, 1) := by decide +kernel
theorem dX4_ahead_7 : decode cX4_ahead 7 = .ok (.if_icmp .eq 14, 3) := by decide +kernel
theorem dX4_ahead_10 : decode cX4_ahead 10 = .ok (.iload_n 2, 1) := by decide +kernel
theorem dX4_ahead_11 : decode cX4_ahead 11 = .ok (.iconst 5, 1) := by decide +kernel
theorem dX4_ahead_12 : decode cX4_ahead 12 = .ok (.if_icmp .eq 9, 3) := by decide +kernel
theorem dX4_ahead_15 : decode cX4_ahead 15 = .ok (.iload_n 2, 1) := by decide +kernel
theorem dX4_ahead_16 : decode cX4_ahead 16 = .ok (.bipush 8, 2) := by decide +kernel
theorem dX4_ahead_18 : decode cX4_ahead 18 = .ok (.if_icmp .ne 7, 3) := by decide +kernel
theorem dX4_ahead_21 : decode cX4_ahead 21 = .ok (.iconst 1, 1) := by decide +kernel
theorem dX4_ahead_22 : decode cX4_ahead 22 = .ok (.goto 4, 3) := by decide +kernel
theorem dX4_ahead_25 : decode cX4_ahead 25 = .ok (.iconst 0, 1) := by decide +kernel
theorem dX4_ahead_26 : decode cX4_ahead 26 = .ok (.istore 4, 2) := by decide +kernel
theorem dX4_ahead_28 : decode cX4_ahead 28 = .ok (.aload_n 0, 1) := by decide +kernel
theorem dX4_ahead_29 : decode cX4_ahead 29 = .ok (.iload_n 1, 1) := by decide +kernel
theorem dX4_ahead_30 : decode cX4_ahead 30 = .ok (.invokevirtual 83, 3) := by decide +kernel
theorem dX4_ahead_33 : decode cX4_ahead 33 = .ok (.ifCond .eq 18, 3) := by decide +kernel
theorem dX4_ahead_36 : decode cX4_ahead 36 = .ok (.iload 4, 2) := by decide +kernel
theorem dX4_ahead_38 : decode cX4_ahead 38 = .ok (.ifCond .eq 13, 3) := by decide +kernel
theorem dX4_ahead_41 : decode cX4_ahead 41 = .ok (.iload_n 3, 1) := by decide +kernel
theorem dX4_ahead_42 : decode cX4_ahead 42 = .ok (.iconst 0, 1) := by decide +kernel
theorem dX4_ahead_43 : decode cX4_ahead 43 = .ok (.bipush 100, 2) := by decide +kernel
theorem dX4_ahead_45 : decode cX4_ahead 45 = .ok (.invokestatic 47, 3) := by decide +kernel
theorem dX4_ahead_48 : decode cX4_ahead 48 = .ok (.ifCond .ne 9, 3) := by decide +kernel
theorem dX4_ahead_51 : decode cX4_ahead 51 = .ok (.aload_n 0, 1) := by decide +kernel
theorem dX4_ahead_52 : decode cX4_ahead 52 = .ok (.iconst 0, 1) := by decide +kernel
theorem dX4_ahead_53 : decode cX4_ahead 53 = .ok (.invokevirtual 51, 3) := by decide +kernel
theorem dX4_ahead_56 : decode cX4_ahead 56 = .ok (.ireturn, 1) := by decide +kernel
theorem dX4_ahead_57 : decode cX4_ahead 57 = .ok (.aload_n 0, 1) := by decide +kernel
theorem dX4_ahead_58 : decode cX4_ahead 58 = .ok (.getfield 25, 3) := by decide +kernel
theorem dX4_ahead_61 : decode cX4_ahead 61 = .ok (.aload_n 0, 1) := by decide +kernel
theorem dX4_ahead_62 : decode cX4_ahead 62 = .ok (.getfield 10, 3) := by decide +kernel
theorem dX4_ahead_65 : decode cX4_ahead 65 = .ok (.getfield 86, 3) := by decide +kernel
theorem dX4_ahead_68 : decode cX4_ahead 68 = .ok (.iload_n 1, 1) := by decide +kernel
theorem dX4_ahead_69 : decode cX4_ahead 69 = .ok (.aaload, 1) := by decide +kernel
theorem dX4_ahead_70 : decode cX4_ahead 70 = .ok (.invokevirtual 140, 3) := by decide +kernel
theorem dX4_ahead_73 : decode cX4_ahead 73 = .ok (.aload_n 0, 1) := by decide +kernel
theorem dX4_ahead_74 : decode cX4_ahead 74 = .ok (.iload_n 3, 1) := by decide +kernel
theorem dX4_ahead_75 : decode cX4_ahead 75 = .ok (.invokevirtual 144, 3) := by decide +kernel
theorem dX4_ahead_78 : decode cX4_ahead 78 = .ok (.pop, 1) := by decide +kernel
theorem dX4_ahead_79 : decode cX4_ahead 79 = .ok (.aload_n 0, 1) := by decide +kernel
theorem dX4_ahead_80 : decode cX4_ahead 80 = .ok (.getfield 25, 3) := by decide +kernel
theorem dX4_ahead_83 : decode cX4_ahead 83 = .ok (.iload_n 2, 1) := by decide +kernel
theorem dX4_ahead_84 : decode cX4_ahead 84 = .ok (.aload_n 0, 1) := by decide +kernel
theorem dX4_ahead_85 : decode cX4_ahead 85 = .ok (.getfield 10, 3) := by decide +kernel
theorem dX4_ahead_88 : decode cX4_ahead 88 = .ok (.iload_n 3, 1) := by decide +kernel
theorem dX4_ahead_89 : decode cX4_ahead 89 = .ok (.invokevirtual 90, 3) := by decide +kernel
theorem dX4_ahead_92 : decode cX4_ahead 92 = .ok (.aload_n 0, 1) := by decide +kernel
theorem dX4_ahead_93 : decode cX4_ahead 93 = .ok (.getfield 10, 3) := by decide +kernel
theorem dX4_ahead_96 : decode cX4_ahead 96 = .ok (.getfield 55, 3) := by decide +kernel
theorem dX4_ahead_99 : decode cX4_ahead 99 = .ok (.invokevirtual 93, 3) := by decide +kernel
theorem dX4_ahead_102 : decode cX4_ahead 102 = .ok (.ireturn, 1) := by decide +kernel
theorem dX4_cut_0 : decode cX4_cut 0 = .ok (.iload_n 1, 1) := by decide +kernel
theorem dX4_cut_1 : decode cX4_cut 1 = .ok (.iconst 0, 1) := by decide +kernel
theorem dX4_cut_2 : decode cX4_cut 2 = .ok (.bipush 100, 2) := by decide +kernel
theorem dX4_cut_4 : decode cX4_cut 4 = .ok (.invokestatic 47, 3) := by decide +kernel
theorem dX4_cut_7 : decode cX4_cut 7 = .ok (.ifCond .ne 9, 3) := by decide +kernel
theorem dX4_cut_10 : decode cX4_cut 10 = .ok (.aload_n 0, 1) := by decide +kernel
theorem dX4_cut_11 : decode cX4_cut 11 = .ok (.iconst 0, 1) := by decide +kernel
theorem dX4_cut_12 : decode cX4_cut 12 = .ok (.invokevirtual 51, 3) := by decide +kernel
theorem dX4_cut_15 : decode cX4_cut 15 = .ok (.ireturn, 1) := by decide +kernel
theorem dX4_cut_16 : decode cX4_cut 16 = .ok (.aload_n 0, 1) := by decide +kernel
theorem dX4_cut_17 : decode cX4_cut 17 = .ok (.getfield 19, 3) := by decide +kernel
theorem dX4_cut_20 : decode cX4_cut 20 = .ok (.aload_n 0, 1) := by decide +kernel
theorem dX4_cut_21 : decode cX4_cut 21 = .ok (.getfield 10, 3) := by decide +kernel
theorem dX4_cut_24 : decode cX4_cut 24 = .ok (.invokevirtual 147, 3) := by decide +kernel
theorem dX4_cut_27 : decode cX4_cut 27 = .ok (.aload_n 0, 1) := by decide +kernel
theorem dX4_cut_28 : decode cX4_cut 28 = .ok (.getfield 19, 3) := by decide +kernel
theorem dX4_cut_31 : decode cX4_cut 31 = .ok (.iload_n 1, 1) := by decide +kernel
theorem dX4_cut_32 : decode cX4_cut 32 = .ok (.invokevirtual 118, 3) := by decide +kernel
theorem dX4_cut_35 : decode cX4_cut 35 = .ok (.aload_n 0, 1) := by decide +kernel
theorem dX4_cut_36 : decode cX4_cut 36 = .ok (.getfield 19, 3) := by decide +kernel
theorem dX4_cut_39 : decode cX4_cut 39 = .ok (.getfield 121, 3) := by decide +kernel
theorem dX4_cut_42 : decode cX4_cut 42 = .ok (.ireturn, 1) := by decide +kernel
theorem dX4_down_0 : decode cX4_down 0 = .ok (.aload_n 0, 1) := by decide +kernel
theorem dX4_down_1 : decode cX4_down 1 = .ok (.iload_n 1, 1) := by decide +kernel
theorem dX4_down_2 : decode cX4_down 2 = .ok (.invokevirtual 83, 3) := by decide +kernel
theorem dX4_down_5 : decode cX4_down 5 = .ok (.ifCond .ne 9, 3) := by decide +kernel
theorem dX4_down_8 : decode cX4_down 8 = .ok (.aload_n 0, 1) := by decide +kernel
theorem dX4_down_9 : decode cX4_down 9 = .ok (.iconst 0, 1) := by decide +kernel
theorem dX4_down_10 : decode cX4_down 10 = .ok (.invokevirtual 51, 3) := by decide +kernel
theorem dX4_down_13 : decode cX4_down 13 = .ok (.ireturn, 1) := by decide +kernel
theorem dX4_down_14 : decode cX4_down 14 = .ok (.aload_n 0, 1) := by decide +kernel
theorem dX4_down_15 : decode cX4_down 15 = .ok (.iload_n 1, 1) := by decide +kernel
theorem dX4_down_16 : decode cX4_down 16 = .ok (.iconst 3, 1) := by decide +kernel
theorem dX4_down_17 : decode cX4_down 17 = .ok (.iconst 0, 1) := by decide +kernel
theorem dX4_down_18 : decode cX4_down 18 = .ok (.iconst 0, 1) := by decide +kernel
theorem dX4_down_19 : decode cX4_down 19 = .ok (.invokevirtual 150, 3) := by decide +kernel
theorem dX4_down_22 : decode cX4_down 22 = .ok (.ireturn, 1) := by decide +kernel
theorem dX4_up_0 : decode cX4_up 0 = .ok (.aload_n 0, 1) := by decide +kernel
theorem dX4_up_1 : decode cX4_up 1 = .ok (.iload_n 1, 1) := by decide +kernel
theorem dX4_up_2 : decode cX4_up 2 = .ok (.invokevirtual 83, 3) := by decide +kernel
theorem dX4_up_5 : decode cX4_up 5 = .ok (.ifCond .ne 9, 3) := by decide +kernel
theorem dX4_up_8 : decode cX4_up 8 = .ok (.aload_n 0, 1) := by decide +kernel
theorem dX4_up_9 : decode cX4_up 9 = .ok (.iconst 0, 1) := by decide +kernel
theorem dX4_up_10 : decode cX4_up 10 = .ok (.invokevirtual 51, 3) := by decide +kernel
theorem dX4_up_13 : decode cX4_up 13 = .ok (.ireturn, 1) := by decide +kernel
theorem dX4_up_14 : decode cX4_up 14 = .ok (.aload_n 0, 1) := by decide +kernel
theorem dX4_up_15 : decode cX4_up 15 = .ok (.iload_n 1, 1) := by decide +kernel
theorem dX4_up_16 : decode cX4_up 16 = .ok (.iconst 3, 1) := by decide +kernel
theorem dX4_up_17 : decode cX4_up 17 = .ok (.bipush 20, 2) := by decide +kernel
theorem dX4_up_19 : decode cX4_up 19 = .ok (.bipush 20, 2) := by decide +kernel
theorem dX4_up_21 : decode cX4_up 21 = .ok (.invokevirtual 150, 3) := by decide +kernel
theorem dX4_up_24 : decode cX4_up 24 = .ok (.ireturn, 1) := by decide +kernel
theorem dX4_weary_0 : decode cX4_weary 0 = .ok (.aload_n 0, 1) := by decide +kernel
theorem dX4_weary_1 : decode cX4_weary 1 = .ok (.iload_n 1, 1) := by decide +kernel
theorem dX4_weary_2 : decode cX4_weary 2 = .ok (.invokevirtual 83, 3) := by decide +kernel
theorem dX4_weary_5 : decode cX4_weary 5 = .ok (.ifCond .eq 13, 3) := by decide +kernel
theorem dX4_weary_8 : decode cX4_weary 8 = .ok (.iload_n 2, 1) := by decide +kernel
theorem dX4_weary_9 : decode cX4_weary 9 = .ok (.iconst 0, 1) := by decide +kernel
theorem dX4_weary_10 : decode cX4_weary 10 = .ok (.bipush 99, 2) := by decide +kernel
theorem dX4_weary_12 : decode cX4_weary 12 = .ok (.invokestatic 47, 3) := by decide +kernel
theorem dX4_weary_15 : decode cX4_weary 15 = .ok (.ifCond .ne 9, 3) := by decide +kernel
theorem dX4_weary_18 : decode cX4_weary 18 = .ok (.aload_n 0, 1) := by decide +kernel
theorem dX4_weary_19 : decode cX4_weary 19 = .ok (.iconst 0, 1) := by decide +kernel
theorem dX4_weary_20 : decode cX4_weary 20 = .ok (.invokevirtual 51, 3) := by decide +kernel
theorem dX4_weary_23 : decode cX4_weary 23 = .ok (.ireturn, 1) := by decide +kernel
theorem dX4_weary_24 : decode cX4_weary 24 = .ok (.aload_n 0, 1) := by decide +kernel
theorem dX4_weary_25 : decode cX4_weary 25 = .ok (.iload_n 1, 1) := by decide +kernel
theorem dX4_weary_26 : decode cX4_weary 26 = .ok (.iconst 1, 1) := by decide +kernel
theorem dX4_weary_27 : decode cX4_weary 27 = .ok (.iconst 0, 1) := by decide +kernel
theorem dX4_weary_28 : decode cX4_weary 28 = .ok (.iload_n 2, 1) := by decide +kernel
theorem dX4_weary_29 : decode cX4_weary 29 = .ok (.invokevirtual 150, 3) := by decide +kernel
theorem dX4_weary_32 : decode cX4_weary 32 = .ok (.ireturn, 1) := by decide +kernel
theorem dX4_saved_0 : decode cX4_saved 0 = .ok (.iload_n 1, 1) := by decide +kernel
theorem dX4_saved_1 : decode cX4_saved 1 = .ok (.iconst 0, 1) := by decide +kernel
theorem dX4_saved_2 : decode cX4_saved 2 = .ok (.sipush 900, 3) := by decide +kernel
theorem dX4_saved_5 : decode cX4_saved 5 = .ok (.invokestatic 47, 3) := by decide +kernel
theorem dX4_saved_8 : decode cX4_saved 8 = .ok (.ifCond .ne 9, 3) := by decide +kernel
theorem dX4_saved_11 : decode cX4_saved 11 = .ok (.aload_n 0, 1) := by decide +kernel
theorem dX4_saved_12 : decode cX4_saved 12 = .ok (.iconst 0, 1) := by decide +kernel
theorem dX4_saved_13 : decode cX4_saved 13 = .ok (.invokevirtual 51, 3) := by decide +kernel
theorem dX4_saved_16 : decode cX4_saved 16 = .ok (.ireturn, 1) := by decide +kernel
theorem dX4_saved_17 : decode cX4_saved 17 = .ok (.aload_n 0, 1) := by decide +kernel
theorem dX4_saved_18 : decode cX4_saved 18 = .ok (.getfield 19, 3) := by decide +kernel
theorem dX4_saved_21 : decode cX4_saved 21 = .ok (.aload_n 0, 1) := by decide +kernel
theorem dX4_saved_22 : decode cX4_saved 22 = .ok (.getfield 10, 3) := by decide +kernel
theorem dX4_saved_25 : decode cX4_saved 25 = .ok (.invokevirtual 147, 3) := by decide +kernel
theorem dX4_saved_28 : decode cX4_saved 28 = .ok (.iconst 0, 1) := by decide +kernel
theorem dX4_saved_29 : decode cX4_saved 29 = .ok (.istore_n 2, 1) := by decide +kernel
theorem dX4_saved_30 : decode cX4_saved 30 = .ok (.iload_n 2, 1) := by decide +kernel
theorem dX4_saved_31 : decode cX4_saved 31 = .ok (.sipush 200, 3) := by decide +kernel
theorem dX4_saved_34 : decode cX4_saved 34 = .ok (.if_icmp .gt 29, 3) := by decide +kernel
theorem dX4_saved_37 : decode cX4_saved 37 = .ok (.aload_n 0, 1) := by decide +kernel
theorem dX4_saved_38 : decode cX4_saved 38 = .ok (.getfield 19, 3) := by decide +kernel
theorem dX4_saved_41 : decode cX4_saved 41 = .ok (.getfield 124, 3) := by decide +kernel
theorem dX4_saved_44 : decode cX4_saved 44 = .ok (.iload_n 1, 1) := by decide +kernel
theorem dX4_saved_45 : decode cX4_saved 45 = .ok (.if_icmp .lt 5, 3) := by decide +kernel
theorem dX4_saved_48 : decode cX4_saved 48 = .ok (.iload_n 2, 1) := by decide +kernel
theorem dX4_saved_49 : decode cX4_saved 49 = .ok (.ireturn, 1) := by decide +kernel
theorem dX4_saved_50 : decode cX4_saved 50 = .ok (.aload_n 0, 1) := by decide +kernel
theorem dX4_saved_51 : decode cX4_saved 51 = .ok (.getfield 19, 3) := by decide +kernel
theorem dX4_saved_54 : decode cX4_saved 54 = .ok (.invokevirtual 154, 3) := by decide +kernel
theorem dX4_saved_57 : decode cX4_saved 57 = .ok (.iinc 2 1, 3) := by decide +kernel
theorem dX4_saved_60 : decode cX4_saved 60 = .ok (.goto (-30), 3) := by decide +kernel
theorem dX4_saved_63 : decode cX4_saved 63 = .ok (.aload_n 0, 1) := by decide +kernel
theorem dX4_saved_64 : decode cX4_saved 64 = .ok (.iconst 3, 1) := by decide +kernel
theorem dX4_saved_65 : decode cX4_saved 65 = .ok (.invokevirtual 51, 3) := by decide +kernel
theorem dX4_saved_68 : decode cX4_saved 68 = .ok (.ireturn, 1) := by decide +kernel
