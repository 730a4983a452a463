theorem dX4_sceneFor_0 : decode cX4_sceneFor 0 = .ok (.iload_n 1, 1) := by decide +kernel
theorem dX4_sceneFor_1 : decode cX4_sceneFor 1 = .ok (.invokestatic 59, 3) := by decide +kernel
theorem dX4_sceneFor_4 : decode cX4_sceneFor 4 = .ok (.ifCond .eq 13, 3) := by decide +kernel
theorem dX4_sceneFor_7 : decode cX4_sceneFor 7 = .ok (.iload_n 2, 1) := by decide +kernel
theorem dX4_sceneFor_8 : decode cX4_sceneFor 8 = .ok (.iconst 0, 1) := by decide +kernel
theorem dX4_sceneFor_9 : decode cX4_sceneFor 9 = .ok (.bipush 60, 2) := by decide +kernel
theorem dX4_sceneFor_11 : decode cX4_sceneFor 11 = .ok (.invokestatic 47, 3) := by decide +kernel
theorem dX4_sceneFor_14 : decode cX4_sceneFor 14 = .ok (.ifCond .ne 9, 3) := by decide +kernel
theorem dX4_sceneFor_17 : decode cX4_sceneFor 17 = .ok (.aload_n 0, 1) := by decide +kernel
theorem dX4_sceneFor_18 : decode cX4_sceneFor 18 = .ok (.iconst 0, 1) := by decide +kernel
theorem dX4_sceneFor_19 : decode cX4_sceneFor 19 = .ok (.invokevirtual 51, 3) := by decide +kernel
theorem dX4_sceneFor_22 : decode cX4_sceneFor 22 = .ok (.ireturn, 1) := by decide +kernel
theorem dX4_sceneFor_23 : decode cX4_sceneFor 23 = .ok (.iconst 0, 1) := by decide +kernel
theorem dX4_sceneFor_24 : decode cX4_sceneFor 24 = .ok (.istore_n 3, 1) := by decide +kernel
theorem dX4_sceneFor_25 : decode cX4_sceneFor 25 = .ok (.ldc 157, 2) := by decide +kernel
theorem dX4_sceneFor_27 : decode cX4_sceneFor 27 = .ok (.istore 4, 2) := by decide +kernel
theorem dX4_sceneFor_29 : decode cX4_sceneFor 29 = .ok (.iconst 0, 1) := by decide +kernel
theorem dX4_sceneFor_30 : decode cX4_sceneFor 30 = .ok (.istore 5, 2) := by decide +kernel
theorem dX4_sceneFor_32 : decode cX4_sceneFor 32 = .ok (.iload 5, 2) := by decide +kernel
theorem dX4_sceneFor_34 : decode cX4_sceneFor 34 = .ok (.bipush 12, 2) := by decide +kernel
theorem dX4_sceneFor_36 : decode cX4_sceneFor 36 = .ok (.if_icmp .ge 63, 3) := by decide +kernel
theorem dX4_sceneFor_39 : decode cX4_sceneFor 39 = .ok (.aload_n 0, 1) := by decide +kernel
theorem dX4_sceneFor_40 : decode cX4_sceneFor 40 = .ok (.getfield 19, 3) := by decide +kernel
theorem dX4_sceneFor_43 : decode cX4_sceneFor 43 = .ok (.aload_n 0, 1) := by decide +kernel
theorem dX4_sceneFor_44 : decode cX4_sceneFor 44 = .ok (.getfield 10, 3) := by decide +kernel
theorem dX4_sceneFor_47 : decode cX4_sceneFor 47 = .ok (.invokevirtual 147, 3) := by decide +kernel
theorem dX4_sceneFor_50 : decode cX4_sceneFor 50 = .ok (.aload_n 0, 1) := by decide +kernel
theorem dX4_sceneFor_51 : decode cX4_sceneFor 51 = .ok (.getfield 19, 3) := by decide +kernel
theorem dX4_sceneFor_54 : decode cX4_sceneFor 54 = .ok (.getfield 63, 3) := by decide +kernel
theorem dX4_sceneFor_57 : decode cX4_sceneFor 57 = .ok (.iload_n 1, 1) := by decide +kernel
theorem dX4_sceneFor_58 : decode cX4_sceneFor 58 = .ok (.iload 5, 2) := by decide +kernel
theorem dX4_sceneFor_60 : decode cX4_sceneFor 60 = .ok (.iastore, 1) := by decide +kernel
theorem dX4_sceneFor_61 : decode cX4_sceneFor 61 = .ok (.aload_n 0, 1) := by decide +kernel
theorem dX4_sceneFor_62 : decode cX4_sceneFor 62 = .ok (.getfield 19, 3) := by decide +kernel
theorem dX4_sceneFor_65 : decode cX4_sceneFor 65 = .ok (.iload_n 2, 1) := by decide +kernel
theorem dX4_sceneFor_66 : decode cX4_sceneFor 66 = .ok (.invokevirtual 118, 3) := by decide +kernel
theorem dX4_sceneFor_69 : decode cX4_sceneFor 69 = .ok (.aload_n 0, 1) := by decide +kernel
theorem dX4_sceneFor_70 : decode cX4_sceneFor 70 = .ok (.getfield 19, 3) := by decide +kernel
theorem dX4_sceneFor_73 : decode cX4_sceneFor 73 = .ok (.getfield 121, 3) := by decide +kernel
theorem dX4_sceneFor_76 : decode cX4_sceneFor 76 = .ok (.iload 4, 2) := by decide +kernel
theorem dX4_sceneFor_78 : decode cX4_sceneFor 78 = .ok (.if_icmp .ge 15, 3) := by decide +kernel
theorem dX4_sceneFor_81 : decode cX4_sceneFor 81 = .ok (.aload_n 0, 1) := by decide +kernel
theorem dX4_sceneFor_82 : decode cX4_sceneFor 82 = .ok (.getfield 19, 3) := by decide +kernel
theorem dX4_sceneFor_85 : decode cX4_sceneFor 85 = .ok (.getfield 121, 3) := by decide +kernel
theorem dX4_sceneFor_88 : decode cX4_sceneFor 88 = .ok (.istore 4, 2) := by decide +kernel
theorem dX4_sceneFor_90 : decode cX4_sceneFor 90 = .ok (.iload 5, 2) := by decide +kernel
theorem dX4_sceneFor_92 : decode cX4_sceneFor 92 = .ok (.istore_n 3, 1) := by decide +kernel
theorem dX4_sceneFor_93 : decode cX4_sceneFor 93 = .ok (.iinc 5 1, 3) := by decide +kernel
theorem dX4_sceneFor_96 : decode cX4_sceneFor 96 = .ok (.goto (-64), 3) := by decide +kernel
theorem dX4_sceneFor_99 : decode cX4_sceneFor 99 = .ok (.iload_n 3, 1) := by decide +kernel
theorem dX4_sceneFor_100 : decode cX4_sceneFor 100 = .ok (.ireturn, 1) := by decide +kernel
theorem dX4_kindFor_0 : decode cX4_kindFor 0 = .ok (.aload_n 0, 1) := by decide +kernel
theorem dX4_kindFor_1 : decode cX4_kindFor 1 = .ok (.iload_n 1, 1) := by decide +kernel
theorem dX4_kindFor_2 : decode cX4_kindFor 2 = .ok (.invokevirtual 83, 3) := by decide +kernel
theorem dX4_kindFor_5 : decode cX4_kindFor 5 = .ok (.ifCond .eq 13, 3) := by decide +kernel
theorem dX4_kindFor_8 : decode cX4_kindFor 8 = .ok (.iload_n 2, 1) := by decide +kernel
theorem dX4_kindFor_9 : decode cX4_kindFor 9 = .ok (.iconst 0, 1) := by decide +kernel
theorem dX4_kindFor_10 : decode cX4_kindFor 10 = .ok (.bipush 60, 2) := by decide +kernel
theorem dX4_kindFor_12 : decode cX4_kindFor 12 = .ok (.invokestatic 47, 3) := by decide +kernel
theorem dX4_kindFor_15 : decode cX4_kindFor 15 = .ok (.ifCond .ne 9, 3) := by decide +kernel
theorem dX4_kindFor_18 : decode cX4_kindFor 18 = .ok (.aload_n 0, 1) := by decide +kernel
theorem dX4_kindFor_19 : decode cX4_kindFor 19 = .ok (.iconst 0, 1) := by decide +kernel
theorem dX4_kindFor_20 : decode cX4_kindFor 20 = .ok (.invokevirtual 51, 3) := by decide +kernel
theorem dX4_kindFor_23 : decode cX4_kindFor 23 = .ok (.ireturn, 1) := by decide +kernel
theorem dX4_kindFor_24 : decode cX4_kindFor 24 = .ok (.iconst 0, 1) := by decide +kernel
theorem dX4_kindFor_25 : decode cX4_kindFor 25 = .ok (.istore_n 3, 1) := by decide +kernel
theorem dX4_kindFor_26 : decode cX4_kindFor 26 = .ok (.iconst (-1), 1) := by decide +kernel
theorem dX4_kindFor_27 : decode cX4_kindFor 27 = .ok (.istore 4, 2) := by decide +kernel
theorem dX4_kindFor_29 : decode cX4_kindFor 29 = .ok (.iconst 0, 1) := by decide +kernel
theorem dX4_kindFor_30 : decode cX4_kindFor 30 = .ok (.istore 5, 2) := by decide +kernel
theorem dX4_kindFor_32 : decode cX4_kindFor 32 = .ok (.iload 5, 2) := by decide +kernel
theorem dX4_kindFor_34 : decode cX4_kindFor 34 = .ok (.bipush 7, 2) := by decide +kernel
theorem dX4_kindFor_36 : decode cX4_kindFor 36 = .ok (.if_icmp .ge 64, 3) := by decide +kernel
theorem dX4_kindFor_39 : decode cX4_kindFor 39 = .ok (.aload_n 0, 1) := by decide +kernel
theorem dX4_kindFor_40 : decode cX4_kindFor 40 = .ok (.getfield 25, 3) := by decide +kernel
theorem dX4_kindFor_43 : decode cX4_kindFor 43 = .ok (.aload_n 0, 1) := by decide +kernel
theorem dX4_kindFor_44 : decode cX4_kindFor 44 = .ok (.getfield 10, 3) := by decide +kernel
theorem dX4_kindFor_47 : decode cX4_kindFor 47 = .ok (.getfield 86, 3) := by decide +kernel
theorem dX4_kindFor_50 : decode cX4_kindFor 50 = .ok (.iload_n 1, 1) := by decide +kernel
theorem dX4_kindFor_51 : decode cX4_kindFor 51 = .ok (.aaload, 1) := by decide +kernel
theorem dX4_kindFor_52 : decode cX4_kindFor 52 = .ok (.invokevirtual 140, 3) := by decide +kernel
theorem dX4_kindFor_55 : decode cX4_kindFor 55 = .ok (.aload_n 0, 1) := by decide +kernel
theorem dX4_kindFor_56 : decode cX4_kindFor 56 = .ok (.getfield 25, 3) := by decide +kernel
theorem dX4_kindFor_59 : decode cX4_kindFor 59 = .ok (.iload 5, 2) := by decide +kernel
theorem dX4_kindFor_61 : decode cX4_kindFor 61 = .ok (.putfield 158, 3) := by decide +kernel
theorem dX4_kindFor_64 : decode cX4_kindFor 64 = .ok (.aload_n 0, 1) := by decide +kernel
theorem dX4_kindFor_65 : decode cX4_kindFor 65 = .ok (.iload_n 2, 1) := by decide +kernel
theorem dX4_kindFor_66 : decode cX4_kindFor 66 = .ok (.invokevirtual 144, 3) := by decide +kernel
theorem dX4_kindFor_69 : decode cX4_kindFor 69 = .ok (.pop, 1) := by decide +kernel
theorem dX4_kindFor_70 : decode cX4_kindFor 70 = .ok (.aload_n 0, 1) := by decide +kernel
theorem dX4_kindFor_71 : decode cX4_kindFor 71 = .ok (.getfield 25, 3) := by decide +kernel
theorem dX4_kindFor_74 : decode cX4_kindFor 74 = .ok (.getfield 161, 3) := by decide +kernel
theorem dX4_kindFor_77 : decode cX4_kindFor 77 = .ok (.iload 4, 2) := by decide +kernel
theorem dX4_kindFor_79 : decode cX4_kindFor 79 = .ok (.if_icmp .le 15, 3) := by decide +kernel
theorem dX4_kindFor_82 : decode cX4_kindFor 82 = .ok (.aload_n 0, 1) := by decide +kernel
theorem dX4_kindFor_83 : decode cX4_kindFor 83 = .ok (.getfield 25, 3) := by decide +kernel
theorem dX4_kindFor_86 : decode cX4_kindFor 86 = .ok (.getfield 161, 3) := by decide +kernel
theorem dX4_kindFor_89 : decode cX4_kindFor 89 = .ok (.istore 4, 2) := by decide +kernel
theorem dX4_kindFor_91 : decode cX4_kindFor 91 = .ok (.iload 5, 2) := by decide +kernel
theorem dX4_kindFor_93 : decode cX4_kindFor 93 = .ok (.istore_n 3, 1) := by decide +kernel
theorem dX4_kindFor_94 : decode cX4_kindFor 94 = .ok (.iinc 5 1, 3) := by decide +kernel
theorem dX4_kindFor_97 : decode cX4_kindFor 97 = .ok (.goto (-65), 3) := by decide +kernel
theorem dX4_kindFor_100 : decode cX4_kindFor 100 = .ok (.iload_n 3, 1) := by decide +kernel
theorem dX4_kindFor_101 : decode cX4_kindFor 101 = .ok (.ireturn, 1) := by decide +kernel
theorem dX4_moodFor_0 : decode cX4_moodFor 0 = .ok (.aload_n 0, 1) := by decide +kernel
theorem dX4_moodFor_1 : decode cX4_moodFor 1 = .ok (.iload_n 1, 1) := by decide +kernel
theorem dX4_moodFor_2 : decode cX4_moodFor 2 = .ok (.invokevirtual 83, 3) := by decide +kernel
theorem dX4_moodFor_5 : decode cX4_moodFor 5 = .ok (.ifCond .eq 13, 3) := by decide +kernel
theorem dX4_moodFor_8 : decode cX4_moodFor 8 = .ok (.iload_n 2, 1) := by decide +kernel
theorem dX4_moodFor_9 : decode cX4_moodFor 9 = .ok (.iconst 0, 1) := by decide +kernel
theorem dX4_moodFor_10 : decode cX4_moodFor 10 = .ok (.bipush 60, 2) := by decide +kernel
theorem dX4_moodFor_12 : decode cX4_moodFor 12 = .ok (.invokestatic 47, 3) := by decide +kernel
theorem dX4_moodFor_15 : decode cX4_moodFor 15 = .ok (.ifCond .ne 9, 3) := by decide +kernel
theorem dX4_moodFor_18 : decode cX4_moodFor 18 = .ok (.aload_n 0, 1) := by decide +kernel
theorem dX4_moodFor_19 : decode cX4_moodFor 19 = .ok (.iconst 0, 1) := by decide +kernel
theorem dX4_moodFor_20 : decode cX4_moodFor 20 = .ok (.invokevirtual 51, 3) := by decide +kernel
theorem dX4_moodFor_23 : decode cX4_moodFor 23 = .ok (.ireturn, 1) := by decide +kernel
theorem dX4_moodFor_24 : decode cX4_moodFor 24 = .ok (.aload_n 0, 1) := by decide +kernel
theorem dX4_moodFor_25 : decode cX4_moodFor 25 = .ok (.getfield 10, 3) := by decide +kernel
theorem dX4_moodFor_28 : decode cX4_moodFor 28 = .ok (.getfield 86, 3) := by decide +kernel
theorem dX4_moodFor_31 : decode cX4_moodFor 31 = .ok (.iload_n 1, 1) := by decide +kernel
theorem dX4_moodFor_32 : decode cX4_moodFor 32 = .ok (.aaload, 1) := by decide +kernel
theorem dX4_moodFor_33 : decode cX4_moodFor 33 = .ok (.astore_n 3, 1) := by decide +kernel
theorem dX4_moodFor_34 : decode cX4_moodFor 34 = .ok (.iconst 0, 1) := by decide +kernel
theorem dX4_moodFor_35 : decode cX4_moodFor 35 = .ok (.istore 4, 2) := by decide +kernel
theorem dX4_moodFor_37 : decode cX4_moodFor 37 = .ok (.iload 4, 2) := by decide +kernel
theorem dX4_moodFor_39 : decode cX4_moodFor 39 = .ok (.bipush 99, 2) := by decide +kernel
theorem dX4_moodFor_41 : decode cX4_moodFor 41 = .ok (.if_icmp .gt 49, 3) := by decide +kernel
theorem dX4_moodFor_44 : decode cX4_moodFor 44 = .ok (.aload_n 0, 1) := by decide +kernel
theorem dX4_moodFor_45 : decode cX4_moodFor 45 = .ok (.getfield 25, 3) := by decide +kernel
theorem dX4_moodFor_48 : decode cX4_moodFor 48 = .ok (.aload_n 3, 1) := by decide +kernel
theorem dX4_moodFor_49 : decode cX4_moodFor 49 = .ok (.invokevirtual 140, 3) := by decide +kernel
theorem dX4_moodFor_52 : decode cX4_moodFor 52 = .ok (.aload_n 0, 1) := by decide +kernel
theorem dX4_moodFor_53 : decode cX4_moodFor 53 = .ok (.getfield 25, 3) := by decide +kernel
theorem dX4_moodFor_56 : decode cX4_moodFor 56 = .ok (.iload 4, 2) := by decide +kernel
theorem dX4_moodFor_58 : decode cX4_moodFor 58 = .ok (.putfield 161, 3) := by decide +kernel
theorem dX4_moodFor_61 : decode cX4_moodFor 61 = .ok (.aload_n 0, 1) := by decide +kernel
theorem dX4_moodFor_62 : decode cX4_moodFor 62 = .ok (.iload_n 2, 1) := by decide +kernel
theorem dX4_moodFor_63 : decode cX4_moodFor 63 = .ok (.invokevirtual 144, 3) := by decide +kernel
theorem dX4_moodFor_66 : decode cX4_moodFor 66 = .ok (.pop, 1) := by decide +kernel
theorem dX4_moodFor_67 : decode cX4_moodFor 67 = .ok (.aload_n 0, 1) := by decide +kernel
theorem dX4_moodFor_68 : decode cX4_moodFor 68 = .ok (.getfield 25, 3) := by decide +kernel
theorem dX4_moodFor_71 : decode cX4_moodFor 71 = .ok (.getfield 164, 3) := by decide +kernel
theorem dX4_moodFor_74 : decode cX4_moodFor 74 = .ok (.aload_n 3, 1) := by decide +kernel
theorem dX4_moodFor_75 : decode cX4_moodFor 75 = .ok (.getfield 164, 3) := by decide +kernel
theorem dX4_moodFor_78 : decode cX4_moodFor 78 = .ok (.if_icmp .ne 6, 3) := by decide +kernel
theorem dX4_moodFor_81 : decode cX4_moodFor 81 = .ok (.iload 4, 2) := by decide +kernel
theorem dX4_moodFor_83 : decode cX4_moodFor 83 = .ok (.ireturn, 1) := by decide +kernel
theorem dX4_moodFor_84 : decode cX4_moodFor 84 = .ok (.iinc 4 1, 3) := by decide +kernel
theorem dX4_moodFor_87 : decode cX4_moodFor 87 = .ok (.goto (-50), 3) := by decide +kernel
theorem dX4_moodFor_90 : decode cX4_moodFor 90 = .ok (.aload_n 0, 1) := by decide +kernel
theorem dX4_moodFor_91 : decode cX4_moodFor 91 = .ok (.iconst 3, 1) := by decide +kernel
theorem dX4_moodFor_92 : decode cX4_moodFor 92 = .ok (.invokevirtual 51, 3) := by decide +kernel
theorem dX4_moodFor_95 : decode cX4_moodFor 95 = .ok (.ireturn, 1) := by decide +kernel
theorem dX4_handsFor_0 : decode cX4_handsFor 0 = .ok (.aload_n 0, 1) := by decide +kernel
theorem dX4_handsFor_1 : decode cX4_handsFor 1 = .ok (.iload_n 1, 1) := by decide +kernel
theorem dX4_handsFor_2 : decode cX4_handsFor 2 = .ok (.invokevirtual 83, 3) := by decide +kernel
theorem dX4_handsFor_5 : decode cX4_handsFor 5 = .ok (.ifCond .eq 13, 3) := by decide +kernel
theorem dX4_handsFor_8 : decode cX4_handsFor 8 = .ok (.iload_n 2, 1) := by decide +kernel
theorem dX4_handsFor_9 : decode cX4_handsFor 9 = .ok (.iconst 0, 1) := by decide +kernel
theorem dX4_handsFor_10 : decode cX4_handsFor 10 = .ok (.bipush 60, 2) := by decide +kernel
theorem dX4_handsFor_12 : decode cX4_handsFor 12 = .ok (.invokestatic 47, 3) := by decide +kernel
theorem dX4_handsFor_15 : decode cX4_handsFor 15 = .ok (.ifCond .ne 9, 3) := by decide +kernel
theorem dX4_handsFor_18 : decode cX4_handsFor 18 = .ok (.aload_n 0, 1) := by decide +kernel
theorem dX4_handsFor_19 : decode cX4_handsFor 19 = .ok (.iconst 0, 1) := by decide +kernel
theorem dX4_handsFor_20 : decode cX4_handsFor 20 = .ok (.invokevirtual 51, 3) := by decide +kernel
theorem dX4_handsFor_23 : decode cX4_handsFor 23 = .ok (.ireturn, 1) := by decide +kernel
theorem dX4_handsFor_24 : decode cX4_handsFor 24 = .ok (.aload_n 0, 1) := by decide +kernel
theorem dX4_handsFor_25 : decode cX4_handsFor 25 = .ok (.getfield 10, 3) := by decide +kernel
theorem dX4_handsFor_28 : decode cX4_handsFor 28 = .ok (.getfield 86, 3) := by decide +kernel
theorem dX4_handsFor_31 : decode cX4_handsFor 31 = .ok (.iload_n 1, 1) := by decide +kernel
theorem dX4_handsFor_32 : decode cX4_handsFor 32 = .ok (.aaload, 1) := by decide +kernel
theorem dX4_handsFor_33 : decode cX4_handsFor 33 = .ok (.astore_n 3, 1) := by decide +kernel
theorem dX4_handsFor_34 : decode cX4_handsFor 34 = .ok (.aload_n 3, 1) := by decide +kernel
theorem dX4_handsFor_35 : decode cX4_handsFor 35 = .ok (.getfield 104, 3) := by decide +kernel
theorem dX4_handsFor_38 : decode cX4_handsFor 38 = .ok (.iconst 1, 1) := by decide +kernel
theorem dX4_handsFor_39 : decode cX4_handsFor 39 = .ok (.if_icmp .ne 9, 3) := by decide +kernel
theorem dX4_handsFor_42 : decode cX4_handsFor 42 = .ok (.aload_n 0, 1) := by decide +kernel
theorem dX4_handsFor_43 : decode cX4_handsFor 43 = .ok (.iconst 4, 1) := by decide +kernel
theorem dX4_handsFor_44 : decode cX4_handsFor 44 = .ok (.invokevirtual 51, 3) := by decide +kernel
theorem dX4_handsFor_47 : decode cX4_handsFor 47 = .ok (.ireturn, 1) := by decide +kernel
theorem dX4_handsFor_48 : decode cX4_handsFor 48 = .ok (.iconst 1, 1) := by decide +kernel
theorem dX4_handsFor_49 : decode cX4_handsFor 49 = .ok (.istore 4, 2) := by decide +kernel
theorem dX4_handsFor_51 : decode cX4_handsFor 51 = .ok (.iload 4, 2) := by decide +kernel
theorem dX4_handsFor_53 : decode cX4_handsFor 53 = .ok (.bipush 40, 2) := by decide +kernel
theorem dX4_handsFor_55 : decode cX4_handsFor 55 = .ok (.if_icmp .gt 45, 3) := by decide +kernel
theorem dX4_handsFor_58 : decode cX4_handsFor 58 = .ok (.aload_n 0, 1) := by decide +kernel
theorem dX4_handsFor_59 : decode cX4_handsFor 59 = .ok (.getfield 25, 3) := by decide +kernel
theorem dX4_handsFor_62 : decode cX4_handsFor 62 = .ok (.aload_n 3, 1) := by decide +kernel
theorem dX4_handsFor_63 : decode cX4_handsFor 63 = .ok (.invokevirtual 140, 3) := by decide +kernel
theorem dX4_handsFor_66 : decode cX4_handsFor 66 = .ok (.aload_n 0, 1) := by decide +kernel
theorem dX4_handsFor_67 : decode cX4_handsFor 67 = .ok (.getfield 25, 3) := by decide +kernel
theorem dX4_handsFor_70 : decode cX4_handsFor 70 = .ok (.iload 4, 2) := by decide +kernel
theorem dX4_handsFor_72 : decode cX4_handsFor 72 = .ok (.invokevirtual 107, 3) := by decide +kernel
theorem dX4_handsFor_75 : decode cX4_handsFor 75 = .ok (.aload_n 0, 1) := by decide +kernel
theorem dX4_handsFor_76 : decode cX4_handsFor 76 = .ok (.iload_n 2, 1) := by decide +kernel
theorem dX4_handsFor_77 : decode cX4_handsFor 77 = .ok (.invokevirtual 144, 3) := by decide +kernel
theorem dX4_handsFor_80 : decode cX4_handsFor 80 = .ok (.pop, 1) := by decide +kernel
theorem dX4_handsFor_81 : decode cX4_handsFor 81 = .ok (.aload_n 0, 1) := by decide +kernel
theorem dX4_handsFor_82 : decode cX4_handsFor 82 = .ok (.getfield 25, 3) := by decide +kernel
theorem dX4_handsFor_85 : decode cX4_handsFor 85 = .ok (.getfield 111, 3) := by decide +kernel
theorem dX4_handsFor_88 : decode cX4_handsFor 88 = .ok (.ifCond .le 6, 3) := by decide +kernel
theorem dX4_handsFor_91 : decode cX4_handsFor 91 = .ok (.iload 4, 2) := by decide +kernel
theorem dX4_handsFor_93 : decode cX4_handsFor 93 = .ok (.ireturn, 1) := by decide +kernel
theorem dX4_handsFor_94 : decode cX4_handsFor 94 = .ok (.iinc 4 1, 3) := by decide +kernel
theorem dX4_handsFor_97 : decode cX4_handsFor 97 = .ok (.goto (-46), 3) := by decide +kernel
theorem dX4_handsFor_100 : decode cX4_handsFor 100 = .ok (.aload_n 0, 1) := by decide +kernel
theorem dX4_handsFor_101 : decode cX4_handsFor 101 = .ok (.iconst 3, 1) := by decide +kernel
theorem dX4_handsFor_102 : decode cX4_handsFor 102 = .ok (.invokevirtual 51, 3) := by decide +kernel
theorem dX4_handsFor_105 : decode cX4_handsFor 105 = .ok (.ireturn, 1) := by decide +kernel
theorem dX4_tie_0 : decode cX4_tie 0 = .ok (.iload_n 1, 1) := by decide +kernel
theorem dX4_tie_1 : decode cX4_tie 1 = .ok (.iconst 0, 1) := by decide +kernel
theorem dX4_tie_2 : decode cX4_tie 2 = .ok (.bipush 20, 2) := by decide +kernel
theorem dX4_tie_4 : decode cX4_tie 4 = .ok (.invokestatic 47, 3) := by decide +kernel
theorem dX4_tie_7 : decode cX4_tie 7 = .ok (.ifCond .ne 9, 3) := by decide +kernel
theorem dX4_tie_10 : decode cX4_tie 10 = .ok (.aload_n 0, 1) := by decide +kernel
theorem dX4_tie_11 : decode cX4_tie 11 = .ok (.iconst 0, 1) := by decide +kernel
theorem dX4_tie_12 : decode cX4_tie 12 = .ok (.invokevirtual 51, 3) := by decide +kernel
theorem dX4_tie_15 : decode cX4_tie 15 = .ok (.ireturn, 1) := by decide +kernel
theorem dX4_tie_16 : decode cX4_tie 16 = .ok (.aload_n 0, 1) := by decide +kernel
theorem dX4_tie_17 : decode cX4_tie 17 = .ok (.getfield 10, 3) := by decide +kernel
theorem dX4_tie_20 : decode cX4_tie 20 = .ok (.getfield 121, 3) := by decide +kernel
theorem dX4_tie_23 : decode cX4_tie 23 = .ok (.ldc 117, 2) := by decide +kernel
theorem dX4_tie_25 : decode cX4_tie 25 = .ok (.if_icmp .ge 7, 3) := by decide +kernel
theorem dX4_tie_28 : decode cX4_tie 28 = .ok (.iconst 1, 1) := by decide +kernel
theorem dX4_tie_29 : decode cX4_tie 29 = .ok (.goto 4, 3) := by decide +kernel
theorem dX4_tie_32 : decode cX4_tie 32 = .ok (.iconst 0, 1) := by decide +kernel
theorem dX4_tie_33 : decode cX4_tie 33 = .ok (.istore_n 2, 1) := by decide +kernel
theorem dX4_tie_34 : decode cX4_tie 34 = .ok (.iconst 0, 1) := by decide +kernel
theorem dX4_tie_35 : decode cX4_tie 35 = .ok (.istore_n 3, 1) := by decide +kernel
theorem dX4_tie_36 : decode cX4_tie 36 = .ok (.iconst 0, 1) := by decide +kernel
theorem dX4_tie_37 : decode cX4_tie 37 = .ok (.istore 4, 2) := by decide +kernel
theorem dX4_tie_39 : decode cX4_tie 39 = .ok (.iload_n 2, 1) := by decide +kernel
theorem dX4_tie_40 : decode cX4_tie 40 = .ok (.ifCond .eq 53, 3) := by decide +kernel
theorem dX4_tie_43 : decode cX4_tie 43 = .ok (.iload 4, 2) := by decide +kernel
theorem dX4_tie_45 : decode cX4_tie 45 = .ok (.aload_n 0, 1) := by decide +kernel
theorem dX4_tie_46 : decode cX4_tie 46 = .ok (.getfield 10, 3) := by decide +kernel
theorem dX4_tie_49 : decode cX4_tie 49 = .ok (.getfield 80, 3) := by decide +kernel
theorem dX4_tie_52 : decode cX4_tie 52 = .ok (.if_icmp .ge 41, 3) := by decide +kernel
theorem dX4_tie_55 : decode cX4_tie 55 = .ok (.aload_n 0, 1) := by decide +kernel
theorem dX4_tie_56 : decode cX4_tie 56 = .ok (.getfield 25, 3) := by decide +kernel
theorem dX4_tie_59 : decode cX4_tie 59 = .ok (.aload_n 0, 1) := by decide +kernel
theorem dX4_tie_60 : decode cX4_tie 60 = .ok (.getfield 10, 3) := by decide +kernel
theorem dX4_tie_63 : decode cX4_tie 63 = .ok (.getfield 86, 3) := by decide +kernel
theorem dX4_tie_66 : decode cX4_tie 66 = .ok (.iload 4, 2) := by decide +kernel
theorem dX4_tie_68 : decode cX4_tie 68 = .ok (.aaload, 1) := by decide +kernel
theorem dX4_tie_69 : decode cX4_tie 69 = .ok (.invokevirtual 140, 3) := by decide +kernel
theorem dX4_tie_72 : decode cX4_tie 72 = .ok (.aload_n 0, 1) := by decide +kernel
theorem dX4_tie_73 : decode cX4_tie 73 = .ok (.iload_n 1, 1) := by decide +kernel
theorem dX4_tie_74 : decode cX4_tie 74 = .ok (.invokevirtual 144, 3) := by decide +kernel
theorem dX4_tie_77 : decode cX4_tie 77 = .ok (.ifCond .le 10, 3) := by decide +kernel
theorem dX4_tie_80 : decode cX4_tie 80 = .ok (.iload_n 3, 1) := by decide +kernel
theorem dX4_tie_81 : decode cX4_tie 81 = .ok (.iconst 1, 1) := by decide +kernel
theorem dX4_tie_82 : decode cX4_tie 82 = .ok (.iload 4, 2) := by decide +kernel
theorem dX4_tie_84 : decode cX4_tie 84 = .ok (.ishl, 1) := by decide +kernel
theorem dX4_tie_85 : decode cX4_tie 85 = .ok (.ior, 1) := by decide +kernel
theorem dX4_tie_86 : decode cX4_tie 86 = .ok (.istore_n 3, 1) := by decide +kernel
theorem dX4_tie_87 : decode cX4_tie 87 = .ok (.iinc 4 1, 3) := by decide +kernel
theorem dX4_tie_90 : decode cX4_tie 90 = .ok (.goto (-51), 3) := by decide +kernel
theorem dX4_tie_93 : decode cX4_tie 93 = .ok (.iload_n 3, 1) := by decide +kernel
theorem dX4_tie_94 : decode cX4_tie 94 = .ok (.ireturn, 1) := by decide +kernel
theorem dX4_please_0 : decode cX4_please 0 = .ok (.iconst 0, 1) := by decide +kernel
theorem dX4_please_1 : decode cX4_please 1 = .ok (.istore_n 1, 1) := by decide +kernel
theorem dX4_please_2 : decode cX4_please 2 = .ok (.bipush 13, 2) := by decide +kernel
theorem dX4_please_4 : decode cX4_please 4 = .ok (.istore_n 2, 1) := by decide +kernel
theorem dX4_please_5 : decode cX4_please 5 = .ok (.iconst 0, 1) := by decide +kernel
theorem dX4_please_6 : decode cX4_please 6 = .ok (.istore_n 3, 1) := by decide +kernel
theorem dX4_please_7 : decode cX4_please 7 = .ok (.iload_n 3, 1) := by decide +kernel
theorem dX4_please_8 : decode cX4_please 8 = .ok (.sipush 4095, 3) := by decide +kernel
theorem dX4_please_11 : decode cX4_please 11 = .ok (.if_icmp .gt 37, 3) := by decide +kernel
theorem dX4_please_14 : decode cX4_please 14 = .ok (.iload_n 3, 1) := by decide +kernel
theorem dX4_please_15 : decode cX4_please 15 = .ok (.invokestatic 167, 3) := by decide +kernel
theorem dX4_please_18 : decode cX4_please 18 = .ok (.istore 4, 2) := by decide +kernel
theorem dX4_please_20 : decode cX4_please 20 = .ok (.iload 4, 2) := by decide +kernel
theorem dX4_please_22 : decode cX4_please 22 = .ok (.iload_n 2, 1) := by decide +kernel
theorem dX4_please_23 : decode cX4_please 23 = .ok (.if_icmp .ge 19, 3) := by decide +kernel
theorem dX4_please_26 : decode cX4_please 26 = .ok (.aload_n 0, 1) := by decide +kernel
theorem dX4_please_27 : decode cX4_please 27 = .ok (.getfield 10, 3) := by decide +kernel
theorem dX4_please_30 : decode cX4_please 30 = .ok (.iload_n 3, 1) := by decide +kernel
theorem dX4_please_31 : decode cX4_please 31 = .ok (.invokevirtual 172, 3) := by decide +kernel
theorem dX4_please_34 : decode cX4_please 34 = .ok (.ifCond .eq 8, 3) := by decide +kernel
theorem dX4_please_37 : decode cX4_please 37 = .ok (.iload 4, 2) := by decide +kernel
theorem dX4_please_39 : decode cX4_please 39 = .ok (.istore_n 2, 1) := by decide +kernel
theorem dX4_please_40 : decode cX4_please 40 = .ok (.iload_n 3, 1) := by decide +kernel
theorem dX4_please_41 : decode cX4_please 41 = .ok (.istore_n 1, 1) := by decide +kernel
theorem dX4_please_42 : decode cX4_please 42 = .ok (.iinc 3 1, 3) := by decide +kernel
theorem dX4_please_45 : decode cX4_please 45 = .ok (.goto (-38), 3) := by decide +kernel
theorem dX4_please_48 : decode cX4_please 48 = .ok (.iload_n 1, 1) := by decide +kernel
theorem dX4_please_49 : decode cX4_please 49 = .ok (.ireturn, 1) := by decide +kernel
theorem dX4_fits_0 : decode cX4_fits 0 = .ok (.aload_n 0, 1) := by decide +kernel
theorem dX4_fits_1 : decode cX4_fits 1 = .ok (.iload_n 1, 1) := by decide +kernel
theorem dX4_fits_2 : decode cX4_fits 2 = .ok (.iload_n 2, 1) := by decide +kernel
theorem dX4_fits_3 : decode cX4_fits 3 = .ok (.invokevirtual 175, 3) := by decide +kernel
theorem dX4_fits_6 : decode cX4_fits 6 = .ok (.istore_n 3, 1) := by decide +kernel
theorem dX4_fits_7 : decode cX4_fits 7 = .ok (.iload_n 3, 1) := by decide +kernel
theorem dX4_fits_8 : decode cX4_fits 8 = .ok (.iconst (-1), 1) := by decide +kernel
theorem dX4_fits_9 : decode cX4_fits 9 = .ok (.if_icmp .eq 9, 3) := by decide +kernel
theorem dX4_fits_12 : decode cX4_fits 12 = .ok (.aload_n 0, 1) := by decide +kernel
theorem dX4_fits_13 : decode cX4_fits 13 = .ok (.iload_n 3, 1) := by decide +kernel
theorem dX4_fits_14 : decode cX4_fits 14 = .ok (.invokevirtual 51, 3) := by decide +kernel
theorem dX4_fits_17 : decode cX4_fits 17 = .ok (.ireturn, 1) := by decide +kernel
theorem dX4_fits_18 : decode cX4_fits 18 = .ok (.aload_n 0, 1) := by decide +kernel
theorem dX4_fits_19 : decode cX4_fits 19 = .ok (.getfield 19, 3) := by decide +kernel
theorem dX4_fits_22 : decode cX4_fits 22 = .ok (.aload_n 0, 1) := by decide +kernel
theorem dX4_fits_23 : decode cX4_fits 23 = .ok (.getfield 10, 3) := by decide +kernel
theorem dX4_fits_26 : decode cX4_fits 26 = .ok (.invokevirtual 147, 3) := by decide +kernel
theorem dX4_fits_29 : decode cX4_fits 29 = .ok (.aload_n 0, 1) := by decide +kernel
theorem dX4_fits_30 : decode cX4_fits 30 = .ok (.getfield 10, 3) := by decide +kernel
theorem dX4_fits_33 : decode cX4_fits 33 = .ok (.iconst 0, 1) := by decide +kernel
theorem dX4_fits_34 : decode cX4_fits 34 = .ok (.invokevirtual 179, 3) := by decide +kernel
theorem dX4_fits_37 : decode cX4_fits 37 = .ok (.istore 4, 2) := by decide +kernel
theorem dX4_fits_39 : decode cX4_fits 39 = .ok (.iconst 0, 1) := by decide +kernel
theorem dX4_fits_40 : decode cX4_fits 40 = .ok (.istore 5, 2) := by decide +kernel
theorem dX4_fits_42 : decode cX4_fits 42 = .ok (.iconst 0, 1) := by decide +kernel
theorem dX4_fits_43 : decode cX4_fits 43 = .ok (.istore 6, 2) := by decide +kernel
theorem dX4_fits_45 : decode cX4_fits 45 = .ok (.iload 6, 2) := by decide +kernel
theorem dX4_fits_47 : decode cX4_fits 47 = .ok (.bipush 12, 2) := by decide +kernel
theorem dX4_fits_49 : decode cX4_fits 49 = .ok (.if_icmp .ge 59, 3) := by decide +kernel
theorem dX4_fits_52 : decode cX4_fits 52 = .ok (.aload_n 0, 1) := by decide +kernel
theorem dX4_fits_53 : decode cX4_fits 53 = .ok (.getfield 19, 3) := by decide +kernel
theorem dX4_fits_56 : decode cX4_fits 56 = .ok (.getfield 63, 3) := by decide +kernel
theorem dX4_fits_59 : decode cX4_fits 59 = .ok (.iload 4, 2) := by decide +kernel
theorem dX4_fits_61 : decode cX4_fits 61 = .ok (.iload 6, 2) := by decide +kernel
theorem dX4_fits_63 : decode cX4_fits 63 = .ok (.iastore, 1) := by decide +kernel
theorem dX4_fits_64 : decode cX4_fits 64 = .ok (.aload_n 0, 1) := by decide +kernel
theorem dX4_fits_65 : decode cX4_fits 65 = .ok (.getfield 25, 3) := by decide +kernel
theorem dX4_fits_68 : decode cX4_fits 68 = .ok (.aload_n 0, 1) := by decide +kernel
theorem dX4_fits_69 : decode cX4_fits 69 = .ok (.getfield 10, 3) := by decide +kernel
theorem dX4_fits_72 : decode cX4_fits 72 = .ok (.getfield 86, 3) := by decide +kernel
theorem dX4_fits_75 : decode cX4_fits 75 = .ok (.iload_n 2, 1) := by decide +kernel
theorem dX4_fits_76 : decode cX4_fits 76 = .ok (.aaload, 1) := by decide +kernel
theorem dX4_fits_77 : decode cX4_fits 77 = .ok (.invokevirtual 140, 3) := by decide +kernel
theorem dX4_fits_80 : decode cX4_fits 80 = .ok (.aload_n 0, 1) := by decide +kernel
theorem dX4_fits_81 : decode cX4_fits 81 = .ok (.aload_n 0, 1) := by decide +kernel
theorem dX4_fits_82 : decode cX4_fits 82 = .ok (.getfield 38, 3) := by decide +kernel
theorem dX4_fits_85 : decode cX4_fits 85 = .ok (.iload_n 1, 1) := by decide +kernel
theorem dX4_fits_86 : decode cX4_fits 86 = .ok (.aaload, 1) := by decide +kernel
theorem dX4_fits_87 : decode cX4_fits 87 = .ok (.invokevirtual 182, 3) := by decide +kernel
theorem dX4_fits_90 : decode cX4_fits 90 = .ok (.ifCond .eq 12, 3) := by decide +kernel
theorem dX4_fits_93 : decode cX4_fits 93 = .ok (.iload 5, 2) := by decide +kernel
theorem dX4_fits_95 : decode cX4_fits 95 = .ok (.iconst 1, 1) := by decide +kernel
theorem dX4_fits_96 : decode cX4_fits 96 = .ok (.iload 6, 2) := by decide +kernel
theorem dX4_fits_98 : decode cX4_fits 98 = .ok (.ishl, 1) := by decide +kernel
theorem dX4_fits_99 : decode cX4_fits 99 = .ok (.ior, 1) := by decide +kernel
theorem dX4_fits_100 : decode cX4_fits 100 = .ok (.istore 5, 2) := by decide +kernel
theorem dX4_fits_102 : decode cX4_fits 102 = .ok (.iinc 6 1, 3) := by decide +kernel
theorem dX4_fits_105 : decode cX4_fits 105 = .ok (.goto (-60), 3) := by decide +kernel
theorem dX4_fits_108 : decode cX4_fits 108 = .ok (.iload 5, 2) := by decide +kernel
theorem dX4_fits_110 : decode cX4_fits 110 = .ok (.ireturn, 1) := by decide +kernel
theorem dX4_kinds_0 : decode cX4_kinds 0 = .ok (.aload_n 0, 1) := by decide +kernel
theorem dX4_kinds_1 : decode cX4_kinds 1 = .ok (.iload_n 1, 1) := by decide +kernel
theorem dX4_kinds_2 : decode cX4_kinds 2 = .ok (.iload_n 2, 1) := by decide +kernel
theorem dX4_kinds_3 : decode cX4_kinds 3 = .ok (.invokevirtual 175, 3) := by decide +kernel
theorem dX4_kinds_6 : decode cX4_kinds 6 = .ok (.istore_n 3, 1) := by decide +kernel
theorem dX4_kinds_7 : decode cX4_kinds 7 = .ok (.iload_n 3, 1) := by decide +kernel
theorem dX4_kinds_8 : decode cX4_kinds 8 = .ok (.iconst (-1), 1) := by decide +kernel
theorem dX4_kinds_9 : decode cX4_kinds 9 = .ok (.if_icmp .eq 9, 3) := by decide +kernel
theorem dX4_kinds_12 : decode cX4_kinds 12 = .ok (.aload_n 0, 1) := by decide +kernel
theorem dX4_kinds_13 : decode cX4_kinds 13 = .ok (.iload_n 3, 1) := by decide +kernel
theorem dX4_kinds_14 : decode cX4_kinds 14 = .ok (.invokevirtual 51, 3) := by decide +kernel
theorem dX4_kinds_17 : decode cX4_kinds 17 = .ok (.ireturn, 1) := by decide +kernel
theorem dX4_kinds_18 : decode cX4_kinds 18 = .ok (.aload_n 0, 1) := by decide +kernel
theorem dX4_kinds_19 : decode cX4_kinds 19 = .ok (.getfield 19, 3) := by decide +kernel
theorem dX4_kinds_22 : decode cX4_kinds 22 = .ok (.aload_n 0, 1) := by decide +kernel
theorem dX4_kinds_23 : decode cX4_kinds 23 = .ok (.getfield 10, 3) := by decide +kernel
theorem dX4_kinds_26 : decode cX4_kinds 26 = .ok (.invokevirtual 147, 3) := by decide +kernel
theorem dX4_kinds_29 : decode cX4_kinds 29 = .ok (.iconst 0, 1) := by decide +kernel
theorem dX4_kinds_30 : decode cX4_kinds 30 = .ok (.istore 4, 2) := by decide +kernel
theorem dX4_kinds_32 : decode cX4_kinds 32 = .ok (.iconst 0, 1) := by decide +kernel
theorem dX4_kinds_33 : decode cX4_kinds 33 = .ok (.istore 5, 2) := by decide +kernel
theorem dX4_kinds_35 : decode cX4_kinds 35 = .ok (.iload 5, 2) := by decide +kernel
theorem dX4_kinds_37 : decode cX4_kinds 37 = .ok (.bipush 7, 2) := by decide +kernel
theorem dX4_kinds_39 : decode cX4_kinds 39 = .ok (.if_icmp .ge 56, 3) := by decide +kernel
theorem dX4_kinds_42 : decode cX4_kinds 42 = .ok (.aload_n 0, 1) := by decide +kernel
theorem dX4_kinds_43 : decode cX4_kinds 43 = .ok (.getfield 25, 3) := by decide +kernel
theorem dX4_kinds_46 : decode cX4_kinds 46 = .ok (.aload_n 0, 1) := by decide +kernel
theorem dX4_kinds_47 : decode cX4_kinds 47 = .ok (.getfield 10, 3) := by decide +kernel
theorem dX4_kinds_50 : decode cX4_kinds 50 = .ok (.getfield 86, 3) := by decide +kernel
theorem dX4_kinds_53 : decode cX4_kinds 53 = .ok (.iload_n 2, 1) := by decide +kernel
theorem dX4_kinds_54 : decode cX4_kinds 54 = .ok (.aaload, 1) := by decide +kernel
theorem dX4_kinds_55 : decode cX4_kinds 55 = .ok (.invokevirtual 140, 3) := by decide +kernel
theorem dX4_kinds_58 : decode cX4_kinds 58 = .ok (.aload_n 0, 1) := by decide +kernel
theorem dX4_kinds_59 : decode cX4_kinds 59 = .ok (.getfield 25, 3) := by decide +kernel
theorem dX4_kinds_62 : decode cX4_kinds 62 = .ok (.iload 5, 2) := by decide +kernel
theorem dX4_kinds_64 : decode cX4_kinds 64 = .ok (.putfield 158, 3) := by decide +kernel
theorem dX4_kinds_67 : decode cX4_kinds 67 = .ok (.aload_n 0, 1) := by decide +kernel
theorem dX4_kinds_68 : decode cX4_kinds 68 = .ok (.aload_n 0, 1) := by decide +kernel
theorem dX4_kinds_69 : decode cX4_kinds 69 = .ok (.getfield 38, 3) := by decide +kernel
theorem dX4_kinds_72 : decode cX4_kinds 72 = .ok (.iload_n 1, 1) := by decide +kernel
theorem dX4_kinds_73 : decode cX4_kinds 73 = .ok (.aaload, 1) := by decide +kernel
theorem dX4_kinds_74 : decode cX4_kinds 74 = .ok (.invokevirtual 182, 3) := by decide +kernel
theorem dX4_kinds_77 : decode cX4_kinds 77 = .ok (.ifCond .eq 12, 3) := by decide +kernel
theorem dX4_kinds_80 : decode cX4_kinds 80 = .ok (.iload 4, 2) := by decide +kernel
theorem dX4_kinds_82 : decode cX4_kinds 82 = .ok (.iconst 1, 1) := by decide +kernel
theorem dX4_kinds_83 : decode cX4_kinds 83 = .ok (.iload 5, 2) := by decide +kernel
theorem dX4_kinds_85 : decode cX4_kinds 85 = .ok (.ishl, 1) := by decide +kernel
theorem dX4_kinds_86 : decode cX4_kinds 86 = .ok (.ior, 1) := by decide +kernel
theorem dX4_kinds_87 : decode cX4_kinds 87 = .ok (.istore 4, 2) := by decide +kernel
theorem dX4_kinds_89 : decode cX4_kinds 89 = .ok (.iinc 5 1, 3) := by decide +kernel
theorem dX4_kinds_92 : decode cX4_kinds 92 = .ok (.goto (-57), 3) := by decide +kernel
theorem dX4_kinds_95 : decode cX4_kinds 95 = .ok (.iload 4, 2) := by decide +kernel
theorem dX4_kinds_97 : decode cX4_kinds 97 = .ok (.ireturn, 1) := by decide +kernel
theorem dX4_evening_0 : decode cX4_evening 0 = .ok (.iload_n 1, 1) := by decide +kernel
theorem dX4_evening_1 : decode cX4_evening 1 = .ok (.iconst 1, 1) := by decide +kernel
theorem dX4_evening_2 : decode cX4_evening 2 = .ok (.bipush 20, 2) := by decide +kernel
theorem dX4_evening_4 : decode cX4_evening 4 = .ok (.invokestatic 47, 3) := by decide +kernel
theorem dX4_evening_7 : decode cX4_evening 7 = .ok (.ifCond .ne 9, 3) := by decide +kernel
theorem dX4_evening_10 : decode cX4_evening 10 = .ok (.aload_n 0, 1) := by decide +kernel
theorem dX4_evening_11 : decode cX4_evening 11 = .ok (.iconst 0, 1) := by decide +kernel
theorem dX4_evening_12 : decode cX4_evening 12 = .ok (.invokevirtual 51, 3) := by decide +kernel
theorem dX4_evening_15 : decode cX4_evening 15 = .ok (.ireturn, 1) := by decide +kernel
theorem dX4_evening_16 : decode cX4_evening 16 = .ok (.aload_n 0, 1) := by decide +kernel
theorem dX4_evening_17 : decode cX4_evening 17 = .ok (.getfield 10, 3) := by decide +kernel
theorem dX4_evening_20 : decode cX4_evening 20 = .ok (.getfield 114, 3) := by decide +kernel
theorem dX4_evening_23 : decode cX4_evening 23 = .ok (.ldc 117, 2) := by decide +kernel
theorem dX4_evening_25 : decode cX4_evening 25 = .ok (.iload_n 1, 1) := by decide +kernel
theorem dX4_evening_26 : decode cX4_evening 26 = .ok (.isub, 1) := by decide +kernel
theorem dX4_evening_27 : decode cX4_evening 27 = .ok (.if_icmp .le 9, 3) := by decide +kernel
theorem dX4_evening_30 : decode cX4_evening 30 = .ok (.aload_n 0, 1) := by decide +kernel
theorem dX4_evening_31 : decode cX4_evening 31 = .ok (.iconst 4, 1) := by decide +kernel
theorem dX4_evening_32 : decode cX4_evening 32 = .ok (.invokevirtual 51, 3) := by decide +kernel
theorem dX4_evening_35 : decode cX4_evening 35 = .ok (.ireturn, 1) := by decide +kernel
theorem dX4_evening_36 : decode cX4_evening 36 = .ok (.iconst 0, 1) := by decide +kernel
theorem dX4_evening_37 : decode cX4_evening 37 = .ok (.istore_n 2, 1) := by decide +kernel
theorem dX4_evening_38 : decode cX4_evening 38 = .ok (.iload_n 2, 1) := by decide +kernel
theorem dX4_evening_39 : decode cX4_evening 39 = .ok (.iload_n 1, 1) := by decide +kernel
theorem dX4_evening_40 : decode cX4_evening 40 = .ok (.if_icmp .ge 86, 3) := by decide +kernel
theorem dX4_evening_43 : decode cX4_evening 43 = .ok (.aload_n 0, 1) := by decide +kernel
theorem dX4_evening_44 : decode cX4_evening 44 = .ok (.getfield 10, 3) := by decide +kernel
theorem dX4_evening_47 : decode cX4_evening 47 = .ok (.invokevirtual 186, 3) := by decide +kernel
theorem dX4_evening_50 : decode cX4_evening 50 = .ok (.bipush 12, 2) := by decide +kernel
theorem dX4_evening_52 : decode cX4_evening 52 = .ok (.irem, 1) := by decide +kernel
theorem dX4_evening_53 : decode cX4_evening 53 = .ok (.istore_n 3, 1) := by decide +kernel
theorem dX4_evening_54 : decode cX4_evening 54 = .ok (.aload_n 0, 1) := by decide +kernel
theorem dX4_evening_55 : decode cX4_evening 55 = .ok (.getfield 10, 3) := by decide +kernel
theorem dX4_evening_58 : decode cX4_evening 58 = .ok (.invokevirtual 186, 3) := by decide +kernel
theorem dX4_evening_61 : decode cX4_evening 61 = .ok (.bipush 8, 2) := by decide +kernel
theorem dX4_evening_63 : decode cX4_evening 63 = .ok (.irem, 1) := by decide +kernel
theorem dX4_evening_64 : decode cX4_evening 64 = .ok (.istore 4, 2) := by decide +kernel
theorem dX4_evening_66 : decode cX4_evening 66 = .ok (.aload_n 0, 1) := by decide +kernel
theorem dX4_evening_67 : decode cX4_evening 67 = .ok (.getfield 10, 3) := by decide +kernel
theorem dX4_evening_70 : decode cX4_evening 70 = .ok (.getfield 63, 3) := by decide +kernel
theorem dX4_evening_73 : decode cX4_evening 73 = .ok (.aload_n 0, 1) := by decide +kernel
theorem dX4_evening_74 : decode cX4_evening 74 = .ok (.getfield 10, 3) := by decide +kernel
theorem dX4_evening_77 : decode cX4_evening 77 = .ok (.iconst 0, 1) := by decide +kernel
theorem dX4_evening_78 : decode cX4_evening 78 = .ok (.invokevirtual 179, 3) := by decide +kernel
theorem dX4_evening_81 : decode cX4_evening 81 = .ok (.iload_n 3, 1) := by decide +kernel
theorem dX4_evening_82 : decode cX4_evening 82 = .ok (.iastore, 1) := by decide +kernel
theorem dX4_evening_83 : decode cX4_evening 83 = .ok (.aload_n 0, 1) := by decide +kernel
theorem dX4_evening_84 : decode cX4_evening 84 = .ok (.iload 4, 2) := by decide +kernel
theorem dX4_evening_86 : decode cX4_evening 86 = .ok (.invokevirtual 83, 3) := by decide +kernel
theorem dX4_evening_89 : decode cX4_evening 89 = .ok (.ifCond .eq 24, 3) := by decide +kernel
theorem dX4_evening_92 : decode cX4_evening 92 = .ok (.aload_n 0, 1) := by decide +kernel
theorem dX4_evening_93 : decode cX4_evening 93 = .ok (.getfield 10, 3) := by decide +kernel
theorem dX4_evening_96 : decode cX4_evening 96 = .ok (.getfield 86, 3) := by decide +kernel
theorem dX4_evening_99 : decode cX4_evening 99 = .ok (.iload 4, 2) := by decide +kernel
theorem dX4_evening_101 : decode cX4_evening 101 = .ok (.aaload, 1) := by decide +kernel
theorem dX4_evening_102 : decode cX4_evening 102 = .ok (.dup, 1) := by decide +kernel
theorem dX4_evening_103 : decode cX4_evening 103 = .ok (.getfield 77, 3) := by decide +kernel
theorem dX4_evening_106 : decode cX4_evening 106 = .ok (.iconst 1, 1) := by decide +kernel
theorem dX4_evening_107 : decode cX4_evening 107 = .ok (.iload_n 3, 1) := by decide +kernel
theorem dX4_evening_108 : decode cX4_evening 108 = .ok (.ishl, 1) := by decide +kernel
theorem dX4_evening_109 : decode cX4_evening 109 = .ok (.ixor, 1) := by decide +kernel
theorem dX4_evening_110 : decode cX4_evening 110 = .ok (.putfield 77, 3) := by decide +kernel
theorem dX4_evening_113 : decode cX4_evening 113 = .ok (.aload_n 0, 1) := by decide +kernel
theorem dX4_evening_114 : decode cX4_evening 114 = .ok (.getfield 10, 3) := by decide +kernel
theorem dX4_evening_117 : decode cX4_evening 117 = .ok (.invokevirtual 154, 3) := by decide +kernel
theorem dX4_evening_120 : decode cX4_evening 120 = .ok (.iinc 2 1, 3) := by decide +kernel
theorem dX4_evening_123 : decode cX4_evening 123 = .ok (.goto (-85), 3) := by decide +kernel
theorem dX4_evening_126 : decode cX4_evening 126 = .ok (.aload_n 0, 1) := by decide +kernel
theorem dX4_evening_127 : decode cX4_evening 127 = .ok (.getfield 10, 3) := by decide +kernel
theorem dX4_evening_130 : decode cX4_evening 130 = .ok (.getfield 121, 3) := by decide +kernel
theorem dX4_evening_133 : decode cX4_evening 133 = .ok (.ireturn, 1) := by decide +kernel
theorem dX4_odds_0 : decode cX4_odds 0 = .ok (.aload_n 0, 1) := by decide +kernel
theorem dX4_odds_1 : decode cX4_odds 1 = .ok (.iload_n 1, 1) := by decide +kernel
theorem dX4_odds_2 : decode cX4_odds 2 = .ok (.invokevirtual 83, 3) := by decide +kernel
theorem dX4_odds_5 : decode cX4_odds 5 = .ok (.ifCond .eq 22, 3) := by decide +kernel
theorem dX4_odds_8 : decode cX4_odds 8 = .ok (.iload_n 2, 1) := by decide +kernel
theorem dX4_odds_9 : decode cX4_odds 9 = .ok (.iconst 0, 1) := by decide +kernel
theorem dX4_odds_10 : decode cX4_odds 10 = .ok (.bipush 17, 2) := by decide +kernel
theorem dX4_odds_12 : decode cX4_odds 12 = .ok (.invokestatic 47, 3) := by decide +kernel
theorem dX4_odds_15 : decode cX4_odds 15 = .ok (.ifCond .eq 12, 3) := by decide +kernel
theorem dX4_odds_18 : decode cX4_odds 18 = .ok (.iload_n 3, 1) := by decide +kernel
theorem dX4_odds_19 : decode cX4_odds 19 = .ok (.iconst 0, 1) := by decide +kernel
theorem dX4_odds_20 : decode cX4_odds 20 = .ok (.iconst 1, 1) := by decide +kernel
theorem dX4_odds_21 : decode cX4_odds 21 = .ok (.invokestatic 47, 3) := by decide +kernel
theorem dX4_odds_24 : decode cX4_odds 24 = .ok (.ifCond .ne 10, 3) := by decide +kernel
theorem dX4_odds_27 : decode cX4_odds 27 = .ok (.aload_n 0, 1) := by decide +kernel
theorem dX4_odds_28 : decode cX4_odds 28 = .ok (.iconst 0, 1) := by decide +kernel
theorem dX4_odds_29 : decode cX4_odds 29 = .ok (.invokevirtual 51, 3) := by decide +kernel
theorem dX4_odds_32 : decode cX4_odds 32 = .ok (.i2l, 1) := by decide +kernel
theorem dX4_odds_33 : decode cX4_odds 33 = .ok (.lreturn, 1) := by decide +kernel
theorem dX4_odds_34 : decode cX4_odds 34 = .ok (.aload_n 0, 1) := by decide +kernel
theorem dX4_odds_35 : decode cX4_odds 35 = .ok (.getfield 10, 3) := by decide +kernel
theorem dX4_odds_38 : decode cX4_odds 38 = .ok (.getfield 86, 3) := by decide +kernel
theorem dX4_odds_41 : decode cX4_odds 41 = .ok (.iload_n 1, 1) := by decide +kernel
theorem dX4_odds_42 : decode cX4_odds 42 = .ok (.aaload, 1) := by decide +kernel
theorem dX4_odds_43 : decode cX4_odds 43 = .ok (.getfield 77, 3) := by decide +kernel
theorem dX4_odds_46 : decode cX4_odds 46 = .ok (.invokestatic 167, 3) := by decide +kernel
theorem dX4_odds_49 : decode cX4_odds 49 = .ok (.istore 4, 2) := by decide +kernel
theorem dX4_odds_51 : decode cX4_odds 51 = .ok (.iload_n 3, 1) := by decide +kernel
theorem dX4_odds_52 : decode cX4_odds 52 = .ok (.ifCond .ne 8, 3) := by decide +kernel
theorem dX4_odds_55 : decode cX4_odds 55 = .ok (.iload 4, 2) := by decide +kernel
theorem dX4_odds_57 : decode cX4_odds 57 = .ok (.goto 5, 3) := by decide +kernel
theorem dX4_odds_60 : decode cX4_odds 60 = .ok (.bipush 12, 2) := by decide +kernel
theorem dX4_odds_62 : decode cX4_odds 62 = .ok (.iload 4, 2) := by decide +kernel
theorem dX4_odds_64 : decode cX4_odds 64 = .ok (.invokestatic 189, 3) := by decide +kernel
theorem dX4_odds_67 : decode cX4_odds 67 = .ok (.idiv, 1) := by decide +kernel
theorem dX4_odds_68 : decode cX4_odds 68 = .ok (.istore 5, 2) := by decide +kernel
theorem dX4_odds_70 : decode cX4_odds 70 = .ok (.lconst 1, 1) := by decide +kernel
theorem dX4_odds_71 : decode cX4_odds 71 = .ok (.lstore 6, 2) := by decide +kernel
theorem dX4_odds_73 : decode cX4_odds 73 = .ok (.iconst 0, 1) := by decide +kernel
theorem dX4_odds_74 : decode cX4_odds 74 = .ok (.istore 8, 2) := by decide +kernel
theorem dX4_odds_76 : decode cX4_odds 76 = .ok (.iload 8, 2) := by decide +kernel
theorem dX4_odds_78 : decode cX4_odds 78 = .ok (.iload_n 2, 1) := by decide +kernel
theorem dX4_odds_79 : decode cX4_odds 79 = .ok (.if_icmp .ge 17, 3) := by decide +kernel
theorem dX4_odds_82 : decode cX4_odds 82 = .ok (.lload 6, 2) := by decide +kernel
theorem dX4_odds_84 : decode cX4_odds 84 = .ok (.iload 5, 2) := by decide +kernel
theorem dX4_odds_86 : decode cX4_odds 86 = .ok (.i2l, 1) := by decide +kernel
theorem dX4_odds_87 : decode cX4_odds 87 = .ok (.lmul, 1) := by decide +kernel
theorem dX4_odds_88 : decode cX4_odds 88 = .ok (.lstore 6, 2) := by decide +kernel
theorem dX4_odds_90 : decode cX4_odds 90 = .ok (.iinc 8 1, 3) := by decide +kernel
theorem dX4_odds_93 : decode cX4_odds 93 = .ok (.goto (-17), 3) := by decide +kernel
theorem dX4_odds_96 : decode cX4_odds 96 = .ok (.lload 6, 2) := by decide +kernel
theorem dX4_odds_98 : decode cX4_odds 98 = .ok (.lreturn, 1) := by decide +kernel
theorem dX4_seed_0 : decode cX4_seed 0 = .ok (.aload_n 0, 1) := by decide +kernel
theorem dX4_seed_1 : decode cX4_seed 1 = .ok (.getfield 10, 3) := by decide +kernel
theorem dX4_seed_4 : decode cX4_seed 4 = .ok (.getfield 192, 3) := by decide +kernel
theorem dX4_seed_7 : decode cX4_seed 7 = .ok (.istore_n 2, 1) := by decide +kernel
theorem dX4_seed_8 : decode cX4_seed 8 = .ok (.aload_n 0, 1) := by decide +kernel
theorem dX4_seed_9 : decode cX4_seed 9 = .ok (.getfield 10, 3) := by decide +kernel
theorem dX4_seed_12 : decode cX4_seed 12 = .ok (.iload_n 1, 1) := by decide +kernel
theorem dX4_seed_13 : decode cX4_seed 13 = .ok (.putfield 192, 3) := by decide +kernel
theorem dX4_seed_16 : decode cX4_seed 16 = .ok (.iload_n 2, 1) := by decide +kernel
theorem dX4_seed_17 : decode cX4_seed 17 = .ok (.ireturn, 1) := by decide +kernel
theorem dX4_feed_0 : decode cX4_feed 0 = .ok (.iload_n 2, 1) := by decide +kernel
theorem dX4_feed_1 : decode cX4_feed 1 = .ok (.iconst 1, 1) := by decide +kernel
theorem dX4_feed_2 : decode cX4_feed 2 = .ok (.iconst 4, 1) := by decide +kernel
theorem dX4_feed_3 : decode cX4_feed 3 = .ok (.invokestatic 47, 3) := by decide +kernel
theorem dX4_feed_6 : decode cX4_feed 6 = .ok (.ifCond .ne 9, 3) := by decide +kernel
theorem dX4_feed_9 : decode cX4_feed 9 = .ok (.aload_n 0, 1) := by decide +kernel
theorem dX4_feed_10 : decode cX4_feed 10 = .ok (.iconst 0, 1) := by decide +kernel
theorem dX4_feed_11 : decode cX4_feed 11 = .ok (.invokevirtual 51, 3) := by decide +kernel
theorem dX4_feed_14 : decode cX4_feed 14 = .ok (.ireturn, 1) := by decide +kernel
theorem dX4_feed_15 : decode cX4_feed 15 = .ok (.aload_n 0, 1) := by decide +kernel
theorem dX4_feed_16 : decode cX4_feed 16 = .ok (.getfield 32, 3) := by decide +kernel
theorem dX4_feed_19 : decode cX4_feed 19 = .ok (.getfield 195, 3) := by decide +kernel
theorem dX4_feed_22 : decode cX4_feed 22 = .ok (.bipush 120, 2) := by decide +kernel
theorem dX4_feed_24 : decode cX4_feed 24 = .ok (.iload_n 2, 1) := by decide +kernel
theorem dX4_feed_25 : decode cX4_feed 25 = .ok (.isub, 1) := by decide +kernel
theorem dX4_feed_26 : decode cX4_feed 26 = .ok (.if_icmp .le 9, 3) := by decide +kernel
theorem dX4_feed_29 : decode cX4_feed 29 = .ok (.aload_n 0, 1) := by decide +kernel
theorem dX4_feed_30 : decode cX4_feed 30 = .ok (.iconst 1, 1) := by decide +kernel
theorem dX4_feed_31 : decode cX4_feed 31 = .ok (.invokevirtual 51, 3) := by decide +kernel
theorem dX4_feed_34 : decode cX4_feed 34 = .ok (.ireturn, 1) := by decide +kernel
theorem dX4_feed_35 : decode cX4_feed 35 = .ok (.iload_n 2, 1) := by decide +kernel
theorem dX4_feed_36 : decode cX4_feed 36 = .ok (.iconst 1, 1) := by decide +kernel
theorem dX4_feed_37 : decode cX4_feed 37 = .ok (.isub, 1) := by decide +kernel
theorem dX4_feed_38 : decode cX4_feed 38 = .ok (.istore_n 3, 1) := by decide +kernel
theorem dX4_feed_39 : decode cX4_feed 39 = .ok (.iload_n 3, 1) := by decide +kernel
theorem dX4_feed_40 : decode cX4_feed 40 = .ok (.ifCond .lt 23, 3) := by decide +kernel
theorem dX4_feed_43 : decode cX4_feed 43 = .ok (.aload_n 0, 1) := by decide +kernel
theorem dX4_feed_44 : decode cX4_feed 44 = .ok (.getfield 32, 3) := by decide +kernel
theorem dX4_feed_47 : decode cX4_feed 47 = .ok (.iload_n 1, 1) := by decide +kernel
theorem dX4_feed_48 : decode cX4_feed 48 = .ok (.bipush 8, 2) := by decide +kernel
theorem dX4_feed_50 : decode cX4_feed 50 = .ok (.iload_n 3, 1) := by decide +kernel
theorem dX4_feed_51 : decode cX4_feed 51 = .ok (.imul, 1) := by decide +kernel
theorem dX4_feed_52 : decode cX4_feed 52 = .ok (.ishr, 1) := by decide +kernel
theorem dX4_feed_53 : decode cX4_feed 53 = .ok (.i2b, 1) := by decide +kernel
theorem dX4_feed_54 : decode cX4_feed 54 = .ok (.invokevirtual 198, 3) := by decide +kernel
theorem dX4_feed_57 : decode cX4_feed 57 = .ok (.iinc 3 (-1), 3) := by decide +kernel
theorem dX4_feed_60 : decode cX4_feed 60 = .ok (.goto (-21), 3) := by decide +kernel
theorem dX4_feed_63 : decode cX4_feed 63 = .ok (.aload_n 0, 1) := by decide +kernel
theorem dX4_feed_64 : decode cX4_feed 64 = .ok (.getfield 32, 3) := by decide +kernel
theorem dX4_feed_67 : decode cX4_feed 67 = .ok (.getfield 195, 3) := by decide +kernel
theorem dX4_feed_70 : decode cX4_feed 70 = .ok (.ireturn, 1) := by decide +kernel
theorem dX4_wipe_0 : decode cX4_wipe 0 = .ok (.aload_n 0, 1) := by decide +kernel
theorem dX4_wipe_1 : decode cX4_wipe 1 = .ok (.getfield 32, 3) := by decide +kernel
theorem dX4_wipe_4 : decode cX4_wipe 4 = .ok (.getfield 195, 3) := by decide +kernel
theorem dX4_wipe_7 : decode cX4_wipe 7 = .ok (.istore_n 1, 1) := by decide +kernel
theorem dX4_wipe_8 : decode cX4_wipe 8 = .ok (.aload_n 0, 1) := by decide +kernel
theorem dX4_wipe_9 : decode cX4_wipe 9 = .ok (.getfield 32, 3) := by decide +kernel
theorem dX4_wipe_12 : decode cX4_wipe 12 = .ok (.iconst 0, 1) := by decide +kernel
theorem dX4_wipe_13 : decode cX4_wipe 13 = .ok (.putfield 195, 3) := by decide +kernel
theorem dX4_wipe_16 : decode cX4_wipe 16 = .ok (.iload_n 1, 1) := by decide +kernel
theorem dX4_wipe_17 : decode cX4_wipe 17 = .ok (.ireturn, 1) := by decide +kernel
theorem dX4_text_0 : decode cX4_text 0 = .ok (.aload_n 0, 1) := by decide +kernel
theorem dX4_text_1 : decode cX4_text 1 = .ok (.getfield 19, 3) := by decide +kernel
theorem dX4_text_4 : decode cX4_text 4 = .ok (.aload_n 0, 1) := by decide +kernel
theorem dX4_text_5 : decode cX4_text 5 = .ok (.getfield 10, 3) := by decide +kernel
theorem dX4_text_8 : decode cX4_text 8 = .ok (.invokevirtual 147, 3) := by decide +kernel
theorem dX4_text_11 : decode cX4_text 11 = .ok (.aload_n 0, 1) := by decide +kernel
theorem dX4_text_12 : decode cX4_text 12 = .ok (.getfield 32, 3) := by decide +kernel
theorem dX4_text_15 : decode cX4_text 15 = .ok (.aload_n 0, 1) := by decide +kernel
theorem dX4_text_16 : decode cX4_text 16 = .ok (.getfield 19, 3) := by decide +kernel
theorem dX4_text_19 : decode cX4_text 19 = .ok (.invokevirtual 202, 3) := by decide +kernel
theorem dX4_text_22 : decode cX4_text 22 = .ok (.istore_n 1, 1) := by decide +kernel
theorem dX4_text_23 : decode cX4_text 23 = .ok (.iload_n 1, 1) := by decide +kernel
theorem dX4_text_24 : decode cX4_text 24 = .ok (.ifCond .lt 14, 3) := by decide +kernel
theorem dX4_text_27 : decode cX4_text 27 = .ok (.aload_n 0, 1) := by decide +kernel
theorem dX4_text_28 : decode cX4_text 28 = .ok (.getfield 10, 3) := by decide +kernel
theorem dX4_text_31 : decode cX4_text 31 = .ok (.aload_n 0, 1) := by decide +kernel
theorem dX4_text_32 : decode cX4_text 32 = .ok (.getfield 19, 3) := by decide +kernel
theorem dX4_text_35 : decode cX4_text 35 = .ok (.invokevirtual 147, 3) := by decide +kernel
theorem dX4_text_38 : decode cX4_text 38 = .ok (.aload_n 0, 1) := by decide +kernel
theorem dX4_text_39 : decode cX4_text 39 = .ok (.getfield 32, 3) := by decide +kernel
theorem dX4_text_42 : decode cX4_text 42 = .ok (.iconst 0, 1) := by decide +kernel
theorem dX4_text_43 : decode cX4_text 43 = .ok (.putfield 195, 3) := by decide +kernel
theorem dX4_text_46 : decode cX4_text 46 = .ok (.iload_n 1, 1) := by decide +kernel
theorem dX4_text_47 : decode cX4_text 47 = .ok (.ireturn, 1) := by decide +kernel
theorem dX4_hold_0 : decode cX4_hold 0 = .ok (.iload_n 1, 1) := by decide +kernel
theorem dX4_hold_1 : decode cX4_hold 1 = .ok (.invokestatic 206, 3) := by decide +kernel
theorem dX4_hold_4 : decode cX4_hold 4 = .ok (.ifCond .eq 16, 3) := by decide +kernel
theorem dX4_hold_7 : decode cX4_hold 7 = .ok (.iload_n 2, 1) := by decide +kernel
theorem dX4_hold_8 : decode cX4_hold 8 = .ok (.iconst (-1), 1) := by decide +kernel
theorem dX4_hold_9 : decode cX4_hold 9 = .ok (.if_icmp .eq 17, 3) := by decide +kernel
theorem dX4_hold_12 : decode cX4_hold 12 = .ok (.aload_n 0, 1) := by decide +kernel
theorem dX4_hold_13 : decode cX4_hold 13 = .ok (.iload_n 2, 1) := by decide +kernel
theorem dX4_hold_14 : decode cX4_hold 14 = .ok (.invokevirtual 83, 3) := by decide +kernel
theorem dX4_hold_17 : decode cX4_hold 17 = .ok (.ifCond .ne 9, 3) := by decide +kernel
theorem dX4_hold_20 : decode cX4_hold 20 = .ok (.aload_n 0, 1) := by decide +kernel
theorem dX4_hold_21 : decode cX4_hold 21 = .ok (.iconst 0, 1) := by decide +kernel
theorem dX4_hold_22 : decode cX4_hold 22 = .ok (.invokevirtual 51, 3) := by decide +kernel
theorem dX4_hold_25 : decode cX4_hold 25 = .ok (.ireturn, 1) := by decide +kernel
theorem dX4_hold_26 : decode cX4_hold 26 = .ok (.aload_n 0, 1) := by decide +kernel
theorem dX4_hold_27 : decode cX4_hold 27 = .ok (.getfield 10, 3) := by decide +kernel
theorem dX4_hold_30 : decode cX4_hold 30 = .ok (.getfield 209, 3) := by decide +kernel
theorem dX4_hold_33 : decode cX4_hold 33 = .ok (.iload_n 1, 1) := by decide +kernel
theorem dX4_hold_34 : decode cX4_hold 34 = .ok (.iload_n 2, 1) := by decide +kernel
theorem dX4_hold_35 : decode cX4_hold 35 = .ok (.iastore, 1) := by decide +kernel
theorem dX4_hold_36 : decode cX4_hold 36 = .ok (.iconst 1, 1) := by decide +kernel
theorem dX4_hold_37 : decode cX4_hold 37 = .ok (.ireturn, 1) := by decide +kernel
theorem dX4_as_0 : decode cX4_as 0 = .ok (.iload_n 1, 1) := by decide +kernel
theorem dX4_as_1 : decode cX4_as 1 = .ok (.invokestatic 206, 3) := by decide +kernel
theorem dX4_as_4 : decode cX4_as 4 = .ok (.ifCond .eq 10, 3) := by decide +kernel
theorem dX4_as_7 : decode cX4_as 7 = .ok (.iload_n 2, 1) := by decide +kernel
theorem dX4_as_8 : decode cX4_as 8 = .ok (.invokestatic 66, 3) := by decide +kernel
theorem dX4_as_11 : decode cX4_as 11 = .ok (.ifCond .ne 9, 3) := by decide +kernel
theorem dX4_as_14 : decode cX4_as 14 = .ok (.aload_n 0, 1) := by decide +kernel
theorem dX4_as_15 : decode cX4_as 15 = .ok (.iconst 0, 1) := by decide +kernel
theorem dX4_as_16 : decode cX4_as 16 = .ok (.invokevirtual 51, 3) := by decide +kernel
theorem dX4_as_19 : decode cX4_as 19 = .ok (.ireturn, 1) := by decide +kernel
theorem dX4_as_20 : decode cX4_as 20 = .ok (.aload_n 0, 1) := by decide +kernel
theorem dX4_as_21 : decode cX4_as 21 = .ok (.getfield 10, 3) := by decide +kernel
theorem dX4_as_24 : decode cX4_as 24 = .ok (.getfield 209, 3) := by decide +kernel
theorem dX4_as_27 : decode cX4_as 27 = .ok (.iload_n 1, 1) := by decide +kernel
theorem dX4_as_28 : decode cX4_as 28 = .ok (.iaload, 1) := by decide +kernel
theorem dX4_as_29 : decode cX4_as 29 = .ok (.istore_n 3, 1) := by decide +kernel
theorem dX4_as_30 : decode cX4_as 30 = .ok (.aload_n 0, 1) := by decide +kernel
theorem dX4_as_31 : decode cX4_as 31 = .ok (.iload_n 3, 1) := by decide +kernel
theorem dX4_as_32 : decode cX4_as 32 = .ok (.invokevirtual 83, 3) := by decide +kernel
theorem dX4_as_35 : decode cX4_as 35 = .ok (.ifCond .ne 9, 3) := by decide +kernel
theorem dX4_as_38 : decode cX4_as 38 = .ok (.aload_n 0, 1) := by decide +kernel
theorem dX4_as_39 : decode cX4_as 39 = .ok (.iconst 5, 1) := by decide +kernel
theorem dX4_as_40 : decode cX4_as 40 = .ok (.invokevirtual 51, 3) := by decide +kernel
theorem dX4_as_43 : decode cX4_as 43 = .ok (.ireturn, 1) := by decide +kernel
theorem dX4_as_44 : decode cX4_as 44 = .ok (.aload_n 0, 1) := by decide +kernel
theorem dX4_as_45 : decode cX4_as 45 = .ok (.getfield 10, 3) := by decide +kernel
theorem dX4_as_48 : decode cX4_as 48 = .ok (.getfield 86, 3) := by decide +kernel
theorem dX4_as_51 : decode cX4_as 51 = .ok (.iload_n 3, 1) := by decide +kernel
theorem dX4_as_52 : decode cX4_as 52 = .ok (.aaload, 1) := by decide +kernel
theorem dX4_as_53 : decode cX4_as 53 = .ok (.iload_n 2, 1) := by decide +kernel
theorem dX4_as_54 : decode cX4_as 54 = .ok (.invokevirtual 212, 3) := by decide +kernel
theorem dX4_as_57 : decode cX4_as 57 = .ok (.ifCond .ne 9, 3) := by decide +kernel
theorem dX4_as_60 : decode cX4_as 60 = .ok (.aload_n 0, 1) := by decide +kernel
theorem dX4_as_61 : decode cX4_as 61 = .ok (.iconst 2, 1) := by decide +kernel
theorem dX4_as_62 : decode cX4_as 62 = .ok (.invokevirtual 51, 3) := by decide +kernel
theorem dX4_as_65 : decode cX4_as 65 = .ok (.ireturn, 1) := by decide +kernel
theorem dX4_as_66 : decode cX4_as 66 = .ok (.iload_n 3, 1) := by decide +kernel
theorem dX4_as_67 : decode cX4_as 67 = .ok (.ireturn, 1) := by decide +kernel
theorem dX4_sheet_0 : decode cX4_sheet 0 = .ok (.iload_n 1, 1) := by decide +kernel
theorem dX4_sheet_1 : decode cX4_sheet 1 = .ok (.invokestatic 215, 3) := by decide +kernel
theorem dX4_sheet_4 : decode cX4_sheet 4 = .ok (.ifCond .eq 25, 3) := by decide +kernel
theorem dX4_sheet_7 : decode cX4_sheet 7 = .ok (.iload_n 2, 1) := by decide +kernel
theorem dX4_sheet_8 : decode cX4_sheet 8 = .ok (.ifCond .eq 27, 3) := by decide +kernel
theorem dX4_sheet_11 : decode cX4_sheet 11 = .ok (.iload_n 2, 1) := by decide +kernel
theorem dX4_sheet_12 : decode cX4_sheet 12 = .ok (.bipush 8, 2) := by decide +kernel
theorem dX4_sheet_14 : decode cX4_sheet 14 = .ok (.if_icmp .eq 21, 3) := by decide +kernel
theorem dX4_sheet_17 : decode cX4_sheet 17 = .ok (.iload_n 2, 1) := by decide +kernel
theorem dX4_sheet_18 : decode cX4_sheet 18 = .ok (.bipush 16, 2) := by decide +kernel
theorem dX4_sheet_20 : decode cX4_sheet 20 = .ok (.if_icmp .eq 15, 3) := by decide +kernel
theorem dX4_sheet_23 : decode cX4_sheet 23 = .ok (.iload_n 2, 1) := by decide +kernel
theorem dX4_sheet_24 : decode cX4_sheet 24 = .ok (.bipush 32, 2) := by decide +kernel
theorem dX4_sheet_26 : decode cX4_sheet 26 = .ok (.if_icmp .eq 9, 3) := by decide +kernel
theorem dX4_sheet_29 : decode cX4_sheet 29 = .ok (.aload_n 0, 1) := by decide +kernel
theorem dX4_sheet_30 : decode cX4_sheet 30 = .ok (.iconst 0, 1) := by decide +kernel
theorem dX4_sheet_31 : decode cX4_sheet 31 = .ok (.invokevirtual 51, 3) := by decide +kernel
theorem dX4_sheet_34 : decode cX4_sheet 34 = .ok (.ireturn, 1) := by decide +kernel
theorem dX4_sheet_35 : decode cX4_sheet 35 = .ok (.iload_n 3, 1) := by decide +kernel
theorem dX4_sheet_36 : decode cX4_sheet 36 = .ok (.ifCond .ge 10, 3) := by decide +kernel
theorem dX4_sheet_39 : decode cX4_sheet 39 = .ok (.aload_n 0, 1) := by decide +kernel
theorem dX4_sheet_40 : decode cX4_sheet 40 = .ok (.bipush 6, 2) := by decide +kernel
theorem dX4_sheet_42 : decode cX4_sheet 42 = .ok (.invokevirtual 51, 3) := by decide +kernel
theorem dX4_sheet_45 : decode cX4_sheet 45 = .ok (.ireturn, 1) := by decide +kernel
theorem dX4_sheet_46 : decode cX4_sheet 46 = .ok (.iload_n 3, 1) := by decide +kernel
theorem dX4_sheet_47 : decode cX4_sheet 47 = .ok (.bipush 40, 2) := by decide +kernel
theorem dX4_sheet_49 : decode cX4_sheet 49 = .ok (.if_icmp .le 9, 3) := by decide +kernel
theorem dX4_sheet_52 : decode cX4_sheet 52 = .ok (.aload_n 0, 1) := by decide +kernel
theorem dX4_sheet_53 : decode cX4_sheet 53 = .ok (.iconst 0, 1) := by decide +kernel
theorem dX4_sheet_54 : decode cX4_sheet 54 = .ok (.invokevirtual 51, 3) := by decide +kernel
theorem dX4_sheet_57 : decode cX4_sheet 57 = .ok (.ireturn, 1) := by decide +kernel
theorem dX4_sheet_58 : decode cX4_sheet 58 = .ok (.aload_n 0, 1) := by decide +kernel
theorem dX4_sheet_59 : decode cX4_sheet 59 = .ok (.getfield 38, 3) := by decide +kernel
theorem dX4_sheet_62 : decode cX4_sheet 62 = .ok (.iload_n 1, 1) := by decide +kernel
theorem dX4_sheet_63 : decode cX4_sheet 63 = .ok (.aaload, 1) := by decide +kernel
theorem dX4_sheet_64 : decode cX4_sheet 64 = .ok (.iload_n 2, 1) := by decide +kernel
theorem dX4_sheet_65 : decode cX4_sheet 65 = .ok (.iload_n 2, 1) := by decide +kernel
theorem dX4_sheet_66 : decode cX4_sheet 66 = .ok (.ifCond .ne 7, 3) := by decide +kernel
theorem dX4_sheet_69 : decode cX4_sheet 69 = .ok (.iconst 0, 1) := by decide +kernel
theorem dX4_sheet_70 : decode cX4_sheet 70 = .ok (.goto 4, 3) := by decide +kernel
theorem dX4_sheet_73 : decode cX4_sheet 73 = .ok (.iload_n 3, 1) := by decide +kernel
theorem dX4_sheet_74 : decode cX4_sheet 74 = .ok (.invokevirtual 218, 3) := by decide +kernel
theorem dX4_sheet_77 : decode cX4_sheet 77 = .ok (.aload_n 0, 1) := by decide +kernel
theorem dX4_sheet_78 : decode cX4_sheet 78 = .ok (.getfield 38, 3) := by decide +kernel
theorem dX4_sheet_81 : decode cX4_sheet 81 = .ok (.iload_n 1, 1) := by decide +kernel
theorem dX4_sheet_82 : decode cX4_sheet 82 = .ok (.aaload, 1) := by decide +kernel
theorem dX4_sheet_83 : decode cX4_sheet 83 = .ok (.getfield 221, 3) := by decide +kernel
theorem dX4_sheet_86 : decode cX4_sheet 86 = .ok (.ireturn, 1) := by decide +kernel
theorem dX4_write_0 : decode cX4_write 0 = .ok (.iload_n 1, 1) := by decide +kernel
theorem dX4_write_1 : decode cX4_write 1 = .ok (.invokestatic 215, 3) := by decide +kernel
theorem dX4_write_4 : decode cX4_write 4 = .ok (.ifCond .ne 9, 3) := by decide +kernel
theorem dX4_write_7 : decode cX4_write 7 = .ok (.aload_n 0, 1) := by decide +kernel
theorem dX4_write_8 : decode cX4_write 8 = .ok (.iconst 0, 1) := by decide +kernel
theorem dX4_write_9 : decode cX4_write 9 = .ok (.invokevirtual 51, 3) := by decide +kernel
theorem dX4_write_12 : decode cX4_write 12 = .ok (.ireturn, 1) := by decide +kernel
theorem dX4_write_13 : decode cX4_write 13 = .ok (.aload_n 0, 1) := by decide +kernel
theorem dX4_write_14 : decode cX4_write 14 = .ok (.getfield 38, 3) := by decide +kernel
theorem dX4_write_17 : decode cX4_write 17 = .ok (.iload_n 1, 1) := by decide +kernel
theorem dX4_write_18 : decode cX4_write 18 = .ok (.aaload, 1) := by decide +kernel
theorem dX4_write_19 : decode cX4_write 19 = .ok (.invokevirtual 222, 3) := by decide +kernel
theorem dX4_write_22 : decode cX4_write 22 = .ok (.ifCond .eq 9, 3) := by decide +kernel
theorem dX4_write_25 : decode cX4_write 25 = .ok (.aload_n 0, 1) := by decide +kernel
theorem dX4_write_26 : decode cX4_write 26 = .ok (.iconst 5, 1) := by decide +kernel
theorem dX4_write_27 : decode cX4_write 27 = .ok (.invokevirtual 51, 3) := by decide +kernel
theorem dX4_write_30 : decode cX4_write 30 = .ok (.ireturn, 1) := by decide +kernel
theorem dX4_write_31 : decode cX4_write 31 = .ok (.iload_n 2, 1) := by decide +kernel
theorem dX4_write_32 : decode cX4_write 32 = .ok (.iconst 0, 1) := by decide +kernel
theorem dX4_write_33 : decode cX4_write 33 = .ok (.aload_n 0, 1) := by decide +kernel
theorem dX4_write_34 : decode cX4_write 34 = .ok (.getfield 38, 3) := by decide +kernel
theorem dX4_write_37 : decode cX4_write 37 = .ok (.iload_n 1, 1) := by decide +kernel
theorem dX4_write_38 : decode cX4_write 38 = .ok (.aaload, 1) := by decide +kernel
theorem dX4_write_39 : decode cX4_write 39 = .ok (.getfield 221, 3) := by decide +kernel
theorem dX4_write_42 : decode cX4_write 42 = .ok (.iconst 1, 1) := by decide +kernel
theorem dX4_write_43 : decode cX4_write 43 = .ok (.isub, 1) := by decide +kernel
theorem dX4_write_44 : decode cX4_write 44 = .ok (.invokestatic 47, 3) := by decide +kernel
theorem dX4_write_47 : decode cX4_write 47 = .ok (.ifCond .ne 9, 3) := by decide +kernel
theorem dX4_write_50 : decode cX4_write 50 = .ok (.aload_n 0, 1) := by decide +kernel
theorem dX4_write_51 : decode cX4_write 51 = .ok (.iconst 0, 1) := by decide +kernel
theorem dX4_write_52 : decode cX4_write 52 = .ok (.invokevirtual 51, 3) := by decide +kernel
theorem dX4_write_55 : decode cX4_write 55 = .ok (.ireturn, 1) := by decide +kernel
theorem dX4_write_56 : decode cX4_write 56 = .ok (.aload_n 0, 1) := by decide +kernel
theorem dX4_write_57 : decode cX4_write 57 = .ok (.getfield 38, 3) := by decide +kernel
theorem dX4_write_60 : decode cX4_write 60 = .ok (.iload_n 1, 1) := by decide +kernel
theorem dX4_write_61 : decode cX4_write 61 = .ok (.aaload, 1) := by decide +kernel
theorem dX4_write_62 : decode cX4_write 62 = .ok (.iload_n 2, 1) := by decide +kernel
theorem dX4_write_63 : decode cX4_write 63 = .ok (.iload_n 3, 1) := by decide +kernel
theorem dX4_write_64 : decode cX4_write 64 = .ok (.invokevirtual 225, 3) := by decide +kernel
theorem dX4_write_67 : decode cX4_write 67 = .ok (.iconst 1, 1) := by decide +kernel
theorem dX4_write_68 : decode cX4_write 68 = .ok (.ireturn, 1) := by decide +kernel
theorem dX4_copy_0 : decode cX4_copy 0 = .ok (.iload_n 1, 1) := by decide +kernel
theorem dX4_copy_1 : decode cX4_copy 1 = .ok (.invokestatic 215, 3) := by decide +kernel
theorem dX4_copy_4 : decode cX4_copy 4 = .ok (.ifCond .eq 10, 3) := by decide +kernel
theorem dX4_copy_7 : decode cX4_copy 7 = .ok (.iload_n 3, 1) := by decide +kernel
theorem dX4_copy_8 : decode cX4_copy 8 = .ok (.invokestatic 215, 3) := by decide +kernel
theorem dX4_copy_11 : decode cX4_copy 11 = .ok (.ifCond .ne 9, 3) := by decide +kernel
theorem dX4_copy_14 : decode cX4_copy 14 = .ok (.aload_n 0, 1) := by decide +kernel
theorem dX4_copy_15 : decode cX4_copy 15 = .ok (.iconst 0, 1) := by decide +kernel
theorem dX4_copy_16 : decode cX4_copy 16 = .ok (.invokevirtual 51, 3) := by decide +kernel
theorem dX4_copy_19 : decode cX4_copy 19 = .ok (.ireturn, 1) := by decide +kernel
theorem dX4_copy_20 : decode cX4_copy 20 = .ok (.aload_n 0, 1) := by decide +kernel
theorem dX4_copy_21 : decode cX4_copy 21 = .ok (.getfield 38, 3) := by decide +kernel
theorem dX4_copy_24 : decode cX4_copy 24 = .ok (.iload_n 1, 1) := by decide +kernel
theorem dX4_copy_25 : decode cX4_copy 25 = .ok (.aaload, 1) := by decide +kernel
theorem dX4_copy_26 : decode cX4_copy 26 = .ok (.astore 6, 2) := by decide +kernel
theorem dX4_copy_28 : decode cX4_copy 28 = .ok (.aload_n 0, 1) := by decide +kernel
theorem dX4_copy_29 : decode cX4_copy 29 = .ok (.getfield 38, 3) := by decide +kernel
theorem dX4_copy_32 : decode cX4_copy 32 = .ok (.iload_n 3, 1) := by decide +kernel
theorem dX4_copy_33 : decode cX4_copy 33 = .ok (.aaload, 1) := by decide +kernel
theorem dX4_copy_34 : decode cX4_copy 34 = .ok (.astore 7, 2) := by decide +kernel
theorem dX4_copy_36 : decode cX4_copy 36 = .ok (.aload 6, 2) := by decide +kernel
theorem dX4_copy_38 : decode cX4_copy 38 = .ok (.invokevirtual 222, 3) := by decide +kernel
theorem dX4_copy_41 : decode cX4_copy 41 = .ok (.ifCond .ne 11, 3) := by decide +kernel
theorem dX4_copy_44 : decode cX4_copy 44 = .ok (.aload 7, 2) := by decide +kernel
theorem dX4_copy_46 : decode cX4_copy 46 = .ok (.invokevirtual 222, 3) := by decide +kernel
theorem dX4_copy_49 : decode cX4_copy 49 = .ok (.ifCond .eq 9, 3) := by decide +kernel
theorem dX4_copy_52 : decode cX4_copy 52 = .ok (.aload_n 0, 1) := by decide +kernel
theorem dX4_copy_53 : decode cX4_copy 53 = .ok (.iconst 5, 1) := by decide +kernel
theorem dX4_copy_54 : decode cX4_copy 54 = .ok (.invokevirtual 51, 3) := by decide +kernel
theorem dX4_copy_57 : decode cX4_copy 57 = .ok (.ireturn, 1) := by decide +kernel
theorem dX4_copy_58 : decode cX4_copy 58 = .ok (.aload 6, 2) := by decide +kernel
theorem dX4_copy_60 : decode cX4_copy 60 = .ok (.getfield 228, 3) := by decide +kernel
theorem dX4_copy_63 : decode cX4_copy 63 = .ok (.aload 7, 2) := by decide +kernel
theorem dX4_copy_65 : decode cX4_copy 65 = .ok (.getfield 228, 3) := by decide +kernel
theorem dX4_copy_68 : decode cX4_copy 68 = .ok (.if_icmp .eq 9, 3) := by decide +kernel
theorem dX4_copy_71 : decode cX4_copy 71 = .ok (.aload_n 0, 1) := by decide +kernel
theorem dX4_copy_72 : decode cX4_copy 72 = .ok (.iconst 2, 1) := by decide +kernel
theorem dX4_copy_73 : decode cX4_copy 73 = .ok (.invokevirtual 51, 3) := by decide +kernel
theorem dX4_copy_76 : decode cX4_copy 76 = .ok (.ireturn, 1) := by decide +kernel
theorem dX4_copy_77 : decode cX4_copy 77 = .ok (.aload 6, 2) := by decide +kernel
theorem dX4_copy_79 : decode cX4_copy 79 = .ok (.iload_n 2, 1) := by decide +kernel
theorem dX4_copy_80 : decode cX4_copy 80 = .ok (.iload 5, 2) := by decide +kernel
theorem dX4_copy_82 : decode cX4_copy 82 = .ok (.invokevirtual 231, 3) := by decide +kernel
theorem dX4_copy_85 : decode cX4_copy 85 = .ok (.ifCond .eq 15, 3) := by decide +kernel
theorem dX4_copy_88 : decode cX4_copy 88 = .ok (.aload 7, 2) := by decide +kernel
theorem dX4_copy_90 : decode cX4_copy 90 = .ok (.iload 4, 2) := by decide +kernel
theorem dX4_copy_92 : decode cX4_copy 92 = .ok (.iload 5, 2) := by decide +kernel
theorem dX4_copy_94 : decode cX4_copy 94 = .ok (.invokevirtual 231, 3) := by decide +kernel
theorem dX4_copy_97 : decode cX4_copy 97 = .ok (.ifCond .ne 9, 3) := by decide +kernel
theorem dX4_copy_100 : decode cX4_copy 100 = .ok (.aload_n 0, 1) := by decide +kernel
theorem dX4_copy_101 : decode cX4_copy 101 = .ok (.iconst 0, 1) := by decide +kernel
theorem dX4_copy_102 : decode cX4_copy 102 = .ok (.invokevirtual 51, 3) := by decide +kernel
theorem dX4_copy_105 : decode cX4_copy 105 = .ok (.ireturn, 1) := by decide +kernel
theorem dX4_copy_106 : decode cX4_copy 106 = .ok (.aload 6, 2) := by decide +kernel
theorem dX4_copy_108 : decode cX4_copy 108 = .ok (.getfield 235, 3) := by decide +kernel
theorem dX4_copy_111 : decode cX4_copy 111 = .ok (.iload_n 2, 1) := by decide +kernel
theorem dX4_copy_112 : decode cX4_copy 112 = .ok (.aload 7, 2) := by decide +kernel
theorem dX4_copy_114 : decode cX4_copy 114 = .ok (.getfield 235, 3) := by decide +kernel
theorem dX4_copy_117 : decode cX4_copy 117 = .ok (.iload 4, 2) := by decide +kernel
theorem dX4_copy_119 : decode cX4_copy 119 = .ok (.iload 5, 2) := by decide +kernel
theorem dX4_copy_121 : decode cX4_copy 121 = .ok (.invokestatic 238, 3) := by decide +kernel
theorem dX4_copy_124 : decode cX4_copy 124 = .ok (.iload 5, 2) := by decide +kernel
theorem dX4_copy_126 : decode cX4_copy 126 = .ok (.ireturn, 1) := by decide +kernel
theorem dX4_load_0 : decode cX4_load 0 = .ok (.iload_n 1, 1) := by decide +kernel
theorem dX4_load_1 : decode cX4_load 1 = .ok (.invokestatic 215, 3) := by decide +kernel
theorem dX4_load_4 : decode cX4_load 4 = .ok (.ifCond .ne 9, 3) := by decide +kernel
theorem dX4_load_7 : decode cX4_load 7 = .ok (.aload_n 0, 1) := by decide +kernel
theorem dX4_load_8 : decode cX4_load 8 = .ok (.iconst 0, 1) := by decide +kernel
theorem dX4_load_9 : decode cX4_load 9 = .ok (.invokevirtual 51, 3) := by decide +kernel
theorem dX4_load_12 : decode cX4_load 12 = .ok (.ireturn, 1) := by decide +kernel
theorem dX4_load_13 : decode cX4_load 13 = .ok (.aload_n 0, 1) := by decide +kernel
theorem dX4_load_14 : decode cX4_load 14 = .ok (.getfield 38, 3) := by decide +kernel
theorem dX4_load_17 : decode cX4_load 17 = .ok (.iload_n 1, 1) := by decide +kernel
theorem dX4_load_18 : decode cX4_load 18 = .ok (.aaload, 1) := by decide +kernel
theorem dX4_load_19 : decode cX4_load 19 = .ok (.astore_n 2, 1) := by decide +kernel
theorem dX4_load_20 : decode cX4_load 20 = .ok (.aload_n 2, 1) := by decide +kernel
theorem dX4_load_21 : decode cX4_load 21 = .ok (.invokevirtual 222, 3) := by decide +kernel
theorem dX4_load_24 : decode cX4_load 24 = .ok (.ifCond .eq 9, 3) := by decide +kernel
theorem dX4_load_27 : decode cX4_load 27 = .ok (.aload_n 0, 1) := by decide +kernel
theorem dX4_load_28 : decode cX4_load 28 = .ok (.iconst 5, 1) := by decide +kernel
theorem dX4_load_29 : decode cX4_load 29 = .ok (.invokevirtual 51, 3) := by decide +kernel
theorem dX4_load_32 : decode cX4_load 32 = .ok (.ireturn, 1) := by decide +kernel
theorem dX4_load_33 : decode cX4_load 33 = .ok (.iconst 0, 1) := by decide +kernel
theorem dX4_load_34 : decode cX4_load 34 = .ok (.istore_n 3, 1) := by decide +kernel
theorem dX4_load_35 : decode cX4_load 35 = .ok (.iload_n 3, 1) := by decide +kernel
theorem dX4_load_36 : decode cX4_load 36 = .ok (.aload_n 2, 1) := by decide +kernel
theorem dX4_load_37 : decode cX4_load 37 = .ok (.getfield 221, 3) := by decide +kernel
theorem dX4_load_40 : decode cX4_load 40 = .ok (.if_icmp .ge 53, 3) := by decide +kernel
theorem dX4_load_43 : decode cX4_load 43 = .ok (.aload_n 0, 1) := by decide +kernel
theorem dX4_load_44 : decode cX4_load 44 = .ok (.iload_n 3, 1) := by decide +kernel
theorem dX4_load_45 : decode cX4_load 45 = .ok (.invokevirtual 83, 3) := by decide +kernel
theorem dX4_load_48 : decode cX4_load 48 = .ok (.ifCond .eq 19, 3) := by decide +kernel
theorem dX4_load_51 : decode cX4_load 51 = .ok (.aload_n 2, 1) := by decide +kernel
theorem dX4_load_52 : decode cX4_load 52 = .ok (.getfield 235, 3) := by decide +kernel
theorem dX4_load_55 : decode cX4_load 55 = .ok (.iload_n 3, 1) := by decide +kernel
theorem dX4_load_56 : decode cX4_load 56 = .ok (.iaload, 1) := by decide +kernel
theorem dX4_load_57 : decode cX4_load 57 = .ok (.iconst 0, 1) := by decide +kernel
theorem dX4_load_58 : decode cX4_load 58 = .ok (.sipush 4095, 3) := by decide +kernel
theorem dX4_load_61 : decode cX4_load 61 = .ok (.invokestatic 47, 3) := by decide +kernel
theorem dX4_load_64 : decode cX4_load 64 = .ok (.ifCond .ne 5, 3) := by decide +kernel
theorem dX4_load_67 : decode cX4_load 67 = .ok (.iload_n 3, 1) := by decide +kernel
theorem dX4_load_68 : decode cX4_load 68 = .ok (.ireturn, 1) := by decide +kernel
theorem dX4_load_69 : decode cX4_load 69 = .ok (.aload_n 0, 1) := by decide +kernel
theorem dX4_load_70 : decode cX4_load 70 = .ok (.getfield 10, 3) := by decide +kernel
theorem dX4_load_73 : decode cX4_load 73 = .ok (.getfield 86, 3) := by decide +kernel
theorem dX4_load_76 : decode cX4_load 76 = .ok (.iload_n 3, 1) := by decide +kernel
theorem dX4_load_77 : decode cX4_load 77 = .ok (.aaload, 1) := by decide +kernel
theorem dX4_load_78 : decode cX4_load 78 = .ok (.aload_n 2, 1) := by decide +kernel
theorem dX4_load_79 : decode cX4_load 79 = .ok (.getfield 235, 3) := by decide +kernel
theorem dX4_load_82 : decode cX4_load 82 = .ok (.iload_n 3, 1) := by decide +kernel
theorem dX4_load_83 : decode cX4_load 83 = .ok (.iaload, 1) := by decide +kernel
theorem dX4_load_84 : decode cX4_load 84 = .ok (.putfield 77, 3) := by decide +kernel
theorem dX4_load_87 : decode cX4_load 87 = .ok (.iinc 3 1, 3) := by decide +kernel
theorem dX4_load_90 : decode cX4_load 90 = .ok (.goto (-55), 3) := by decide +kernel
theorem dX4_load_93 : decode cX4_load 93 = .ok (.aload_n 2, 1) := by decide +kernel
theorem dX4_load_94 : decode cX4_load 94 = .ok (.getfield 221, 3) := by decide +kernel
theorem dX4_load_97 : decode cX4_load 97 = .ok (.ireturn, 1) := by decide +kernel
