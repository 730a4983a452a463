theorem dX4_judge_0 : decode cX4_judge 0 = .ok (.iload_n 1, 1) := by decide +kernel
theorem dX4_judge_1 : decode cX4_judge 1 = .ok (.invokestatic 215, 3) := by decide +kernel
theorem dX4_judge_4 : decode cX4_judge 4 = .ok (.ifCond .ne 9, 3) := by decide +kernel
theorem dX4_judge_7 : decode cX4_judge 7 = .ok (.aload_n 0, 1) := by decide +kernel
theorem dX4_judge_8 : decode cX4_judge 8 = .ok (.iconst 0, 1) := by decide +kernel
theorem dX4_judge_9 : decode cX4_judge 9 = .ok (.invokevirtual 51, 3) := by decide +kernel
theorem dX4_judge_12 : decode cX4_judge 12 = .ok (.ireturn, 1) := by decide +kernel
theorem dX4_judge_13 : decode cX4_judge 13 = .ok (.aload_n 0, 1) := by decide +kernel
theorem dX4_judge_14 : decode cX4_judge 14 = .ok (.getfield 38, 3) := by decide +kernel
theorem dX4_judge_17 : decode cX4_judge 17 = .ok (.iload_n 1, 1) := by decide +kernel
theorem dX4_judge_18 : decode cX4_judge 18 = .ok (.aaload, 1) := by decide +kernel
theorem dX4_judge_19 : decode cX4_judge 19 = .ok (.astore_n 2, 1) := by decide +kernel
theorem dX4_judge_20 : decode cX4_judge 20 = .ok (.aload_n 2, 1) := by decide +kernel
theorem dX4_judge_21 : decode cX4_judge 21 = .ok (.invokevirtual 222, 3) := by decide +kernel
theorem dX4_judge_24 : decode cX4_judge 24 = .ok (.ifCond .eq 9, 3) := by decide +kernel
theorem dX4_judge_27 : decode cX4_judge 27 = .ok (.aload_n 0, 1) := by decide +kernel
theorem dX4_judge_28 : decode cX4_judge 28 = .ok (.iconst 5, 1) := by decide +kernel
theorem dX4_judge_29 : decode cX4_judge 29 = .ok (.invokevirtual 51, 3) := by decide +kernel
theorem dX4_judge_32 : decode cX4_judge 32 = .ok (.ireturn, 1) := by decide +kernel
theorem dX4_judge_33 : decode cX4_judge 33 = .ok (.iconst 0, 1) := by decide +kernel
theorem dX4_judge_34 : decode cX4_judge 34 = .ok (.istore_n 3, 1) := by decide +kernel
theorem dX4_judge_35 : decode cX4_judge 35 = .ok (.iload_n 3, 1) := by decide +kernel
theorem dX4_judge_36 : decode cX4_judge 36 = .ok (.aload_n 2, 1) := by decide +kernel
theorem dX4_judge_37 : decode cX4_judge 37 = .ok (.getfield 221, 3) := by decide +kernel
theorem dX4_judge_40 : decode cX4_judge 40 = .ok (.if_icmp .ge 42, 3) := by decide +kernel
theorem dX4_judge_43 : decode cX4_judge 43 = .ok (.aload_n 0, 1) := by decide +kernel
theorem dX4_judge_44 : decode cX4_judge 44 = .ok (.iload_n 3, 1) := by decide +kernel
theorem dX4_judge_45 : decode cX4_judge 45 = .ok (.invokevirtual 83, 3) := by decide +kernel
theorem dX4_judge_48 : decode cX4_judge 48 = .ok (.ifCond .eq 24, 3) := by decide +kernel
theorem dX4_judge_51 : decode cX4_judge 51 = .ok (.aload_n 2, 1) := by decide +kernel
theorem dX4_judge_52 : decode cX4_judge 52 = .ok (.getfield 235, 3) := by decide +kernel
theorem dX4_judge_55 : decode cX4_judge 55 = .ok (.iload_n 3, 1) := by decide +kernel
theorem dX4_judge_56 : decode cX4_judge 56 = .ok (.iaload, 1) := by decide +kernel
theorem dX4_judge_57 : decode cX4_judge 57 = .ok (.aload_n 0, 1) := by decide +kernel
theorem dX4_judge_58 : decode cX4_judge 58 = .ok (.getfield 10, 3) := by decide +kernel
theorem dX4_judge_61 : decode cX4_judge 61 = .ok (.getfield 86, 3) := by decide +kernel
theorem dX4_judge_64 : decode cX4_judge 64 = .ok (.iload_n 3, 1) := by decide +kernel
theorem dX4_judge_65 : decode cX4_judge 65 = .ok (.aaload, 1) := by decide +kernel
theorem dX4_judge_66 : decode cX4_judge 66 = .ok (.getfield 111, 3) := by decide +kernel
theorem dX4_judge_69 : decode cX4_judge 69 = .ok (.if_icmp .eq 7, 3) := by decide +kernel
theorem dX4_judge_72 : decode cX4_judge 72 = .ok (.iconst 1, 1) := by decide +kernel
theorem dX4_judge_73 : decode cX4_judge 73 = .ok (.iload_n 3, 1) := by decide +kernel
theorem dX4_judge_74 : decode cX4_judge 74 = .ok (.iadd, 1) := by decide +kernel
theorem dX4_judge_75 : decode cX4_judge 75 = .ok (.ireturn, 1) := by decide +kernel
theorem dX4_judge_76 : decode cX4_judge 76 = .ok (.iinc 3 1, 3) := by decide +kernel
theorem dX4_judge_79 : decode cX4_judge 79 = .ok (.goto (-44), 3) := by decide +kernel
theorem dX4_judge_82 : decode cX4_judge 82 = .ok (.iconst 0, 1) := by decide +kernel
theorem dX4_judge_83 : decode cX4_judge 83 = .ok (.ireturn, 1) := by decide +kernel
theorem dX4_image_0 : decode cX4_image 0 = .ok (.aload_n 0, 1) := by decide +kernel
theorem dX4_image_1 : decode cX4_image 1 = .ok (.getfield 16, 3) := by decide +kernel
theorem dX4_image_4 : decode cX4_image 4 = .ok (.aload_n 0, 1) := by decide +kernel
theorem dX4_image_5 : decode cX4_image 5 = .ok (.getfield 10, 3) := by decide +kernel
theorem dX4_image_8 : decode cX4_image 8 = .ok (.invokevirtual 147, 3) := by decide +kernel
theorem dX4_image_11 : decode cX4_image 11 = .ok (.aload_n 0, 1) := by decide +kernel
theorem dX4_image_12 : decode cX4_image 12 = .ok (.iconst 1, 1) := by decide +kernel
theorem dX4_image_13 : decode cX4_image 13 = .ok (.putfield 244, 3) := by decide +kernel
theorem dX4_image_16 : decode cX4_image 16 = .ok (.iconst 1, 1) := by decide +kernel
theorem dX4_image_17 : decode cX4_image 17 = .ok (.ireturn, 1) := by decide +kernel
theorem dX4_undo_0 : decode cX4_undo 0 = .ok (.aload_n 0, 1) := by decide +kernel
theorem dX4_undo_1 : decode cX4_undo 1 = .ok (.getfield 244, 3) := by decide +kernel
theorem dX4_undo_4 : decode cX4_undo 4 = .ok (.ifCond .ne 9, 3) := by decide +kernel
theorem dX4_undo_7 : decode cX4_undo 7 = .ok (.aload_n 0, 1) := by decide +kernel
theorem dX4_undo_8 : decode cX4_undo 8 = .ok (.iconst 3, 1) := by decide +kernel
theorem dX4_undo_9 : decode cX4_undo 9 = .ok (.invokevirtual 51, 3) := by decide +kernel
theorem dX4_undo_12 : decode cX4_undo 12 = .ok (.ireturn, 1) := by decide +kernel
theorem dX4_undo_13 : decode cX4_undo 13 = .ok (.aload_n 0, 1) := by decide +kernel
theorem dX4_undo_14 : decode cX4_undo 14 = .ok (.getfield 10, 3) := by decide +kernel
theorem dX4_undo_17 : decode cX4_undo 17 = .ok (.aload_n 0, 1) := by decide +kernel
theorem dX4_undo_18 : decode cX4_undo 18 = .ok (.getfield 16, 3) := by decide +kernel
theorem dX4_undo_21 : decode cX4_undo 21 = .ok (.invokevirtual 147, 3) := by decide +kernel
theorem dX4_undo_24 : decode cX4_undo 24 = .ok (.aload_n 0, 1) := by decide +kernel
theorem dX4_undo_25 : decode cX4_undo 25 = .ok (.getfield 10, 3) := by decide +kernel
theorem dX4_undo_28 : decode cX4_undo 28 = .ok (.getfield 114, 3) := by decide +kernel
theorem dX4_undo_31 : decode cX4_undo 31 = .ok (.ireturn, 1) := by decide +kernel
theorem dX4_tear_0 : decode cX4_tear 0 = .ok (.aload_n 0, 1) := by decide +kernel
theorem dX4_tear_1 : decode cX4_tear 1 = .ok (.getfield 244, 3) := by decide +kernel
theorem dX4_tear_4 : decode cX4_tear 4 = .ok (.ifCond .eq 7, 3) := by decide +kernel
theorem dX4_tear_7 : decode cX4_tear 7 = .ok (.iconst 1, 1) := by decide +kernel
theorem dX4_tear_8 : decode cX4_tear 8 = .ok (.goto 4, 3) := by decide +kernel
theorem dX4_tear_11 : decode cX4_tear 11 = .ok (.iconst 0, 1) := by decide +kernel
theorem dX4_tear_12 : decode cX4_tear 12 = .ok (.istore_n 1, 1) := by decide +kernel
theorem dX4_tear_13 : decode cX4_tear 13 = .ok (.aload_n 0, 1) := by decide +kernel
theorem dX4_tear_14 : decode cX4_tear 14 = .ok (.iconst 0, 1) := by decide +kernel
theorem dX4_tear_15 : decode cX4_tear 15 = .ok (.putfield 244, 3) := by decide +kernel
theorem dX4_tear_18 : decode cX4_tear 18 = .ok (.iload_n 1, 1) := by decide +kernel
theorem dX4_tear_19 : decode cX4_tear 19 = .ok (.ireturn, 1) := by decide +kernel
theorem dX4_count_0 : decode cX4_count 0 = .ok (.iload_n 1, 1) := by decide +kernel
theorem dX4_count_1 : decode cX4_count 1 = .ok (.tableswitch 114 0 7 #[47, 55, 63, 71, 79, 90, 98, 106], 47) := by decide +kernel
theorem dX4_count_48 : decode cX4_count 48 = .ok (.aload_n 0, 1) := by decide +kernel
theorem dX4_count_49 : decode cX4_count 49 = .ok (.getfield 10, 3) := by decide +kernel
theorem dX4_count_52 : decode cX4_count 52 = .ok (.getfield 114, 3) := by decide +kernel
theorem dX4_count_55 : decode cX4_count 55 = .ok (.ireturn, 1) := by decide +kernel
theorem dX4_count_56 : decode cX4_count 56 = .ok (.aload_n 0, 1) := by decide +kernel
theorem dX4_count_57 : decode cX4_count 57 = .ok (.getfield 10, 3) := by decide +kernel
theorem dX4_count_60 : decode cX4_count 60 = .ok (.getfield 80, 3) := by decide +kernel
theorem dX4_count_63 : decode cX4_count 63 = .ok (.ireturn, 1) := by decide +kernel
theorem dX4_count_64 : decode cX4_count 64 = .ok (.aload_n 0, 1) := by decide +kernel
theorem dX4_count_65 : decode cX4_count 65 = .ok (.getfield 10, 3) := by decide +kernel
theorem dX4_count_68 : decode cX4_count 68 = .ok (.getfield 121, 3) := by decide +kernel
theorem dX4_count_71 : decode cX4_count 71 = .ok (.ireturn, 1) := by decide +kernel
theorem dX4_count_72 : decode cX4_count 72 = .ok (.aload_n 0, 1) := by decide +kernel
theorem dX4_count_73 : decode cX4_count 73 = .ok (.getfield 10, 3) := by decide +kernel
theorem dX4_count_76 : decode cX4_count 76 = .ok (.getfield 124, 3) := by decide +kernel
theorem dX4_count_79 : decode cX4_count 79 = .ok (.ireturn, 1) := by decide +kernel
theorem dX4_count_80 : decode cX4_count 80 = .ok (.aload_n 0, 1) := by decide +kernel
theorem dX4_count_81 : decode cX4_count 81 = .ok (.getfield 10, 3) := by decide +kernel
theorem dX4_count_84 : decode cX4_count 84 = .ok (.invokevirtual 127, 3) := by decide +kernel
theorem dX4_count_87 : decode cX4_count 87 = .ok (.invokestatic 167, 3) := by decide +kernel
theorem dX4_count_90 : decode cX4_count 90 = .ok (.ireturn, 1) := by decide +kernel
theorem dX4_count_91 : decode cX4_count 91 = .ok (.aload_n 0, 1) := by decide +kernel
theorem dX4_count_92 : decode cX4_count 92 = .ok (.getfield 32, 3) := by decide +kernel
theorem dX4_count_95 : decode cX4_count 95 = .ok (.getfield 195, 3) := by decide +kernel
theorem dX4_count_98 : decode cX4_count 98 = .ok (.ireturn, 1) := by decide +kernel
theorem dX4_count_99 : decode cX4_count 99 = .ok (.aload_n 0, 1) := by decide +kernel
theorem dX4_count_100 : decode cX4_count 100 = .ok (.getfield 10, 3) := by decide +kernel
theorem dX4_count_103 : decode cX4_count 103 = .ok (.getfield 192, 3) := by decide +kernel
theorem dX4_count_106 : decode cX4_count 106 = .ok (.ireturn, 1) := by decide +kernel
theorem dX4_count_107 : decode cX4_count 107 = .ok (.aload_n 0, 1) := by decide +kernel
theorem dX4_count_108 : decode cX4_count 108 = .ok (.getfield 10, 3) := by decide +kernel
theorem dX4_count_111 : decode cX4_count 111 = .ok (.invokevirtual 248, 3) := by decide +kernel
theorem dX4_count_114 : decode cX4_count 114 = .ok (.ireturn, 1) := by decide +kernel
theorem dX4_count_115 : decode cX4_count 115 = .ok (.aload_n 0, 1) := by decide +kernel
theorem dX4_count_116 : decode cX4_count 116 = .ok (.iconst 0, 1) := by decide +kernel
theorem dX4_count_117 : decode cX4_count 117 = .ok (.invokevirtual 51, 3) := by decide +kernel
theorem dX4_count_120 : decode cX4_count 120 = .ok (.ireturn, 1) := by decide +kernel
theorem dX4_status_0 : decode cX4_status 0 = .ok (.iload_n 1, 1) := by decide +kernel
theorem dX4_status_1 : decode cX4_status 1 = .ok (.iconst (-1), 1) := by decide +kernel
theorem dX4_status_2 : decode cX4_status 2 = .ok (.bipush 6, 2) := by decide +kernel
theorem dX4_status_4 : decode cX4_status 4 = .ok (.invokestatic 47, 3) := by decide +kernel
theorem dX4_status_7 : decode cX4_status 7 = .ok (.ifCond .ne 9, 3) := by decide +kernel
theorem dX4_status_10 : decode cX4_status 10 = .ok (.aload_n 0, 1) := by decide +kernel
theorem dX4_status_11 : decode cX4_status 11 = .ok (.iconst 0, 1) := by decide +kernel
theorem dX4_status_12 : decode cX4_status 12 = .ok (.invokevirtual 51, 3) := by decide +kernel
theorem dX4_status_15 : decode cX4_status 15 = .ok (.ireturn, 1) := by decide +kernel
theorem dX4_status_16 : decode cX4_status 16 = .ok (.iload_n 1, 1) := by decide +kernel
theorem dX4_status_17 : decode cX4_status 17 = .ok (.ifCond .lt 10, 3) := by decide +kernel
theorem dX4_status_20 : decode cX4_status 20 = .ok (.aload_n 0, 1) := by decide +kernel
theorem dX4_status_21 : decode cX4_status 21 = .ok (.getfield 42, 3) := by decide +kernel
theorem dX4_status_24 : decode cX4_status 24 = .ok (.iload_n 1, 1) := by decide +kernel
theorem dX4_status_25 : decode cX4_status 25 = .ok (.iaload, 1) := by decide +kernel
theorem dX4_status_26 : decode cX4_status 26 = .ok (.ireturn, 1) := by decide +kernel
theorem dX4_status_27 : decode cX4_status 27 = .ok (.iconst 0, 1) := by decide +kernel
theorem dX4_status_28 : decode cX4_status 28 = .ok (.istore_n 2, 1) := by decide +kernel
theorem dX4_status_29 : decode cX4_status 29 = .ok (.iconst 0, 1) := by decide +kernel
theorem dX4_status_30 : decode cX4_status 30 = .ok (.istore_n 3, 1) := by decide +kernel
theorem dX4_status_31 : decode cX4_status 31 = .ok (.iload_n 3, 1) := by decide +kernel
theorem dX4_status_32 : decode cX4_status 32 = .ok (.bipush 7, 2) := by decide +kernel
theorem dX4_status_34 : decode cX4_status 34 = .ok (.if_icmp .ge 18, 3) := by decide +kernel
theorem dX4_status_37 : decode cX4_status 37 = .ok (.iload_n 2, 1) := by decide +kernel
theorem dX4_status_38 : decode cX4_status 38 = .ok (.aload_n 0, 1) := by decide +kernel
theorem dX4_status_39 : decode cX4_status 39 = .ok (.getfield 42, 3) := by decide +kernel
theorem dX4_status_42 : decode cX4_status 42 = .ok (.iload_n 3, 1) := by decide +kernel
theorem dX4_status_43 : decode cX4_status 43 = .ok (.iaload, 1) := by decide +kernel
theorem dX4_status_44 : decode cX4_status 44 = .ok (.iadd, 1) := by decide +kernel
theorem dX4_status_45 : decode cX4_status 45 = .ok (.istore_n 2, 1) := by decide +kernel
theorem dX4_status_46 : decode cX4_status 46 = .ok (.iinc 3 1, 3) := by decide +kernel
theorem dX4_status_49 : decode cX4_status 49 = .ok (.goto (-18), 3) := by decide +kernel
theorem dX4_status_52 : decode cX4_status 52 = .ok (.iload_n 2, 1) := by decide +kernel
theorem dX4_status_53 : decode cX4_status 53 = .ok (.ireturn, 1) := by decide +kernel
theorem dX4_find_0 : decode cX4_find 0 = .ok (.aload_n 0, 1) := by decide +kernel
theorem dX4_find_1 : decode cX4_find 1 = .ok (.getfield 42, 3) := by decide +kernel
theorem dX4_find_4 : decode cX4_find 4 = .ok (.iload_n 1, 1) := by decide +kernel
theorem dX4_find_5 : decode cX4_find 5 = .ok (.dup2, 1) := by decide +kernel
theorem dX4_find_6 : decode cX4_find 6 = .ok (.iaload, 1) := by decide +kernel
theorem dX4_find_7 : decode cX4_find 7 = .ok (.iconst 1, 1) := by decide +kernel
theorem dX4_find_8 : decode cX4_find 8 = .ok (.iadd, 1) := by decide +kernel
theorem dX4_find_9 : decode cX4_find 9 = .ok (.iastore, 1) := by decide +kernel
theorem dX4_find_10 : decode cX4_find 10 = .ok (.ldc 251, 2) := by decide +kernel
theorem dX4_find_12 : decode cX4_find 12 = .ok (.iload_n 1, 1) := by decide +kernel
theorem dX4_find_13 : decode cX4_find 13 = .ok (.isub, 1) := by decide +kernel
theorem dX4_find_14 : decode cX4_find 14 = .ok (.ireturn, 1) := by decide +kernel
theorem dX4_isWithin_0 : decode cX4_isWithin 0 = .ok (.iload_n 0, 1) := by decide +kernel
theorem dX4_isWithin_1 : decode cX4_isWithin 1 = .ok (.iload_n 1, 1) := by decide +kernel
theorem dX4_isWithin_2 : decode cX4_isWithin 2 = .ok (.if_icmp .lt 12, 3) := by decide +kernel
theorem dX4_isWithin_5 : decode cX4_isWithin 5 = .ok (.iload_n 0, 1) := by decide +kernel
theorem dX4_isWithin_6 : decode cX4_isWithin 6 = .ok (.iload_n 2, 1) := by decide +kernel
theorem dX4_isWithin_7 : decode cX4_isWithin 7 = .ok (.if_icmp .gt 7, 3) := by decide +kernel
theorem dX4_isWithin_10 : decode cX4_isWithin 10 = .ok (.iconst 1, 1) := by decide +kernel
theorem dX4_isWithin_11 : decode cX4_isWithin 11 = .ok (.goto 4, 3) := by decide +kernel
theorem dX4_isWithin_14 : decode cX4_isWithin 14 = .ok (.iconst 0, 1) := by decide +kernel
theorem dX4_isWithin_15 : decode cX4_isWithin 15 = .ok (.ireturn, 1) := by decide +kernel
theorem dX4_isKind_0 : decode cX4_isKind 0 = .ok (.iload_n 0, 1) := by decide +kernel
theorem dX4_isKind_1 : decode cX4_isKind 1 = .ok (.iconst 0, 1) := by decide +kernel
theorem dX4_isKind_2 : decode cX4_isKind 2 = .ok (.bipush 6, 2) := by decide +kernel
theorem dX4_isKind_4 : decode cX4_isKind 4 = .ok (.invokestatic 47, 3) := by decide +kernel
theorem dX4_isKind_7 : decode cX4_isKind 7 = .ok (.ireturn, 1) := by decide +kernel
theorem dX4_isPlace_0 : decode cX4_isPlace 0 = .ok (.iload_n 0, 1) := by decide +kernel
theorem dX4_isPlace_1 : decode cX4_isPlace 1 = .ok (.iconst 0, 1) := by decide +kernel
theorem dX4_isPlace_2 : decode cX4_isPlace 2 = .ok (.iconst 5, 1) := by decide +kernel
theorem dX4_isPlace_3 : decode cX4_isPlace 3 = .ok (.invokestatic 47, 3) := by decide +kernel
theorem dX4_isPlace_6 : decode cX4_isPlace 6 = .ok (.ireturn, 1) := by decide +kernel
theorem dX4_isSpot_0 : decode cX4_isSpot 0 = .ok (.iload_n 0, 1) := by decide +kernel
theorem dX4_isSpot_1 : decode cX4_isSpot 1 = .ok (.iconst 0, 1) := by decide +kernel
theorem dX4_isSpot_2 : decode cX4_isSpot 2 = .ok (.bipush 9, 2) := by decide +kernel
theorem dX4_isSpot_4 : decode cX4_isSpot 4 = .ok (.invokestatic 47, 3) := by decide +kernel
theorem dX4_isSpot_7 : decode cX4_isSpot 7 = .ok (.ireturn, 1) := by decide +kernel
theorem dX4_isSheet_0 : decode cX4_isSheet 0 = .ok (.iload_n 0, 1) := by decide +kernel
theorem dX4_isSheet_1 : decode cX4_isSheet 1 = .ok (.iconst 0, 1) := by decide +kernel
theorem dX4_isSheet_2 : decode cX4_isSheet 2 = .ok (.iconst 3, 1) := by decide +kernel
theorem dX4_isSheet_3 : decode cX4_isSheet 3 = .ok (.invokestatic 47, 3) := by decide +kernel
theorem dX4_isSheet_6 : decode cX4_isSheet 6 = .ok (.ireturn, 1) := by decide +kernel
theorem dX4_isCurtain_0 : decode cX4_isCurtain 0 = .ok (.iload_n 1, 1) := by decide +kernel
theorem dX4_isCurtain_1 : decode cX4_isCurtain 1 = .ok (.iconst 0, 1) := by decide +kernel
theorem dX4_isCurtain_2 : decode cX4_isCurtain 2 = .ok (.aload_n 0, 1) := by decide +kernel
theorem dX4_isCurtain_3 : decode cX4_isCurtain 3 = .ok (.getfield 10, 3) := by decide +kernel
theorem dX4_isCurtain_6 : decode cX4_isCurtain 6 = .ok (.getfield 80, 3) := by decide +kernel
theorem dX4_isCurtain_9 : decode cX4_isCurtain 9 = .ok (.iconst 1, 1) := by decide +kernel
theorem dX4_isCurtain_10 : decode cX4_isCurtain 10 = .ok (.isub, 1) := by decide +kernel
theorem dX4_isCurtain_11 : decode cX4_isCurtain 11 = .ok (.invokestatic 47, 3) := by decide +kernel
theorem dX4_isCurtain_14 : decode cX4_isCurtain 14 = .ok (.ireturn, 1) := by decide +kernel
theorem dX4_passProbe_0 : decode cX4_passProbe 0 = .ok (.iconst 0, 1) := by decide +kernel
theorem dX4_passProbe_1 : decode cX4_passProbe 1 = .ok (.istore_n 2, 1) := by decide +kernel
theorem dX4_passProbe_2 : decode cX4_passProbe 2 = .ok (.iconst 0, 1) := by decide +kernel
theorem dX4_passProbe_3 : decode cX4_passProbe 3 = .ok (.istore_n 3, 1) := by decide +kernel
theorem dX4_passProbe_4 : decode cX4_passProbe 4 = .ok (.iload_n 3, 1) := by decide +kernel
theorem dX4_passProbe_5 : decode cX4_passProbe 5 = .ok (.iload_n 1, 1) := by decide +kernel
theorem dX4_passProbe_6 : decode cX4_passProbe 6 = .ok (.if_icmp .ge 47, 3) := by decide +kernel
theorem dX4_passProbe_9 : decode cX4_passProbe 9 = .ok (.aload_n 0, 1) := by decide +kernel
theorem dX4_passProbe_10 : decode cX4_passProbe 10 = .ok (.getfield 25, 3) := by decide +kernel
theorem dX4_passProbe_13 : decode cX4_passProbe 13 = .ok (.aload_n 0, 1) := by decide +kernel
theorem dX4_passProbe_14 : decode cX4_passProbe 14 = .ok (.getfield 10, 3) := by decide +kernel
theorem dX4_passProbe_17 : decode cX4_passProbe 17 = .ok (.iload_n 3, 1) := by decide +kernel
theorem dX4_passProbe_18 : decode cX4_passProbe 18 = .ok (.invokevirtual 90, 3) := by decide +kernel
theorem dX4_passProbe_21 : decode cX4_passProbe 21 = .ok (.aload_n 0, 1) := by decide +kernel
theorem dX4_passProbe_22 : decode cX4_passProbe 22 = .ok (.getfield 10, 3) := by decide +kernel
theorem dX4_passProbe_25 : decode cX4_passProbe 25 = .ok (.getfield 55, 3) := by decide +kernel
theorem dX4_passProbe_28 : decode cX4_passProbe 28 = .ok (.invokevirtual 252, 3) := by decide +kernel
theorem dX4_passProbe_31 : decode cX4_passProbe 31 = .ok (.ifCond .eq 16, 3) := by decide +kernel
theorem dX4_passProbe_34 : decode cX4_passProbe 34 = .ok (.aload_n 0, 1) := by decide +kernel
theorem dX4_passProbe_35 : decode cX4_passProbe 35 = .ok (.getfield 10, 3) := by decide +kernel
theorem dX4_passProbe_38 : decode cX4_passProbe 38 = .ok (.getfield 55, 3) := by decide +kernel
theorem dX4_passProbe_41 : decode cX4_passProbe 41 = .ok (.ifCond .ne 6, 3) := by decide +kernel
theorem dX4_passProbe_44 : decode cX4_passProbe 44 = .ok (.iinc 2 1, 3) := by decide +kernel
theorem dX4_passProbe_47 : decode cX4_passProbe 47 = .ok (.iinc 3 1, 3) := by decide +kernel
theorem dX4_passProbe_50 : decode cX4_passProbe 50 = .ok (.goto (-46), 3) := by decide +kernel
theorem dX4_passProbe_53 : decode cX4_passProbe 53 = .ok (.iload_n 2, 1) := by decide +kernel
theorem dX4_passProbe_54 : decode cX4_passProbe 54 = .ok (.ireturn, 1) := by decide +kernel
theorem dX4_beatsUntil_0 : decode cX4_beatsUntil 0 = .ok (.aload_n 0, 1) := by decide +kernel
theorem dX4_beatsUntil_1 : decode cX4_beatsUntil 1 = .ok (.getfield 25, 3) := by decide +kernel
theorem dX4_beatsUntil_4 : decode cX4_beatsUntil 4 = .ok (.aload_n 0, 1) := by decide +kernel
theorem dX4_beatsUntil_5 : decode cX4_beatsUntil 5 = .ok (.getfield 10, 3) := by decide +kernel
theorem dX4_beatsUntil_8 : decode cX4_beatsUntil 8 = .ok (.getfield 86, 3) := by decide +kernel
theorem dX4_beatsUntil_11 : decode cX4_beatsUntil 11 = .ok (.iload_n 1, 1) := by decide +kernel
theorem dX4_beatsUntil_12 : decode cX4_beatsUntil 12 = .ok (.aaload, 1) := by decide +kernel
theorem dX4_beatsUntil_13 : decode cX4_beatsUntil 13 = .ok (.invokevirtual 140, 3) := by decide +kernel
theorem dX4_beatsUntil_16 : decode cX4_beatsUntil 16 = .ok (.iconst 0, 1) := by decide +kernel
theorem dX4_beatsUntil_17 : decode cX4_beatsUntil 17 = .ok (.istore 5, 2) := by decide +kernel
theorem dX4_beatsUntil_19 : decode cX4_beatsUntil 19 = .ok (.iload 5, 2) := by decide +kernel
theorem dX4_beatsUntil_21 : decode cX4_beatsUntil 21 = .ok (.sipush 200, 3) := by decide +kernel
theorem dX4_beatsUntil_24 : decode cX4_beatsUntil 24 = .ok (.if_icmp .gt 66, 3) := by decide +kernel
theorem dX4_beatsUntil_27 : decode cX4_beatsUntil 27 = .ok (.aload_n 0, 1) := by decide +kernel
theorem dX4_beatsUntil_28 : decode cX4_beatsUntil 28 = .ok (.getfield 10, 3) := by decide +kernel
theorem dX4_beatsUntil_31 : decode cX4_beatsUntil 31 = .ok (.iload 5, 2) := by decide +kernel
theorem dX4_beatsUntil_33 : decode cX4_beatsUntil 33 = .ok (.invokevirtual 90, 3) := by decide +kernel
theorem dX4_beatsUntil_36 : decode cX4_beatsUntil 36 = .ok (.istore 6, 2) := by decide +kernel
theorem dX4_beatsUntil_38 : decode cX4_beatsUntil 38 = .ok (.aload_n 0, 1) := by decide +kernel
theorem dX4_beatsUntil_39 : decode cX4_beatsUntil 39 = .ok (.getfield 25, 3) := by decide +kernel
theorem dX4_beatsUntil_42 : decode cX4_beatsUntil 42 = .ok (.iload_n 2, 1) := by decide +kernel
theorem dX4_beatsUntil_43 : decode cX4_beatsUntil 43 = .ok (.iload 6, 2) := by decide +kernel
theorem dX4_beatsUntil_45 : decode cX4_beatsUntil 45 = .ok (.aload_n 0, 1) := by decide +kernel
theorem dX4_beatsUntil_46 : decode cX4_beatsUntil 46 = .ok (.getfield 10, 3) := by decide +kernel
theorem dX4_beatsUntil_49 : decode cX4_beatsUntil 49 = .ok (.getfield 55, 3) := by decide +kernel
theorem dX4_beatsUntil_52 : decode cX4_beatsUntil 52 = .ok (.invokevirtual 93, 3) := by decide +kernel
theorem dX4_beatsUntil_55 : decode cX4_beatsUntil 55 = .ok (.iload_n 3, 1) := by decide +kernel
theorem dX4_beatsUntil_56 : decode cX4_beatsUntil 56 = .ok (.iload 4, 2) := by decide +kernel
theorem dX4_beatsUntil_58 : decode cX4_beatsUntil 58 = .ok (.invokestatic 47, 3) := by decide +kernel
theorem dX4_beatsUntil_61 : decode cX4_beatsUntil 61 = .ok (.ifCond .eq 6, 3) := by decide +kernel
theorem dX4_beatsUntil_64 : decode cX4_beatsUntil 64 = .ok (.iload 5, 2) := by decide +kernel
theorem dX4_beatsUntil_66 : decode cX4_beatsUntil 66 = .ok (.ireturn, 1) := by decide +kernel
theorem dX4_beatsUntil_67 : decode cX4_beatsUntil 67 = .ok (.aload_n 0, 1) := by decide +kernel
theorem dX4_beatsUntil_68 : decode cX4_beatsUntil 68 = .ok (.getfield 25, 3) := by decide +kernel
theorem dX4_beatsUntil_71 : decode cX4_beatsUntil 71 = .ok (.iload 6, 2) := by decide +kernel
theorem dX4_beatsUntil_73 : decode cX4_beatsUntil 73 = .ok (.aload_n 0, 1) := by decide +kernel
theorem dX4_beatsUntil_74 : decode cX4_beatsUntil 74 = .ok (.getfield 10, 3) := by decide +kernel
theorem dX4_beatsUntil_77 : decode cX4_beatsUntil 77 = .ok (.getfield 55, 3) := by decide +kernel
theorem dX4_beatsUntil_80 : decode cX4_beatsUntil 80 = .ok (.invokevirtual 252, 3) := by decide +kernel
theorem dX4_beatsUntil_83 : decode cX4_beatsUntil 83 = .ok (.pop, 1) := by decide +kernel
theorem dX4_beatsUntil_84 : decode cX4_beatsUntil 84 = .ok (.iinc 5 1, 3) := by decide +kernel
theorem dX4_beatsUntil_87 : decode cX4_beatsUntil 87 = .ok (.goto (-68), 3) := by decide +kernel
theorem dX4_beatsUntil_90 : decode cX4_beatsUntil 90 = .ok (.aload_n 0, 1) := by decide +kernel
theorem dX4_beatsUntil_91 : decode cX4_beatsUntil 91 = .ok (.iconst 3, 1) := by decide +kernel
theorem dX4_beatsUntil_92 : decode cX4_beatsUntil 92 = .ok (.invokevirtual 51, 3) := by decide +kernel
theorem dX4_beatsUntil_95 : decode cX4_beatsUntil 95 = .ok (.ireturn, 1) := by decide +kernel
theorem dX4_findingForTold_0 : decode cX4_findingForTold 0 = .ok (.iload_n 1, 1) := by decide +kernel
theorem dX4_findingForTold_1 : decode cX4_findingForTold 1 = .ok (.invokestatic 215, 3) := by decide +kernel
theorem dX4_findingForTold_4 : decode cX4_findingForTold 4 = .ok (.ifCond .ne 5, 3) := by decide +kernel
theorem dX4_findingForTold_7 : decode cX4_findingForTold 7 = .ok (.iconst 0, 1) := by decide +kernel
theorem dX4_findingForTold_8 : decode cX4_findingForTold 8 = .ok (.ireturn, 1) := by decide +kernel
theorem dX4_findingForTold_9 : decode cX4_findingForTold 9 = .ok (.aload_n 0, 1) := by decide +kernel
theorem dX4_findingForTold_10 : decode cX4_findingForTold 10 = .ok (.getfield 38, 3) := by decide +kernel
theorem dX4_findingForTold_13 : decode cX4_findingForTold 13 = .ok (.iload_n 1, 1) := by decide +kernel
theorem dX4_findingForTold_14 : decode cX4_findingForTold 14 = .ok (.aaload, 1) := by decide +kernel
theorem dX4_findingForTold_15 : decode cX4_findingForTold 15 = .ok (.invokevirtual 222, 3) := by decide +kernel
theorem dX4_findingForTold_18 : decode cX4_findingForTold 18 = .ok (.ifCond .eq 5, 3) := by decide +kernel
theorem dX4_findingForTold_21 : decode cX4_findingForTold 21 = .ok (.iconst 5, 1) := by decide +kernel
theorem dX4_findingForTold_22 : decode cX4_findingForTold 22 = .ok (.ireturn, 1) := by decide +kernel
theorem dX4_findingForTold_23 : decode cX4_findingForTold 23 = .ok (.aload_n 0, 1) := by decide +kernel
theorem dX4_findingForTold_24 : decode cX4_findingForTold 24 = .ok (.iload_n 2, 1) := by decide +kernel
theorem dX4_findingForTold_25 : decode cX4_findingForTold 25 = .ok (.invokevirtual 83, 3) := by decide +kernel
theorem dX4_findingForTold_28 : decode cX4_findingForTold 28 = .ok (.ifCond .eq 7, 3) := by decide +kernel
theorem dX4_findingForTold_31 : decode cX4_findingForTold 31 = .ok (.iconst (-1), 1) := by decide +kernel
theorem dX4_findingForTold_32 : decode cX4_findingForTold 32 = .ok (.goto 4, 3) := by decide +kernel
theorem dX4_findingForTold_35 : decode cX4_findingForTold 35 = .ok (.iconst 0, 1) := by decide +kernel
theorem dX4_findingForTold_36 : decode cX4_findingForTold 36 = .ok (.ireturn, 1) := by decide +kernel
theorem dX4_isProbeAsTold_0 : decode cX4_isProbeAsTold 0 = .ok (.iconst 0, 1) := by decide +kernel
theorem dX4_isProbeAsTold_1 : decode cX4_isProbeAsTold 1 = .ok (.istore_n 2, 1) := by decide +kernel
theorem dX4_isProbeAsTold_2 : decode cX4_isProbeAsTold 2 = .ok (.iload_n 2, 1) := by decide +kernel
theorem dX4_isProbeAsTold_3 : decode cX4_isProbeAsTold 3 = .ok (.aload_n 1, 1) := by decide +kernel
theorem dX4_isProbeAsTold_4 : decode cX4_isProbeAsTold 4 = .ok (.getfield 221, 3) := by decide +kernel
theorem dX4_isProbeAsTold_7 : decode cX4_isProbeAsTold 7 = .ok (.if_icmp .ge 60, 3) := by decide +kernel
theorem dX4_isProbeAsTold_10 : decode cX4_isProbeAsTold 10 = .ok (.aload_n 1, 1) := by decide +kernel
theorem dX4_isProbeAsTold_11 : decode cX4_isProbeAsTold 11 = .ok (.getfield 235, 3) := by decide +kernel
theorem dX4_isProbeAsTold_14 : decode cX4_isProbeAsTold 14 = .ok (.iload_n 2, 1) := by decide +kernel
theorem dX4_isProbeAsTold_15 : decode cX4_isProbeAsTold 15 = .ok (.iaload, 1) := by decide +kernel
theorem dX4_isProbeAsTold_16 : decode cX4_isProbeAsTold 16 = .ok (.iconst (-1), 1) := by decide +kernel
theorem dX4_isProbeAsTold_17 : decode cX4_isProbeAsTold 17 = .ok (.if_icmp .eq 21, 3) := by decide +kernel
theorem dX4_isProbeAsTold_20 : decode cX4_isProbeAsTold 20 = .ok (.aload_n 1, 1) := by decide +kernel
theorem dX4_isProbeAsTold_21 : decode cX4_isProbeAsTold 21 = .ok (.getfield 235, 3) := by decide +kernel
theorem dX4_isProbeAsTold_24 : decode cX4_isProbeAsTold 24 = .ok (.iload_n 2, 1) := by decide +kernel
theorem dX4_isProbeAsTold_25 : decode cX4_isProbeAsTold 25 = .ok (.iaload, 1) := by decide +kernel
theorem dX4_isProbeAsTold_26 : decode cX4_isProbeAsTold 26 = .ok (.aload_n 0, 1) := by decide +kernel
theorem dX4_isProbeAsTold_27 : decode cX4_isProbeAsTold 27 = .ok (.getfield 25, 3) := by decide +kernel
theorem dX4_isProbeAsTold_30 : decode cX4_isProbeAsTold 30 = .ok (.getfield 111, 3) := by decide +kernel
theorem dX4_isProbeAsTold_33 : decode cX4_isProbeAsTold 33 = .ok (.if_icmp .eq 5, 3) := by decide +kernel
theorem dX4_isProbeAsTold_36 : decode cX4_isProbeAsTold 36 = .ok (.iconst 0, 1) := by decide +kernel
theorem dX4_isProbeAsTold_37 : decode cX4_isProbeAsTold 37 = .ok (.ireturn, 1) := by decide +kernel
theorem dX4_isProbeAsTold_38 : decode cX4_isProbeAsTold 38 = .ok (.aload_n 0, 1) := by decide +kernel
theorem dX4_isProbeAsTold_39 : decode cX4_isProbeAsTold 39 = .ok (.getfield 25, 3) := by decide +kernel
theorem dX4_isProbeAsTold_42 : decode cX4_isProbeAsTold 42 = .ok (.aload_n 0, 1) := by decide +kernel
theorem dX4_isProbeAsTold_43 : decode cX4_isProbeAsTold 43 = .ok (.getfield 19, 3) := by decide +kernel
theorem dX4_isProbeAsTold_46 : decode cX4_isProbeAsTold 46 = .ok (.iload_n 2, 1) := by decide +kernel
theorem dX4_isProbeAsTold_47 : decode cX4_isProbeAsTold 47 = .ok (.invokevirtual 90, 3) := by decide +kernel
theorem dX4_isProbeAsTold_50 : decode cX4_isProbeAsTold 50 = .ok (.aload_n 0, 1) := by decide +kernel
theorem dX4_isProbeAsTold_51 : decode cX4_isProbeAsTold 51 = .ok (.getfield 19, 3) := by decide +kernel
theorem dX4_isProbeAsTold_54 : decode cX4_isProbeAsTold 54 = .ok (.getfield 55, 3) := by decide +kernel
theorem dX4_isProbeAsTold_57 : decode cX4_isProbeAsTold 57 = .ok (.invokevirtual 252, 3) := by decide +kernel
theorem dX4_isProbeAsTold_60 : decode cX4_isProbeAsTold 60 = .ok (.pop, 1) := by decide +kernel
theorem dX4_isProbeAsTold_61 : decode cX4_isProbeAsTold 61 = .ok (.iinc 2 1, 3) := by decide +kernel
theorem dX4_isProbeAsTold_64 : decode cX4_isProbeAsTold 64 = .ok (.goto (-62), 3) := by decide +kernel
theorem dX4_isProbeAsTold_67 : decode cX4_isProbeAsTold 67 = .ok (.iconst 1, 1) := by decide +kernel
theorem dX4_isProbeAsTold_68 : decode cX4_isProbeAsTold 68 = .ok (.ireturn, 1) := by decide +kernel
theorem dX4_commonDivisorWithScenes_0 : decode cX4_commonDivisorWithScenes 0 = .ok (.bipush 12, 2) := by decide +kernel
theorem dX4_commonDivisorWithScenes_2 : decode cX4_commonDivisorWithScenes 2 = .ok (.istore_n 1, 1) := by decide +kernel
theorem dX4_commonDivisorWithScenes_3 : decode cX4_commonDivisorWithScenes 3 = .ok (.iload_n 1, 1) := by decide +kernel
theorem dX4_commonDivisorWithScenes_4 : decode cX4_commonDivisorWithScenes 4 = .ok (.iconst 1, 1) := by decide +kernel
theorem dX4_commonDivisorWithScenes_5 : decode cX4_commonDivisorWithScenes 5 = .ok (.if_icmp .le 24, 3) := by decide +kernel
theorem dX4_commonDivisorWithScenes_8 : decode cX4_commonDivisorWithScenes 8 = .ok (.bipush 12, 2) := by decide +kernel
theorem dX4_commonDivisorWithScenes_10 : decode cX4_commonDivisorWithScenes 10 = .ok (.iload_n 1, 1) := by decide +kernel
theorem dX4_commonDivisorWithScenes_11 : decode cX4_commonDivisorWithScenes 11 = .ok (.irem, 1) := by decide +kernel
theorem dX4_commonDivisorWithScenes_12 : decode cX4_commonDivisorWithScenes 12 = .ok (.ifCond .ne 11, 3) := by decide +kernel
theorem dX4_commonDivisorWithScenes_15 : decode cX4_commonDivisorWithScenes 15 = .ok (.iload_n 0, 1) := by decide +kernel
theorem dX4_commonDivisorWithScenes_16 : decode cX4_commonDivisorWithScenes 16 = .ok (.iload_n 1, 1) := by decide +kernel
theorem dX4_commonDivisorWithScenes_17 : decode cX4_commonDivisorWithScenes 17 = .ok (.irem, 1) := by decide +kernel
theorem dX4_commonDivisorWithScenes_18 : decode cX4_commonDivisorWithScenes 18 = .ok (.ifCond .ne 5, 3) := by decide +kernel
theorem dX4_commonDivisorWithScenes_21 : decode cX4_commonDivisorWithScenes 21 = .ok (.iload_n 1, 1) := by decide +kernel
theorem dX4_commonDivisorWithScenes_22 : decode cX4_commonDivisorWithScenes 22 = .ok (.ireturn, 1) := by decide +kernel
theorem dX4_commonDivisorWithScenes_23 : decode cX4_commonDivisorWithScenes 23 = .ok (.iinc 1 (-1), 3) := by decide +kernel
theorem dX4_commonDivisorWithScenes_26 : decode cX4_commonDivisorWithScenes 26 = .ok (.goto (-23), 3) := by decide +kernel
theorem dX4_commonDivisorWithScenes_29 : decode cX4_commonDivisorWithScenes 29 = .ok (.iconst 1, 1) := by decide +kernel
theorem dX4_commonDivisorWithScenes_30 : decode cX4_commonDivisorWithScenes 30 = .ok (.ireturn, 1) := by decide +kernel
theorem dX5_init_0 : decode cX5_init 0 = .ok (.aload_n 0, 1) := by decide +kernel
theorem dX5_init_1 : decode cX5_init 1 = .ok (.invokespecial 1, 3) := by decide +kernel
theorem dX5_init_4 : decode cX5_init 4 = .ok (.aload_n 0, 1) := by decide +kernel
theorem dX5_init_5 : decode cX5_init 5 = .ok (.bipush 70, 2) := by decide +kernel
theorem dX5_init_7 : decode cX5_init 7 = .ok (.newarray .int, 2) := by decide +kernel
theorem dX5_init_9 : decode cX5_init 9 = .ok (.putfield 9, 3) := by decide +kernel
theorem dX5_init_12 : decode cX5_init 12 = .ok (.aload_n 0, 1) := by decide +kernel
theorem dX5_init_13 : decode cX5_init 13 = .ok (.bipush 70, 2) := by decide +kernel
theorem dX5_init_15 : decode cX5_init 15 = .ok (.newarray .int, 2) := by decide +kernel
theorem dX5_init_17 : decode cX5_init 17 = .ok (.putfield 13, 3) := by decide +kernel
theorem dX5_init_20 : decode cX5_init 20 = .ok (.aload_n 0, 1) := by decide +kernel
theorem dX5_init_21 : decode cX5_init 21 = .ok (.bipush 70, 2) := by decide +kernel
theorem dX5_init_23 : decode cX5_init 23 = .ok (.newarray .int, 2) := by decide +kernel
theorem dX5_init_25 : decode cX5_init 25 = .ok (.putfield 16, 3) := by decide +kernel
theorem dX5_init_28 : decode cX5_init 28 = .ok (.aload_n 0, 1) := by decide +kernel
theorem dX5_init_29 : decode cX5_init 29 = .ok (.bipush 8, 2) := by decide +kernel
theorem dX5_init_31 : decode cX5_init 31 = .ok (.newarray .int, 2) := by decide +kernel
theorem dX5_init_33 : decode cX5_init 33 = .ok (.putfield 19, 3) := by decide +kernel
theorem dX5_init_36 : decode cX5_init 36 = .ok (.aload_n 0, 1) := by decide +kernel
theorem dX5_init_37 : decode cX5_init 37 = .ok (.bipush 120, 2) := by decide +kernel
theorem dX5_init_39 : decode cX5_init 39 = .ok (.newarray .int, 2) := by decide +kernel
theorem dX5_init_41 : decode cX5_init 41 = .ok (.putfield 22, 3) := by decide +kernel
theorem dX5_init_44 : decode cX5_init 44 = .ok (.aload_n 0, 1) := by decide +kernel
theorem dX5_init_45 : decode cX5_init 45 = .ok (.bipush 7, 2) := by decide +kernel
theorem dX5_init_47 : decode cX5_init 47 = .ok (.anewarray 25, 3) := by decide +kernel
theorem dX5_init_50 : decode cX5_init 50 = .ok (.dup, 1) := by decide +kernel
theorem dX5_init_51 : decode cX5_init 51 = .ok (.iconst 0, 1) := by decide +kernel
theorem dX5_init_52 : decode cX5_init 52 = .ok (.ldc 27, 2) := by decide +kernel
theorem dX5_init_54 : decode cX5_init 54 = .ok (.aastore, 1) := by decide +kernel
theorem dX5_init_55 : decode cX5_init 55 = .ok (.dup, 1) := by decide +kernel
theorem dX5_init_56 : decode cX5_init 56 = .ok (.iconst 1, 1) := by decide +kernel
theorem dX5_init_57 : decode cX5_init 57 = .ok (.ldc 29, 2) := by decide +kernel
theorem dX5_init_59 : decode cX5_init 59 = .ok (.aastore, 1) := by decide +kernel
theorem dX5_init_60 : decode cX5_init 60 = .ok (.dup, 1) := by decide +kernel
theorem dX5_init_61 : decode cX5_init 61 = .ok (.iconst 2, 1) := by decide +kernel
theorem dX5_init_62 : decode cX5_init 62 = .ok (.ldc 31, 2) := by decide +kernel
theorem dX5_init_64 : decode cX5_init 64 = .ok (.aastore, 1) := by decide +kernel
theorem dX5_init_65 : decode cX5_init 65 = .ok (.dup, 1) := by decide +kernel
theorem dX5_init_66 : decode cX5_init 66 = .ok (.iconst 3, 1) := by decide +kernel
theorem dX5_init_67 : decode cX5_init 67 = .ok (.ldc 33, 2) := by decide +kernel
theorem dX5_init_69 : decode cX5_init 69 = .ok (.aastore, 1) := by decide +kernel
theorem dX5_init_70 : decode cX5_init 70 = .ok (.dup, 1) := by decide +kernel
theorem dX5_init_71 : decode cX5_init 71 = .ok (.iconst 4, 1) := by decide +kernel
theorem dX5_init_72 : decode cX5_init 72 = .ok (.ldc 35, 2) := by decide +kernel
theorem dX5_init_74 : decode cX5_init 74 = .ok (.aastore, 1) := by decide +kernel
theorem dX5_init_75 : decode cX5_init 75 = .ok (.dup, 1) := by decide +kernel
theorem dX5_init_76 : decode cX5_init 76 = .ok (.iconst 5, 1) := by decide +kernel
theorem dX5_init_77 : decode cX5_init 77 = .ok (.ldc 37, 2) := by decide +kernel
theorem dX5_init_79 : decode cX5_init 79 = .ok (.aastore, 1) := by decide +kernel
theorem dX5_init_80 : decode cX5_init 80 = .ok (.dup, 1) := by decide +kernel
theorem dX5_init_81 : decode cX5_init 81 = .ok (.bipush 6, 2) := by decide +kernel
theorem dX5_init_83 : decode cX5_init 83 = .ok (.ldc 39, 2) := by decide +kernel
theorem dX5_init_85 : decode cX5_init 85 = .ok (.aastore, 1) := by decide +kernel
theorem dX5_init_86 : decode cX5_init 86 = .ok (.putfield 41, 3) := by decide +kernel
theorem dX5_init_89 : decode cX5_init 89 = .ok (.aload_n 0, 1) := by decide +kernel
theorem dX5_init_90 : decode cX5_init 90 = .ok (.sipush 600, 3) := by decide +kernel
theorem dX5_init_93 : decode cX5_init 93 = .ok (.newarray .int, 2) := by decide +kernel
theorem dX5_init_95 : decode cX5_init 95 = .ok (.putfield 45, 3) := by decide +kernel
theorem dX5_init_98 : decode cX5_init 98 = .ok (.aload_n 0, 1) := by decide +kernel
theorem dX5_init_99 : decode cX5_init 99 = .ok (.iconst 4, 1) := by decide +kernel
theorem dX5_init_100 : decode cX5_init 100 = .ok (.newarray .int, 2) := by decide +kernel
theorem dX5_init_102 : decode cX5_init 102 = .ok (.putfield 48, 3) := by decide +kernel
theorem dX5_init_105 : decode cX5_init 105 = .ok (.aload_n 0, 1) := by decide +kernel
theorem dX5_init_106 : decode cX5_init 106 = .ok (.iconst 4, 1) := by decide +kernel
theorem dX5_init_107 : decode cX5_init 107 = .ok (.newarray .int, 2) := by decide +kernel
theorem dX5_init_109 : decode cX5_init 109 = .ok (.putfield 51, 3) := by decide +kernel
theorem dX5_init_112 : decode cX5_init 112 = .ok (.aload_n 0, 1) := by decide +kernel
theorem dX5_init_113 : decode cX5_init 113 = .ok (.sipush 160, 3) := by decide +kernel
theorem dX5_init_116 : decode cX5_init 116 = .ok (.newarray .int, 2) := by decide +kernel
theorem dX5_init_118 : decode cX5_init 118 = .ok (.putfield 54, 3) := by decide +kernel
theorem dX5_init_121 : decode cX5_init 121 = .ok (.aload_n 0, 1) := by decide +kernel
theorem dX5_init_122 : decode cX5_init 122 = .ok (.bipush 40, 2) := by decide +kernel
theorem dX5_init_124 : decode cX5_init 124 = .ok (.newarray .int, 2) := by decide +kernel
theorem dX5_init_126 : decode cX5_init 126 = .ok (.putfield 57, 3) := by decide +kernel
theorem dX5_init_129 : decode cX5_init 129 = .ok (.aload_n 0, 1) := by decide +kernel
theorem dX5_init_130 : decode cX5_init 130 = .ok (.getfield 9, 3) := by decide +kernel
theorem dX5_init_133 : decode cX5_init 133 = .ok (.iconst 2, 1) := by decide +kernel
theorem dX5_init_134 : decode cX5_init 134 = .ok (.iconst 1, 1) := by decide +kernel
theorem dX5_init_135 : decode cX5_init 135 = .ok (.iastore, 1) := by decide +kernel
theorem dX5_init_136 : decode cX5_init 136 = .ok (.iconst 0, 1) := by decide +kernel
theorem dX5_init_137 : decode cX5_init 137 = .ok (.istore_n 1, 1) := by decide +kernel
theorem dX5_init_138 : decode cX5_init 138 = .ok (.iload_n 1, 1) := by decide +kernel
theorem dX5_init_139 : decode cX5_init 139 = .ok (.bipush 6, 2) := by decide +kernel
theorem dX5_init_141 : decode cX5_init 141 = .ok (.if_icmp .ge 19, 3) := by decide +kernel
theorem dX5_init_144 : decode cX5_init 144 = .ok (.aload_n 0, 1) := by decide +kernel
theorem dX5_init_145 : decode cX5_init 145 = .ok (.getfield 9, 3) := by decide +kernel
theorem dX5_init_148 : decode cX5_init 148 = .ok (.bipush 6, 2) := by decide +kernel
theorem dX5_init_150 : decode cX5_init 150 = .ok (.iload_n 1, 1) := by decide +kernel
theorem dX5_init_151 : decode cX5_init 151 = .ok (.iadd, 1) := by decide +kernel
theorem dX5_init_152 : decode cX5_init 152 = .ok (.iload_n 1, 1) := by decide +kernel
theorem dX5_init_153 : decode cX5_init 153 = .ok (.iastore, 1) := by decide +kernel
theorem dX5_init_154 : decode cX5_init 154 = .ok (.iinc 1 1, 3) := by decide +kernel
theorem dX5_init_157 : decode cX5_init 157 = .ok (.goto (-19), 3) := by decide +kernel
theorem dX5_init_160 : decode cX5_init 160 = .ok (.iconst 0, 1) := by decide +kernel
theorem dX5_init_161 : decode cX5_init 161 = .ok (.istore_n 1, 1) := by decide +kernel
theorem dX5_init_162 : decode cX5_init 162 = .ok (.iload_n 1, 1) := by decide +kernel
theorem dX5_init_163 : decode cX5_init 163 = .ok (.bipush 10, 2) := by decide +kernel
theorem dX5_init_165 : decode cX5_init 165 = .ok (.if_icmp .ge 19, 3) := by decide +kernel
theorem dX5_init_168 : decode cX5_init 168 = .ok (.aload_n 0, 1) := by decide +kernel
theorem dX5_init_169 : decode cX5_init 169 = .ok (.getfield 9, 3) := by decide +kernel
theorem dX5_init_172 : decode cX5_init 172 = .ok (.bipush 12, 2) := by decide +kernel
theorem dX5_init_174 : decode cX5_init 174 = .ok (.iload_n 1, 1) := by decide +kernel
theorem dX5_init_175 : decode cX5_init 175 = .ok (.iadd, 1) := by decide +kernel
theorem dX5_init_176 : decode cX5_init 176 = .ok (.iconst (-1), 1) := by decide +kernel
theorem dX5_init_177 : decode cX5_init 177 = .ok (.iastore, 1) := by decide +kernel
theorem dX5_init_178 : decode cX5_init 178 = .ok (.iinc 1 1, 3) := by decide +kernel
theorem dX5_init_181 : decode cX5_init 181 = .ok (.goto (-19), 3) := by decide +kernel
theorem dX5_init_184 : decode cX5_init 184 = .ok (.return_, 1) := by decide +kernel
theorem dX5_finding_0 : decode cX5_finding 0 = .ok (.aload_n 0, 1) := by decide +kernel
theorem dX5_finding_1 : decode cX5_finding 1 = .ok (.getfield 19, 3) := by decide +kernel
theorem dX5_finding_4 : decode cX5_finding 4 = .ok (.ldc 60, 2) := by decide +kernel
theorem dX5_finding_6 : decode cX5_finding 6 = .ok (.iload_n 1, 1) := by decide +kernel
theorem dX5_finding_7 : decode cX5_finding 7 = .ok (.isub, 1) := by decide +kernel
theorem dX5_finding_8 : decode cX5_finding 8 = .ok (.iconst 1, 1) := by decide +kernel
theorem dX5_finding_9 : decode cX5_finding 9 = .ok (.iadd, 1) := by decide +kernel
theorem dX5_finding_10 : decode cX5_finding 10 = .ok (.dup2, 1) := by decide +kernel
theorem dX5_finding_11 : decode cX5_finding 11 = .ok (.iaload, 1) := by decide +kernel
theorem dX5_finding_12 : decode cX5_finding 12 = .ok (.iconst 1, 1) := by decide +kernel
theorem dX5_finding_13 : decode cX5_finding 13 = .ok (.iadd, 1) := by decide +kernel
theorem dX5_finding_14 : decode cX5_finding 14 = .ok (.iastore, 1) := by decide +kernel
theorem dX5_finding_15 : decode cX5_finding 15 = .ok (.aload_n 0, 1) := by decide +kernel
theorem dX5_finding_16 : decode cX5_finding 16 = .ok (.getfield 19, 3) := by decide +kernel
theorem dX5_finding_19 : decode cX5_finding 19 = .ok (.iconst 0, 1) := by decide +kernel
theorem dX5_finding_20 : decode cX5_finding 20 = .ok (.dup2, 1) := by decide +kernel
theorem dX5_finding_21 : decode cX5_finding 21 = .ok (.iaload, 1) := by decide +kernel
theorem dX5_finding_22 : decode cX5_finding 22 = .ok (.iconst 1, 1) := by decide +kernel
theorem dX5_finding_23 : decode cX5_finding 23 = .ok (.iadd, 1) := by decide +kernel
theorem dX5_finding_24 : decode cX5_finding 24 = .ok (.iastore, 1) := by decide +kernel
theorem dX5_finding_25 : decode cX5_finding 25 = .ok (.iload_n 1, 1) := by decide +kernel
theorem dX5_finding_26 : decode cX5_finding 26 = .ok (.ireturn, 1) := by decide +kernel
theorem dX5_within_0 : decode cX5_within 0 = .ok (.iload_n 0, 1) := by decide +kernel
theorem dX5_within_1 : decode cX5_within 1 = .ok (.iload_n 1, 1) := by decide +kernel
theorem dX5_within_2 : decode cX5_within 2 = .ok (.if_icmp .lt 12, 3) := by decide +kernel
theorem dX5_within_5 : decode cX5_within 5 = .ok (.iload_n 0, 1) := by decide +kernel
theorem dX5_within_6 : decode cX5_within 6 = .ok (.iload_n 2, 1) := by decide +kernel
theorem dX5_within_7 : decode cX5_within 7 = .ok (.if_icmp .gt 7, 3) := by decide +kernel
theorem dX5_within_10 : decode cX5_within 10 = .ok (.iconst 1, 1) := by decide +kernel
theorem dX5_within_11 : decode cX5_within 11 = .ok (.goto 4, 3) := by decide +kernel
theorem dX5_within_14 : decode cX5_within 14 = .ok (.iconst 0, 1) := by decide +kernel
theorem dX5_within_15 : decode cX5_within 15 = .ok (.ireturn, 1) := by decide +kernel
theorem dX5_become_0 : decode cX5_become 0 = .ok (.aload_n 0, 1) := by decide +kernel
theorem dX5_become_1 : decode cX5_become 1 = .ok (.getfield 9, 3) := by decide +kernel
theorem dX5_become_4 : decode cX5_become 4 = .ok (.iload_n 1, 1) := by decide +kernel
theorem dX5_become_5 : decode cX5_become 5 = .ok (.iaload, 1) := by decide +kernel
theorem dX5_become_6 : decode cX5_become 6 = .ok (.istore_n 3, 1) := by decide +kernel
theorem dX5_become_7 : decode cX5_become 7 = .ok (.aload_n 0, 1) := by decide +kernel
theorem dX5_become_8 : decode cX5_become 8 = .ok (.getfield 9, 3) := by decide +kernel
theorem dX5_become_11 : decode cX5_become 11 = .ok (.iload_n 1, 1) := by decide +kernel
theorem dX5_become_12 : decode cX5_become 12 = .ok (.iload_n 2, 1) := by decide +kernel
theorem dX5_become_13 : decode cX5_become 13 = .ok (.iastore, 1) := by decide +kernel
theorem dX5_become_14 : decode cX5_become 14 = .ok (.iload_n 3, 1) := by decide +kernel
theorem dX5_become_15 : decode cX5_become 15 = .ok (.ireturn, 1) := by decide +kernel
theorem dX5_copyRow_0 : decode cX5_copyRow 0 = .ok (.iconst 0, 1) := by decide +kernel
theorem dX5_copyRow_1 : decode cX5_copyRow 1 = .ok (.istore_n 2, 1) := by decide +kernel
theorem dX5_copyRow_2 : decode cX5_copyRow 2 = .ok (.iload_n 2, 1) := by decide +kernel
theorem dX5_copyRow_3 : decode cX5_copyRow 3 = .ok (.bipush 70, 2) := by decide +kernel
theorem dX5_copyRow_5 : decode cX5_copyRow 5 = .ok (.if_icmp .ge 15, 3) := by decide +kernel
theorem dX5_copyRow_8 : decode cX5_copyRow 8 = .ok (.aload_n 1, 1) := by decide +kernel
theorem dX5_copyRow_9 : decode cX5_copyRow 9 = .ok (.iload_n 2, 1) := by decide +kernel
theorem dX5_copyRow_10 : decode cX5_copyRow 10 = .ok (.aload_n 0, 1) := by decide +kernel
theorem dX5_copyRow_11 : decode cX5_copyRow 11 = .ok (.iload_n 2, 1) := by decide +kernel
theorem dX5_copyRow_12 : decode cX5_copyRow 12 = .ok (.iaload, 1) := by decide +kernel
theorem dX5_copyRow_13 : decode cX5_copyRow 13 = .ok (.iastore, 1) := by decide +kernel
theorem dX5_copyRow_14 : decode cX5_copyRow 14 = .ok (.iinc 2 1, 3) := by decide +kernel
theorem dX5_copyRow_17 : decode cX5_copyRow 17 = .ok (.goto (-15), 3) := by decide +kernel
theorem dX5_copyRow_20 : decode cX5_copyRow 20 = .ok (.return_, 1) := by decide +kernel
theorem dX5_putBack_0 : decode cX5_putBack 0 = .ok (.aload_n 0, 1) := by decide +kernel
theorem dX5_putBack_1 : decode cX5_putBack 1 = .ok (.getfield 16, 3) := by decide +kernel
theorem dX5_putBack_4 : decode cX5_putBack 4 = .ok (.aload_n 0, 1) := by decide +kernel
theorem dX5_putBack_5 : decode cX5_putBack 5 = .ok (.getfield 9, 3) := by decide +kernel
theorem dX5_putBack_8 : decode cX5_putBack 8 = .ok (.invokestatic 61, 3) := by decide +kernel
theorem dX5_putBack_11 : decode cX5_putBack 11 = .ok (.iload_n 1, 1) := by decide +kernel
theorem dX5_putBack_12 : decode cX5_putBack 12 = .ok (.ireturn, 1) := by decide +kernel
theorem dX5_orNone_0 : decode cX5_orNone 0 = .ok (.iload_n 1, 1) := by decide +kernel
theorem dX5_orNone_1 : decode cX5_orNone 1 = .ok (.ifCond .ge 12, 3) := by decide +kernel
theorem dX5_orNone_4 : decode cX5_orNone 4 = .ok (.aload_n 0, 1) := by decide +kernel
theorem dX5_orNone_5 : decode cX5_orNone 5 = .ok (.ldc 65, 2) := by decide +kernel
theorem dX5_orNone_7 : decode cX5_orNone 7 = .ok (.invokevirtual 66, 3) := by decide +kernel
theorem dX5_orNone_10 : decode cX5_orNone 10 = .ok (.goto 4, 3) := by decide +kernel
theorem dX5_orNone_13 : decode cX5_orNone 13 = .ok (.iload_n 1, 1) := by decide +kernel
theorem dX5_orNone_14 : decode cX5_orNone 14 = .ok (.ireturn, 1) := by decide +kernel
theorem dX5_bits_0 : decode cX5_bits 0 = .ok (.iconst 0, 1) := by decide +kernel
theorem dX5_bits_1 : decode cX5_bits 1 = .ok (.istore_n 1, 1) := by decide +kernel
theorem dX5_bits_2 : decode cX5_bits 2 = .ok (.iload_n 0, 1) := by decide +kernel
theorem dX5_bits_3 : decode cX5_bits 3 = .ok (.istore_n 2, 1) := by decide +kernel
theorem dX5_bits_4 : decode cX5_bits 4 = .ok (.iload_n 2, 1) := by decide +kernel
theorem dX5_bits_5 : decode cX5_bits 5 = .ok (.ifCond .eq 15, 3) := by decide +kernel
theorem dX5_bits_8 : decode cX5_bits 8 = .ok (.iinc 1 1, 3) := by decide +kernel
theorem dX5_bits_11 : decode cX5_bits 11 = .ok (.iload_n 2, 1) := by decide +kernel
theorem dX5_bits_12 : decode cX5_bits 12 = .ok (.iload_n 2, 1) := by decide +kernel
theorem dX5_bits_13 : decode cX5_bits 13 = .ok (.iconst 1, 1) := by decide +kernel
theorem dX5_bits_14 : decode cX5_bits 14 = .ok (.isub, 1) := by decide +kernel
theorem dX5_bits_15 : decode cX5_bits 15 = .ok (.iand, 1) := by decide +kernel
theorem dX5_bits_16 : decode cX5_bits 16 = .ok (.istore_n 2, 1) := by decide +kernel
theorem dX5_bits_17 : decode cX5_bits 17 = .ok (.goto (-13), 3) := by decide +kernel
theorem dX5_bits_20 : decode cX5_bits 20 = .ok (.iload_n 1, 1) := by decide +kernel
theorem dX5_bits_21 : decode cX5_bits 21 = .ok (.ireturn, 1) := by decide +kernel
theorem dX5_isSet_0 : decode cX5_isSet 0 = .ok (.iload_n 0, 1) := by decide +kernel
theorem dX5_isSet_1 : decode cX5_isSet 1 = .ok (.iconst 0, 1) := by decide +kernel
theorem dX5_isSet_2 : decode cX5_isSet 2 = .ok (.sipush 4095, 3) := by decide +kernel
theorem dX5_isSet_5 : decode cX5_isSet 5 = .ok (.invokestatic 70, 3) := by decide +kernel
theorem dX5_isSet_8 : decode cX5_isSet 8 = .ok (.ireturn, 1) := by decide +kernel
theorem dX5_isScene_0 : decode cX5_isScene 0 = .ok (.iload_n 0, 1) := by decide +kernel
theorem dX5_isScene_1 : decode cX5_isScene 1 = .ok (.iconst 0, 1) := by decide +kernel
theorem dX5_isScene_2 : decode cX5_isScene 2 = .ok (.bipush 11, 2) := by decide +kernel
theorem dX5_isScene_4 : decode cX5_isScene 4 = .ok (.invokestatic 70, 3) := by decide +kernel
theorem dX5_isScene_7 : decode cX5_isScene 7 = .ok (.ireturn, 1) := by decide +kernel
theorem dX5_fire_0 : decode cX5_fire 0 = .ok (.iload_n 1, 1) := by decide +kernel
theorem dX5_fire_1 : decode cX5_fire 1 = .ok (.iconst 0, 1) := by decide +kernel
theorem dX5_fire_2 : decode cX5_fire 2 = .ok (.iconst 1, 1) := by decide +kernel
theorem dX5_fire_3 : decode cX5_fire 3 = .ok (.invokestatic 70, 3) := by decide +kernel
theorem dX5_fire_6 : decode cX5_fire 6 = .ok (.ifCond .eq 12, 3) := by decide +kernel
theorem dX5_fire_9 : decode cX5_fire 9 = .ok (.aload_n 0, 1) := by decide +kernel
theorem dX5_fire_10 : decode cX5_fire 10 = .ok (.iconst 3, 1) := by decide +kernel
theorem dX5_fire_11 : decode cX5_fire 11 = .ok (.iload_n 1, 1) := by decide +kernel
theorem dX5_fire_12 : decode cX5_fire 12 = .ok (.invokevirtual 74, 3) := by decide +kernel
theorem dX5_fire_15 : decode cX5_fire 15 = .ok (.goto 9, 3) := by decide +kernel
theorem dX5_fire_18 : decode cX5_fire 18 = .ok (.aload_n 0, 1) := by decide +kernel
theorem dX5_fire_19 : decode cX5_fire 19 = .ok (.ldc 60, 2) := by decide +kernel
theorem dX5_fire_21 : decode cX5_fire 21 = .ok (.invokevirtual 66, 3) := by decide +kernel
theorem dX5_fire_24 : decode cX5_fire 24 = .ok (.ireturn, 1) := by decide +kernel
theorem dX5_isPlace_0 : decode cX5_isPlace 0 = .ok (.iload_n 0, 1) := by decide +kernel
theorem dX5_isPlace_1 : decode cX5_isPlace 1 = .ok (.iconst 0, 1) := by decide +kernel
theorem dX5_isPlace_2 : decode cX5_isPlace 2 = .ok (.iconst 5, 1) := by decide +kernel
theorem dX5_isPlace_3 : decode cX5_isPlace 3 = .ok (.invokestatic 70, 3) := by decide +kernel
theorem dX5_isPlace_6 : decode cX5_isPlace 6 = .ok (.ireturn, 1) := by decide +kernel
theorem dX5_scene_0 : decode cX5_scene 0 = .ok (.iload_n 1, 1) := by decide +kernel
theorem dX5_scene_1 : decode cX5_scene 1 = .ok (.invokestatic 78, 3) := by decide +kernel
theorem dX5_scene_4 : decode cX5_scene 4 = .ok (.ifCond .eq 22, 3) := by decide +kernel
theorem dX5_scene_7 : decode cX5_scene 7 = .ok (.iload_n 2, 1) := by decide +kernel
theorem dX5_scene_8 : decode cX5_scene 8 = .ok (.invokestatic 82, 3) := by decide +kernel
theorem dX5_scene_11 : decode cX5_scene 11 = .ok (.ifCond .eq 15, 3) := by decide +kernel
theorem dX5_scene_14 : decode cX5_scene 14 = .ok (.aload_n 0, 1) := by decide +kernel
theorem dX5_scene_15 : decode cX5_scene 15 = .ok (.bipush 6, 2) := by decide +kernel
theorem dX5_scene_17 : decode cX5_scene 17 = .ok (.iload_n 1, 1) := by decide +kernel
theorem dX5_scene_18 : decode cX5_scene 18 = .ok (.iadd, 1) := by decide +kernel
theorem dX5_scene_19 : decode cX5_scene 19 = .ok (.iload_n 2, 1) := by decide +kernel
theorem dX5_scene_20 : decode cX5_scene 20 = .ok (.invokevirtual 74, 3) := by decide +kernel
theorem dX5_scene_23 : decode cX5_scene 23 = .ok (.goto 9, 3) := by decide +kernel
theorem dX5_scene_26 : decode cX5_scene 26 = .ok (.aload_n 0, 1) := by decide +kernel
theorem dX5_scene_27 : decode cX5_scene 27 = .ok (.ldc 60, 2) := by decide +kernel
theorem dX5_scene_29 : decode cX5_scene 29 = .ok (.invokevirtual 66, 3) := by decide +kernel
theorem dX5_scene_32 : decode cX5_scene 32 = .ok (.ireturn, 1) := by decide +kernel
theorem dX5_listed_0 : decode cX5_listed 0 = .ok (.iload_n 1, 1) := by decide +kernel
theorem dX5_listed_1 : decode cX5_listed 1 = .ok (.invokestatic 78, 3) := by decide +kernel
theorem dX5_listed_4 : decode cX5_listed 4 = .ok (.ifCond .eq 15, 3) := by decide +kernel
theorem dX5_listed_7 : decode cX5_listed 7 = .ok (.aload_n 0, 1) := by decide +kernel
theorem dX5_listed_8 : decode cX5_listed 8 = .ok (.getfield 9, 3) := by decide +kernel
theorem dX5_listed_11 : decode cX5_listed 11 = .ok (.bipush 6, 2) := by decide +kernel
theorem dX5_listed_13 : decode cX5_listed 13 = .ok (.iload_n 1, 1) := by decide +kernel
theorem dX5_listed_14 : decode cX5_listed 14 = .ok (.iadd, 1) := by decide +kernel
theorem dX5_listed_15 : decode cX5_listed 15 = .ok (.iaload, 1) := by decide +kernel
theorem dX5_listed_16 : decode cX5_listed 16 = .ok (.goto 9, 3) := by decide +kernel
theorem dX5_listed_19 : decode cX5_listed 19 = .ok (.aload_n 0, 1) := by decide +kernel
theorem dX5_listed_20 : decode cX5_listed 20 = .ok (.ldc 60, 2) := by decide +kernel
theorem dX5_listed_22 : decode cX5_listed 22 = .ok (.invokevirtual 66, 3) := by decide +kernel
theorem dX5_listed_25 : decode cX5_listed 25 = .ok (.ireturn, 1) := by decide +kernel
theorem dX5_placeNow_0 : decode cX5_placeNow 0 = .ok (.bipush 6, 2) := by decide +kernel
theorem dX5_placeNow_2 : decode cX5_placeNow 2 = .ok (.aload_n 0, 1) := by decide +kernel
theorem dX5_placeNow_3 : decode cX5_placeNow 3 = .ok (.getfield 9, 3) := by decide +kernel
theorem dX5_placeNow_6 : decode cX5_placeNow 6 = .ok (.iconst 0, 1) := by decide +kernel
theorem dX5_placeNow_7 : decode cX5_placeNow 7 = .ok (.iaload, 1) := by decide +kernel
theorem dX5_placeNow_8 : decode cX5_placeNow 8 = .ok (.bipush 6, 2) := by decide +kernel
theorem dX5_placeNow_10 : decode cX5_placeNow 10 = .ok (.irem, 1) := by decide +kernel
theorem dX5_placeNow_11 : decode cX5_placeNow 11 = .ok (.iadd, 1) := by decide +kernel
theorem dX5_placeNow_12 : decode cX5_placeNow 12 = .ok (.ireturn, 1) := by decide +kernel
theorem dX5_curtainAt_0 : decode cX5_curtainAt 0 = .ok (.bipush 22, 2) := by decide +kernel
theorem dX5_curtainAt_2 : decode cX5_curtainAt 2 = .ok (.bipush 6, 2) := by decide +kernel
theorem dX5_curtainAt_4 : decode cX5_curtainAt 4 = .ok (.iload_n 0, 1) := by decide +kernel
theorem dX5_curtainAt_5 : decode cX5_curtainAt 5 = .ok (.imul, 1) := by decide +kernel
theorem dX5_curtainAt_6 : decode cX5_curtainAt 6 = .ok (.iadd, 1) := by decide +kernel
theorem dX5_curtainAt_7 : decode cX5_curtainAt 7 = .ok (.iload_n 1, 1) := by decide +kernel
theorem dX5_curtainAt_8 : decode cX5_curtainAt 8 = .ok (.iadd, 1) := by decide +kernel
theorem dX5_curtainAt_9 : decode cX5_curtainAt 9 = .ok (.ireturn, 1) := by decide +kernel
theorem dX5_curtainIs_0 : decode cX5_curtainIs 0 = .ok (.aload_n 0, 1) := by decide +kernel
theorem dX5_curtainIs_1 : decode cX5_curtainIs 1 = .ok (.getfield 9, 3) := by decide +kernel
theorem dX5_curtainIs_4 : decode cX5_curtainIs 4 = .ok (.iload_n 1, 1) := by decide +kernel
theorem dX5_curtainIs_5 : decode cX5_curtainIs 5 = .ok (.iload_n 2, 1) := by decide +kernel
theorem dX5_curtainIs_6 : decode cX5_curtainIs 6 = .ok (.invokestatic 85, 3) := by decide +kernel
theorem dX5_curtainIs_9 : decode cX5_curtainIs 9 = .ok (.iaload, 1) := by decide +kernel
theorem dX5_curtainIs_10 : decode cX5_curtainIs 10 = .ok (.ireturn, 1) := by decide +kernel
theorem dX5_isCurtain_0 : decode cX5_isCurtain 0 = .ok (.iload_n 1, 1) := by decide +kernel
theorem dX5_isCurtain_1 : decode cX5_isCurtain 1 = .ok (.iconst 0, 1) := by decide +kernel
theorem dX5_isCurtain_2 : decode cX5_isCurtain 2 = .ok (.aload_n 0, 1) := by decide +kernel
theorem dX5_isCurtain_3 : decode cX5_isCurtain 3 = .ok (.getfield 9, 3) := by decide +kernel
theorem dX5_isCurtain_6 : decode cX5_isCurtain 6 = .ok (.iconst 1, 1) := by decide +kernel
theorem dX5_isCurtain_7 : decode cX5_isCurtain 7 = .ok (.iaload, 1) := by decide +kernel
theorem dX5_isCurtain_8 : decode cX5_isCurtain 8 = .ok (.iconst 1, 1) := by decide +kernel
theorem dX5_isCurtain_9 : decode cX5_isCurtain 9 = .ok (.isub, 1) := by decide +kernel
theorem dX5_isCurtain_10 : decode cX5_isCurtain 10 = .ok (.invokestatic 70, 3) := by decide +kernel
theorem dX5_isCurtain_13 : decode cX5_isCurtain 13 = .ok (.ireturn, 1) := by decide +kernel
theorem dX5_isKind_0 : decode cX5_isKind 0 = .ok (.iload_n 0, 1) := by decide +kernel
theorem dX5_isKind_1 : decode cX5_isKind 1 = .ok (.iconst 0, 1) := by decide +kernel
theorem dX5_isKind_2 : decode cX5_isKind 2 = .ok (.bipush 6, 2) := by decide +kernel
theorem dX5_isKind_4 : decode cX5_isKind 4 = .ok (.invokestatic 70, 3) := by decide +kernel
theorem dX5_isKind_7 : decode cX5_isKind 7 = .ok (.ireturn, 1) := by decide +kernel
theorem dX5_comes_0 : decode cX5_comes 0 = .ok (.aload_n 0, 1) := by decide +kernel
theorem dX5_comes_1 : decode cX5_comes 1 = .ok (.getfield 9, 3) := by decide +kernel
theorem dX5_comes_4 : decode cX5_comes 4 = .ok (.iconst 1, 1) := by decide +kernel
theorem dX5_comes_5 : decode cX5_comes 5 = .ok (.iaload, 1) := by decide +kernel
theorem dX5_comes_6 : decode cX5_comes 6 = .ok (.istore_n 3, 1) := by decide +kernel
theorem dX5_comes_7 : decode cX5_comes 7 = .ok (.iconst 0, 1) := by decide +kernel
theorem dX5_comes_8 : decode cX5_comes 8 = .ok (.istore 4, 2) := by decide +kernel
theorem dX5_comes_10 : decode cX5_comes 10 = .ok (.iload 4, 2) := by decide +kernel
theorem dX5_comes_12 : decode cX5_comes 12 = .ok (.bipush 6, 2) := by decide +kernel
theorem dX5_comes_14 : decode cX5_comes 14 = .ok (.if_icmp .ge 21, 3) := by decide +kernel
theorem dX5_comes_17 : decode cX5_comes 17 = .ok (.aload_n 0, 1) := by decide +kernel
theorem dX5_comes_18 : decode cX5_comes 18 = .ok (.getfield 9, 3) := by decide +kernel
theorem dX5_comes_21 : decode cX5_comes 21 = .ok (.iload_n 3, 1) := by decide +kernel
theorem dX5_comes_22 : decode cX5_comes 22 = .ok (.iload 4, 2) := by decide +kernel
theorem dX5_comes_24 : decode cX5_comes 24 = .ok (.invokestatic 85, 3) := by decide +kernel
theorem dX5_comes_27 : decode cX5_comes 27 = .ok (.iconst 0, 1) := by decide +kernel
theorem dX5_comes_28 : decode cX5_comes 28 = .ok (.iastore, 1) := by decide +kernel
theorem dX5_comes_29 : decode cX5_comes 29 = .ok (.iinc 4 1, 3) := by decide +kernel
theorem dX5_comes_32 : decode cX5_comes 32 = .ok (.goto (-22), 3) := by decide +kernel
theorem dX5_comes_35 : decode cX5_comes 35 = .ok (.aload_n 0, 1) := by decide +kernel
theorem dX5_comes_36 : decode cX5_comes 36 = .ok (.getfield 9, 3) := by decide +kernel
theorem dX5_comes_39 : decode cX5_comes 39 = .ok (.iload_n 3, 1) := by decide +kernel
theorem dX5_comes_40 : decode cX5_comes 40 = .ok (.iconst 0, 1) := by decide +kernel
theorem dX5_comes_41 : decode cX5_comes 41 = .ok (.invokestatic 85, 3) := by decide +kernel
theorem dX5_comes_44 : decode cX5_comes 44 = .ok (.iload_n 1, 1) := by decide +kernel
theorem dX5_comes_45 : decode cX5_comes 45 = .ok (.iastore, 1) := by decide +kernel
theorem dX5_comes_46 : decode cX5_comes 46 = .ok (.aload_n 0, 1) := by decide +kernel
theorem dX5_comes_47 : decode cX5_comes 47 = .ok (.getfield 9, 3) := by decide +kernel
theorem dX5_comes_50 : decode cX5_comes 50 = .ok (.iload_n 3, 1) := by decide +kernel
theorem dX5_comes_51 : decode cX5_comes 51 = .ok (.iconst 1, 1) := by decide +kernel
theorem dX5_comes_52 : decode cX5_comes 52 = .ok (.invokestatic 85, 3) := by decide +kernel
theorem dX5_comes_55 : decode cX5_comes 55 = .ok (.bipush 60, 2) := by decide +kernel
theorem dX5_comes_57 : decode cX5_comes 57 = .ok (.iastore, 1) := by decide +kernel
theorem dX5_comes_58 : decode cX5_comes 58 = .ok (.aload_n 0, 1) := by decide +kernel
theorem dX5_comes_59 : decode cX5_comes 59 = .ok (.getfield 9, 3) := by decide +kernel
theorem dX5_comes_62 : decode cX5_comes 62 = .ok (.iload_n 3, 1) := by decide +kernel
theorem dX5_comes_63 : decode cX5_comes 63 = .ok (.iconst 2, 1) := by decide +kernel
theorem dX5_comes_64 : decode cX5_comes 64 = .ok (.invokestatic 85, 3) := by decide +kernel
theorem dX5_comes_67 : decode cX5_comes 67 = .ok (.iload_n 2, 1) := by decide +kernel
theorem dX5_comes_68 : decode cX5_comes 68 = .ok (.iastore, 1) := by decide +kernel
theorem dX5_comes_69 : decode cX5_comes 69 = .ok (.aload_n 0, 1) := by decide +kernel
theorem dX5_comes_70 : decode cX5_comes 70 = .ok (.getfield 9, 3) := by decide +kernel
theorem dX5_comes_73 : decode cX5_comes 73 = .ok (.iload_n 3, 1) := by decide +kernel
theorem dX5_comes_74 : decode cX5_comes 74 = .ok (.iconst 3, 1) := by decide +kernel
theorem dX5_comes_75 : decode cX5_comes 75 = .ok (.invokestatic 85, 3) := by decide +kernel
theorem dX5_comes_78 : decode cX5_comes 78 = .ok (.bipush 20, 2) := by decide +kernel
theorem dX5_comes_80 : decode cX5_comes 80 = .ok (.iastore, 1) := by decide +kernel
theorem dX5_comes_81 : decode cX5_comes 81 = .ok (.aload_n 0, 1) := by decide +kernel
theorem dX5_comes_82 : decode cX5_comes 82 = .ok (.getfield 9, 3) := by decide +kernel
theorem dX5_comes_85 : decode cX5_comes 85 = .ok (.iconst 1, 1) := by decide +kernel
theorem dX5_comes_86 : decode cX5_comes 86 = .ok (.dup2, 1) := by decide +kernel
theorem dX5_comes_87 : decode cX5_comes 87 = .ok (.iaload, 1) := by decide +kernel
theorem dX5_comes_88 : decode cX5_comes 88 = .ok (.iconst 1, 1) := by decide +kernel
theorem dX5_comes_89 : decode cX5_comes 89 = .ok (.iadd, 1) := by decide +kernel
theorem dX5_comes_90 : decode cX5_comes 90 = .ok (.iastore, 1) := by decide +kernel
theorem dX5_comes_91 : decode cX5_comes 91 = .ok (.iload_n 3, 1) := by decide +kernel
theorem dX5_comes_92 : decode cX5_comes 92 = .ok (.ireturn, 1) := by decide +kernel
theorem dX5_curtain_0 : decode cX5_curtain 0 = .ok (.iload_n 1, 1) := by decide +kernel
theorem dX5_curtain_1 : decode cX5_curtain 1 = .ok (.invokestatic 88, 3) := by decide +kernel
theorem dX5_curtain_4 : decode cX5_curtain 4 = .ok (.ifCond .eq 10, 3) := by decide +kernel
theorem dX5_curtain_7 : decode cX5_curtain 7 = .ok (.iload_n 2, 1) := by decide +kernel
theorem dX5_curtain_8 : decode cX5_curtain 8 = .ok (.invokestatic 91, 3) := by decide +kernel
theorem dX5_curtain_11 : decode cX5_curtain 11 = .ok (.ifCond .ne 10, 3) := by decide +kernel
theorem dX5_curtain_14 : decode cX5_curtain 14 = .ok (.aload_n 0, 1) := by decide +kernel
theorem dX5_curtain_15 : decode cX5_curtain 15 = .ok (.ldc 60, 2) := by decide +kernel
theorem dX5_curtain_17 : decode cX5_curtain 17 = .ok (.invokevirtual 66, 3) := by decide +kernel
theorem dX5_curtain_20 : decode cX5_curtain 20 = .ok (.ireturn, 1) := by decide +kernel
theorem dX5_curtain_21 : decode cX5_curtain 21 = .ok (.aload_n 0, 1) := by decide +kernel
theorem dX5_curtain_22 : decode cX5_curtain 22 = .ok (.getfield 9, 3) := by decide +kernel
theorem dX5_curtain_25 : decode cX5_curtain 25 = .ok (.iconst 1, 1) := by decide +kernel
theorem dX5_curtain_26 : decode cX5_curtain 26 = .ok (.iaload, 1) := by decide +kernel
theorem dX5_curtain_27 : decode cX5_curtain 27 = .ok (.bipush 8, 2) := by decide +kernel
theorem dX5_curtain_29 : decode cX5_curtain 29 = .ok (.if_icmp .ne 12, 3) := by decide +kernel
theorem dX5_curtain_32 : decode cX5_curtain 32 = .ok (.aload_n 0, 1) := by decide +kernel
theorem dX5_curtain_33 : decode cX5_curtain 33 = .ok (.ldc 94, 2) := by decide +kernel
theorem dX5_curtain_35 : decode cX5_curtain 35 = .ok (.invokevirtual 66, 3) := by decide +kernel
theorem dX5_curtain_38 : decode cX5_curtain 38 = .ok (.goto 9, 3) := by decide +kernel
theorem dX5_curtain_41 : decode cX5_curtain 41 = .ok (.aload_n 0, 1) := by decide +kernel
theorem dX5_curtain_42 : decode cX5_curtain 42 = .ok (.iload_n 1, 1) := by decide +kernel
theorem dX5_curtain_43 : decode cX5_curtain 43 = .ok (.iload_n 2, 1) := by decide +kernel
theorem dX5_curtain_44 : decode cX5_curtain 44 = .ok (.invokevirtual 95, 3) := by decide +kernel
theorem dX5_curtain_47 : decode cX5_curtain 47 = .ok (.ireturn, 1) := by decide +kernel
theorem dX5_gladdens_0 : decode cX5_gladdens 0 = .ok (.aload_n 0, 1) := by decide +kernel
theorem dX5_gladdens_1 : decode cX5_gladdens 1 = .ok (.iload_n 1, 1) := by decide +kernel
theorem dX5_gladdens_2 : decode cX5_gladdens 2 = .ok (.iconst 0, 1) := by decide +kernel
theorem dX5_gladdens_3 : decode cX5_gladdens 3 = .ok (.invokevirtual 98, 3) := by decide +kernel
theorem dX5_gladdens_6 : decode cX5_gladdens 6 = .ok (.tableswitch 60 1 6 #[38, 44, 44, 46, 58, 41], 38) := by decide +kernel
theorem dX5_gladdens_44 : decode cX5_gladdens 44 = .ok (.bipush 10, 2) := by decide +kernel
theorem dX5_gladdens_46 : decode cX5_gladdens 46 = .ok (.ireturn, 1) := by decide +kernel
theorem dX5_gladdens_47 : decode cX5_gladdens 47 = .ok (.bipush 8, 2) := by decide +kernel
theorem dX5_gladdens_49 : decode cX5_gladdens 49 = .ok (.ireturn, 1) := by decide +kernel
theorem dX5_gladdens_50 : decode cX5_gladdens 50 = .ok (.iconst 4, 1) := by decide +kernel
theorem dX5_gladdens_51 : decode cX5_gladdens 51 = .ok (.ireturn, 1) := by decide +kernel
theorem dX5_gladdens_52 : decode cX5_gladdens 52 = .ok (.iconst 4, 1) := by decide +kernel
theorem dX5_gladdens_53 : decode cX5_gladdens 53 = .ok (.aload_n 0, 1) := by decide +kernel
theorem dX5_gladdens_54 : decode cX5_gladdens 54 = .ok (.iload_n 1, 1) := by decide +kernel
theorem dX5_gladdens_55 : decode cX5_gladdens 55 = .ok (.iconst 2, 1) := by decide +kernel
theorem dX5_gladdens_56 : decode cX5_gladdens 56 = .ok (.invokevirtual 98, 3) := by decide +kernel
theorem dX5_gladdens_59 : decode cX5_gladdens 59 = .ok (.invokestatic 101, 3) := by decide +kernel
theorem dX5_gladdens_62 : decode cX5_gladdens 62 = .ok (.iadd, 1) := by decide +kernel
theorem dX5_gladdens_63 : decode cX5_gladdens 63 = .ok (.ireturn, 1) := by decide +kernel
theorem dX5_gladdens_64 : decode cX5_gladdens 64 = .ok (.iconst 0, 1) := by decide +kernel
theorem dX5_gladdens_65 : decode cX5_gladdens 65 = .ok (.ireturn, 1) := by decide +kernel
theorem dX5_gladdens_66 : decode cX5_gladdens 66 = .ok (.iconst 5, 1) := by decide +kernel
theorem dX5_gladdens_67 : decode cX5_gladdens 67 = .ok (.ireturn, 1) := by decide +kernel
theorem dX5_tires_0 : decode cX5_tires 0 = .ok (.aload_n 0, 1) := by decide +kernel
theorem dX5_tires_1 : decode cX5_tires 1 = .ok (.iload_n 1, 1) := by decide +kernel
theorem dX5_tires_2 : decode cX5_tires 2 = .ok (.iconst 0, 1) := by decide +kernel
theorem dX5_tires_3 : decode cX5_tires 3 = .ok (.invokevirtual 98, 3) := by decide +kernel
theorem dX5_tires_6 : decode cX5_tires 6 = .ok (.tableswitch 73 1 6 #[38, 57, 59, 65, 71, 41], 38) := by decide +kernel
theorem dX5_tires_44 : decode cX5_tires 44 = .ok (.bipush 6, 2) := by decide +kernel
theorem dX5_tires_46 : decode cX5_tires 46 = .ok (.ireturn, 1) := by decide +kernel
theorem dX5_tires_47 : decode cX5_tires 47 = .ok (.aload_n 0, 1) := by decide +kernel
theorem dX5_tires_48 : decode cX5_tires 48 = .ok (.iload_n 1, 1) := by decide +kernel
theorem dX5_tires_49 : decode cX5_tires 49 = .ok (.iconst 3, 1) := by decide +kernel
theorem dX5_tires_50 : decode cX5_tires 50 = .ok (.invokevirtual 98, 3) := by decide +kernel
theorem dX5_tires_53 : decode cX5_tires 53 = .ok (.ifCond .ne 7, 3) := by decide +kernel
theorem dX5_tires_56 : decode cX5_tires 56 = .ok (.iconst 0, 1) := by decide +kernel
theorem dX5_tires_57 : decode cX5_tires 57 = .ok (.goto 5, 3) := by decide +kernel
theorem dX5_tires_60 : decode cX5_tires 60 = .ok (.bipush 6, 2) := by decide +kernel
theorem dX5_tires_62 : decode cX5_tires 62 = .ok (.ireturn, 1) := by decide +kernel
theorem dX5_tires_63 : decode cX5_tires 63 = .ok (.iconst 2, 1) := by decide +kernel
theorem dX5_tires_64 : decode cX5_tires 64 = .ok (.ireturn, 1) := by decide +kernel
theorem dX5_tires_65 : decode cX5_tires 65 = .ok (.iconst 2, 1) := by decide +kernel
theorem dX5_tires_66 : decode cX5_tires 66 = .ok (.iload_n 2, 1) := by decide +kernel
theorem dX5_tires_67 : decode cX5_tires 67 = .ok (.iconst 1, 1) := by decide +kernel
theorem dX5_tires_68 : decode cX5_tires 68 = .ok (.iand, 1) := by decide +kernel
theorem dX5_tires_69 : decode cX5_tires 69 = .ok (.iadd, 1) := by decide +kernel
theorem dX5_tires_70 : decode cX5_tires 70 = .ok (.ireturn, 1) := by decide +kernel
theorem dX5_tires_71 : decode cX5_tires 71 = .ok (.iconst 1, 1) := by decide +kernel
theorem dX5_tires_72 : decode cX5_tires 72 = .ok (.iload_n 2, 1) := by decide +kernel
theorem dX5_tires_73 : decode cX5_tires 73 = .ok (.iconst 1, 1) := by decide +kernel
theorem dX5_tires_74 : decode cX5_tires 74 = .ok (.iand, 1) := by decide +kernel
theorem dX5_tires_75 : decode cX5_tires 75 = .ok (.iadd, 1) := by decide +kernel
theorem dX5_tires_76 : decode cX5_tires 76 = .ok (.ireturn, 1) := by decide +kernel
theorem dX5_tires_77 : decode cX5_tires 77 = .ok (.iconst 0, 1) := by decide +kernel
theorem dX5_tires_78 : decode cX5_tires 78 = .ok (.ireturn, 1) := by decide +kernel
theorem dX5_tires_79 : decode cX5_tires 79 = .ok (.iconst 4, 1) := by decide +kernel
theorem dX5_tires_80 : decode cX5_tires 80 = .ok (.ireturn, 1) := by decide +kernel
theorem dX5_bears_0 : decode cX5_bears 0 = .ok (.aload_n 0, 1) := by decide +kernel
theorem dX5_bears_1 : decode cX5_bears 1 = .ok (.iload_n 1, 1) := by decide +kernel
theorem dX5_bears_2 : decode cX5_bears 2 = .ok (.iconst 0, 1) := by decide +kernel
theorem dX5_bears_3 : decode cX5_bears 3 = .ok (.invokevirtual 98, 3) := by decide +kernel
theorem dX5_bears_6 : decode cX5_bears 6 = .ok (.tableswitch 46 1 6 #[38, 41, 41, 38, 44, 38], 38) := by decide +kernel
theorem dX5_bears_44 : decode cX5_bears 44 = .ok (.bipush 40, 2) := by decide +kernel
theorem dX5_bears_46 : decode cX5_bears 46 = .ok (.ireturn, 1) := by decide +kernel
theorem dX5_bears_47 : decode cX5_bears 47 = .ok (.bipush 20, 2) := by decide +kernel
theorem dX5_bears_49 : decode cX5_bears 49 = .ok (.ireturn, 1) := by decide +kernel
theorem dX5_bears_50 : decode cX5_bears 50 = .ok (.iconst 0, 1) := by decide +kernel
theorem dX5_bears_51 : decode cX5_bears 51 = .ok (.ireturn, 1) := by decide +kernel
theorem dX5_bears_52 : decode cX5_bears 52 = .ok (.bipush 30, 2) := by decide +kernel
theorem dX5_bears_54 : decode cX5_bears 54 = .ok (.ireturn, 1) := by decide +kernel
theorem dX5_falls_0 : decode cX5_falls 0 = .ok (.aload_n 0, 1) := by decide +kernel
theorem dX5_falls_1 : decode cX5_falls 1 = .ok (.iload_n 1, 1) := by decide +kernel
theorem dX5_falls_2 : decode cX5_falls 2 = .ok (.iconst 0, 1) := by decide +kernel
theorem dX5_falls_3 : decode cX5_falls 3 = .ok (.invokevirtual 98, 3) := by decide +kernel
theorem dX5_falls_6 : decode cX5_falls 6 = .ok (.tableswitch 67 1 6 #[38, 57, 60, 63, 65, 40], 38) := by decide +kernel
theorem dX5_falls_44 : decode cX5_falls 44 = .ok (.iconst 2, 1) := by decide +kernel
theorem dX5_falls_45 : decode cX5_falls 45 = .ok (.ireturn, 1) := by decide +kernel
theorem dX5_falls_46 : decode cX5_falls 46 = .ok (.aload_n 0, 1) := by decide +kernel
theorem dX5_falls_47 : decode cX5_falls 47 = .ok (.getfield 9, 3) := by decide +kernel
theorem dX5_falls_50 : decode cX5_falls 50 = .ok (.iconst 3, 1) := by decide +kernel
theorem dX5_falls_51 : decode cX5_falls 51 = .ok (.iaload, 1) := by decide +kernel
theorem dX5_falls_52 : decode cX5_falls 52 = .ok (.iconst 1, 1) := by decide +kernel
theorem dX5_falls_53 : decode cX5_falls 53 = .ok (.if_icmp .ne 8, 3) := by decide +kernel
theorem dX5_falls_56 : decode cX5_falls 56 = .ok (.bipush 8, 2) := by decide +kernel
theorem dX5_falls_58 : decode cX5_falls 58 = .ok (.goto 4, 3) := by decide +kernel
theorem dX5_falls_61 : decode cX5_falls 61 = .ok (.iconst 2, 1) := by decide +kernel
theorem dX5_falls_62 : decode cX5_falls 62 = .ok (.ireturn, 1) := by decide +kernel
theorem dX5_falls_63 : decode cX5_falls 63 = .ok (.bipush 6, 2) := by decide +kernel
theorem dX5_falls_65 : decode cX5_falls 65 = .ok (.ireturn, 1) := by decide +kernel
theorem dX5_falls_66 : decode cX5_falls 66 = .ok (.bipush 20, 2) := by decide +kernel
theorem dX5_falls_68 : decode cX5_falls 68 = .ok (.ireturn, 1) := by decide +kernel
theorem dX5_falls_69 : decode cX5_falls 69 = .ok (.iconst 5, 1) := by decide +kernel
theorem dX5_falls_70 : decode cX5_falls 70 = .ok (.ireturn, 1) := by decide +kernel
theorem dX5_falls_71 : decode cX5_falls 71 = .ok (.iconst 1, 1) := by decide +kernel
theorem dX5_falls_72 : decode cX5_falls 72 = .ok (.ireturn, 1) := by decide +kernel
theorem dX5_falls_73 : decode cX5_falls 73 = .ok (.iconst 4, 1) := by decide +kernel
theorem dX5_falls_74 : decode cX5_falls 74 = .ok (.ireturn, 1) := by decide +kernel
theorem dX5_rises_0 : decode cX5_rises 0 = .ok (.aload_n 0, 1) := by decide +kernel
theorem dX5_rises_1 : decode cX5_rises 1 = .ok (.iload_n 1, 1) := by decide +kernel
theorem dX5_rises_2 : decode cX5_rises 2 = .ok (.iconst 0, 1) := by decide +kernel
theorem dX5_rises_3 : decode cX5_rises 3 = .ok (.invokevirtual 98, 3) := by decide +kernel
theorem dX5_rises_6 : decode cX5_rises 6 = .ok (.tableswitch 45 1 6 #[38, 40, 42, 42, 38, 38], 38) := by decide +kernel
theorem dX5_rises_44 : decode cX5_rises 44 = .ok (.iconst 1, 1) := by decide +kernel
theorem dX5_rises_45 : decode cX5_rises 45 = .ok (.ireturn, 1) := by decide +kernel
theorem dX5_rises_46 : decode cX5_rises 46 = .ok (.iconst 3, 1) := by decide +kernel
theorem dX5_rises_47 : decode cX5_rises 47 = .ok (.ireturn, 1) := by decide +kernel
theorem dX5_rises_48 : decode cX5_rises 48 = .ok (.bipush 6, 2) := by decide +kernel
theorem dX5_rises_50 : decode cX5_rises 50 = .ok (.ireturn, 1) := by decide +kernel
theorem dX5_rises_51 : decode cX5_rises 51 = .ok (.iconst 2, 1) := by decide +kernel
theorem dX5_rises_52 : decode cX5_rises 52 = .ok (.ireturn, 1) := by decide +kernel
theorem dX5_told_0 : decode cX5_told 0 = .ok (.iload_n 2, 1) := by decide +kernel
theorem dX5_told_1 : decode cX5_told 1 = .ok (.tableswitch 74 6 10 #[35, 41, 56, 62, 68], 35) := by decide +kernel
theorem dX5_told_36 : decode cX5_told 36 = .ok (.aload_n 0, 1) := by decide +kernel
theorem dX5_told_37 : decode cX5_told 37 = .ok (.iload_n 1, 1) := by decide +kernel
theorem dX5_told_38 : decode cX5_told 38 = .ok (.invokevirtual 104, 3) := by decide +kernel
theorem dX5_told_41 : decode cX5_told 41 = .ok (.ireturn, 1) := by decide +kernel
theorem dX5_told_42 : decode cX5_told 42 = .ok (.aload_n 0, 1) := by decide +kernel
theorem dX5_told_43 : decode cX5_told 43 = .ok (.iload_n 1, 1) := by decide +kernel
theorem dX5_told_44 : decode cX5_told 44 = .ok (.aload_n 0, 1) := by decide +kernel
theorem dX5_told_45 : decode cX5_told 45 = .ok (.getfield 9, 3) := by decide +kernel
theorem dX5_told_48 : decode cX5_told 48 = .ok (.aload_n 0, 1) := by decide +kernel
theorem dX5_told_49 : decode cX5_told 49 = .ok (.invokevirtual 107, 3) := by decide +kernel
theorem dX5_told_52 : decode cX5_told 52 = .ok (.iaload, 1) := by decide +kernel
theorem dX5_told_53 : decode cX5_told 53 = .ok (.invokevirtual 111, 3) := by decide +kernel
theorem dX5_told_56 : decode cX5_told 56 = .ok (.ireturn, 1) := by decide +kernel
theorem dX5_told_57 : decode cX5_told 57 = .ok (.aload_n 0, 1) := by decide +kernel
theorem dX5_told_58 : decode cX5_told 58 = .ok (.iload_n 1, 1) := by decide +kernel
theorem dX5_told_59 : decode cX5_told 59 = .ok (.invokevirtual 114, 3) := by decide +kernel
theorem dX5_told_62 : decode cX5_told 62 = .ok (.ireturn, 1) := by decide +kernel
theorem dX5_told_63 : decode cX5_told 63 = .ok (.aload_n 0, 1) := by decide +kernel
theorem dX5_told_64 : decode cX5_told 64 = .ok (.iload_n 1, 1) := by decide +kernel
theorem dX5_told_65 : decode cX5_told 65 = .ok (.invokevirtual 117, 3) := by decide +kernel
theorem dX5_told_68 : decode cX5_told 68 = .ok (.ireturn, 1) := by decide +kernel
theorem dX5_told_69 : decode cX5_told 69 = .ok (.aload_n 0, 1) := by decide +kernel
theorem dX5_told_70 : decode cX5_told 70 = .ok (.iload_n 1, 1) := by decide +kernel
theorem dX5_told_71 : decode cX5_told 71 = .ok (.invokevirtual 120, 3) := by decide +kernel
theorem dX5_told_74 : decode cX5_told 74 = .ok (.ireturn, 1) := by decide +kernel
theorem dX5_told_75 : decode cX5_told 75 = .ok (.aload_n 0, 1) := by decide +kernel
theorem dX5_told_76 : decode cX5_told 76 = .ok (.iload_n 1, 1) := by decide +kernel
theorem dX5_told_77 : decode cX5_told 77 = .ok (.iload_n 2, 1) := by decide +kernel
theorem dX5_told_78 : decode cX5_told 78 = .ok (.invokevirtual 98, 3) := by decide +kernel
theorem dX5_told_81 : decode cX5_told 81 = .ok (.ireturn, 1) := by decide +kernel
theorem dX5_of_0 : decode cX5_of 0 = .ok (.aload_n 0, 1) := by decide +kernel
theorem dX5_of_1 : decode cX5_of 1 = .ok (.iload_n 1, 1) := by decide +kernel
theorem dX5_of_2 : decode cX5_of 2 = .ok (.invokevirtual 123, 3) := by decide +kernel
theorem dX5_of_5 : decode cX5_of 5 = .ok (.ifCond .eq 22, 3) := by decide +kernel
theorem dX5_of_8 : decode cX5_of 8 = .ok (.iload_n 2, 1) := by decide +kernel
theorem dX5_of_9 : decode cX5_of 9 = .ok (.iconst 0, 1) := by decide +kernel
theorem dX5_of_10 : decode cX5_of 10 = .ok (.bipush 10, 2) := by decide +kernel
theorem dX5_of_12 : decode cX5_of 12 = .ok (.invokestatic 70, 3) := by decide +kernel
theorem dX5_of_15 : decode cX5_of 15 = .ok (.ifCond .eq 12, 3) := by decide +kernel
theorem dX5_of_18 : decode cX5_of 18 = .ok (.aload_n 0, 1) := by decide +kernel
theorem dX5_of_19 : decode cX5_of 19 = .ok (.iload_n 1, 1) := by decide +kernel
theorem dX5_of_20 : decode cX5_of 20 = .ok (.iload_n 2, 1) := by decide +kernel
theorem dX5_of_21 : decode cX5_of 21 = .ok (.invokevirtual 126, 3) := by decide +kernel
theorem dX5_of_24 : decode cX5_of 24 = .ok (.goto 9, 3) := by decide +kernel
theorem dX5_of_27 : decode cX5_of 27 = .ok (.aload_n 0, 1) := by decide +kernel
theorem dX5_of_28 : decode cX5_of 28 = .ok (.ldc 60, 2) := by decide +kernel
theorem dX5_of_30 : decode cX5_of 30 = .ok (.invokevirtual 66, 3) := by decide +kernel
theorem dX5_of_33 : decode cX5_of 33 = .ok (.ireturn, 1) := by decide +kernel
