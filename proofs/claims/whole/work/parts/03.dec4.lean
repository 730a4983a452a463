theorem dX5_isField_0 : decode cX5_isField 0 = .ok (.iload_n 0, 1) := by decide +kernel
theorem dX5_isField_1 : decode cX5_isField 1 = .ok (.tableswitch 81 0 5 #[39, 44, 52, 57, 65, 72], 39) := by decide +kernel
theorem dX5_isField_40 : decode cX5_isField 40 = .ok (.iload_n 1, 1) := by decide +kernel
theorem dX5_isField_41 : decode cX5_isField 41 = .ok (.invokestatic 88, 3) := by decide +kernel
theorem dX5_isField_44 : decode cX5_isField 44 = .ok (.ireturn, 1) := by decide +kernel
theorem dX5_isField_45 : decode cX5_isField 45 = .ok (.iload_n 1, 1) := by decide +kernel
theorem dX5_isField_46 : decode cX5_isField 46 = .ok (.iconst 0, 1) := by decide +kernel
theorem dX5_isField_47 : decode cX5_isField 47 = .ok (.bipush 99, 2) := by decide +kernel
theorem dX5_isField_49 : decode cX5_isField 49 = .ok (.invokestatic 70, 3) := by decide +kernel
theorem dX5_isField_52 : decode cX5_isField 52 = .ok (.ireturn, 1) := by decide +kernel
theorem dX5_isField_53 : decode cX5_isField 53 = .ok (.iload_n 1, 1) := by decide +kernel
theorem dX5_isField_54 : decode cX5_isField 54 = .ok (.invokestatic 91, 3) := by decide +kernel
theorem dX5_isField_57 : decode cX5_isField 57 = .ok (.ireturn, 1) := by decide +kernel
theorem dX5_isField_58 : decode cX5_isField 58 = .ok (.iload_n 1, 1) := by decide +kernel
theorem dX5_isField_59 : decode cX5_isField 59 = .ok (.iconst 0, 1) := by decide +kernel
theorem dX5_isField_60 : decode cX5_isField 60 = .ok (.bipush 20, 2) := by decide +kernel
theorem dX5_isField_62 : decode cX5_isField 62 = .ok (.invokestatic 70, 3) := by decide +kernel
theorem dX5_isField_65 : decode cX5_isField 65 = .ok (.ireturn, 1) := by decide +kernel
theorem dX5_isField_66 : decode cX5_isField 66 = .ok (.iload_n 1, 1) := by decide +kernel
theorem dX5_isField_67 : decode cX5_isField 67 = .ok (.iconst 0, 1) := by decide +kernel
theorem dX5_isField_68 : decode cX5_isField 68 = .ok (.iconst 1, 1) := by decide +kernel
theorem dX5_isField_69 : decode cX5_isField 69 = .ok (.invokestatic 70, 3) := by decide +kernel
theorem dX5_isField_72 : decode cX5_isField 72 = .ok (.ireturn, 1) := by decide +kernel
theorem dX5_isField_73 : decode cX5_isField 73 = .ok (.iload_n 1, 1) := by decide +kernel
theorem dX5_isField_74 : decode cX5_isField 74 = .ok (.iconst 0, 1) := by decide +kernel
theorem dX5_isField_75 : decode cX5_isField 75 = .ok (.sipush 9999, 3) := by decide +kernel
theorem dX5_isField_78 : decode cX5_isField 78 = .ok (.invokestatic 70, 3) := by decide +kernel
theorem dX5_isField_81 : decode cX5_isField 81 = .ok (.ireturn, 1) := by decide +kernel
theorem dX5_isField_82 : decode cX5_isField 82 = .ok (.iconst 0, 1) := by decide +kernel
theorem dX5_isField_83 : decode cX5_isField 83 = .ok (.ireturn, 1) := by decide +kernel
theorem dX5_change_0 : decode cX5_change 0 = .ok (.aload_n 0, 1) := by decide +kernel
theorem dX5_change_1 : decode cX5_change 1 = .ok (.iload_n 1, 1) := by decide +kernel
theorem dX5_change_2 : decode cX5_change 2 = .ok (.invokevirtual 123, 3) := by decide +kernel
theorem dX5_change_5 : decode cX5_change 5 = .ok (.ifCond .eq 24, 3) := by decide +kernel
theorem dX5_change_8 : decode cX5_change 8 = .ok (.iload_n 2, 1) := by decide +kernel
theorem dX5_change_9 : decode cX5_change 9 = .ok (.iload_n 3, 1) := by decide +kernel
theorem dX5_change_10 : decode cX5_change 10 = .ok (.invokestatic 129, 3) := by decide +kernel
theorem dX5_change_13 : decode cX5_change 13 = .ok (.ifCond .eq 16, 3) := by decide +kernel
theorem dX5_change_16 : decode cX5_change 16 = .ok (.aload_n 0, 1) := by decide +kernel
theorem dX5_change_17 : decode cX5_change 17 = .ok (.iload_n 1, 1) := by decide +kernel
theorem dX5_change_18 : decode cX5_change 18 = .ok (.iload_n 2, 1) := by decide +kernel
theorem dX5_change_19 : decode cX5_change 19 = .ok (.invokestatic 85, 3) := by decide +kernel
theorem dX5_change_22 : decode cX5_change 22 = .ok (.iload_n 3, 1) := by decide +kernel
theorem dX5_change_23 : decode cX5_change 23 = .ok (.invokevirtual 74, 3) := by decide +kernel
theorem dX5_change_26 : decode cX5_change 26 = .ok (.goto 9, 3) := by decide +kernel
theorem dX5_change_29 : decode cX5_change 29 = .ok (.aload_n 0, 1) := by decide +kernel
theorem dX5_change_30 : decode cX5_change 30 = .ok (.ldc 60, 2) := by decide +kernel
theorem dX5_change_32 : decode cX5_change 32 = .ok (.invokevirtual 66, 3) := by decide +kernel
theorem dX5_change_35 : decode cX5_change 35 = .ok (.ireturn, 1) := by decide +kernel
theorem dX5_more_0 : decode cX5_more 0 = .ok (.aload_n 0, 1) := by decide +kernel
theorem dX5_more_1 : decode cX5_more 1 = .ok (.getfield 9, 3) := by decide +kernel
theorem dX5_more_4 : decode cX5_more 4 = .ok (.iload_n 1, 1) := by decide +kernel
theorem dX5_more_5 : decode cX5_more 5 = .ok (.iload_n 3, 1) := by decide +kernel
theorem dX5_more_6 : decode cX5_more 6 = .ok (.aload_n 0, 1) := by decide +kernel
theorem dX5_more_7 : decode cX5_more 7 = .ok (.getfield 9, 3) := by decide +kernel
theorem dX5_more_10 : decode cX5_more 10 = .ok (.iload_n 1, 1) := by decide +kernel
theorem dX5_more_11 : decode cX5_more 11 = .ok (.iaload, 1) := by decide +kernel
theorem dX5_more_12 : decode cX5_more 12 = .ok (.iload_n 2, 1) := by decide +kernel
theorem dX5_more_13 : decode cX5_more 13 = .ok (.iadd, 1) := by decide +kernel
theorem dX5_more_14 : decode cX5_more 14 = .ok (.invokestatic 133, 3) := by decide +kernel
theorem dX5_more_17 : decode cX5_more 17 = .ok (.iastore, 1) := by decide +kernel
theorem dX5_more_18 : decode cX5_more 18 = .ok (.return_, 1) := by decide +kernel
theorem dX5_less_0 : decode cX5_less 0 = .ok (.aload_n 0, 1) := by decide +kernel
theorem dX5_less_1 : decode cX5_less 1 = .ok (.getfield 9, 3) := by decide +kernel
theorem dX5_less_4 : decode cX5_less 4 = .ok (.iload_n 1, 1) := by decide +kernel
theorem dX5_less_5 : decode cX5_less 5 = .ok (.iconst 0, 1) := by decide +kernel
theorem dX5_less_6 : decode cX5_less 6 = .ok (.aload_n 0, 1) := by decide +kernel
theorem dX5_less_7 : decode cX5_less 7 = .ok (.getfield 9, 3) := by decide +kernel
theorem dX5_less_10 : decode cX5_less 10 = .ok (.iload_n 1, 1) := by decide +kernel
theorem dX5_less_11 : decode cX5_less 11 = .ok (.iaload, 1) := by decide +kernel
theorem dX5_less_12 : decode cX5_less 12 = .ok (.iload_n 2, 1) := by decide +kernel
theorem dX5_less_13 : decode cX5_less 13 = .ok (.isub, 1) := by decide +kernel
theorem dX5_less_14 : decode cX5_less 14 = .ok (.invokestatic 138, 3) := by decide +kernel
theorem dX5_less_17 : decode cX5_less 17 = .ok (.iastore, 1) := by decide +kernel
theorem dX5_less_18 : decode cX5_less 18 = .ok (.return_, 1) := by decide +kernel
theorem dX5_pulled_0 : decode cX5_pulled 0 = .ok (.aload_n 0, 1) := by decide +kernel
theorem dX5_pulled_1 : decode cX5_pulled 1 = .ok (.iload_n 1, 1) := by decide +kernel
theorem dX5_pulled_2 : decode cX5_pulled 2 = .ok (.iconst 3, 1) := by decide +kernel
theorem dX5_pulled_3 : decode cX5_pulled 3 = .ok (.invokestatic 85, 3) := by decide +kernel
theorem dX5_pulled_6 : decode cX5_pulled 6 = .ok (.iload_n 2, 1) := by decide +kernel
theorem dX5_pulled_7 : decode cX5_pulled 7 = .ok (.bipush 10, 2) := by decide +kernel
theorem dX5_pulled_9 : decode cX5_pulled 9 = .ok (.idiv, 1) := by decide +kernel
theorem dX5_pulled_10 : decode cX5_pulled 10 = .ok (.aload_n 0, 1) := by decide +kernel
theorem dX5_pulled_11 : decode cX5_pulled 11 = .ok (.iload_n 1, 1) := by decide +kernel
theorem dX5_pulled_12 : decode cX5_pulled 12 = .ok (.invokevirtual 120, 3) := by decide +kernel
theorem dX5_pulled_15 : decode cX5_pulled 15 = .ok (.iadd, 1) := by decide +kernel
theorem dX5_pulled_16 : decode cX5_pulled 16 = .ok (.bipush 20, 2) := by decide +kernel
theorem dX5_pulled_18 : decode cX5_pulled 18 = .ok (.invokevirtual 141, 3) := by decide +kernel
theorem dX5_pulled_21 : decode cX5_pulled 21 = .ok (.aload_n 0, 1) := by decide +kernel
theorem dX5_pulled_22 : decode cX5_pulled 22 = .ok (.iload_n 1, 1) := by decide +kernel
theorem dX5_pulled_23 : decode cX5_pulled 23 = .ok (.iconst 1, 1) := by decide +kernel
theorem dX5_pulled_24 : decode cX5_pulled 24 = .ok (.invokestatic 85, 3) := by decide +kernel
theorem dX5_pulled_27 : decode cX5_pulled 27 = .ok (.iload_n 2, 1) := by decide +kernel
theorem dX5_pulled_28 : decode cX5_pulled 28 = .ok (.iconst 5, 1) := by decide +kernel
theorem dX5_pulled_29 : decode cX5_pulled 29 = .ok (.idiv, 1) := by decide +kernel
theorem dX5_pulled_30 : decode cX5_pulled 30 = .ok (.invokevirtual 145, 3) := by decide +kernel
theorem dX5_pulled_33 : decode cX5_pulled 33 = .ok (.aload_n 0, 1) := by decide +kernel
theorem dX5_pulled_34 : decode cX5_pulled 34 = .ok (.iload_n 1, 1) := by decide +kernel
theorem dX5_pulled_35 : decode cX5_pulled 35 = .ok (.iconst 3, 1) := by decide +kernel
theorem dX5_pulled_36 : decode cX5_pulled 36 = .ok (.invokevirtual 98, 3) := by decide +kernel
theorem dX5_pulled_39 : decode cX5_pulled 39 = .ok (.ireturn, 1) := by decide +kernel
theorem dX5_isTied_0 : decode cX5_isTied 0 = .ok (.aload_n 0, 1) := by decide +kernel
theorem dX5_isTied_1 : decode cX5_isTied 1 = .ok (.iload_n 1, 1) := by decide +kernel
theorem dX5_isTied_2 : decode cX5_isTied 2 = .ok (.iconst 4, 1) := by decide +kernel
theorem dX5_isTied_3 : decode cX5_isTied 3 = .ok (.invokevirtual 98, 3) := by decide +kernel
theorem dX5_isTied_6 : decode cX5_isTied 6 = .ok (.iconst 1, 1) := by decide +kernel
theorem dX5_isTied_7 : decode cX5_isTied 7 = .ok (.if_icmp .ne 7, 3) := by decide +kernel
theorem dX5_isTied_10 : decode cX5_isTied 10 = .ok (.iconst 1, 1) := by decide +kernel
theorem dX5_isTied_11 : decode cX5_isTied 11 = .ok (.goto 4, 3) := by decide +kernel
theorem dX5_isTied_14 : decode cX5_isTied 14 = .ok (.iconst 0, 1) := by decide +kernel
theorem dX5_isTied_15 : decode cX5_isTied 15 = .ok (.ireturn, 1) := by decide +kernel
theorem dX5_pull_0 : decode cX5_pull 0 = .ok (.aload_n 0, 1) := by decide +kernel
theorem dX5_pull_1 : decode cX5_pull 1 = .ok (.iload_n 1, 1) := by decide +kernel
theorem dX5_pull_2 : decode cX5_pull 2 = .ok (.invokevirtual 123, 3) := by decide +kernel
theorem dX5_pull_5 : decode cX5_pull 5 = .ok (.ifCond .eq 13, 3) := by decide +kernel
theorem dX5_pull_8 : decode cX5_pull 8 = .ok (.iload_n 2, 1) := by decide +kernel
theorem dX5_pull_9 : decode cX5_pull 9 = .ok (.iconst 1, 1) := by decide +kernel
theorem dX5_pull_10 : decode cX5_pull 10 = .ok (.bipush 40, 2) := by decide +kernel
theorem dX5_pull_12 : decode cX5_pull 12 = .ok (.invokestatic 70, 3) := by decide +kernel
theorem dX5_pull_15 : decode cX5_pull 15 = .ok (.ifCond .ne 10, 3) := by decide +kernel
theorem dX5_pull_18 : decode cX5_pull 18 = .ok (.aload_n 0, 1) := by decide +kernel
theorem dX5_pull_19 : decode cX5_pull 19 = .ok (.ldc 60, 2) := by decide +kernel
theorem dX5_pull_21 : decode cX5_pull 21 = .ok (.invokevirtual 66, 3) := by decide +kernel
theorem dX5_pull_24 : decode cX5_pull 24 = .ok (.ireturn, 1) := by decide +kernel
theorem dX5_pull_25 : decode cX5_pull 25 = .ok (.aload_n 0, 1) := by decide +kernel
theorem dX5_pull_26 : decode cX5_pull 26 = .ok (.iload_n 1, 1) := by decide +kernel
theorem dX5_pull_27 : decode cX5_pull 27 = .ok (.invokevirtual 149, 3) := by decide +kernel
theorem dX5_pull_30 : decode cX5_pull 30 = .ok (.ifCond .eq 12, 3) := by decide +kernel
theorem dX5_pull_33 : decode cX5_pull 33 = .ok (.aload_n 0, 1) := by decide +kernel
theorem dX5_pull_34 : decode cX5_pull 34 = .ok (.ldc 152, 2) := by decide +kernel
theorem dX5_pull_36 : decode cX5_pull 36 = .ok (.invokevirtual 66, 3) := by decide +kernel
theorem dX5_pull_39 : decode cX5_pull 39 = .ok (.goto 9, 3) := by decide +kernel
theorem dX5_pull_42 : decode cX5_pull 42 = .ok (.aload_n 0, 1) := by decide +kernel
theorem dX5_pull_43 : decode cX5_pull 43 = .ok (.iload_n 1, 1) := by decide +kernel
theorem dX5_pull_44 : decode cX5_pull 44 = .ok (.iload_n 2, 1) := by decide +kernel
theorem dX5_pull_45 : decode cX5_pull 45 = .ok (.invokevirtual 153, 3) := by decide +kernel
theorem dX5_pull_48 : decode cX5_pull 48 = .ok (.ireturn, 1) := by decide +kernel
theorem dX5_comesDown_0 : decode cX5_comesDown 0 = .ok (.aload_n 0, 1) := by decide +kernel
theorem dX5_comesDown_1 : decode cX5_comesDown 1 = .ok (.iload_n 1, 1) := by decide +kernel
theorem dX5_comesDown_2 : decode cX5_comesDown 2 = .ok (.iconst 5, 1) := by decide +kernel
theorem dX5_comesDown_3 : decode cX5_comesDown 3 = .ok (.invokestatic 85, 3) := by decide +kernel
theorem dX5_comesDown_6 : decode cX5_comesDown 6 = .ok (.iconst 1, 1) := by decide +kernel
theorem dX5_comesDown_7 : decode cX5_comesDown 7 = .ok (.sipush 9999, 3) := by decide +kernel
theorem dX5_comesDown_10 : decode cX5_comesDown 10 = .ok (.invokevirtual 141, 3) := by decide +kernel
theorem dX5_comesDown_13 : decode cX5_comesDown 13 = .ok (.aload_n 0, 1) := by decide +kernel
theorem dX5_comesDown_14 : decode cX5_comesDown 14 = .ok (.getfield 9, 3) := by decide +kernel
theorem dX5_comesDown_17 : decode cX5_comesDown 17 = .ok (.iconst 3, 1) := by decide +kernel
theorem dX5_comesDown_18 : decode cX5_comesDown 18 = .ok (.iaload, 1) := by decide +kernel
theorem dX5_comesDown_19 : decode cX5_comesDown 19 = .ok (.iconst 1, 1) := by decide +kernel
theorem dX5_comesDown_20 : decode cX5_comesDown 20 = .ok (.if_icmp .ne 16, 3) := by decide +kernel
theorem dX5_comesDown_23 : decode cX5_comesDown 23 = .ok (.aload_n 0, 1) := by decide +kernel
theorem dX5_comesDown_24 : decode cX5_comesDown 24 = .ok (.iconst 5, 1) := by decide +kernel
theorem dX5_comesDown_25 : decode cX5_comesDown 25 = .ok (.bipush 100, 2) := by decide +kernel
theorem dX5_comesDown_27 : decode cX5_comesDown 27 = .ok (.sipush 900, 3) := by decide +kernel
theorem dX5_comesDown_30 : decode cX5_comesDown 30 = .ok (.invokevirtual 141, 3) := by decide +kernel
theorem dX5_comesDown_33 : decode cX5_comesDown 33 = .ok (.goto 24, 3) := by decide +kernel
theorem dX5_comesDown_36 : decode cX5_comesDown 36 = .ok (.aload_n 0, 1) := by decide +kernel
theorem dX5_comesDown_37 : decode cX5_comesDown 37 = .ok (.iconst 4, 1) := by decide +kernel
theorem dX5_comesDown_38 : decode cX5_comesDown 38 = .ok (.iconst 1, 1) := by decide +kernel
theorem dX5_comesDown_39 : decode cX5_comesDown 39 = .ok (.ldc 156, 2) := by decide +kernel
theorem dX5_comesDown_41 : decode cX5_comesDown 41 = .ok (.invokevirtual 141, 3) := by decide +kernel
theorem dX5_comesDown_44 : decode cX5_comesDown 44 = .ok (.aload_n 0, 1) := by decide +kernel
theorem dX5_comesDown_45 : decode cX5_comesDown 45 = .ok (.iload_n 1, 1) := by decide +kernel
theorem dX5_comesDown_46 : decode cX5_comesDown 46 = .ok (.iconst 1, 1) := by decide +kernel
theorem dX5_comesDown_47 : decode cX5_comesDown 47 = .ok (.invokestatic 85, 3) := by decide +kernel
theorem dX5_comesDown_50 : decode cX5_comesDown 50 = .ok (.bipush 25, 2) := by decide +kernel
theorem dX5_comesDown_52 : decode cX5_comesDown 52 = .ok (.bipush 99, 2) := by decide +kernel
theorem dX5_comesDown_54 : decode cX5_comesDown 54 = .ok (.invokevirtual 141, 3) := by decide +kernel
theorem dX5_comesDown_57 : decode cX5_comesDown 57 = .ok (.return_, 1) := by decide +kernel
theorem dX5_plays_0 : decode cX5_plays 0 = .ok (.aload_n 0, 1) := by decide +kernel
theorem dX5_plays_1 : decode cX5_plays 1 = .ok (.iload_n 1, 1) := by decide +kernel
theorem dX5_plays_2 : decode cX5_plays 2 = .ok (.iconst 2, 1) := by decide +kernel
theorem dX5_plays_3 : decode cX5_plays 3 = .ok (.invokevirtual 98, 3) := by decide +kernel
theorem dX5_plays_6 : decode cX5_plays 6 = .ok (.iload_n 2, 1) := by decide +kernel
theorem dX5_plays_7 : decode cX5_plays 7 = .ok (.ishr, 1) := by decide +kernel
theorem dX5_plays_8 : decode cX5_plays 8 = .ok (.iconst 1, 1) := by decide +kernel
theorem dX5_plays_9 : decode cX5_plays 9 = .ok (.iand, 1) := by decide +kernel
theorem dX5_plays_10 : decode cX5_plays 10 = .ok (.iconst 1, 1) := by decide +kernel
theorem dX5_plays_11 : decode cX5_plays 11 = .ok (.if_icmp .ne 22, 3) := by decide +kernel
theorem dX5_plays_14 : decode cX5_plays 14 = .ok (.aload_n 0, 1) := by decide +kernel
theorem dX5_plays_15 : decode cX5_plays 15 = .ok (.iload_n 1, 1) := by decide +kernel
theorem dX5_plays_16 : decode cX5_plays 16 = .ok (.iconst 1, 1) := by decide +kernel
theorem dX5_plays_17 : decode cX5_plays 17 = .ok (.invokestatic 85, 3) := by decide +kernel
theorem dX5_plays_20 : decode cX5_plays 20 = .ok (.aload_n 0, 1) := by decide +kernel
theorem dX5_plays_21 : decode cX5_plays 21 = .ok (.iload_n 1, 1) := by decide +kernel
theorem dX5_plays_22 : decode cX5_plays 22 = .ok (.invokevirtual 104, 3) := by decide +kernel
theorem dX5_plays_25 : decode cX5_plays 25 = .ok (.bipush 99, 2) := by decide +kernel
theorem dX5_plays_27 : decode cX5_plays 27 = .ok (.invokevirtual 141, 3) := by decide +kernel
theorem dX5_plays_30 : decode cX5_plays 30 = .ok (.goto 18, 3) := by decide +kernel
theorem dX5_plays_33 : decode cX5_plays 33 = .ok (.aload_n 0, 1) := by decide +kernel
theorem dX5_plays_34 : decode cX5_plays 34 = .ok (.iload_n 1, 1) := by decide +kernel
theorem dX5_plays_35 : decode cX5_plays 35 = .ok (.iconst 1, 1) := by decide +kernel
theorem dX5_plays_36 : decode cX5_plays 36 = .ok (.invokestatic 85, 3) := by decide +kernel
theorem dX5_plays_39 : decode cX5_plays 39 = .ok (.aload_n 0, 1) := by decide +kernel
theorem dX5_plays_40 : decode cX5_plays 40 = .ok (.iload_n 1, 1) := by decide +kernel
theorem dX5_plays_41 : decode cX5_plays 41 = .ok (.iload_n 2, 1) := by decide +kernel
theorem dX5_plays_42 : decode cX5_plays 42 = .ok (.invokevirtual 111, 3) := by decide +kernel
theorem dX5_plays_45 : decode cX5_plays 45 = .ok (.invokevirtual 145, 3) := by decide +kernel
theorem dX5_plays_48 : decode cX5_plays 48 = .ok (.aload_n 0, 1) := by decide +kernel
theorem dX5_plays_49 : decode cX5_plays 49 = .ok (.iload_n 1, 1) := by decide +kernel
theorem dX5_plays_50 : decode cX5_plays 50 = .ok (.invokevirtual 149, 3) := by decide +kernel
theorem dX5_plays_53 : decode cX5_plays 53 = .ok (.ifCond .ne 85, 3) := by decide +kernel
theorem dX5_plays_56 : decode cX5_plays 56 = .ok (.aload_n 0, 1) := by decide +kernel
theorem dX5_plays_57 : decode cX5_plays 57 = .ok (.iload_n 1, 1) := by decide +kernel
theorem dX5_plays_58 : decode cX5_plays 58 = .ok (.iconst 3, 1) := by decide +kernel
theorem dX5_plays_59 : decode cX5_plays 59 = .ok (.invokevirtual 98, 3) := by decide +kernel
theorem dX5_plays_62 : decode cX5_plays 62 = .ok (.istore_n 3, 1) := by decide +kernel
theorem dX5_plays_63 : decode cX5_plays 63 = .ok (.aload_n 0, 1) := by decide +kernel
theorem dX5_plays_64 : decode cX5_plays 64 = .ok (.getfield 9, 3) := by decide +kernel
theorem dX5_plays_67 : decode cX5_plays 67 = .ok (.iconst 3, 1) := by decide +kernel
theorem dX5_plays_68 : decode cX5_plays 68 = .ok (.iaload, 1) := by decide +kernel
theorem dX5_plays_69 : decode cX5_plays 69 = .ok (.iconst 1, 1) := by decide +kernel
theorem dX5_plays_70 : decode cX5_plays 70 = .ok (.if_icmp .eq 17, 3) := by decide +kernel
theorem dX5_plays_73 : decode cX5_plays 73 = .ok (.aload_n 0, 1) := by decide +kernel
theorem dX5_plays_74 : decode cX5_plays 74 = .ok (.iload_n 1, 1) := by decide +kernel
theorem dX5_plays_75 : decode cX5_plays 75 = .ok (.iconst 1, 1) := by decide +kernel
theorem dX5_plays_76 : decode cX5_plays 76 = .ok (.invokevirtual 98, 3) := by decide +kernel
theorem dX5_plays_79 : decode cX5_plays 79 = .ok (.aload_n 0, 1) := by decide +kernel
theorem dX5_plays_80 : decode cX5_plays 80 = .ok (.iload_n 1, 1) := by decide +kernel
theorem dX5_plays_81 : decode cX5_plays 81 = .ok (.invokevirtual 114, 3) := by decide +kernel
theorem dX5_plays_84 : decode cX5_plays 84 = .ok (.if_icmp .ge 20, 3) := by decide +kernel
theorem dX5_plays_87 : decode cX5_plays 87 = .ok (.aload_n 0, 1) := by decide +kernel
theorem dX5_plays_88 : decode cX5_plays 88 = .ok (.iload_n 1, 1) := by decide +kernel
theorem dX5_plays_89 : decode cX5_plays 89 = .ok (.iconst 3, 1) := by decide +kernel
theorem dX5_plays_90 : decode cX5_plays 90 = .ok (.invokestatic 85, 3) := by decide +kernel
theorem dX5_plays_93 : decode cX5_plays 93 = .ok (.aload_n 0, 1) := by decide +kernel
theorem dX5_plays_94 : decode cX5_plays 94 = .ok (.iload_n 1, 1) := by decide +kernel
theorem dX5_plays_95 : decode cX5_plays 95 = .ok (.invokevirtual 117, 3) := by decide +kernel
theorem dX5_plays_98 : decode cX5_plays 98 = .ok (.invokevirtual 145, 3) := by decide +kernel
theorem dX5_plays_101 : decode cX5_plays 101 = .ok (.goto 19, 3) := by decide +kernel
theorem dX5_plays_104 : decode cX5_plays 104 = .ok (.aload_n 0, 1) := by decide +kernel
theorem dX5_plays_105 : decode cX5_plays 105 = .ok (.iload_n 1, 1) := by decide +kernel
theorem dX5_plays_106 : decode cX5_plays 106 = .ok (.iconst 3, 1) := by decide +kernel
theorem dX5_plays_107 : decode cX5_plays 107 = .ok (.invokestatic 85, 3) := by decide +kernel
theorem dX5_plays_110 : decode cX5_plays 110 = .ok (.aload_n 0, 1) := by decide +kernel
theorem dX5_plays_111 : decode cX5_plays 111 = .ok (.iload_n 1, 1) := by decide +kernel
theorem dX5_plays_112 : decode cX5_plays 112 = .ok (.invokevirtual 120, 3) := by decide +kernel
theorem dX5_plays_115 : decode cX5_plays 115 = .ok (.bipush 20, 2) := by decide +kernel
theorem dX5_plays_117 : decode cX5_plays 117 = .ok (.invokevirtual 141, 3) := by decide +kernel
theorem dX5_plays_120 : decode cX5_plays 120 = .ok (.iload_n 3, 1) := by decide +kernel
theorem dX5_plays_121 : decode cX5_plays 121 = .ok (.ifCond .le 17, 3) := by decide +kernel
theorem dX5_plays_124 : decode cX5_plays 124 = .ok (.aload_n 0, 1) := by decide +kernel
theorem dX5_plays_125 : decode cX5_plays 125 = .ok (.iload_n 1, 1) := by decide +kernel
theorem dX5_plays_126 : decode cX5_plays 126 = .ok (.iconst 3, 1) := by decide +kernel
theorem dX5_plays_127 : decode cX5_plays 127 = .ok (.invokevirtual 98, 3) := by decide +kernel
theorem dX5_plays_130 : decode cX5_plays 130 = .ok (.ifCond .ne 8, 3) := by decide +kernel
theorem dX5_plays_133 : decode cX5_plays 133 = .ok (.aload_n 0, 1) := by decide +kernel
theorem dX5_plays_134 : decode cX5_plays 134 = .ok (.iload_n 1, 1) := by decide +kernel
theorem dX5_plays_135 : decode cX5_plays 135 = .ok (.invokevirtual 157, 3) := by decide +kernel
theorem dX5_plays_138 : decode cX5_plays 138 = .ok (.return_, 1) := by decide +kernel
theorem dX5_beat_0 : decode cX5_beat 0 = .ok (.aload_n 0, 1) := by decide +kernel
theorem dX5_beat_1 : decode cX5_beat 1 = .ok (.getfield 9, 3) := by decide +kernel
theorem dX5_beat_4 : decode cX5_beat 4 = .ok (.aload_n 0, 1) := by decide +kernel
theorem dX5_beat_5 : decode cX5_beat 5 = .ok (.invokevirtual 107, 3) := by decide +kernel
theorem dX5_beat_8 : decode cX5_beat 8 = .ok (.iaload, 1) := by decide +kernel
theorem dX5_beat_9 : decode cX5_beat 9 = .ok (.istore_n 1, 1) := by decide +kernel
theorem dX5_beat_10 : decode cX5_beat 10 = .ok (.iconst 0, 1) := by decide +kernel
theorem dX5_beat_11 : decode cX5_beat 11 = .ok (.istore_n 2, 1) := by decide +kernel
theorem dX5_beat_12 : decode cX5_beat 12 = .ok (.iload_n 2, 1) := by decide +kernel
theorem dX5_beat_13 : decode cX5_beat 13 = .ok (.aload_n 0, 1) := by decide +kernel
theorem dX5_beat_14 : decode cX5_beat 14 = .ok (.getfield 9, 3) := by decide +kernel
theorem dX5_beat_17 : decode cX5_beat 17 = .ok (.iconst 1, 1) := by decide +kernel
theorem dX5_beat_18 : decode cX5_beat 18 = .ok (.iaload, 1) := by decide +kernel
theorem dX5_beat_19 : decode cX5_beat 19 = .ok (.if_icmp .ge 15, 3) := by decide +kernel
theorem dX5_beat_22 : decode cX5_beat 22 = .ok (.aload_n 0, 1) := by decide +kernel
theorem dX5_beat_23 : decode cX5_beat 23 = .ok (.iload_n 2, 1) := by decide +kernel
theorem dX5_beat_24 : decode cX5_beat 24 = .ok (.iload_n 1, 1) := by decide +kernel
theorem dX5_beat_25 : decode cX5_beat 25 = .ok (.invokevirtual 161, 3) := by decide +kernel
theorem dX5_beat_28 : decode cX5_beat 28 = .ok (.iinc 2 1, 3) := by decide +kernel
theorem dX5_beat_31 : decode cX5_beat 31 = .ok (.goto (-19), 3) := by decide +kernel
theorem dX5_beat_34 : decode cX5_beat 34 = .ok (.aload_n 0, 1) := by decide +kernel
theorem dX5_beat_35 : decode cX5_beat 35 = .ok (.iconst 0, 1) := by decide +kernel
theorem dX5_beat_36 : decode cX5_beat 36 = .ok (.iconst 1, 1) := by decide +kernel
theorem dX5_beat_37 : decode cX5_beat 37 = .ok (.ldc 156, 2) := by decide +kernel
theorem dX5_beat_39 : decode cX5_beat 39 = .ok (.invokevirtual 141, 3) := by decide +kernel
theorem dX5_beat_42 : decode cX5_beat 42 = .ok (.return_, 1) := by decide +kernel
theorem dX5_beatsGo_0 : decode cX5_beatsGo 0 = .ok (.iconst 0, 1) := by decide +kernel
theorem dX5_beatsGo_1 : decode cX5_beatsGo 1 = .ok (.istore_n 2, 1) := by decide +kernel
theorem dX5_beatsGo_2 : decode cX5_beatsGo 2 = .ok (.iload_n 2, 1) := by decide +kernel
theorem dX5_beatsGo_3 : decode cX5_beatsGo 3 = .ok (.iload_n 1, 1) := by decide +kernel
theorem dX5_beatsGo_4 : decode cX5_beatsGo 4 = .ok (.if_icmp .ge 13, 3) := by decide +kernel
theorem dX5_beatsGo_7 : decode cX5_beatsGo 7 = .ok (.aload_n 0, 1) := by decide +kernel
theorem dX5_beatsGo_8 : decode cX5_beatsGo 8 = .ok (.invokevirtual 164, 3) := by decide +kernel
theorem dX5_beatsGo_11 : decode cX5_beatsGo 11 = .ok (.iinc 2 1, 3) := by decide +kernel
theorem dX5_beatsGo_14 : decode cX5_beatsGo 14 = .ok (.goto (-12), 3) := by decide +kernel
theorem dX5_beatsGo_17 : decode cX5_beatsGo 17 = .ok (.return_, 1) := by decide +kernel
theorem dX5_go_0 : decode cX5_go 0 = .ok (.iload_n 1, 1) := by decide +kernel
theorem dX5_go_1 : decode cX5_go 1 = .ok (.iconst 1, 1) := by decide +kernel
theorem dX5_go_2 : decode cX5_go 2 = .ok (.bipush 60, 2) := by decide +kernel
theorem dX5_go_4 : decode cX5_go 4 = .ok (.invokestatic 70, 3) := by decide +kernel
theorem dX5_go_7 : decode cX5_go 7 = .ok (.ifCond .ne 10, 3) := by decide +kernel
theorem dX5_go_10 : decode cX5_go 10 = .ok (.aload_n 0, 1) := by decide +kernel
theorem dX5_go_11 : decode cX5_go 11 = .ok (.ldc 60, 2) := by decide +kernel
theorem dX5_go_13 : decode cX5_go 13 = .ok (.invokevirtual 66, 3) := by decide +kernel
theorem dX5_go_16 : decode cX5_go 16 = .ok (.ireturn, 1) := by decide +kernel
theorem dX5_go_17 : decode cX5_go 17 = .ok (.aload_n 0, 1) := by decide +kernel
theorem dX5_go_18 : decode cX5_go 18 = .ok (.getfield 9, 3) := by decide +kernel
theorem dX5_go_21 : decode cX5_go 21 = .ok (.iconst 0, 1) := by decide +kernel
theorem dX5_go_22 : decode cX5_go 22 = .ok (.iaload, 1) := by decide +kernel
theorem dX5_go_23 : decode cX5_go 23 = .ok (.iload_n 1, 1) := by decide +kernel
theorem dX5_go_24 : decode cX5_go 24 = .ok (.iadd, 1) := by decide +kernel
theorem dX5_go_25 : decode cX5_go 25 = .ok (.ldc 156, 2) := by decide +kernel
theorem dX5_go_27 : decode cX5_go 27 = .ok (.if_icmp .le 10, 3) := by decide +kernel
theorem dX5_go_30 : decode cX5_go 30 = .ok (.aload_n 0, 1) := by decide +kernel
theorem dX5_go_31 : decode cX5_go 31 = .ok (.ldc 152, 2) := by decide +kernel
theorem dX5_go_33 : decode cX5_go 33 = .ok (.invokevirtual 66, 3) := by decide +kernel
theorem dX5_go_36 : decode cX5_go 36 = .ok (.ireturn, 1) := by decide +kernel
theorem dX5_go_37 : decode cX5_go 37 = .ok (.aload_n 0, 1) := by decide +kernel
theorem dX5_go_38 : decode cX5_go 38 = .ok (.iload_n 1, 1) := by decide +kernel
theorem dX5_go_39 : decode cX5_go 39 = .ok (.invokevirtual 167, 3) := by decide +kernel
theorem dX5_go_42 : decode cX5_go 42 = .ok (.aload_n 0, 1) := by decide +kernel
theorem dX5_go_43 : decode cX5_go 43 = .ok (.getfield 9, 3) := by decide +kernel
theorem dX5_go_46 : decode cX5_go 46 = .ok (.iconst 4, 1) := by decide +kernel
theorem dX5_go_47 : decode cX5_go 47 = .ok (.iaload, 1) := by decide +kernel
theorem dX5_go_48 : decode cX5_go 48 = .ok (.ireturn, 1) := by decide +kernel
theorem dX5_downOnes_0 : decode cX5_downOnes 0 = .ok (.iconst 0, 1) := by decide +kernel
theorem dX5_downOnes_1 : decode cX5_downOnes 1 = .ok (.istore_n 1, 1) := by decide +kernel
theorem dX5_downOnes_2 : decode cX5_downOnes 2 = .ok (.iconst 0, 1) := by decide +kernel
theorem dX5_downOnes_3 : decode cX5_downOnes 3 = .ok (.istore_n 2, 1) := by decide +kernel
theorem dX5_downOnes_4 : decode cX5_downOnes 4 = .ok (.iload_n 2, 1) := by decide +kernel
theorem dX5_downOnes_5 : decode cX5_downOnes 5 = .ok (.aload_n 0, 1) := by decide +kernel
theorem dX5_downOnes_6 : decode cX5_downOnes 6 = .ok (.getfield 9, 3) := by decide +kernel
theorem dX5_downOnes_9 : decode cX5_downOnes 9 = .ok (.iconst 1, 1) := by decide +kernel
theorem dX5_downOnes_10 : decode cX5_downOnes 10 = .ok (.iaload, 1) := by decide +kernel
theorem dX5_downOnes_11 : decode cX5_downOnes 11 = .ok (.if_icmp .ge 28, 3) := by decide +kernel
theorem dX5_downOnes_14 : decode cX5_downOnes 14 = .ok (.iload_n 1, 1) := by decide +kernel
theorem dX5_downOnes_15 : decode cX5_downOnes 15 = .ok (.aload_n 0, 1) := by decide +kernel
theorem dX5_downOnes_16 : decode cX5_downOnes 16 = .ok (.iload_n 2, 1) := by decide +kernel
theorem dX5_downOnes_17 : decode cX5_downOnes 17 = .ok (.iconst 3, 1) := by decide +kernel
theorem dX5_downOnes_18 : decode cX5_downOnes 18 = .ok (.invokevirtual 98, 3) := by decide +kernel
theorem dX5_downOnes_21 : decode cX5_downOnes 21 = .ok (.ifCond .ne 9, 3) := by decide +kernel
theorem dX5_downOnes_24 : decode cX5_downOnes 24 = .ok (.iconst 1, 1) := by decide +kernel
theorem dX5_downOnes_25 : decode cX5_downOnes 25 = .ok (.iload_n 2, 1) := by decide +kernel
theorem dX5_downOnes_26 : decode cX5_downOnes 26 = .ok (.ishl, 1) := by decide +kernel
theorem dX5_downOnes_27 : decode cX5_downOnes 27 = .ok (.goto 4, 3) := by decide +kernel
theorem dX5_downOnes_30 : decode cX5_downOnes 30 = .ok (.iconst 0, 1) := by decide +kernel
theorem dX5_downOnes_31 : decode cX5_downOnes 31 = .ok (.ior, 1) := by decide +kernel
theorem dX5_downOnes_32 : decode cX5_downOnes 32 = .ok (.istore_n 1, 1) := by decide +kernel
theorem dX5_downOnes_33 : decode cX5_downOnes 33 = .ok (.iinc 2 1, 3) := by decide +kernel
theorem dX5_downOnes_36 : decode cX5_downOnes 36 = .ok (.goto (-32), 3) := by decide +kernel
theorem dX5_downOnes_39 : decode cX5_downOnes 39 = .ok (.iload_n 1, 1) := by decide +kernel
theorem dX5_downOnes_40 : decode cX5_downOnes 40 = .ok (.ireturn, 1) := by decide +kernel
theorem dX5_wearyOnes_0 : decode cX5_wearyOnes 0 = .ok (.iconst 0, 1) := by decide +kernel
theorem dX5_wearyOnes_1 : decode cX5_wearyOnes 1 = .ok (.istore_n 1, 1) := by decide +kernel
theorem dX5_wearyOnes_2 : decode cX5_wearyOnes 2 = .ok (.iconst 0, 1) := by decide +kernel
theorem dX5_wearyOnes_3 : decode cX5_wearyOnes 3 = .ok (.istore_n 2, 1) := by decide +kernel
theorem dX5_wearyOnes_4 : decode cX5_wearyOnes 4 = .ok (.iload_n 2, 1) := by decide +kernel
theorem dX5_wearyOnes_5 : decode cX5_wearyOnes 5 = .ok (.aload_n 0, 1) := by decide +kernel
theorem dX5_wearyOnes_6 : decode cX5_wearyOnes 6 = .ok (.getfield 9, 3) := by decide +kernel
theorem dX5_wearyOnes_9 : decode cX5_wearyOnes 9 = .ok (.iconst 1, 1) := by decide +kernel
theorem dX5_wearyOnes_10 : decode cX5_wearyOnes 10 = .ok (.iaload, 1) := by decide +kernel
theorem dX5_wearyOnes_11 : decode cX5_wearyOnes 11 = .ok (.if_icmp .ge 33, 3) := by decide +kernel
theorem dX5_wearyOnes_14 : decode cX5_wearyOnes 14 = .ok (.iload_n 1, 1) := by decide +kernel
theorem dX5_wearyOnes_15 : decode cX5_wearyOnes 15 = .ok (.aload_n 0, 1) := by decide +kernel
theorem dX5_wearyOnes_16 : decode cX5_wearyOnes 16 = .ok (.iload_n 2, 1) := by decide +kernel
theorem dX5_wearyOnes_17 : decode cX5_wearyOnes 17 = .ok (.iconst 1, 1) := by decide +kernel
theorem dX5_wearyOnes_18 : decode cX5_wearyOnes 18 = .ok (.invokevirtual 98, 3) := by decide +kernel
theorem dX5_wearyOnes_21 : decode cX5_wearyOnes 21 = .ok (.aload_n 0, 1) := by decide +kernel
theorem dX5_wearyOnes_22 : decode cX5_wearyOnes 22 = .ok (.iload_n 2, 1) := by decide +kernel
theorem dX5_wearyOnes_23 : decode cX5_wearyOnes 23 = .ok (.invokevirtual 114, 3) := by decide +kernel
theorem dX5_wearyOnes_26 : decode cX5_wearyOnes 26 = .ok (.if_icmp .ge 9, 3) := by decide +kernel
theorem dX5_wearyOnes_29 : decode cX5_wearyOnes 29 = .ok (.iconst 1, 1) := by decide +kernel
theorem dX5_wearyOnes_30 : decode cX5_wearyOnes 30 = .ok (.iload_n 2, 1) := by decide +kernel
theorem dX5_wearyOnes_31 : decode cX5_wearyOnes 31 = .ok (.ishl, 1) := by decide +kernel
theorem dX5_wearyOnes_32 : decode cX5_wearyOnes 32 = .ok (.goto 4, 3) := by decide +kernel
theorem dX5_wearyOnes_35 : decode cX5_wearyOnes 35 = .ok (.iconst 0, 1) := by decide +kernel
theorem dX5_wearyOnes_36 : decode cX5_wearyOnes 36 = .ok (.ior, 1) := by decide +kernel
theorem dX5_wearyOnes_37 : decode cX5_wearyOnes 37 = .ok (.istore_n 1, 1) := by decide +kernel
theorem dX5_wearyOnes_38 : decode cX5_wearyOnes 38 = .ok (.iinc 2 1, 3) := by decide +kernel
theorem dX5_wearyOnes_41 : decode cX5_wearyOnes 41 = .ok (.goto (-37), 3) := by decide +kernel
theorem dX5_wearyOnes_44 : decode cX5_wearyOnes 44 = .ok (.iload_n 1, 1) := by decide +kernel
theorem dX5_wearyOnes_45 : decode cX5_wearyOnes 45 = .ok (.ireturn, 1) := by decide +kernel
theorem dX5_moods_0 : decode cX5_moods 0 = .ok (.iconst 0, 1) := by decide +kernel
theorem dX5_moods_1 : decode cX5_moods 1 = .ok (.istore_n 1, 1) := by decide +kernel
theorem dX5_moods_2 : decode cX5_moods 2 = .ok (.iconst 0, 1) := by decide +kernel
theorem dX5_moods_3 : decode cX5_moods 3 = .ok (.istore_n 2, 1) := by decide +kernel
theorem dX5_moods_4 : decode cX5_moods 4 = .ok (.iload_n 2, 1) := by decide +kernel
theorem dX5_moods_5 : decode cX5_moods 5 = .ok (.aload_n 0, 1) := by decide +kernel
theorem dX5_moods_6 : decode cX5_moods 6 = .ok (.getfield 9, 3) := by decide +kernel
theorem dX5_moods_9 : decode cX5_moods 9 = .ok (.iconst 1, 1) := by decide +kernel
theorem dX5_moods_10 : decode cX5_moods 10 = .ok (.iaload, 1) := by decide +kernel
theorem dX5_moods_11 : decode cX5_moods 11 = .ok (.if_icmp .ge 18, 3) := by decide +kernel
theorem dX5_moods_14 : decode cX5_moods 14 = .ok (.iload_n 1, 1) := by decide +kernel
theorem dX5_moods_15 : decode cX5_moods 15 = .ok (.aload_n 0, 1) := by decide +kernel
theorem dX5_moods_16 : decode cX5_moods 16 = .ok (.iload_n 2, 1) := by decide +kernel
theorem dX5_moods_17 : decode cX5_moods 17 = .ok (.iconst 1, 1) := by decide +kernel
theorem dX5_moods_18 : decode cX5_moods 18 = .ok (.invokevirtual 98, 3) := by decide +kernel
theorem dX5_moods_21 : decode cX5_moods 21 = .ok (.iadd, 1) := by decide +kernel
theorem dX5_moods_22 : decode cX5_moods 22 = .ok (.istore_n 1, 1) := by decide +kernel
theorem dX5_moods_23 : decode cX5_moods 23 = .ok (.iinc 2 1, 3) := by decide +kernel
theorem dX5_moods_26 : decode cX5_moods 26 = .ok (.goto (-22), 3) := by decide +kernel
theorem dX5_moods_29 : decode cX5_moods 29 = .ok (.iload_n 1, 1) := by decide +kernel
theorem dX5_moods_30 : decode cX5_moods 30 = .ok (.ireturn, 1) := by decide +kernel
theorem dX5_liked_0 : decode cX5_liked 0 = .ok (.iconst 0, 1) := by decide +kernel
theorem dX5_liked_1 : decode cX5_liked 1 = .ok (.istore_n 1, 1) := by decide +kernel
theorem dX5_liked_2 : decode cX5_liked 2 = .ok (.iconst 0, 1) := by decide +kernel
theorem dX5_liked_3 : decode cX5_liked 3 = .ok (.istore_n 2, 1) := by decide +kernel
theorem dX5_liked_4 : decode cX5_liked 4 = .ok (.iload_n 2, 1) := by decide +kernel
theorem dX5_liked_5 : decode cX5_liked 5 = .ok (.aload_n 0, 1) := by decide +kernel
theorem dX5_liked_6 : decode cX5_liked 6 = .ok (.getfield 9, 3) := by decide +kernel
theorem dX5_liked_9 : decode cX5_liked 9 = .ok (.iconst 1, 1) := by decide +kernel
theorem dX5_liked_10 : decode cX5_liked 10 = .ok (.iaload, 1) := by decide +kernel
theorem dX5_liked_11 : decode cX5_liked 11 = .ok (.if_icmp .ge 18, 3) := by decide +kernel
theorem dX5_liked_14 : decode cX5_liked 14 = .ok (.iload_n 1, 1) := by decide +kernel
theorem dX5_liked_15 : decode cX5_liked 15 = .ok (.aload_n 0, 1) := by decide +kernel
theorem dX5_liked_16 : decode cX5_liked 16 = .ok (.iload_n 2, 1) := by decide +kernel
theorem dX5_liked_17 : decode cX5_liked 17 = .ok (.iconst 2, 1) := by decide +kernel
theorem dX5_liked_18 : decode cX5_liked 18 = .ok (.invokevirtual 98, 3) := by decide +kernel
theorem dX5_liked_21 : decode cX5_liked 21 = .ok (.ior, 1) := by decide +kernel
theorem dX5_liked_22 : decode cX5_liked 22 = .ok (.istore_n 1, 1) := by decide +kernel
theorem dX5_liked_23 : decode cX5_liked 23 = .ok (.iinc 2 1, 3) := by decide +kernel
theorem dX5_liked_26 : decode cX5_liked 26 = .ok (.goto (-22), 3) := by decide +kernel
theorem dX5_liked_29 : decode cX5_liked 29 = .ok (.iload_n 1, 1) := by decide +kernel
theorem dX5_liked_30 : decode cX5_liked 30 = .ok (.ireturn, 1) := by decide +kernel
theorem dX5_now_0 : decode cX5_now 0 = .ok (.iload_n 1, 1) := by decide +kernel
theorem dX5_now_1 : decode cX5_now 1 = .ok (.tableswitch 95 0 7 #[47, 54, 61, 68, 73, 78, 83, 88], 47) := by decide +kernel
theorem dX5_now_48 : decode cX5_now 48 = .ok (.aload_n 0, 1) := by decide +kernel
theorem dX5_now_49 : decode cX5_now 49 = .ok (.getfield 9, 3) := by decide +kernel
theorem dX5_now_52 : decode cX5_now 52 = .ok (.iconst 0, 1) := by decide +kernel
theorem dX5_now_53 : decode cX5_now 53 = .ok (.iaload, 1) := by decide +kernel
theorem dX5_now_54 : decode cX5_now 54 = .ok (.ireturn, 1) := by decide +kernel
theorem dX5_now_55 : decode cX5_now 55 = .ok (.aload_n 0, 1) := by decide +kernel
theorem dX5_now_56 : decode cX5_now 56 = .ok (.getfield 9, 3) := by decide +kernel
theorem dX5_now_59 : decode cX5_now 59 = .ok (.iconst 4, 1) := by decide +kernel
theorem dX5_now_60 : decode cX5_now 60 = .ok (.iaload, 1) := by decide +kernel
theorem dX5_now_61 : decode cX5_now 61 = .ok (.ireturn, 1) := by decide +kernel
theorem dX5_now_62 : decode cX5_now 62 = .ok (.aload_n 0, 1) := by decide +kernel
theorem dX5_now_63 : decode cX5_now 63 = .ok (.getfield 9, 3) := by decide +kernel
theorem dX5_now_66 : decode cX5_now 66 = .ok (.iconst 5, 1) := by decide +kernel
theorem dX5_now_67 : decode cX5_now 67 = .ok (.iaload, 1) := by decide +kernel
theorem dX5_now_68 : decode cX5_now 68 = .ok (.ireturn, 1) := by decide +kernel
theorem dX5_now_69 : decode cX5_now 69 = .ok (.aload_n 0, 1) := by decide +kernel
theorem dX5_now_70 : decode cX5_now 70 = .ok (.invokevirtual 170, 3) := by decide +kernel
theorem dX5_now_73 : decode cX5_now 73 = .ok (.ireturn, 1) := by decide +kernel
theorem dX5_now_74 : decode cX5_now 74 = .ok (.aload_n 0, 1) := by decide +kernel
theorem dX5_now_75 : decode cX5_now 75 = .ok (.invokevirtual 173, 3) := by decide +kernel
theorem dX5_now_78 : decode cX5_now 78 = .ok (.ireturn, 1) := by decide +kernel
theorem dX5_now_79 : decode cX5_now 79 = .ok (.aload_n 0, 1) := by decide +kernel
theorem dX5_now_80 : decode cX5_now 80 = .ok (.invokevirtual 176, 3) := by decide +kernel
theorem dX5_now_83 : decode cX5_now 83 = .ok (.ireturn, 1) := by decide +kernel
theorem dX5_now_84 : decode cX5_now 84 = .ok (.aload_n 0, 1) := by decide +kernel
theorem dX5_now_85 : decode cX5_now 85 = .ok (.invokevirtual 179, 3) := by decide +kernel
theorem dX5_now_88 : decode cX5_now 88 = .ok (.ireturn, 1) := by decide +kernel
theorem dX5_now_89 : decode cX5_now 89 = .ok (.aload_n 0, 1) := by decide +kernel
theorem dX5_now_90 : decode cX5_now 90 = .ok (.getfield 9, 3) := by decide +kernel
theorem dX5_now_93 : decode cX5_now 93 = .ok (.iconst 3, 1) := by decide +kernel
theorem dX5_now_94 : decode cX5_now 94 = .ok (.iaload, 1) := by decide +kernel
theorem dX5_now_95 : decode cX5_now 95 = .ok (.ireturn, 1) := by decide +kernel
theorem dX5_now_96 : decode cX5_now 96 = .ok (.aload_n 0, 1) := by decide +kernel
theorem dX5_now_97 : decode cX5_now 97 = .ok (.ldc 60, 2) := by decide +kernel
theorem dX5_now_99 : decode cX5_now 99 = .ok (.invokevirtual 66, 3) := by decide +kernel
theorem dX5_now_102 : decode cX5_now 102 = .ok (.ireturn, 1) := by decide +kernel
theorem dX5_behind_0 : decode cX5_behind 0 = .ok (.aload_n 0, 1) := by decide +kernel
theorem dX5_behind_1 : decode cX5_behind 1 = .ok (.getfield 9, 3) := by decide +kernel
theorem dX5_behind_4 : decode cX5_behind 4 = .ok (.aload_n 0, 1) := by decide +kernel
theorem dX5_behind_5 : decode cX5_behind 5 = .ok (.getfield 16, 3) := by decide +kernel
theorem dX5_behind_8 : decode cX5_behind 8 = .ok (.invokestatic 61, 3) := by decide +kernel
theorem dX5_behind_11 : decode cX5_behind 11 = .ok (.aload_n 0, 1) := by decide +kernel
theorem dX5_behind_12 : decode cX5_behind 12 = .ok (.iload_n 2, 1) := by decide +kernel
theorem dX5_behind_13 : decode cX5_behind 13 = .ok (.invokevirtual 167, 3) := by decide +kernel
theorem dX5_behind_16 : decode cX5_behind 16 = .ok (.aload_n 0, 1) := by decide +kernel
theorem dX5_behind_17 : decode cX5_behind 17 = .ok (.aload_n 0, 1) := by decide +kernel
theorem dX5_behind_18 : decode cX5_behind 18 = .ok (.getfield 9, 3) := by decide +kernel
theorem dX5_behind_21 : decode cX5_behind 21 = .ok (.iload_n 1, 1) := by decide +kernel
theorem dX5_behind_22 : decode cX5_behind 22 = .ok (.iaload, 1) := by decide +kernel
theorem dX5_behind_23 : decode cX5_behind 23 = .ok (.invokevirtual 182, 3) := by decide +kernel
theorem dX5_behind_26 : decode cX5_behind 26 = .ok (.ireturn, 1) := by decide +kernel
theorem dX5_ahead_0 : decode cX5_ahead 0 = .ok (.iload_n 2, 1) := by decide +kernel
theorem dX5_ahead_1 : decode cX5_ahead 1 = .ok (.iconst 1, 1) := by decide +kernel
theorem dX5_ahead_2 : decode cX5_ahead 2 = .ok (.if_icmp .eq 19, 3) := by decide +kernel
theorem dX5_ahead_5 : decode cX5_ahead 5 = .ok (.iload_n 2, 1) := by decide +kernel
theorem dX5_ahead_6 : decode cX5_ahead 6 = .ok (.iconst 3, 1) := by decide +kernel
theorem dX5_ahead_7 : decode cX5_ahead 7 = .ok (.if_icmp .eq 14, 3) := by decide +kernel
theorem dX5_ahead_10 : decode cX5_ahead 10 = .ok (.iload_n 2, 1) := by decide +kernel
theorem dX5_ahead_11 : decode cX5_ahead 11 = .ok (.iconst 5, 1) := by decide +kernel
theorem dX5_ahead_12 : decode cX5_ahead 12 = .ok (.if_icmp .eq 9, 3) := by decide +kernel
theorem dX5_ahead_15 : decode cX5_ahead 15 = .ok (.iload_n 2, 1) := by decide +kernel
theorem dX5_ahead_16 : decode cX5_ahead 16 = .ok (.bipush 8, 2) := by decide +kernel
theorem dX5_ahead_18 : decode cX5_ahead 18 = .ok (.if_icmp .ne 7, 3) := by decide +kernel
theorem dX5_ahead_21 : decode cX5_ahead 21 = .ok (.iconst 1, 1) := by decide +kernel
theorem dX5_ahead_22 : decode cX5_ahead 22 = .ok (.goto 4, 3) := by decide +kernel
theorem dX5_ahead_25 : decode cX5_ahead 25 = .ok (.iconst 0, 1) := by decide +kernel
theorem dX5_ahead_26 : decode cX5_ahead 26 = .ok (.istore 4, 2) := by decide +kernel
theorem dX5_ahead_28 : decode cX5_ahead 28 = .ok (.aload_n 0, 1) := by decide +kernel
theorem dX5_ahead_29 : decode cX5_ahead 29 = .ok (.iload_n 1, 1) := by decide +kernel
theorem dX5_ahead_30 : decode cX5_ahead 30 = .ok (.invokevirtual 123, 3) := by decide +kernel
theorem dX5_ahead_33 : decode cX5_ahead 33 = .ok (.ifCond .eq 18, 3) := by decide +kernel
theorem dX5_ahead_36 : decode cX5_ahead 36 = .ok (.iload 4, 2) := by decide +kernel
theorem dX5_ahead_38 : decode cX5_ahead 38 = .ok (.ifCond .eq 13, 3) := by decide +kernel
theorem dX5_ahead_41 : decode cX5_ahead 41 = .ok (.iload_n 3, 1) := by decide +kernel
theorem dX5_ahead_42 : decode cX5_ahead 42 = .ok (.iconst 0, 1) := by decide +kernel
theorem dX5_ahead_43 : decode cX5_ahead 43 = .ok (.bipush 100, 2) := by decide +kernel
theorem dX5_ahead_45 : decode cX5_ahead 45 = .ok (.invokestatic 70, 3) := by decide +kernel
theorem dX5_ahead_48 : decode cX5_ahead 48 = .ok (.ifCond .ne 10, 3) := by decide +kernel
theorem dX5_ahead_51 : decode cX5_ahead 51 = .ok (.aload_n 0, 1) := by decide +kernel
theorem dX5_ahead_52 : decode cX5_ahead 52 = .ok (.ldc 60, 2) := by decide +kernel
theorem dX5_ahead_54 : decode cX5_ahead 54 = .ok (.invokevirtual 66, 3) := by decide +kernel
theorem dX5_ahead_57 : decode cX5_ahead 57 = .ok (.ireturn, 1) := by decide +kernel
theorem dX5_ahead_58 : decode cX5_ahead 58 = .ok (.aload_n 0, 1) := by decide +kernel
theorem dX5_ahead_59 : decode cX5_ahead 59 = .ok (.getfield 9, 3) := by decide +kernel
theorem dX5_ahead_62 : decode cX5_ahead 62 = .ok (.aload_n 0, 1) := by decide +kernel
theorem dX5_ahead_63 : decode cX5_ahead 63 = .ok (.getfield 16, 3) := by decide +kernel
theorem dX5_ahead_66 : decode cX5_ahead 66 = .ok (.invokestatic 61, 3) := by decide +kernel
theorem dX5_ahead_69 : decode cX5_ahead 69 = .ok (.aload_n 0, 1) := by decide +kernel
theorem dX5_ahead_70 : decode cX5_ahead 70 = .ok (.iload_n 3, 1) := by decide +kernel
theorem dX5_ahead_71 : decode cX5_ahead 71 = .ok (.invokevirtual 167, 3) := by decide +kernel
theorem dX5_ahead_74 : decode cX5_ahead 74 = .ok (.aload_n 0, 1) := by decide +kernel
theorem dX5_ahead_75 : decode cX5_ahead 75 = .ok (.aload_n 0, 1) := by decide +kernel
theorem dX5_ahead_76 : decode cX5_ahead 76 = .ok (.iload_n 1, 1) := by decide +kernel
theorem dX5_ahead_77 : decode cX5_ahead 77 = .ok (.iload_n 2, 1) := by decide +kernel
theorem dX5_ahead_78 : decode cX5_ahead 78 = .ok (.invokevirtual 126, 3) := by decide +kernel
theorem dX5_ahead_81 : decode cX5_ahead 81 = .ok (.invokevirtual 182, 3) := by decide +kernel
theorem dX5_ahead_84 : decode cX5_ahead 84 = .ok (.ireturn, 1) := by decide +kernel
theorem dX5_cut_0 : decode cX5_cut 0 = .ok (.iload_n 1, 1) := by decide +kernel
theorem dX5_cut_1 : decode cX5_cut 1 = .ok (.iconst 0, 1) := by decide +kernel
theorem dX5_cut_2 : decode cX5_cut 2 = .ok (.bipush 100, 2) := by decide +kernel
theorem dX5_cut_4 : decode cX5_cut 4 = .ok (.invokestatic 70, 3) := by decide +kernel
theorem dX5_cut_7 : decode cX5_cut 7 = .ok (.ifCond .eq 12, 3) := by decide +kernel
theorem dX5_cut_10 : decode cX5_cut 10 = .ok (.aload_n 0, 1) := by decide +kernel
theorem dX5_cut_11 : decode cX5_cut 11 = .ok (.iconst 4, 1) := by decide +kernel
theorem dX5_cut_12 : decode cX5_cut 12 = .ok (.iload_n 1, 1) := by decide +kernel
theorem dX5_cut_13 : decode cX5_cut 13 = .ok (.invokevirtual 185, 3) := by decide +kernel
theorem dX5_cut_16 : decode cX5_cut 16 = .ok (.goto 9, 3) := by decide +kernel
theorem dX5_cut_19 : decode cX5_cut 19 = .ok (.aload_n 0, 1) := by decide +kernel
theorem dX5_cut_20 : decode cX5_cut 20 = .ok (.ldc 60, 2) := by decide +kernel
theorem dX5_cut_22 : decode cX5_cut 22 = .ok (.invokevirtual 66, 3) := by decide +kernel
theorem dX5_cut_25 : decode cX5_cut 25 = .ok (.ireturn, 1) := by decide +kernel
theorem dX5_beatsTo_0 : decode cX5_beatsTo 0 = .ok (.aload_n 0, 1) := by decide +kernel
theorem dX5_beatsTo_1 : decode cX5_beatsTo 1 = .ok (.getfield 9, 3) := by decide +kernel
theorem dX5_beatsTo_4 : decode cX5_beatsTo 4 = .ok (.aload_n 0, 1) := by decide +kernel
theorem dX5_beatsTo_5 : decode cX5_beatsTo 5 = .ok (.getfield 16, 3) := by decide +kernel
theorem dX5_beatsTo_8 : decode cX5_beatsTo 8 = .ok (.invokestatic 61, 3) := by decide +kernel
theorem dX5_beatsTo_11 : decode cX5_beatsTo 11 = .ok (.iconst 0, 1) := by decide +kernel
theorem dX5_beatsTo_12 : decode cX5_beatsTo 12 = .ok (.istore 4, 2) := by decide +kernel
theorem dX5_beatsTo_14 : decode cX5_beatsTo 14 = .ok (.iload 4, 2) := by decide +kernel
theorem dX5_beatsTo_16 : decode cX5_beatsTo 16 = .ok (.sipush 200, 3) := by decide +kernel
theorem dX5_beatsTo_19 : decode cX5_beatsTo 19 = .ok (.if_icmp .ge 27, 3) := by decide +kernel
theorem dX5_beatsTo_22 : decode cX5_beatsTo 22 = .ok (.aload_n 0, 1) := by decide +kernel
theorem dX5_beatsTo_23 : decode cX5_beatsTo 23 = .ok (.getfield 9, 3) := by decide +kernel
theorem dX5_beatsTo_26 : decode cX5_beatsTo 26 = .ok (.iload_n 1, 1) := by decide +kernel
theorem dX5_beatsTo_27 : decode cX5_beatsTo 27 = .ok (.iaload, 1) := by decide +kernel
theorem dX5_beatsTo_28 : decode cX5_beatsTo 28 = .ok (.iload_n 2, 1) := by decide +kernel
theorem dX5_beatsTo_29 : decode cX5_beatsTo 29 = .ok (.iload_n 3, 1) := by decide +kernel
theorem dX5_beatsTo_30 : decode cX5_beatsTo 30 = .ok (.invokestatic 70, 3) := by decide +kernel
theorem dX5_beatsTo_33 : decode cX5_beatsTo 33 = .ok (.ifCond .ne 13, 3) := by decide +kernel
theorem dX5_beatsTo_36 : decode cX5_beatsTo 36 = .ok (.aload_n 0, 1) := by decide +kernel
theorem dX5_beatsTo_37 : decode cX5_beatsTo 37 = .ok (.invokevirtual 164, 3) := by decide +kernel
theorem dX5_beatsTo_40 : decode cX5_beatsTo 40 = .ok (.iinc 4 1, 3) := by decide +kernel
theorem dX5_beatsTo_43 : decode cX5_beatsTo 43 = .ok (.goto (-29), 3) := by decide +kernel
theorem dX5_beatsTo_46 : decode cX5_beatsTo 46 = .ok (.aload_n 0, 1) := by decide +kernel
theorem dX5_beatsTo_47 : decode cX5_beatsTo 47 = .ok (.aload_n 0, 1) := by decide +kernel
theorem dX5_beatsTo_48 : decode cX5_beatsTo 48 = .ok (.getfield 9, 3) := by decide +kernel
theorem dX5_beatsTo_51 : decode cX5_beatsTo 51 = .ok (.iload_n 1, 1) := by decide +kernel
theorem dX5_beatsTo_52 : decode cX5_beatsTo 52 = .ok (.iaload, 1) := by decide +kernel
theorem dX5_beatsTo_53 : decode cX5_beatsTo 53 = .ok (.iload_n 2, 1) := by decide +kernel
theorem dX5_beatsTo_54 : decode cX5_beatsTo 54 = .ok (.iload_n 3, 1) := by decide +kernel
theorem dX5_beatsTo_55 : decode cX5_beatsTo 55 = .ok (.invokestatic 70, 3) := by decide +kernel
theorem dX5_beatsTo_58 : decode cX5_beatsTo 58 = .ok (.ifCond .eq 8, 3) := by decide +kernel
theorem dX5_beatsTo_61 : decode cX5_beatsTo 61 = .ok (.iload 4, 2) := by decide +kernel
theorem dX5_beatsTo_63 : decode cX5_beatsTo 63 = .ok (.goto 4, 3) := by decide +kernel
theorem dX5_beatsTo_66 : decode cX5_beatsTo 66 = .ok (.iconst (-1), 1) := by decide +kernel
theorem dX5_beatsTo_67 : decode cX5_beatsTo 67 = .ok (.invokevirtual 182, 3) := by decide +kernel
theorem dX5_beatsTo_70 : decode cX5_beatsTo 70 = .ok (.ireturn, 1) := by decide +kernel
theorem dX5_down_0 : decode cX5_down 0 = .ok (.aload_n 0, 1) := by decide +kernel
theorem dX5_down_1 : decode cX5_down 1 = .ok (.iload_n 1, 1) := by decide +kernel
theorem dX5_down_2 : decode cX5_down 2 = .ok (.invokevirtual 123, 3) := by decide +kernel
theorem dX5_down_5 : decode cX5_down 5 = .ok (.ifCond .eq 21, 3) := by decide +kernel
theorem dX5_down_8 : decode cX5_down 8 = .ok (.aload_n 0, 1) := by decide +kernel
theorem dX5_down_9 : decode cX5_down 9 = .ok (.aload_n 0, 1) := by decide +kernel
theorem dX5_down_10 : decode cX5_down 10 = .ok (.iload_n 1, 1) := by decide +kernel
theorem dX5_down_11 : decode cX5_down 11 = .ok (.iconst 3, 1) := by decide +kernel
theorem dX5_down_12 : decode cX5_down 12 = .ok (.invokestatic 85, 3) := by decide +kernel
theorem dX5_down_15 : decode cX5_down 15 = .ok (.iconst 0, 1) := by decide +kernel
theorem dX5_down_16 : decode cX5_down 16 = .ok (.iconst 0, 1) := by decide +kernel
theorem dX5_down_17 : decode cX5_down 17 = .ok (.invokevirtual 188, 3) := by decide +kernel
theorem dX5_down_20 : decode cX5_down 20 = .ok (.invokevirtual 192, 3) := by decide +kernel
theorem dX5_down_23 : decode cX5_down 23 = .ok (.goto 9, 3) := by decide +kernel
theorem dX5_down_26 : decode cX5_down 26 = .ok (.aload_n 0, 1) := by decide +kernel
theorem dX5_down_27 : decode cX5_down 27 = .ok (.ldc 60, 2) := by decide +kernel
theorem dX5_down_29 : decode cX5_down 29 = .ok (.invokevirtual 66, 3) := by decide +kernel
theorem dX5_down_32 : decode cX5_down 32 = .ok (.ireturn, 1) := by decide +kernel
theorem dX5_up_0 : decode cX5_up 0 = .ok (.aload_n 0, 1) := by decide +kernel
theorem dX5_up_1 : decode cX5_up 1 = .ok (.iload_n 1, 1) := by decide +kernel
theorem dX5_up_2 : decode cX5_up 2 = .ok (.invokevirtual 123, 3) := by decide +kernel
theorem dX5_up_5 : decode cX5_up 5 = .ok (.ifCond .eq 23, 3) := by decide +kernel
theorem dX5_up_8 : decode cX5_up 8 = .ok (.aload_n 0, 1) := by decide +kernel
theorem dX5_up_9 : decode cX5_up 9 = .ok (.aload_n 0, 1) := by decide +kernel
theorem dX5_up_10 : decode cX5_up 10 = .ok (.iload_n 1, 1) := by decide +kernel
theorem dX5_up_11 : decode cX5_up 11 = .ok (.iconst 3, 1) := by decide +kernel
theorem dX5_up_12 : decode cX5_up 12 = .ok (.invokestatic 85, 3) := by decide +kernel
theorem dX5_up_15 : decode cX5_up 15 = .ok (.bipush 20, 2) := by decide +kernel
theorem dX5_up_17 : decode cX5_up 17 = .ok (.bipush 20, 2) := by decide +kernel
theorem dX5_up_19 : decode cX5_up 19 = .ok (.invokevirtual 188, 3) := by decide +kernel
theorem dX5_up_22 : decode cX5_up 22 = .ok (.invokevirtual 192, 3) := by decide +kernel
theorem dX5_up_25 : decode cX5_up 25 = .ok (.goto 9, 3) := by decide +kernel
theorem dX5_up_28 : decode cX5_up 28 = .ok (.aload_n 0, 1) := by decide +kernel
theorem dX5_up_29 : decode cX5_up 29 = .ok (.ldc 60, 2) := by decide +kernel
theorem dX5_up_31 : decode cX5_up 31 = .ok (.invokevirtual 66, 3) := by decide +kernel
theorem dX5_up_34 : decode cX5_up 34 = .ok (.ireturn, 1) := by decide +kernel
theorem dX5_weary_0 : decode cX5_weary 0 = .ok (.aload_n 0, 1) := by decide +kernel
theorem dX5_weary_1 : decode cX5_weary 1 = .ok (.iload_n 1, 1) := by decide +kernel
theorem dX5_weary_2 : decode cX5_weary 2 = .ok (.invokevirtual 123, 3) := by decide +kernel
theorem dX5_weary_5 : decode cX5_weary 5 = .ok (.ifCond .eq 31, 3) := by decide +kernel
theorem dX5_weary_8 : decode cX5_weary 8 = .ok (.iload_n 2, 1) := by decide +kernel
theorem dX5_weary_9 : decode cX5_weary 9 = .ok (.iconst 0, 1) := by decide +kernel
theorem dX5_weary_10 : decode cX5_weary 10 = .ok (.bipush 99, 2) := by decide +kernel
theorem dX5_weary_12 : decode cX5_weary 12 = .ok (.invokestatic 70, 3) := by decide +kernel
theorem dX5_weary_15 : decode cX5_weary 15 = .ok (.ifCond .eq 21, 3) := by decide +kernel
theorem dX5_weary_18 : decode cX5_weary 18 = .ok (.aload_n 0, 1) := by decide +kernel
theorem dX5_weary_19 : decode cX5_weary 19 = .ok (.aload_n 0, 1) := by decide +kernel
theorem dX5_weary_20 : decode cX5_weary 20 = .ok (.iload_n 1, 1) := by decide +kernel
theorem dX5_weary_21 : decode cX5_weary 21 = .ok (.iconst 1, 1) := by decide +kernel
theorem dX5_weary_22 : decode cX5_weary 22 = .ok (.invokestatic 85, 3) := by decide +kernel
theorem dX5_weary_25 : decode cX5_weary 25 = .ok (.iconst 0, 1) := by decide +kernel
theorem dX5_weary_26 : decode cX5_weary 26 = .ok (.iload_n 2, 1) := by decide +kernel
theorem dX5_weary_27 : decode cX5_weary 27 = .ok (.invokevirtual 188, 3) := by decide +kernel
theorem dX5_weary_30 : decode cX5_weary 30 = .ok (.invokevirtual 192, 3) := by decide +kernel
theorem dX5_weary_33 : decode cX5_weary 33 = .ok (.goto 9, 3) := by decide +kernel
theorem dX5_weary_36 : decode cX5_weary 36 = .ok (.aload_n 0, 1) := by decide +kernel
theorem dX5_weary_37 : decode cX5_weary 37 = .ok (.ldc 60, 2) := by decide +kernel
theorem dX5_weary_39 : decode cX5_weary 39 = .ok (.invokevirtual 66, 3) := by decide +kernel
theorem dX5_weary_42 : decode cX5_weary 42 = .ok (.ireturn, 1) := by decide +kernel
theorem dX5_saved_0 : decode cX5_saved 0 = .ok (.iload_n 1, 1) := by decide +kernel
theorem dX5_saved_1 : decode cX5_saved 1 = .ok (.iconst 0, 1) := by decide +kernel
theorem dX5_saved_2 : decode cX5_saved 2 = .ok (.sipush 900, 3) := by decide +kernel
theorem dX5_saved_5 : decode cX5_saved 5 = .ok (.invokestatic 70, 3) := by decide +kernel
theorem dX5_saved_8 : decode cX5_saved 8 = .ok (.ifCond .eq 19, 3) := by decide +kernel
theorem dX5_saved_11 : decode cX5_saved 11 = .ok (.aload_n 0, 1) := by decide +kernel
theorem dX5_saved_12 : decode cX5_saved 12 = .ok (.aload_n 0, 1) := by decide +kernel
theorem dX5_saved_13 : decode cX5_saved 13 = .ok (.iconst 5, 1) := by decide +kernel
theorem dX5_saved_14 : decode cX5_saved 14 = .ok (.iload_n 1, 1) := by decide +kernel
theorem dX5_saved_15 : decode cX5_saved 15 = .ok (.sipush 900, 3) := by decide +kernel
theorem dX5_saved_18 : decode cX5_saved 18 = .ok (.invokevirtual 188, 3) := by decide +kernel
theorem dX5_saved_21 : decode cX5_saved 21 = .ok (.invokevirtual 192, 3) := by decide +kernel
theorem dX5_saved_24 : decode cX5_saved 24 = .ok (.goto 9, 3) := by decide +kernel
theorem dX5_saved_27 : decode cX5_saved 27 = .ok (.aload_n 0, 1) := by decide +kernel
theorem dX5_saved_28 : decode cX5_saved 28 = .ok (.ldc 60, 2) := by decide +kernel
theorem dX5_saved_30 : decode cX5_saved 30 = .ok (.invokevirtual 66, 3) := by decide +kernel
theorem dX5_saved_33 : decode cX5_saved 33 = .ok (.ireturn, 1) := by decide +kernel
theorem dX5_isThought_0 : decode cX5_isThought 0 = .ok (.iload_n 0, 1) := by decide +kernel
theorem dX5_isThought_1 : decode cX5_isThought 1 = .ok (.iconst 0, 1) := by decide +kernel
theorem dX5_isThought_2 : decode cX5_isThought 2 = .ok (.bipush 60, 2) := by decide +kernel
theorem dX5_isThought_4 : decode cX5_isThought 4 = .ok (.invokestatic 70, 3) := by decide +kernel
theorem dX5_isThought_7 : decode cX5_isThought 7 = .ok (.ireturn, 1) := by decide +kernel
theorem dX5_sceneFor_0 : decode cX5_sceneFor 0 = .ok (.iload_n 1, 1) := by decide +kernel
theorem dX5_sceneFor_1 : decode cX5_sceneFor 1 = .ok (.invokestatic 78, 3) := by decide +kernel
theorem dX5_sceneFor_4 : decode cX5_sceneFor 4 = .ok (.ifCond .eq 10, 3) := by decide +kernel
theorem dX5_sceneFor_7 : decode cX5_sceneFor 7 = .ok (.iload_n 2, 1) := by decide +kernel
theorem dX5_sceneFor_8 : decode cX5_sceneFor 8 = .ok (.invokestatic 195, 3) := by decide +kernel
theorem dX5_sceneFor_11 : decode cX5_sceneFor 11 = .ok (.ifCond .ne 10, 3) := by decide +kernel
theorem dX5_sceneFor_14 : decode cX5_sceneFor 14 = .ok (.aload_n 0, 1) := by decide +kernel
theorem dX5_sceneFor_15 : decode cX5_sceneFor 15 = .ok (.ldc 60, 2) := by decide +kernel
theorem dX5_sceneFor_17 : decode cX5_sceneFor 17 = .ok (.invokevirtual 66, 3) := by decide +kernel
theorem dX5_sceneFor_20 : decode cX5_sceneFor 20 = .ok (.ireturn, 1) := by decide +kernel
theorem dX5_sceneFor_21 : decode cX5_sceneFor 21 = .ok (.aload_n 0, 1) := by decide +kernel
theorem dX5_sceneFor_22 : decode cX5_sceneFor 22 = .ok (.getfield 9, 3) := by decide +kernel
theorem dX5_sceneFor_25 : decode cX5_sceneFor 25 = .ok (.bipush 6, 2) := by decide +kernel
theorem dX5_sceneFor_27 : decode cX5_sceneFor 27 = .ok (.iload_n 1, 1) := by decide +kernel
theorem dX5_sceneFor_28 : decode cX5_sceneFor 28 = .ok (.iadd, 1) := by decide +kernel
theorem dX5_sceneFor_29 : decode cX5_sceneFor 29 = .ok (.iaload, 1) := by decide +kernel
theorem dX5_sceneFor_30 : decode cX5_sceneFor 30 = .ok (.istore_n 3, 1) := by decide +kernel
theorem dX5_sceneFor_31 : decode cX5_sceneFor 31 = .ok (.iconst 0, 1) := by decide +kernel
theorem dX5_sceneFor_32 : decode cX5_sceneFor 32 = .ok (.istore 4, 2) := by decide +kernel
theorem dX5_sceneFor_34 : decode cX5_sceneFor 34 = .ok (.ldc 198, 2) := by decide +kernel
theorem dX5_sceneFor_36 : decode cX5_sceneFor 36 = .ok (.istore 5, 2) := by decide +kernel
theorem dX5_sceneFor_38 : decode cX5_sceneFor 38 = .ok (.iconst 0, 1) := by decide +kernel
theorem dX5_sceneFor_39 : decode cX5_sceneFor 39 = .ok (.istore 6, 2) := by decide +kernel
theorem dX5_sceneFor_41 : decode cX5_sceneFor 41 = .ok (.iload 6, 2) := by decide +kernel
theorem dX5_sceneFor_43 : decode cX5_sceneFor 43 = .ok (.bipush 12, 2) := by decide +kernel
theorem dX5_sceneFor_45 : decode cX5_sceneFor 45 = .ok (.if_icmp .ge 43, 3) := by decide +kernel
theorem dX5_sceneFor_48 : decode cX5_sceneFor 48 = .ok (.aload_n 0, 1) := by decide +kernel
theorem dX5_sceneFor_49 : decode cX5_sceneFor 49 = .ok (.getfield 9, 3) := by decide +kernel
theorem dX5_sceneFor_52 : decode cX5_sceneFor 52 = .ok (.bipush 6, 2) := by decide +kernel
theorem dX5_sceneFor_54 : decode cX5_sceneFor 54 = .ok (.iload_n 1, 1) := by decide +kernel
theorem dX5_sceneFor_55 : decode cX5_sceneFor 55 = .ok (.iadd, 1) := by decide +kernel
theorem dX5_sceneFor_56 : decode cX5_sceneFor 56 = .ok (.iload 6, 2) := by decide +kernel
theorem dX5_sceneFor_58 : decode cX5_sceneFor 58 = .ok (.iastore, 1) := by decide +kernel
theorem dX5_sceneFor_59 : decode cX5_sceneFor 59 = .ok (.aload_n 0, 1) := by decide +kernel
theorem dX5_sceneFor_60 : decode cX5_sceneFor 60 = .ok (.iconst 4, 1) := by decide +kernel
theorem dX5_sceneFor_61 : decode cX5_sceneFor 61 = .ok (.iload_n 2, 1) := by decide +kernel
theorem dX5_sceneFor_62 : decode cX5_sceneFor 62 = .ok (.invokevirtual 185, 3) := by decide +kernel
theorem dX5_sceneFor_65 : decode cX5_sceneFor 65 = .ok (.istore 7, 2) := by decide +kernel
theorem dX5_sceneFor_67 : decode cX5_sceneFor 67 = .ok (.iload 7, 2) := by decide +kernel
theorem dX5_sceneFor_69 : decode cX5_sceneFor 69 = .ok (.iload 5, 2) := by decide +kernel
theorem dX5_sceneFor_71 : decode cX5_sceneFor 71 = .ok (.if_icmp .ge 11, 3) := by decide +kernel
theorem dX5_sceneFor_74 : decode cX5_sceneFor 74 = .ok (.iload 6, 2) := by decide +kernel
theorem dX5_sceneFor_76 : decode cX5_sceneFor 76 = .ok (.istore 4, 2) := by decide +kernel
theorem dX5_sceneFor_78 : decode cX5_sceneFor 78 = .ok (.iload 7, 2) := by decide +kernel
theorem dX5_sceneFor_80 : decode cX5_sceneFor 80 = .ok (.istore 5, 2) := by decide +kernel
theorem dX5_sceneFor_82 : decode cX5_sceneFor 82 = .ok (.iinc 6 1, 3) := by decide +kernel
theorem dX5_sceneFor_85 : decode cX5_sceneFor 85 = .ok (.goto (-44), 3) := by decide +kernel
theorem dX5_sceneFor_88 : decode cX5_sceneFor 88 = .ok (.aload_n 0, 1) := by decide +kernel
theorem dX5_sceneFor_89 : decode cX5_sceneFor 89 = .ok (.getfield 9, 3) := by decide +kernel
theorem dX5_sceneFor_92 : decode cX5_sceneFor 92 = .ok (.bipush 6, 2) := by decide +kernel
theorem dX5_sceneFor_94 : decode cX5_sceneFor 94 = .ok (.iload_n 1, 1) := by decide +kernel
theorem dX5_sceneFor_95 : decode cX5_sceneFor 95 = .ok (.iadd, 1) := by decide +kernel
theorem dX5_sceneFor_96 : decode cX5_sceneFor 96 = .ok (.iload_n 3, 1) := by decide +kernel
theorem dX5_sceneFor_97 : decode cX5_sceneFor 97 = .ok (.iastore, 1) := by decide +kernel
theorem dX5_sceneFor_98 : decode cX5_sceneFor 98 = .ok (.iload 4, 2) := by decide +kernel
theorem dX5_sceneFor_100 : decode cX5_sceneFor 100 = .ok (.ireturn, 1) := by decide +kernel
theorem dX5_kindFor_0 : decode cX5_kindFor 0 = .ok (.aload_n 0, 1) := by decide +kernel
theorem dX5_kindFor_1 : decode cX5_kindFor 1 = .ok (.iload_n 1, 1) := by decide +kernel
theorem dX5_kindFor_2 : decode cX5_kindFor 2 = .ok (.invokevirtual 123, 3) := by decide +kernel
theorem dX5_kindFor_5 : decode cX5_kindFor 5 = .ok (.ifCond .eq 10, 3) := by decide +kernel
theorem dX5_kindFor_8 : decode cX5_kindFor 8 = .ok (.iload_n 2, 1) := by decide +kernel
theorem dX5_kindFor_9 : decode cX5_kindFor 9 = .ok (.invokestatic 195, 3) := by decide +kernel
theorem dX5_kindFor_12 : decode cX5_kindFor 12 = .ok (.ifCond .ne 10, 3) := by decide +kernel
theorem dX5_kindFor_15 : decode cX5_kindFor 15 = .ok (.aload_n 0, 1) := by decide +kernel
theorem dX5_kindFor_16 : decode cX5_kindFor 16 = .ok (.ldc 60, 2) := by decide +kernel
theorem dX5_kindFor_18 : decode cX5_kindFor 18 = .ok (.invokevirtual 66, 3) := by decide +kernel
theorem dX5_kindFor_21 : decode cX5_kindFor 21 = .ok (.ireturn, 1) := by decide +kernel
theorem dX5_kindFor_22 : decode cX5_kindFor 22 = .ok (.iload_n 1, 1) := by decide +kernel
theorem dX5_kindFor_23 : decode cX5_kindFor 23 = .ok (.iconst 0, 1) := by decide +kernel
theorem dX5_kindFor_24 : decode cX5_kindFor 24 = .ok (.invokestatic 85, 3) := by decide +kernel
theorem dX5_kindFor_27 : decode cX5_kindFor 27 = .ok (.istore_n 3, 1) := by decide +kernel
theorem dX5_kindFor_28 : decode cX5_kindFor 28 = .ok (.aload_n 0, 1) := by decide +kernel
theorem dX5_kindFor_29 : decode cX5_kindFor 29 = .ok (.getfield 9, 3) := by decide +kernel
theorem dX5_kindFor_32 : decode cX5_kindFor 32 = .ok (.iload_n 3, 1) := by decide +kernel
theorem dX5_kindFor_33 : decode cX5_kindFor 33 = .ok (.iaload, 1) := by decide +kernel
theorem dX5_kindFor_34 : decode cX5_kindFor 34 = .ok (.istore 4, 2) := by decide +kernel
theorem dX5_kindFor_36 : decode cX5_kindFor 36 = .ok (.iconst 0, 1) := by decide +kernel
theorem dX5_kindFor_37 : decode cX5_kindFor 37 = .ok (.istore 5, 2) := by decide +kernel
theorem dX5_kindFor_39 : decode cX5_kindFor 39 = .ok (.iconst (-1), 1) := by decide +kernel
theorem dX5_kindFor_40 : decode cX5_kindFor 40 = .ok (.istore 6, 2) := by decide +kernel
theorem dX5_kindFor_42 : decode cX5_kindFor 42 = .ok (.iconst 0, 1) := by decide +kernel
theorem dX5_kindFor_43 : decode cX5_kindFor 43 = .ok (.istore 7, 2) := by decide +kernel
theorem dX5_kindFor_45 : decode cX5_kindFor 45 = .ok (.iload 7, 2) := by decide +kernel
theorem dX5_kindFor_47 : decode cX5_kindFor 47 = .ok (.bipush 6, 2) := by decide +kernel
theorem dX5_kindFor_49 : decode cX5_kindFor 49 = .ok (.if_icmp .gt 44, 3) := by decide +kernel
theorem dX5_kindFor_52 : decode cX5_kindFor 52 = .ok (.aload_n 0, 1) := by decide +kernel
theorem dX5_kindFor_53 : decode cX5_kindFor 53 = .ok (.getfield 9, 3) := by decide +kernel
theorem dX5_kindFor_56 : decode cX5_kindFor 56 = .ok (.iload_n 3, 1) := by decide +kernel
theorem dX5_kindFor_57 : decode cX5_kindFor 57 = .ok (.iload 7, 2) := by decide +kernel
theorem dX5_kindFor_59 : decode cX5_kindFor 59 = .ok (.iastore, 1) := by decide +kernel
theorem dX5_kindFor_60 : decode cX5_kindFor 60 = .ok (.aload_n 0, 1) := by decide +kernel
theorem dX5_kindFor_61 : decode cX5_kindFor 61 = .ok (.iload_n 1, 1) := by decide +kernel
theorem dX5_kindFor_62 : decode cX5_kindFor 62 = .ok (.iconst 1, 1) := by decide +kernel
theorem dX5_kindFor_63 : decode cX5_kindFor 63 = .ok (.invokestatic 85, 3) := by decide +kernel
theorem dX5_kindFor_66 : decode cX5_kindFor 66 = .ok (.iload_n 2, 1) := by decide +kernel
theorem dX5_kindFor_67 : decode cX5_kindFor 67 = .ok (.invokevirtual 185, 3) := by decide +kernel
theorem dX5_kindFor_70 : decode cX5_kindFor 70 = .ok (.istore 8, 2) := by decide +kernel
theorem dX5_kindFor_72 : decode cX5_kindFor 72 = .ok (.iload 8, 2) := by decide +kernel
theorem dX5_kindFor_74 : decode cX5_kindFor 74 = .ok (.iload 6, 2) := by decide +kernel
theorem dX5_kindFor_76 : decode cX5_kindFor 76 = .ok (.if_icmp .le 11, 3) := by decide +kernel
theorem dX5_kindFor_79 : decode cX5_kindFor 79 = .ok (.iload 7, 2) := by decide +kernel
theorem dX5_kindFor_81 : decode cX5_kindFor 81 = .ok (.istore 5, 2) := by decide +kernel
theorem dX5_kindFor_83 : decode cX5_kindFor 83 = .ok (.iload 8, 2) := by decide +kernel
theorem dX5_kindFor_85 : decode cX5_kindFor 85 = .ok (.istore 6, 2) := by decide +kernel
theorem dX5_kindFor_87 : decode cX5_kindFor 87 = .ok (.iinc 7 1, 3) := by decide +kernel
theorem dX5_kindFor_90 : decode cX5_kindFor 90 = .ok (.goto (-45), 3) := by decide +kernel
theorem dX5_kindFor_93 : decode cX5_kindFor 93 = .ok (.aload_n 0, 1) := by decide +kernel
theorem dX5_kindFor_94 : decode cX5_kindFor 94 = .ok (.getfield 9, 3) := by decide +kernel
theorem dX5_kindFor_97 : decode cX5_kindFor 97 = .ok (.iload_n 3, 1) := by decide +kernel
theorem dX5_kindFor_98 : decode cX5_kindFor 98 = .ok (.iload 4, 2) := by decide +kernel
theorem dX5_kindFor_100 : decode cX5_kindFor 100 = .ok (.iastore, 1) := by decide +kernel
theorem dX5_kindFor_101 : decode cX5_kindFor 101 = .ok (.iload 5, 2) := by decide +kernel
theorem dX5_kindFor_103 : decode cX5_kindFor 103 = .ok (.ireturn, 1) := by decide +kernel
theorem dX5_moodFor_0 : decode cX5_moodFor 0 = .ok (.aload_n 0, 1) := by decide +kernel
theorem dX5_moodFor_1 : decode cX5_moodFor 1 = .ok (.iload_n 1, 1) := by decide +kernel
theorem dX5_moodFor_2 : decode cX5_moodFor 2 = .ok (.invokevirtual 123, 3) := by decide +kernel
theorem dX5_moodFor_5 : decode cX5_moodFor 5 = .ok (.ifCond .eq 10, 3) := by decide +kernel
theorem dX5_moodFor_8 : decode cX5_moodFor 8 = .ok (.iload_n 2, 1) := by decide +kernel
theorem dX5_moodFor_9 : decode cX5_moodFor 9 = .ok (.invokestatic 195, 3) := by decide +kernel
theorem dX5_moodFor_12 : decode cX5_moodFor 12 = .ok (.ifCond .ne 10, 3) := by decide +kernel
theorem dX5_moodFor_15 : decode cX5_moodFor 15 = .ok (.aload_n 0, 1) := by decide +kernel
theorem dX5_moodFor_16 : decode cX5_moodFor 16 = .ok (.ldc 60, 2) := by decide +kernel
theorem dX5_moodFor_18 : decode cX5_moodFor 18 = .ok (.invokevirtual 66, 3) := by decide +kernel
theorem dX5_moodFor_21 : decode cX5_moodFor 21 = .ok (.ireturn, 1) := by decide +kernel
theorem dX5_moodFor_22 : decode cX5_moodFor 22 = .ok (.iload_n 1, 1) := by decide +kernel
theorem dX5_moodFor_23 : decode cX5_moodFor 23 = .ok (.iconst 1, 1) := by decide +kernel
theorem dX5_moodFor_24 : decode cX5_moodFor 24 = .ok (.invokestatic 85, 3) := by decide +kernel
theorem dX5_moodFor_27 : decode cX5_moodFor 27 = .ok (.istore_n 3, 1) := by decide +kernel
theorem dX5_moodFor_28 : decode cX5_moodFor 28 = .ok (.aload_n 0, 1) := by decide +kernel
theorem dX5_moodFor_29 : decode cX5_moodFor 29 = .ok (.iload_n 1, 1) := by decide +kernel
theorem dX5_moodFor_30 : decode cX5_moodFor 30 = .ok (.iconst 5, 1) := by decide +kernel
theorem dX5_moodFor_31 : decode cX5_moodFor 31 = .ok (.invokevirtual 98, 3) := by decide +kernel
theorem dX5_moodFor_34 : decode cX5_moodFor 34 = .ok (.istore 4, 2) := by decide +kernel
theorem dX5_moodFor_36 : decode cX5_moodFor 36 = .ok (.aload_n 0, 1) := by decide +kernel
theorem dX5_moodFor_37 : decode cX5_moodFor 37 = .ok (.getfield 9, 3) := by decide +kernel
theorem dX5_moodFor_40 : decode cX5_moodFor 40 = .ok (.iload_n 3, 1) := by decide +kernel
theorem dX5_moodFor_41 : decode cX5_moodFor 41 = .ok (.iaload, 1) := by decide +kernel
theorem dX5_moodFor_42 : decode cX5_moodFor 42 = .ok (.istore 5, 2) := by decide +kernel
theorem dX5_moodFor_44 : decode cX5_moodFor 44 = .ok (.iconst (-1), 1) := by decide +kernel
theorem dX5_moodFor_45 : decode cX5_moodFor 45 = .ok (.istore 6, 2) := by decide +kernel
theorem dX5_moodFor_47 : decode cX5_moodFor 47 = .ok (.bipush 99, 2) := by decide +kernel
theorem dX5_moodFor_49 : decode cX5_moodFor 49 = .ok (.istore 7, 2) := by decide +kernel
theorem dX5_moodFor_51 : decode cX5_moodFor 51 = .ok (.iload 7, 2) := by decide +kernel
theorem dX5_moodFor_53 : decode cX5_moodFor 53 = .ok (.ifCond .lt 41, 3) := by decide +kernel
theorem dX5_moodFor_56 : decode cX5_moodFor 56 = .ok (.aload_n 0, 1) := by decide +kernel
theorem dX5_moodFor_57 : decode cX5_moodFor 57 = .ok (.getfield 9, 3) := by decide +kernel
theorem dX5_moodFor_60 : decode cX5_moodFor 60 = .ok (.iload_n 3, 1) := by decide +kernel
theorem dX5_moodFor_61 : decode cX5_moodFor 61 = .ok (.iload 7, 2) := by decide +kernel
theorem dX5_moodFor_63 : decode cX5_moodFor 63 = .ok (.iastore, 1) := by decide +kernel
theorem dX5_moodFor_64 : decode cX5_moodFor 64 = .ok (.aload_n 0, 1) := by decide +kernel
theorem dX5_moodFor_65 : decode cX5_moodFor 65 = .ok (.iload_n 1, 1) := by decide +kernel
theorem dX5_moodFor_66 : decode cX5_moodFor 66 = .ok (.iconst 5, 1) := by decide +kernel
theorem dX5_moodFor_67 : decode cX5_moodFor 67 = .ok (.invokestatic 85, 3) := by decide +kernel
theorem dX5_moodFor_70 : decode cX5_moodFor 70 = .ok (.iload_n 2, 1) := by decide +kernel
theorem dX5_moodFor_71 : decode cX5_moodFor 71 = .ok (.invokevirtual 185, 3) := by decide +kernel
theorem dX5_moodFor_74 : decode cX5_moodFor 74 = .ok (.iload 4, 2) := by decide +kernel
theorem dX5_moodFor_76 : decode cX5_moodFor 76 = .ok (.if_icmp .ne 8, 3) := by decide +kernel
theorem dX5_moodFor_79 : decode cX5_moodFor 79 = .ok (.iload 7, 2) := by decide +kernel
theorem dX5_moodFor_81 : decode cX5_moodFor 81 = .ok (.goto 5, 3) := by decide +kernel
theorem dX5_moodFor_84 : decode cX5_moodFor 84 = .ok (.iload 6, 2) := by decide +kernel
theorem dX5_moodFor_86 : decode cX5_moodFor 86 = .ok (.istore 6, 2) := by decide +kernel
theorem dX5_moodFor_88 : decode cX5_moodFor 88 = .ok (.iinc 7 (-1), 3) := by decide +kernel
theorem dX5_moodFor_91 : decode cX5_moodFor 91 = .ok (.goto (-40), 3) := by decide +kernel
theorem dX5_moodFor_94 : decode cX5_moodFor 94 = .ok (.aload_n 0, 1) := by decide +kernel
theorem dX5_moodFor_95 : decode cX5_moodFor 95 = .ok (.getfield 9, 3) := by decide +kernel
theorem dX5_moodFor_98 : decode cX5_moodFor 98 = .ok (.iload_n 3, 1) := by decide +kernel
theorem dX5_moodFor_99 : decode cX5_moodFor 99 = .ok (.iload 5, 2) := by decide +kernel
theorem dX5_moodFor_101 : decode cX5_moodFor 101 = .ok (.iastore, 1) := by decide +kernel
theorem dX5_moodFor_102 : decode cX5_moodFor 102 = .ok (.aload_n 0, 1) := by decide +kernel
theorem dX5_moodFor_103 : decode cX5_moodFor 103 = .ok (.iload 6, 2) := by decide +kernel
theorem dX5_moodFor_105 : decode cX5_moodFor 105 = .ok (.invokevirtual 192, 3) := by decide +kernel
theorem dX5_moodFor_108 : decode cX5_moodFor 108 = .ok (.ireturn, 1) := by decide +kernel
theorem dX5_staysUp_0 : decode cX5_staysUp 0 = .ok (.aload_n 0, 1) := by decide +kernel
theorem dX5_staysUp_1 : decode cX5_staysUp 1 = .ok (.getfield 9, 3) := by decide +kernel
theorem dX5_staysUp_4 : decode cX5_staysUp 4 = .ok (.aload_n 0, 1) := by decide +kernel
theorem dX5_staysUp_5 : decode cX5_staysUp 5 = .ok (.getfield 16, 3) := by decide +kernel
theorem dX5_staysUp_8 : decode cX5_staysUp 8 = .ok (.invokestatic 61, 3) := by decide +kernel
theorem dX5_staysUp_11 : decode cX5_staysUp 11 = .ok (.aload_n 0, 1) := by decide +kernel
theorem dX5_staysUp_12 : decode cX5_staysUp 12 = .ok (.iload_n 1, 1) := by decide +kernel
theorem dX5_staysUp_13 : decode cX5_staysUp 13 = .ok (.iload_n 2, 1) := by decide +kernel
theorem dX5_staysUp_14 : decode cX5_staysUp 14 = .ok (.invokevirtual 153, 3) := by decide +kernel
theorem dX5_staysUp_17 : decode cX5_staysUp 17 = .ok (.pop, 1) := by decide +kernel
theorem dX5_staysUp_18 : decode cX5_staysUp 18 = .ok (.aload_n 0, 1) := by decide +kernel
theorem dX5_staysUp_19 : decode cX5_staysUp 19 = .ok (.iload_n 3, 1) := by decide +kernel
theorem dX5_staysUp_20 : decode cX5_staysUp 20 = .ok (.invokevirtual 167, 3) := by decide +kernel
theorem dX5_staysUp_23 : decode cX5_staysUp 23 = .ok (.aload_n 0, 1) := by decide +kernel
theorem dX5_staysUp_24 : decode cX5_staysUp 24 = .ok (.iload_n 1, 1) := by decide +kernel
theorem dX5_staysUp_25 : decode cX5_staysUp 25 = .ok (.iconst 3, 1) := by decide +kernel
theorem dX5_staysUp_26 : decode cX5_staysUp 26 = .ok (.invokevirtual 98, 3) := by decide +kernel
theorem dX5_staysUp_29 : decode cX5_staysUp 29 = .ok (.ifCond .le 7, 3) := by decide +kernel
theorem dX5_staysUp_32 : decode cX5_staysUp 32 = .ok (.iconst 1, 1) := by decide +kernel
theorem dX5_staysUp_33 : decode cX5_staysUp 33 = .ok (.goto 4, 3) := by decide +kernel
theorem dX5_staysUp_36 : decode cX5_staysUp 36 = .ok (.iconst 0, 1) := by decide +kernel
theorem dX5_staysUp_37 : decode cX5_staysUp 37 = .ok (.istore 4, 2) := by decide +kernel
theorem dX5_staysUp_39 : decode cX5_staysUp 39 = .ok (.aload_n 0, 1) := by decide +kernel
theorem dX5_staysUp_40 : decode cX5_staysUp 40 = .ok (.getfield 16, 3) := by decide +kernel
theorem dX5_staysUp_43 : decode cX5_staysUp 43 = .ok (.aload_n 0, 1) := by decide +kernel
theorem dX5_staysUp_44 : decode cX5_staysUp 44 = .ok (.getfield 9, 3) := by decide +kernel
theorem dX5_staysUp_47 : decode cX5_staysUp 47 = .ok (.invokestatic 61, 3) := by decide +kernel
theorem dX5_staysUp_50 : decode cX5_staysUp 50 = .ok (.iload 4, 2) := by decide +kernel
theorem dX5_staysUp_52 : decode cX5_staysUp 52 = .ok (.ireturn, 1) := by decide +kernel
theorem dX5_handsFor_0 : decode cX5_handsFor 0 = .ok (.aload_n 0, 1) := by decide +kernel
theorem dX5_handsFor_1 : decode cX5_handsFor 1 = .ok (.iload_n 1, 1) := by decide +kernel
theorem dX5_handsFor_2 : decode cX5_handsFor 2 = .ok (.invokevirtual 123, 3) := by decide +kernel
theorem dX5_handsFor_5 : decode cX5_handsFor 5 = .ok (.ifCond .eq 10, 3) := by decide +kernel
theorem dX5_handsFor_8 : decode cX5_handsFor 8 = .ok (.iload_n 2, 1) := by decide +kernel
theorem dX5_handsFor_9 : decode cX5_handsFor 9 = .ok (.invokestatic 195, 3) := by decide +kernel
theorem dX5_handsFor_12 : decode cX5_handsFor 12 = .ok (.ifCond .ne 10, 3) := by decide +kernel
theorem dX5_handsFor_15 : decode cX5_handsFor 15 = .ok (.aload_n 0, 1) := by decide +kernel
theorem dX5_handsFor_16 : decode cX5_handsFor 16 = .ok (.ldc 60, 2) := by decide +kernel
theorem dX5_handsFor_18 : decode cX5_handsFor 18 = .ok (.invokevirtual 66, 3) := by decide +kernel
theorem dX5_handsFor_21 : decode cX5_handsFor 21 = .ok (.ireturn, 1) := by decide +kernel
theorem dX5_handsFor_22 : decode cX5_handsFor 22 = .ok (.aload_n 0, 1) := by decide +kernel
theorem dX5_handsFor_23 : decode cX5_handsFor 23 = .ok (.iload_n 1, 1) := by decide +kernel
theorem dX5_handsFor_24 : decode cX5_handsFor 24 = .ok (.invokevirtual 149, 3) := by decide +kernel
theorem dX5_handsFor_27 : decode cX5_handsFor 27 = .ok (.ifCond .eq 10, 3) := by decide +kernel
theorem dX5_handsFor_30 : decode cX5_handsFor 30 = .ok (.aload_n 0, 1) := by decide +kernel
theorem dX5_handsFor_31 : decode cX5_handsFor 31 = .ok (.ldc 152, 2) := by decide +kernel
theorem dX5_handsFor_33 : decode cX5_handsFor 33 = .ok (.invokevirtual 66, 3) := by decide +kernel
theorem dX5_handsFor_36 : decode cX5_handsFor 36 = .ok (.ireturn, 1) := by decide +kernel
theorem dX5_handsFor_37 : decode cX5_handsFor 37 = .ok (.iconst (-1), 1) := by decide +kernel
theorem dX5_handsFor_38 : decode cX5_handsFor 38 = .ok (.istore_n 3, 1) := by decide +kernel
theorem dX5_handsFor_39 : decode cX5_handsFor 39 = .ok (.bipush 40, 2) := by decide +kernel
theorem dX5_handsFor_41 : decode cX5_handsFor 41 = .ok (.istore 4, 2) := by decide +kernel
theorem dX5_handsFor_43 : decode cX5_handsFor 43 = .ok (.iload 4, 2) := by decide +kernel
theorem dX5_handsFor_45 : decode cX5_handsFor 45 = .ok (.ifCond .le 27, 3) := by decide +kernel
theorem dX5_handsFor_48 : decode cX5_handsFor 48 = .ok (.aload_n 0, 1) := by decide +kernel
theorem dX5_handsFor_49 : decode cX5_handsFor 49 = .ok (.iload_n 1, 1) := by decide +kernel
theorem dX5_handsFor_50 : decode cX5_handsFor 50 = .ok (.iload 4, 2) := by decide +kernel
theorem dX5_handsFor_52 : decode cX5_handsFor 52 = .ok (.iload_n 2, 1) := by decide +kernel
theorem dX5_handsFor_53 : decode cX5_handsFor 53 = .ok (.invokevirtual 199, 3) := by decide +kernel
theorem dX5_handsFor_56 : decode cX5_handsFor 56 = .ok (.ifCond .eq 8, 3) := by decide +kernel
theorem dX5_handsFor_59 : decode cX5_handsFor 59 = .ok (.iload 4, 2) := by decide +kernel
theorem dX5_handsFor_61 : decode cX5_handsFor 61 = .ok (.goto 4, 3) := by decide +kernel
theorem dX5_handsFor_64 : decode cX5_handsFor 64 = .ok (.iload_n 3, 1) := by decide +kernel
theorem dX5_handsFor_65 : decode cX5_handsFor 65 = .ok (.istore_n 3, 1) := by decide +kernel
theorem dX5_handsFor_66 : decode cX5_handsFor 66 = .ok (.iinc 4 (-1), 3) := by decide +kernel
theorem dX5_handsFor_69 : decode cX5_handsFor 69 = .ok (.goto (-26), 3) := by decide +kernel
theorem dX5_handsFor_72 : decode cX5_handsFor 72 = .ok (.aload_n 0, 1) := by decide +kernel
theorem dX5_handsFor_73 : decode cX5_handsFor 73 = .ok (.iload_n 3, 1) := by decide +kernel
theorem dX5_handsFor_74 : decode cX5_handsFor 74 = .ok (.invokevirtual 192, 3) := by decide +kernel
theorem dX5_handsFor_77 : decode cX5_handsFor 77 = .ok (.ireturn, 1) := by decide +kernel
