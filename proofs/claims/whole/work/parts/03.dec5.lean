theorem dX5_nothingIsCut_0 : decode cX5_nothingIsCut 0 = .ok (.aload_n 0, 1) := by decide +kernel
theorem dX5_nothingIsCut_1 : decode cX5_nothingIsCut 1 = .ok (.getfield 9, 3) := by decide +kernel
theorem dX5_nothingIsCut_4 : decode cX5_nothingIsCut 4 = .ok (.iconst 4, 1) := by decide +kernel
theorem dX5_nothingIsCut_5 : decode cX5_nothingIsCut 5 = .ok (.iaload, 1) := by decide +kernel
theorem dX5_nothingIsCut_6 : decode cX5_nothingIsCut 6 = .ok (.istore_n 3, 1) := by decide +kernel
theorem dX5_nothingIsCut_7 : decode cX5_nothingIsCut 7 = .ok (.aload_n 0, 1) := by decide +kernel
theorem dX5_nothingIsCut_8 : decode cX5_nothingIsCut 8 = .ok (.getfield 9, 3) := by decide +kernel
theorem dX5_nothingIsCut_11 : decode cX5_nothingIsCut 11 = .ok (.aload_n 0, 1) := by decide +kernel
theorem dX5_nothingIsCut_12 : decode cX5_nothingIsCut 12 = .ok (.getfield 16, 3) := by decide +kernel
theorem dX5_nothingIsCut_15 : decode cX5_nothingIsCut 15 = .ok (.invokestatic 61, 3) := by decide +kernel
theorem dX5_nothingIsCut_18 : decode cX5_nothingIsCut 18 = .ok (.iconst 0, 1) := by decide +kernel
theorem dX5_nothingIsCut_19 : decode cX5_nothingIsCut 19 = .ok (.istore 4, 2) := by decide +kernel
theorem dX5_nothingIsCut_21 : decode cX5_nothingIsCut 21 = .ok (.iload 4, 2) := by decide +kernel
theorem dX5_nothingIsCut_23 : decode cX5_nothingIsCut 23 = .ok (.aload_n 0, 1) := by decide +kernel
theorem dX5_nothingIsCut_24 : decode cX5_nothingIsCut 24 = .ok (.getfield 9, 3) := by decide +kernel
theorem dX5_nothingIsCut_27 : decode cX5_nothingIsCut 27 = .ok (.iconst 1, 1) := by decide +kernel
theorem dX5_nothingIsCut_28 : decode cX5_nothingIsCut 28 = .ok (.iaload, 1) := by decide +kernel
theorem dX5_nothingIsCut_29 : decode cX5_nothingIsCut 29 = .ok (.if_icmp .ge 31, 3) := by decide +kernel
theorem dX5_nothingIsCut_32 : decode cX5_nothingIsCut 32 = .ok (.iload_n 1, 1) := by decide +kernel
theorem dX5_nothingIsCut_33 : decode cX5_nothingIsCut 33 = .ok (.iload 4, 2) := by decide +kernel
theorem dX5_nothingIsCut_35 : decode cX5_nothingIsCut 35 = .ok (.ishr, 1) := by decide +kernel
theorem dX5_nothingIsCut_36 : decode cX5_nothingIsCut 36 = .ok (.iconst 1, 1) := by decide +kernel
theorem dX5_nothingIsCut_37 : decode cX5_nothingIsCut 37 = .ok (.iand, 1) := by decide +kernel
theorem dX5_nothingIsCut_38 : decode cX5_nothingIsCut 38 = .ok (.iconst 1, 1) := by decide +kernel
theorem dX5_nothingIsCut_39 : decode cX5_nothingIsCut 39 = .ok (.if_icmp .ne 15, 3) := by decide +kernel
theorem dX5_nothingIsCut_42 : decode cX5_nothingIsCut 42 = .ok (.aload_n 0, 1) := by decide +kernel
theorem dX5_nothingIsCut_43 : decode cX5_nothingIsCut 43 = .ok (.getfield 9, 3) := by decide +kernel
theorem dX5_nothingIsCut_46 : decode cX5_nothingIsCut 46 = .ok (.iload 4, 2) := by decide +kernel
theorem dX5_nothingIsCut_48 : decode cX5_nothingIsCut 48 = .ok (.iconst 4, 1) := by decide +kernel
theorem dX5_nothingIsCut_49 : decode cX5_nothingIsCut 49 = .ok (.invokestatic 85, 3) := by decide +kernel
theorem dX5_nothingIsCut_52 : decode cX5_nothingIsCut 52 = .ok (.iconst 1, 1) := by decide +kernel
theorem dX5_nothingIsCut_53 : decode cX5_nothingIsCut 53 = .ok (.iastore, 1) := by decide +kernel
theorem dX5_nothingIsCut_54 : decode cX5_nothingIsCut 54 = .ok (.iinc 4 1, 3) := by decide +kernel
theorem dX5_nothingIsCut_57 : decode cX5_nothingIsCut 57 = .ok (.goto (-36), 3) := by decide +kernel
theorem dX5_nothingIsCut_60 : decode cX5_nothingIsCut 60 = .ok (.aload_n 0, 1) := by decide +kernel
theorem dX5_nothingIsCut_61 : decode cX5_nothingIsCut 61 = .ok (.iload_n 2, 1) := by decide +kernel
theorem dX5_nothingIsCut_62 : decode cX5_nothingIsCut 62 = .ok (.invokevirtual 167, 3) := by decide +kernel
theorem dX5_nothingIsCut_65 : decode cX5_nothingIsCut 65 = .ok (.aload_n 0, 1) := by decide +kernel
theorem dX5_nothingIsCut_66 : decode cX5_nothingIsCut 66 = .ok (.getfield 9, 3) := by decide +kernel
theorem dX5_nothingIsCut_69 : decode cX5_nothingIsCut 69 = .ok (.iconst 4, 1) := by decide +kernel
theorem dX5_nothingIsCut_70 : decode cX5_nothingIsCut 70 = .ok (.iaload, 1) := by decide +kernel
theorem dX5_nothingIsCut_71 : decode cX5_nothingIsCut 71 = .ok (.iload_n 3, 1) := by decide +kernel
theorem dX5_nothingIsCut_72 : decode cX5_nothingIsCut 72 = .ok (.if_icmp .ne 7, 3) := by decide +kernel
theorem dX5_nothingIsCut_75 : decode cX5_nothingIsCut 75 = .ok (.iconst 1, 1) := by decide +kernel
theorem dX5_nothingIsCut_76 : decode cX5_nothingIsCut 76 = .ok (.goto 4, 3) := by decide +kernel
theorem dX5_nothingIsCut_79 : decode cX5_nothingIsCut 79 = .ok (.iconst 0, 1) := by decide +kernel
theorem dX5_nothingIsCut_80 : decode cX5_nothingIsCut 80 = .ok (.istore 4, 2) := by decide +kernel
theorem dX5_nothingIsCut_82 : decode cX5_nothingIsCut 82 = .ok (.aload_n 0, 1) := by decide +kernel
theorem dX5_nothingIsCut_83 : decode cX5_nothingIsCut 83 = .ok (.getfield 16, 3) := by decide +kernel
theorem dX5_nothingIsCut_86 : decode cX5_nothingIsCut 86 = .ok (.aload_n 0, 1) := by decide +kernel
theorem dX5_nothingIsCut_87 : decode cX5_nothingIsCut 87 = .ok (.getfield 9, 3) := by decide +kernel
theorem dX5_nothingIsCut_90 : decode cX5_nothingIsCut 90 = .ok (.invokestatic 61, 3) := by decide +kernel
theorem dX5_nothingIsCut_93 : decode cX5_nothingIsCut 93 = .ok (.iload 4, 2) := by decide +kernel
theorem dX5_nothingIsCut_95 : decode cX5_nothingIsCut 95 = .ok (.ireturn, 1) := by decide +kernel
theorem dX5_tie_0 : decode cX5_tie 0 = .ok (.iload_n 1, 1) := by decide +kernel
theorem dX5_tie_1 : decode cX5_tie 1 = .ok (.iconst 0, 1) := by decide +kernel
theorem dX5_tie_2 : decode cX5_tie 2 = .ok (.bipush 20, 2) := by decide +kernel
theorem dX5_tie_4 : decode cX5_tie 4 = .ok (.invokestatic 70, 3) := by decide +kernel
theorem dX5_tie_7 : decode cX5_tie 7 = .ok (.ifCond .ne 10, 3) := by decide +kernel
theorem dX5_tie_10 : decode cX5_tie 10 = .ok (.aload_n 0, 1) := by decide +kernel
theorem dX5_tie_11 : decode cX5_tie 11 = .ok (.ldc 60, 2) := by decide +kernel
theorem dX5_tie_13 : decode cX5_tie 13 = .ok (.invokevirtual 66, 3) := by decide +kernel
theorem dX5_tie_16 : decode cX5_tie 16 = .ok (.ireturn, 1) := by decide +kernel
theorem dX5_tie_17 : decode cX5_tie 17 = .ok (.iconst (-1), 1) := by decide +kernel
theorem dX5_tie_18 : decode cX5_tie 18 = .ok (.istore_n 2, 1) := by decide +kernel
theorem dX5_tie_19 : decode cX5_tie 19 = .ok (.iconst 1, 1) := by decide +kernel
theorem dX5_tie_20 : decode cX5_tie 20 = .ok (.aload_n 0, 1) := by decide +kernel
theorem dX5_tie_21 : decode cX5_tie 21 = .ok (.getfield 9, 3) := by decide +kernel
theorem dX5_tie_24 : decode cX5_tie 24 = .ok (.iconst 1, 1) := by decide +kernel
theorem dX5_tie_25 : decode cX5_tie 25 = .ok (.iaload, 1) := by decide +kernel
theorem dX5_tie_26 : decode cX5_tie 26 = .ok (.ishl, 1) := by decide +kernel
theorem dX5_tie_27 : decode cX5_tie 27 = .ok (.iconst 1, 1) := by decide +kernel
theorem dX5_tie_28 : decode cX5_tie 28 = .ok (.isub, 1) := by decide +kernel
theorem dX5_tie_29 : decode cX5_tie 29 = .ok (.istore_n 3, 1) := by decide +kernel
theorem dX5_tie_30 : decode cX5_tie 30 = .ok (.iload_n 3, 1) := by decide +kernel
theorem dX5_tie_31 : decode cX5_tie 31 = .ok (.ifCond .lt 39, 3) := by decide +kernel
theorem dX5_tie_34 : decode cX5_tie 34 = .ok (.iload_n 2, 1) := by decide +kernel
theorem dX5_tie_35 : decode cX5_tie 35 = .ok (.ifCond .lt 14, 3) := by decide +kernel
theorem dX5_tie_38 : decode cX5_tie 38 = .ok (.iload_n 3, 1) := by decide +kernel
theorem dX5_tie_39 : decode cX5_tie 39 = .ok (.invokestatic 101, 3) := by decide +kernel
theorem dX5_tie_42 : decode cX5_tie 42 = .ok (.iload_n 2, 1) := by decide +kernel
theorem dX5_tie_43 : decode cX5_tie 43 = .ok (.invokestatic 101, 3) := by decide +kernel
theorem dX5_tie_46 : decode cX5_tie 46 = .ok (.if_icmp .gt 16, 3) := by decide +kernel
theorem dX5_tie_49 : decode cX5_tie 49 = .ok (.aload_n 0, 1) := by decide +kernel
theorem dX5_tie_50 : decode cX5_tie 50 = .ok (.iload_n 3, 1) := by decide +kernel
theorem dX5_tie_51 : decode cX5_tie 51 = .ok (.iload_n 1, 1) := by decide +kernel
theorem dX5_tie_52 : decode cX5_tie 52 = .ok (.invokevirtual 202, 3) := by decide +kernel
theorem dX5_tie_55 : decode cX5_tie 55 = .ok (.ifCond .eq 7, 3) := by decide +kernel
theorem dX5_tie_58 : decode cX5_tie 58 = .ok (.iload_n 3, 1) := by decide +kernel
theorem dX5_tie_59 : decode cX5_tie 59 = .ok (.goto 4, 3) := by decide +kernel
theorem dX5_tie_62 : decode cX5_tie 62 = .ok (.iload_n 2, 1) := by decide +kernel
theorem dX5_tie_63 : decode cX5_tie 63 = .ok (.istore_n 2, 1) := by decide +kernel
theorem dX5_tie_64 : decode cX5_tie 64 = .ok (.iinc 3 (-1), 3) := by decide +kernel
theorem dX5_tie_67 : decode cX5_tie 67 = .ok (.goto (-37), 3) := by decide +kernel
theorem dX5_tie_70 : decode cX5_tie 70 = .ok (.aload_n 0, 1) := by decide +kernel
theorem dX5_tie_71 : decode cX5_tie 71 = .ok (.iload_n 2, 1) := by decide +kernel
theorem dX5_tie_72 : decode cX5_tie 72 = .ok (.invokevirtual 192, 3) := by decide +kernel
theorem dX5_tie_75 : decode cX5_tie 75 = .ok (.ireturn, 1) := by decide +kernel
theorem dX5_pleases_0 : decode cX5_pleases 0 = .ok (.iconst 1, 1) := by decide +kernel
theorem dX5_pleases_1 : decode cX5_pleases 1 = .ok (.istore_n 2, 1) := by decide +kernel
theorem dX5_pleases_2 : decode cX5_pleases 2 = .ok (.iconst 0, 1) := by decide +kernel
theorem dX5_pleases_3 : decode cX5_pleases 3 = .ok (.istore_n 3, 1) := by decide +kernel
theorem dX5_pleases_4 : decode cX5_pleases 4 = .ok (.iload_n 3, 1) := by decide +kernel
theorem dX5_pleases_5 : decode cX5_pleases 5 = .ok (.aload_n 0, 1) := by decide +kernel
theorem dX5_pleases_6 : decode cX5_pleases 6 = .ok (.getfield 9, 3) := by decide +kernel
theorem dX5_pleases_9 : decode cX5_pleases 9 = .ok (.iconst 1, 1) := by decide +kernel
theorem dX5_pleases_10 : decode cX5_pleases 10 = .ok (.iaload, 1) := by decide +kernel
theorem dX5_pleases_11 : decode cX5_pleases 11 = .ok (.if_icmp .ge 39, 3) := by decide +kernel
theorem dX5_pleases_14 : decode cX5_pleases 14 = .ok (.iload_n 2, 1) := by decide +kernel
theorem dX5_pleases_15 : decode cX5_pleases 15 = .ok (.ifCond .eq 27, 3) := by decide +kernel
theorem dX5_pleases_18 : decode cX5_pleases 18 = .ok (.aload_n 0, 1) := by decide +kernel
theorem dX5_pleases_19 : decode cX5_pleases 19 = .ok (.iload_n 3, 1) := by decide +kernel
theorem dX5_pleases_20 : decode cX5_pleases 20 = .ok (.iconst 2, 1) := by decide +kernel
theorem dX5_pleases_21 : decode cX5_pleases 21 = .ok (.invokevirtual 98, 3) := by decide +kernel
theorem dX5_pleases_24 : decode cX5_pleases 24 = .ok (.ifCond .eq 14, 3) := by decide +kernel
theorem dX5_pleases_27 : decode cX5_pleases 27 = .ok (.aload_n 0, 1) := by decide +kernel
theorem dX5_pleases_28 : decode cX5_pleases 28 = .ok (.iload_n 3, 1) := by decide +kernel
theorem dX5_pleases_29 : decode cX5_pleases 29 = .ok (.iconst 2, 1) := by decide +kernel
theorem dX5_pleases_30 : decode cX5_pleases 30 = .ok (.invokevirtual 98, 3) := by decide +kernel
theorem dX5_pleases_33 : decode cX5_pleases 33 = .ok (.iload_n 1, 1) := by decide +kernel
theorem dX5_pleases_34 : decode cX5_pleases 34 = .ok (.iand, 1) := by decide +kernel
theorem dX5_pleases_35 : decode cX5_pleases 35 = .ok (.ifCond .eq 7, 3) := by decide +kernel
theorem dX5_pleases_38 : decode cX5_pleases 38 = .ok (.iconst 1, 1) := by decide +kernel
theorem dX5_pleases_39 : decode cX5_pleases 39 = .ok (.goto 4, 3) := by decide +kernel
theorem dX5_pleases_42 : decode cX5_pleases 42 = .ok (.iconst 0, 1) := by decide +kernel
theorem dX5_pleases_43 : decode cX5_pleases 43 = .ok (.istore_n 2, 1) := by decide +kernel
theorem dX5_pleases_44 : decode cX5_pleases 44 = .ok (.iinc 3 1, 3) := by decide +kernel
theorem dX5_pleases_47 : decode cX5_pleases 47 = .ok (.goto (-43), 3) := by decide +kernel
theorem dX5_pleases_50 : decode cX5_pleases 50 = .ok (.iload_n 2, 1) := by decide +kernel
theorem dX5_pleases_51 : decode cX5_pleases 51 = .ok (.ireturn, 1) := by decide +kernel
theorem dX5_please_0 : decode cX5_please 0 = .ok (.sipush 4095, 3) := by decide +kernel
theorem dX5_please_3 : decode cX5_please 3 = .ok (.istore_n 1, 1) := by decide +kernel
theorem dX5_please_4 : decode cX5_please 4 = .ok (.sipush 4095, 3) := by decide +kernel
theorem dX5_please_7 : decode cX5_please 7 = .ok (.istore_n 2, 1) := by decide +kernel
theorem dX5_please_8 : decode cX5_please 8 = .ok (.iload_n 2, 1) := by decide +kernel
theorem dX5_please_9 : decode cX5_please 9 = .ok (.ifCond .lt 34, 3) := by decide +kernel
theorem dX5_please_12 : decode cX5_please 12 = .ok (.iload_n 2, 1) := by decide +kernel
theorem dX5_please_13 : decode cX5_please 13 = .ok (.invokestatic 101, 3) := by decide +kernel
theorem dX5_please_16 : decode cX5_please 16 = .ok (.iload_n 1, 1) := by decide +kernel
theorem dX5_please_17 : decode cX5_please 17 = .ok (.invokestatic 101, 3) := by decide +kernel
theorem dX5_please_20 : decode cX5_please 20 = .ok (.if_icmp .gt 15, 3) := by decide +kernel
theorem dX5_please_23 : decode cX5_please 23 = .ok (.aload_n 0, 1) := by decide +kernel
theorem dX5_please_24 : decode cX5_please 24 = .ok (.iload_n 2, 1) := by decide +kernel
theorem dX5_please_25 : decode cX5_please 25 = .ok (.invokevirtual 205, 3) := by decide +kernel
theorem dX5_please_28 : decode cX5_please 28 = .ok (.ifCond .eq 7, 3) := by decide +kernel
theorem dX5_please_31 : decode cX5_please 31 = .ok (.iload_n 2, 1) := by decide +kernel
theorem dX5_please_32 : decode cX5_please 32 = .ok (.goto 4, 3) := by decide +kernel
theorem dX5_please_35 : decode cX5_please 35 = .ok (.iload_n 1, 1) := by decide +kernel
theorem dX5_please_36 : decode cX5_please 36 = .ok (.istore_n 1, 1) := by decide +kernel
theorem dX5_please_37 : decode cX5_please 37 = .ok (.iinc 2 (-1), 3) := by decide +kernel
theorem dX5_please_40 : decode cX5_please 40 = .ok (.goto (-32), 3) := by decide +kernel
theorem dX5_please_43 : decode cX5_please 43 = .ok (.iload_n 1, 1) := by decide +kernel
theorem dX5_please_44 : decode cX5_please 44 = .ok (.ireturn, 1) := by decide +kernel
theorem dX5_lacks_0 : decode cX5_lacks 0 = .ok (.iload_n 1, 1) := by decide +kernel
theorem dX5_lacks_1 : decode cX5_lacks 1 = .ok (.invokestatic 208, 3) := by decide +kernel
theorem dX5_lacks_4 : decode cX5_lacks 4 = .ok (.ifCond .ne 8, 3) := by decide +kernel
theorem dX5_lacks_7 : decode cX5_lacks 7 = .ok (.ldc 60, 2) := by decide +kernel
theorem dX5_lacks_9 : decode cX5_lacks 9 = .ok (.goto 27, 3) := by decide +kernel
theorem dX5_lacks_12 : decode cX5_lacks 12 = .ok (.aload_n 0, 1) := by decide +kernel
theorem dX5_lacks_13 : decode cX5_lacks 13 = .ok (.getfield 48, 3) := by decide +kernel
theorem dX5_lacks_16 : decode cX5_lacks 16 = .ok (.iload_n 1, 1) := by decide +kernel
theorem dX5_lacks_17 : decode cX5_lacks 17 = .ok (.iaload, 1) := by decide +kernel
theorem dX5_lacks_18 : decode cX5_lacks 18 = .ok (.ifCond .ne 8, 3) := by decide +kernel
theorem dX5_lacks_21 : decode cX5_lacks 21 = .ok (.ldc 211, 2) := by decide +kernel
theorem dX5_lacks_23 : decode cX5_lacks 23 = .ok (.goto 13, 3) := by decide +kernel
theorem dX5_lacks_26 : decode cX5_lacks 26 = .ok (.iload_n 2, 1) := by decide +kernel
theorem dX5_lacks_27 : decode cX5_lacks 27 = .ok (.ifCond .eq 7, 3) := by decide +kernel
theorem dX5_lacks_30 : decode cX5_lacks 30 = .ok (.iconst 0, 1) := by decide +kernel
theorem dX5_lacks_31 : decode cX5_lacks 31 = .ok (.goto 5, 3) := by decide +kernel
theorem dX5_lacks_34 : decode cX5_lacks 34 = .ok (.ldc 60, 2) := by decide +kernel
theorem dX5_lacks_36 : decode cX5_lacks 36 = .ok (.ireturn, 1) := by decide +kernel
theorem dX5_isSo_0 : decode cX5_isSo 0 = .ok (.aload_n 0, 1) := by decide +kernel
theorem dX5_isSo_1 : decode cX5_isSo 1 = .ok (.getfield 9, 3) := by decide +kernel
theorem dX5_isSo_4 : decode cX5_isSo 4 = .ok (.aload_n 0, 1) := by decide +kernel
theorem dX5_isSo_5 : decode cX5_isSo 5 = .ok (.getfield 16, 3) := by decide +kernel
theorem dX5_isSo_8 : decode cX5_isSo 8 = .ok (.invokestatic 61, 3) := by decide +kernel
theorem dX5_isSo_11 : decode cX5_isSo 11 = .ok (.iconst 1, 1) := by decide +kernel
theorem dX5_isSo_12 : decode cX5_isSo 12 = .ok (.istore_n 3, 1) := by decide +kernel
theorem dX5_isSo_13 : decode cX5_isSo 13 = .ok (.iconst 0, 1) := by decide +kernel
theorem dX5_isSo_14 : decode cX5_isSo 14 = .ok (.istore 4, 2) := by decide +kernel
theorem dX5_isSo_16 : decode cX5_isSo 16 = .ok (.iload 4, 2) := by decide +kernel
theorem dX5_isSo_18 : decode cX5_isSo 18 = .ok (.aload_n 0, 1) := by decide +kernel
theorem dX5_isSo_19 : decode cX5_isSo 19 = .ok (.getfield 51, 3) := by decide +kernel
theorem dX5_isSo_22 : decode cX5_isSo 22 = .ok (.iload_n 1, 1) := by decide +kernel
theorem dX5_isSo_23 : decode cX5_isSo 23 = .ok (.iaload, 1) := by decide +kernel
theorem dX5_isSo_24 : decode cX5_isSo 24 = .ok (.if_icmp .ge 54, 3) := by decide +kernel
theorem dX5_isSo_27 : decode cX5_isSo 27 = .ok (.iload_n 3, 1) := by decide +kernel
theorem dX5_isSo_28 : decode cX5_isSo 28 = .ok (.ifCond .eq 50, 3) := by decide +kernel
theorem dX5_isSo_31 : decode cX5_isSo 31 = .ok (.aload_n 0, 1) := by decide +kernel
theorem dX5_isSo_32 : decode cX5_isSo 32 = .ok (.getfield 54, 3) := by decide +kernel
theorem dX5_isSo_35 : decode cX5_isSo 35 = .ok (.bipush 40, 2) := by decide +kernel
theorem dX5_isSo_37 : decode cX5_isSo 37 = .ok (.iload_n 1, 1) := by decide +kernel
theorem dX5_isSo_38 : decode cX5_isSo 38 = .ok (.imul, 1) := by decide +kernel
theorem dX5_isSo_39 : decode cX5_isSo 39 = .ok (.iload 4, 2) := by decide +kernel
theorem dX5_isSo_41 : decode cX5_isSo 41 = .ok (.iadd, 1) := by decide +kernel
theorem dX5_isSo_42 : decode cX5_isSo 42 = .ok (.iaload, 1) := by decide +kernel
theorem dX5_isSo_43 : decode cX5_isSo 43 = .ok (.istore 5, 2) := by decide +kernel
theorem dX5_isSo_45 : decode cX5_isSo 45 = .ok (.iload 5, 2) := by decide +kernel
theorem dX5_isSo_47 : decode cX5_isSo 47 = .ok (.iconst (-1), 1) := by decide +kernel
theorem dX5_isSo_48 : decode cX5_isSo 48 = .ok (.if_icmp .eq 14, 3) := by decide +kernel
theorem dX5_isSo_51 : decode cX5_isSo 51 = .ok (.iload 5, 2) := by decide +kernel
theorem dX5_isSo_53 : decode cX5_isSo 53 = .ok (.aload_n 0, 1) := by decide +kernel
theorem dX5_isSo_54 : decode cX5_isSo 54 = .ok (.iload_n 2, 1) := by decide +kernel
theorem dX5_isSo_55 : decode cX5_isSo 55 = .ok (.iconst 3, 1) := by decide +kernel
theorem dX5_isSo_56 : decode cX5_isSo 56 = .ok (.invokevirtual 98, 3) := by decide +kernel
theorem dX5_isSo_59 : decode cX5_isSo 59 = .ok (.if_icmp .ne 7, 3) := by decide +kernel
theorem dX5_isSo_62 : decode cX5_isSo 62 = .ok (.iconst 1, 1) := by decide +kernel
theorem dX5_isSo_63 : decode cX5_isSo 63 = .ok (.goto 4, 3) := by decide +kernel
theorem dX5_isSo_66 : decode cX5_isSo 66 = .ok (.iconst 0, 1) := by decide +kernel
theorem dX5_isSo_67 : decode cX5_isSo 67 = .ok (.istore_n 3, 1) := by decide +kernel
theorem dX5_isSo_68 : decode cX5_isSo 68 = .ok (.aload_n 0, 1) := by decide +kernel
theorem dX5_isSo_69 : decode cX5_isSo 69 = .ok (.invokevirtual 164, 3) := by decide +kernel
theorem dX5_isSo_72 : decode cX5_isSo 72 = .ok (.iinc 4 1, 3) := by decide +kernel
theorem dX5_isSo_75 : decode cX5_isSo 75 = .ok (.goto (-59), 3) := by decide +kernel
theorem dX5_isSo_78 : decode cX5_isSo 78 = .ok (.aload_n 0, 1) := by decide +kernel
theorem dX5_isSo_79 : decode cX5_isSo 79 = .ok (.getfield 16, 3) := by decide +kernel
theorem dX5_isSo_82 : decode cX5_isSo 82 = .ok (.aload_n 0, 1) := by decide +kernel
theorem dX5_isSo_83 : decode cX5_isSo 83 = .ok (.getfield 9, 3) := by decide +kernel
theorem dX5_isSo_86 : decode cX5_isSo 86 = .ok (.invokestatic 61, 3) := by decide +kernel
theorem dX5_isSo_89 : decode cX5_isSo 89 = .ok (.iload_n 3, 1) := by decide +kernel
theorem dX5_isSo_90 : decode cX5_isSo 90 = .ok (.ireturn, 1) := by decide +kernel
theorem dX5_fitting_0 : decode cX5_fitting 0 = .ok (.aload_n 0, 1) := by decide +kernel
theorem dX5_fitting_1 : decode cX5_fitting 1 = .ok (.getfield 9, 3) := by decide +kernel
theorem dX5_fitting_4 : decode cX5_fitting 4 = .ok (.iload_n 3, 1) := by decide +kernel
theorem dX5_fitting_5 : decode cX5_fitting 5 = .ok (.iaload, 1) := by decide +kernel
theorem dX5_fitting_6 : decode cX5_fitting 6 = .ok (.istore 5, 2) := by decide +kernel
theorem dX5_fitting_8 : decode cX5_fitting 8 = .ok (.iconst 0, 1) := by decide +kernel
theorem dX5_fitting_9 : decode cX5_fitting 9 = .ok (.istore 6, 2) := by decide +kernel
theorem dX5_fitting_11 : decode cX5_fitting 11 = .ok (.iconst 0, 1) := by decide +kernel
theorem dX5_fitting_12 : decode cX5_fitting 12 = .ok (.istore 7, 2) := by decide +kernel
theorem dX5_fitting_14 : decode cX5_fitting 14 = .ok (.iload 7, 2) := by decide +kernel
theorem dX5_fitting_16 : decode cX5_fitting 16 = .ok (.iload 4, 2) := by decide +kernel
theorem dX5_fitting_18 : decode cX5_fitting 18 = .ok (.if_icmp .ge 39, 3) := by decide +kernel
theorem dX5_fitting_21 : decode cX5_fitting 21 = .ok (.aload_n 0, 1) := by decide +kernel
theorem dX5_fitting_22 : decode cX5_fitting 22 = .ok (.getfield 9, 3) := by decide +kernel
theorem dX5_fitting_25 : decode cX5_fitting 25 = .ok (.iload_n 3, 1) := by decide +kernel
theorem dX5_fitting_26 : decode cX5_fitting 26 = .ok (.iload 7, 2) := by decide +kernel
theorem dX5_fitting_28 : decode cX5_fitting 28 = .ok (.iastore, 1) := by decide +kernel
theorem dX5_fitting_29 : decode cX5_fitting 29 = .ok (.iload 6, 2) := by decide +kernel
theorem dX5_fitting_31 : decode cX5_fitting 31 = .ok (.aload_n 0, 1) := by decide +kernel
theorem dX5_fitting_32 : decode cX5_fitting 32 = .ok (.iload_n 1, 1) := by decide +kernel
theorem dX5_fitting_33 : decode cX5_fitting 33 = .ok (.iload_n 2, 1) := by decide +kernel
theorem dX5_fitting_34 : decode cX5_fitting 34 = .ok (.invokevirtual 212, 3) := by decide +kernel
theorem dX5_fitting_37 : decode cX5_fitting 37 = .ok (.ifCond .eq 10, 3) := by decide +kernel
theorem dX5_fitting_40 : decode cX5_fitting 40 = .ok (.iconst 1, 1) := by decide +kernel
theorem dX5_fitting_41 : decode cX5_fitting 41 = .ok (.iload 7, 2) := by decide +kernel
theorem dX5_fitting_43 : decode cX5_fitting 43 = .ok (.ishl, 1) := by decide +kernel
theorem dX5_fitting_44 : decode cX5_fitting 44 = .ok (.goto 4, 3) := by decide +kernel
theorem dX5_fitting_47 : decode cX5_fitting 47 = .ok (.iconst 0, 1) := by decide +kernel
theorem dX5_fitting_48 : decode cX5_fitting 48 = .ok (.ior, 1) := by decide +kernel
theorem dX5_fitting_49 : decode cX5_fitting 49 = .ok (.istore 6, 2) := by decide +kernel
theorem dX5_fitting_51 : decode cX5_fitting 51 = .ok (.iinc 7 1, 3) := by decide +kernel
theorem dX5_fitting_54 : decode cX5_fitting 54 = .ok (.goto (-40), 3) := by decide +kernel
theorem dX5_fitting_57 : decode cX5_fitting 57 = .ok (.aload_n 0, 1) := by decide +kernel
theorem dX5_fitting_58 : decode cX5_fitting 58 = .ok (.getfield 9, 3) := by decide +kernel
theorem dX5_fitting_61 : decode cX5_fitting 61 = .ok (.iload_n 3, 1) := by decide +kernel
theorem dX5_fitting_62 : decode cX5_fitting 62 = .ok (.iload 5, 2) := by decide +kernel
theorem dX5_fitting_64 : decode cX5_fitting 64 = .ok (.iastore, 1) := by decide +kernel
theorem dX5_fitting_65 : decode cX5_fitting 65 = .ok (.iload 6, 2) := by decide +kernel
theorem dX5_fitting_67 : decode cX5_fitting 67 = .ok (.ireturn, 1) := by decide +kernel
theorem dX5_fits_0 : decode cX5_fits 0 = .ok (.aload_n 0, 1) := by decide +kernel
theorem dX5_fits_1 : decode cX5_fits 1 = .ok (.iload_n 1, 1) := by decide +kernel
theorem dX5_fits_2 : decode cX5_fits 2 = .ok (.aload_n 0, 1) := by decide +kernel
theorem dX5_fits_3 : decode cX5_fits 3 = .ok (.iload_n 2, 1) := by decide +kernel
theorem dX5_fits_4 : decode cX5_fits 4 = .ok (.invokevirtual 123, 3) := by decide +kernel
theorem dX5_fits_7 : decode cX5_fits 7 = .ok (.invokevirtual 215, 3) := by decide +kernel
theorem dX5_fits_10 : decode cX5_fits 10 = .ok (.istore_n 3, 1) := by decide +kernel
theorem dX5_fits_11 : decode cX5_fits 11 = .ok (.iload_n 3, 1) := by decide +kernel
theorem dX5_fits_12 : decode cX5_fits 12 = .ok (.ifCond .eq 11, 3) := by decide +kernel
theorem dX5_fits_15 : decode cX5_fits 15 = .ok (.aload_n 0, 1) := by decide +kernel
theorem dX5_fits_16 : decode cX5_fits 16 = .ok (.iload_n 3, 1) := by decide +kernel
theorem dX5_fits_17 : decode cX5_fits 17 = .ok (.invokevirtual 66, 3) := by decide +kernel
theorem dX5_fits_20 : decode cX5_fits 20 = .ok (.goto 15, 3) := by decide +kernel
theorem dX5_fits_23 : decode cX5_fits 23 = .ok (.aload_n 0, 1) := by decide +kernel
theorem dX5_fits_24 : decode cX5_fits 24 = .ok (.iload_n 1, 1) := by decide +kernel
theorem dX5_fits_25 : decode cX5_fits 25 = .ok (.iload_n 2, 1) := by decide +kernel
theorem dX5_fits_26 : decode cX5_fits 26 = .ok (.aload_n 0, 1) := by decide +kernel
theorem dX5_fits_27 : decode cX5_fits 27 = .ok (.invokevirtual 107, 3) := by decide +kernel
theorem dX5_fits_30 : decode cX5_fits 30 = .ok (.bipush 12, 2) := by decide +kernel
theorem dX5_fits_32 : decode cX5_fits 32 = .ok (.invokevirtual 219, 3) := by decide +kernel
theorem dX5_fits_35 : decode cX5_fits 35 = .ok (.ireturn, 1) := by decide +kernel
theorem dX5_kinds_0 : decode cX5_kinds 0 = .ok (.aload_n 0, 1) := by decide +kernel
theorem dX5_kinds_1 : decode cX5_kinds 1 = .ok (.iload_n 1, 1) := by decide +kernel
theorem dX5_kinds_2 : decode cX5_kinds 2 = .ok (.aload_n 0, 1) := by decide +kernel
theorem dX5_kinds_3 : decode cX5_kinds 3 = .ok (.iload_n 2, 1) := by decide +kernel
theorem dX5_kinds_4 : decode cX5_kinds 4 = .ok (.invokevirtual 123, 3) := by decide +kernel
theorem dX5_kinds_7 : decode cX5_kinds 7 = .ok (.invokevirtual 215, 3) := by decide +kernel
theorem dX5_kinds_10 : decode cX5_kinds 10 = .ok (.istore_n 3, 1) := by decide +kernel
theorem dX5_kinds_11 : decode cX5_kinds 11 = .ok (.iload_n 3, 1) := by decide +kernel
theorem dX5_kinds_12 : decode cX5_kinds 12 = .ok (.ifCond .eq 11, 3) := by decide +kernel
theorem dX5_kinds_15 : decode cX5_kinds 15 = .ok (.aload_n 0, 1) := by decide +kernel
theorem dX5_kinds_16 : decode cX5_kinds 16 = .ok (.iload_n 3, 1) := by decide +kernel
theorem dX5_kinds_17 : decode cX5_kinds 17 = .ok (.invokevirtual 66, 3) := by decide +kernel
theorem dX5_kinds_20 : decode cX5_kinds 20 = .ok (.goto 16, 3) := by decide +kernel
theorem dX5_kinds_23 : decode cX5_kinds 23 = .ok (.aload_n 0, 1) := by decide +kernel
theorem dX5_kinds_24 : decode cX5_kinds 24 = .ok (.iload_n 1, 1) := by decide +kernel
theorem dX5_kinds_25 : decode cX5_kinds 25 = .ok (.iload_n 2, 1) := by decide +kernel
theorem dX5_kinds_26 : decode cX5_kinds 26 = .ok (.iload_n 2, 1) := by decide +kernel
theorem dX5_kinds_27 : decode cX5_kinds 27 = .ok (.iconst 0, 1) := by decide +kernel
theorem dX5_kinds_28 : decode cX5_kinds 28 = .ok (.invokestatic 85, 3) := by decide +kernel
theorem dX5_kinds_31 : decode cX5_kinds 31 = .ok (.bipush 7, 2) := by decide +kernel
theorem dX5_kinds_33 : decode cX5_kinds 33 = .ok (.invokevirtual 219, 3) := by decide +kernel
theorem dX5_kinds_36 : decode cX5_kinds 36 = .ok (.ireturn, 1) := by decide +kernel
theorem dX5_drawn_0 : decode cX5_drawn 0 = .ok (.aload_n 0, 1) := by decide +kernel
theorem dX5_drawn_1 : decode cX5_drawn 1 = .ok (.getfield 9, 3) := by decide +kernel
theorem dX5_drawn_4 : decode cX5_drawn 4 = .ok (.iconst 2, 1) := by decide +kernel
theorem dX5_drawn_5 : decode cX5_drawn 5 = .ok (.aload_n 0, 1) := by decide +kernel
theorem dX5_drawn_6 : decode cX5_drawn 6 = .ok (.getfield 9, 3) := by decide +kernel
theorem dX5_drawn_9 : decode cX5_drawn 9 = .ok (.iconst 2, 1) := by decide +kernel
theorem dX5_drawn_10 : decode cX5_drawn 10 = .ok (.iaload, 1) := by decide +kernel
theorem dX5_drawn_11 : decode cX5_drawn 11 = .ok (.ldc 223, 2) := by decide +kernel
theorem dX5_drawn_13 : decode cX5_drawn 13 = .ok (.imul, 1) := by decide +kernel
theorem dX5_drawn_14 : decode cX5_drawn 14 = .ok (.sipush 12345, 3) := by decide +kernel
theorem dX5_drawn_17 : decode cX5_drawn 17 = .ok (.iadd, 1) := by decide +kernel
theorem dX5_drawn_18 : decode cX5_drawn 18 = .ok (.iastore, 1) := by decide +kernel
theorem dX5_drawn_19 : decode cX5_drawn 19 = .ok (.aload_n 0, 1) := by decide +kernel
theorem dX5_drawn_20 : decode cX5_drawn 20 = .ok (.getfield 9, 3) := by decide +kernel
theorem dX5_drawn_23 : decode cX5_drawn 23 = .ok (.iconst 2, 1) := by decide +kernel
theorem dX5_drawn_24 : decode cX5_drawn 24 = .ok (.iaload, 1) := by decide +kernel
theorem dX5_drawn_25 : decode cX5_drawn 25 = .ok (.bipush 8, 2) := by decide +kernel
theorem dX5_drawn_27 : decode cX5_drawn 27 = .ok (.iushr, 1) := by decide +kernel
theorem dX5_drawn_28 : decode cX5_drawn 28 = .ok (.ireturn, 1) := by decide +kernel
theorem dX5_evening_0 : decode cX5_evening 0 = .ok (.iload_n 1, 1) := by decide +kernel
theorem dX5_evening_1 : decode cX5_evening 1 = .ok (.iconst 1, 1) := by decide +kernel
theorem dX5_evening_2 : decode cX5_evening 2 = .ok (.bipush 20, 2) := by decide +kernel
theorem dX5_evening_4 : decode cX5_evening 4 = .ok (.invokestatic 70, 3) := by decide +kernel
theorem dX5_evening_7 : decode cX5_evening 7 = .ok (.ifCond .ne 10, 3) := by decide +kernel
theorem dX5_evening_10 : decode cX5_evening 10 = .ok (.aload_n 0, 1) := by decide +kernel
theorem dX5_evening_11 : decode cX5_evening 11 = .ok (.ldc 60, 2) := by decide +kernel
theorem dX5_evening_13 : decode cX5_evening 13 = .ok (.invokevirtual 66, 3) := by decide +kernel
theorem dX5_evening_16 : decode cX5_evening 16 = .ok (.ireturn, 1) := by decide +kernel
theorem dX5_evening_17 : decode cX5_evening 17 = .ok (.aload_n 0, 1) := by decide +kernel
theorem dX5_evening_18 : decode cX5_evening 18 = .ok (.getfield 9, 3) := by decide +kernel
theorem dX5_evening_21 : decode cX5_evening 21 = .ok (.iconst 0, 1) := by decide +kernel
theorem dX5_evening_22 : decode cX5_evening 22 = .ok (.iaload, 1) := by decide +kernel
theorem dX5_evening_23 : decode cX5_evening 23 = .ok (.iload_n 1, 1) := by decide +kernel
theorem dX5_evening_24 : decode cX5_evening 24 = .ok (.iadd, 1) := by decide +kernel
theorem dX5_evening_25 : decode cX5_evening 25 = .ok (.ldc 156, 2) := by decide +kernel
theorem dX5_evening_27 : decode cX5_evening 27 = .ok (.if_icmp .le 10, 3) := by decide +kernel
theorem dX5_evening_30 : decode cX5_evening 30 = .ok (.aload_n 0, 1) := by decide +kernel
theorem dX5_evening_31 : decode cX5_evening 31 = .ok (.ldc 152, 2) := by decide +kernel
theorem dX5_evening_33 : decode cX5_evening 33 = .ok (.invokevirtual 66, 3) := by decide +kernel
theorem dX5_evening_36 : decode cX5_evening 36 = .ok (.ireturn, 1) := by decide +kernel
theorem dX5_evening_37 : decode cX5_evening 37 = .ok (.iconst 0, 1) := by decide +kernel
theorem dX5_evening_38 : decode cX5_evening 38 = .ok (.istore_n 2, 1) := by decide +kernel
theorem dX5_evening_39 : decode cX5_evening 39 = .ok (.iload_n 2, 1) := by decide +kernel
theorem dX5_evening_40 : decode cX5_evening 40 = .ok (.iload_n 1, 1) := by decide +kernel
theorem dX5_evening_41 : decode cX5_evening 41 = .ok (.if_icmp .ge 66, 3) := by decide +kernel
theorem dX5_evening_44 : decode cX5_evening 44 = .ok (.aload_n 0, 1) := by decide +kernel
theorem dX5_evening_45 : decode cX5_evening 45 = .ok (.invokevirtual 224, 3) := by decide +kernel
theorem dX5_evening_48 : decode cX5_evening 48 = .ok (.bipush 12, 2) := by decide +kernel
theorem dX5_evening_50 : decode cX5_evening 50 = .ok (.irem, 1) := by decide +kernel
theorem dX5_evening_51 : decode cX5_evening 51 = .ok (.istore_n 3, 1) := by decide +kernel
theorem dX5_evening_52 : decode cX5_evening 52 = .ok (.aload_n 0, 1) := by decide +kernel
theorem dX5_evening_53 : decode cX5_evening 53 = .ok (.getfield 9, 3) := by decide +kernel
theorem dX5_evening_56 : decode cX5_evening 56 = .ok (.aload_n 0, 1) := by decide +kernel
theorem dX5_evening_57 : decode cX5_evening 57 = .ok (.invokevirtual 107, 3) := by decide +kernel
theorem dX5_evening_60 : decode cX5_evening 60 = .ok (.iload_n 3, 1) := by decide +kernel
theorem dX5_evening_61 : decode cX5_evening 61 = .ok (.iastore, 1) := by decide +kernel
theorem dX5_evening_62 : decode cX5_evening 62 = .ok (.aload_n 0, 1) := by decide +kernel
theorem dX5_evening_63 : decode cX5_evening 63 = .ok (.invokevirtual 224, 3) := by decide +kernel
theorem dX5_evening_66 : decode cX5_evening 66 = .ok (.bipush 8, 2) := by decide +kernel
theorem dX5_evening_68 : decode cX5_evening 68 = .ok (.irem, 1) := by decide +kernel
theorem dX5_evening_69 : decode cX5_evening 69 = .ok (.istore 4, 2) := by decide +kernel
theorem dX5_evening_71 : decode cX5_evening 71 = .ok (.aload_n 0, 1) := by decide +kernel
theorem dX5_evening_72 : decode cX5_evening 72 = .ok (.iload 4, 2) := by decide +kernel
theorem dX5_evening_74 : decode cX5_evening 74 = .ok (.invokevirtual 123, 3) := by decide +kernel
theorem dX5_evening_77 : decode cX5_evening 77 = .ok (.ifCond .eq 20, 3) := by decide +kernel
theorem dX5_evening_80 : decode cX5_evening 80 = .ok (.aload_n 0, 1) := by decide +kernel
theorem dX5_evening_81 : decode cX5_evening 81 = .ok (.getfield 9, 3) := by decide +kernel
theorem dX5_evening_84 : decode cX5_evening 84 = .ok (.iload 4, 2) := by decide +kernel
theorem dX5_evening_86 : decode cX5_evening 86 = .ok (.iconst 2, 1) := by decide +kernel
theorem dX5_evening_87 : decode cX5_evening 87 = .ok (.invokestatic 85, 3) := by decide +kernel
theorem dX5_evening_90 : decode cX5_evening 90 = .ok (.dup2, 1) := by decide +kernel
theorem dX5_evening_91 : decode cX5_evening 91 = .ok (.iaload, 1) := by decide +kernel
theorem dX5_evening_92 : decode cX5_evening 92 = .ok (.iconst 1, 1) := by decide +kernel
theorem dX5_evening_93 : decode cX5_evening 93 = .ok (.iload_n 3, 1) := by decide +kernel
theorem dX5_evening_94 : decode cX5_evening 94 = .ok (.ishl, 1) := by decide +kernel
theorem dX5_evening_95 : decode cX5_evening 95 = .ok (.ixor, 1) := by decide +kernel
theorem dX5_evening_96 : decode cX5_evening 96 = .ok (.iastore, 1) := by decide +kernel
theorem dX5_evening_97 : decode cX5_evening 97 = .ok (.aload_n 0, 1) := by decide +kernel
theorem dX5_evening_98 : decode cX5_evening 98 = .ok (.invokevirtual 164, 3) := by decide +kernel
theorem dX5_evening_101 : decode cX5_evening 101 = .ok (.iinc 2 1, 3) := by decide +kernel
theorem dX5_evening_104 : decode cX5_evening 104 = .ok (.goto (-65), 3) := by decide +kernel
theorem dX5_evening_107 : decode cX5_evening 107 = .ok (.aload_n 0, 1) := by decide +kernel
theorem dX5_evening_108 : decode cX5_evening 108 = .ok (.getfield 9, 3) := by decide +kernel
theorem dX5_evening_111 : decode cX5_evening 111 = .ok (.iconst 4, 1) := by decide +kernel
theorem dX5_evening_112 : decode cX5_evening 112 = .ok (.iaload, 1) := by decide +kernel
theorem dX5_evening_113 : decode cX5_evening 113 = .ok (.ireturn, 1) := by decide +kernel
theorem dX5_odds_0 : decode cX5_odds 0 = .ok (.aload_n 0, 1) := by decide +kernel
theorem dX5_odds_1 : decode cX5_odds 1 = .ok (.iload_n 1, 1) := by decide +kernel
theorem dX5_odds_2 : decode cX5_odds 2 = .ok (.invokevirtual 123, 3) := by decide +kernel
theorem dX5_odds_5 : decode cX5_odds 5 = .ok (.ifCond .eq 22, 3) := by decide +kernel
theorem dX5_odds_8 : decode cX5_odds 8 = .ok (.iload_n 2, 1) := by decide +kernel
theorem dX5_odds_9 : decode cX5_odds 9 = .ok (.iconst 0, 1) := by decide +kernel
theorem dX5_odds_10 : decode cX5_odds 10 = .ok (.bipush 17, 2) := by decide +kernel
theorem dX5_odds_12 : decode cX5_odds 12 = .ok (.invokestatic 70, 3) := by decide +kernel
theorem dX5_odds_15 : decode cX5_odds 15 = .ok (.ifCond .eq 12, 3) := by decide +kernel
theorem dX5_odds_18 : decode cX5_odds 18 = .ok (.iload_n 3, 1) := by decide +kernel
theorem dX5_odds_19 : decode cX5_odds 19 = .ok (.iconst 0, 1) := by decide +kernel
theorem dX5_odds_20 : decode cX5_odds 20 = .ok (.iconst 1, 1) := by decide +kernel
theorem dX5_odds_21 : decode cX5_odds 21 = .ok (.invokestatic 70, 3) := by decide +kernel
theorem dX5_odds_24 : decode cX5_odds 24 = .ok (.ifCond .ne 11, 3) := by decide +kernel
theorem dX5_odds_27 : decode cX5_odds 27 = .ok (.aload_n 0, 1) := by decide +kernel
theorem dX5_odds_28 : decode cX5_odds 28 = .ok (.ldc 60, 2) := by decide +kernel
theorem dX5_odds_30 : decode cX5_odds 30 = .ok (.invokevirtual 66, 3) := by decide +kernel
theorem dX5_odds_33 : decode cX5_odds 33 = .ok (.i2l, 1) := by decide +kernel
theorem dX5_odds_34 : decode cX5_odds 34 = .ok (.lreturn, 1) := by decide +kernel
theorem dX5_odds_35 : decode cX5_odds 35 = .ok (.aload_n 0, 1) := by decide +kernel
theorem dX5_odds_36 : decode cX5_odds 36 = .ok (.iload_n 1, 1) := by decide +kernel
theorem dX5_odds_37 : decode cX5_odds 37 = .ok (.iconst 2, 1) := by decide +kernel
theorem dX5_odds_38 : decode cX5_odds 38 = .ok (.invokevirtual 98, 3) := by decide +kernel
theorem dX5_odds_41 : decode cX5_odds 41 = .ok (.invokestatic 101, 3) := by decide +kernel
theorem dX5_odds_44 : decode cX5_odds 44 = .ok (.istore 4, 2) := by decide +kernel
theorem dX5_odds_46 : decode cX5_odds 46 = .ok (.bipush 12, 2) := by decide +kernel
theorem dX5_odds_48 : decode cX5_odds 48 = .ok (.istore 5, 2) := by decide +kernel
theorem dX5_odds_50 : decode cX5_odds 50 = .ok (.iload 4, 2) := by decide +kernel
theorem dX5_odds_52 : decode cX5_odds 52 = .ok (.istore 6, 2) := by decide +kernel
theorem dX5_odds_54 : decode cX5_odds 54 = .ok (.iload 6, 2) := by decide +kernel
theorem dX5_odds_56 : decode cX5_odds 56 = .ok (.ifCond .eq 21, 3) := by decide +kernel
theorem dX5_odds_59 : decode cX5_odds 59 = .ok (.iload 5, 2) := by decide +kernel
theorem dX5_odds_61 : decode cX5_odds 61 = .ok (.iload 6, 2) := by decide +kernel
theorem dX5_odds_63 : decode cX5_odds 63 = .ok (.irem, 1) := by decide +kernel
theorem dX5_odds_64 : decode cX5_odds 64 = .ok (.istore 7, 2) := by decide +kernel
theorem dX5_odds_66 : decode cX5_odds 66 = .ok (.iload 6, 2) := by decide +kernel
theorem dX5_odds_68 : decode cX5_odds 68 = .ok (.istore 5, 2) := by decide +kernel
theorem dX5_odds_70 : decode cX5_odds 70 = .ok (.iload 7, 2) := by decide +kernel
theorem dX5_odds_72 : decode cX5_odds 72 = .ok (.istore 6, 2) := by decide +kernel
theorem dX5_odds_74 : decode cX5_odds 74 = .ok (.goto (-20), 3) := by decide +kernel
theorem dX5_odds_77 : decode cX5_odds 77 = .ok (.lconst 1, 1) := by decide +kernel
theorem dX5_odds_78 : decode cX5_odds 78 = .ok (.lstore 7, 2) := by decide +kernel
theorem dX5_odds_80 : decode cX5_odds 80 = .ok (.iconst 0, 1) := by decide +kernel
theorem dX5_odds_81 : decode cX5_odds 81 = .ok (.istore 9, 2) := by decide +kernel
theorem dX5_odds_83 : decode cX5_odds 83 = .ok (.iload 9, 2) := by decide +kernel
theorem dX5_odds_85 : decode cX5_odds 85 = .ok (.iload_n 2, 1) := by decide +kernel
theorem dX5_odds_86 : decode cX5_odds 86 = .ok (.if_icmp .ge 29, 3) := by decide +kernel
theorem dX5_odds_89 : decode cX5_odds 89 = .ok (.lload 7, 2) := by decide +kernel
theorem dX5_odds_91 : decode cX5_odds 91 = .ok (.iload_n 3, 1) := by decide +kernel
theorem dX5_odds_92 : decode cX5_odds 92 = .ok (.ifCond .ne 8, 3) := by decide +kernel
theorem dX5_odds_95 : decode cX5_odds 95 = .ok (.iload 4, 2) := by decide +kernel
theorem dX5_odds_97 : decode cX5_odds 97 = .ok (.goto 5, 3) := by decide +kernel
theorem dX5_odds_100 : decode cX5_odds 100 = .ok (.bipush 12, 2) := by decide +kernel
theorem dX5_odds_102 : decode cX5_odds 102 = .ok (.iload 5, 2) := by decide +kernel
theorem dX5_odds_104 : decode cX5_odds 104 = .ok (.idiv, 1) := by decide +kernel
theorem dX5_odds_105 : decode cX5_odds 105 = .ok (.i2l, 1) := by decide +kernel
theorem dX5_odds_106 : decode cX5_odds 106 = .ok (.lmul, 1) := by decide +kernel
theorem dX5_odds_107 : decode cX5_odds 107 = .ok (.lstore 7, 2) := by decide +kernel
theorem dX5_odds_109 : decode cX5_odds 109 = .ok (.iinc 9 1, 3) := by decide +kernel
theorem dX5_odds_112 : decode cX5_odds 112 = .ok (.goto (-29), 3) := by decide +kernel
theorem dX5_odds_115 : decode cX5_odds 115 = .ok (.lload 7, 2) := by decide +kernel
theorem dX5_odds_117 : decode cX5_odds 117 = .ok (.lreturn, 1) := by decide +kernel
theorem dX5_seed_0 : decode cX5_seed 0 = .ok (.aload_n 0, 1) := by decide +kernel
theorem dX5_seed_1 : decode cX5_seed 1 = .ok (.iconst 2, 1) := by decide +kernel
theorem dX5_seed_2 : decode cX5_seed 2 = .ok (.iload_n 1, 1) := by decide +kernel
theorem dX5_seed_3 : decode cX5_seed 3 = .ok (.invokevirtual 74, 3) := by decide +kernel
theorem dX5_seed_6 : decode cX5_seed 6 = .ok (.ireturn, 1) := by decide +kernel
theorem dX5_feed_0 : decode cX5_feed 0 = .ok (.iload_n 2, 1) := by decide +kernel
theorem dX5_feed_1 : decode cX5_feed 1 = .ok (.iconst 1, 1) := by decide +kernel
theorem dX5_feed_2 : decode cX5_feed 2 = .ok (.iconst 4, 1) := by decide +kernel
theorem dX5_feed_3 : decode cX5_feed 3 = .ok (.invokestatic 70, 3) := by decide +kernel
theorem dX5_feed_6 : decode cX5_feed 6 = .ok (.ifCond .ne 10, 3) := by decide +kernel
theorem dX5_feed_9 : decode cX5_feed 9 = .ok (.aload_n 0, 1) := by decide +kernel
theorem dX5_feed_10 : decode cX5_feed 10 = .ok (.ldc 60, 2) := by decide +kernel
theorem dX5_feed_12 : decode cX5_feed 12 = .ok (.invokevirtual 66, 3) := by decide +kernel
theorem dX5_feed_15 : decode cX5_feed 15 = .ok (.ireturn, 1) := by decide +kernel
theorem dX5_feed_16 : decode cX5_feed 16 = .ok (.aload_n 0, 1) := by decide +kernel
theorem dX5_feed_17 : decode cX5_feed 17 = .ok (.getfield 227, 3) := by decide +kernel
theorem dX5_feed_20 : decode cX5_feed 20 = .ok (.iload_n 2, 1) := by decide +kernel
theorem dX5_feed_21 : decode cX5_feed 21 = .ok (.iadd, 1) := by decide +kernel
theorem dX5_feed_22 : decode cX5_feed 22 = .ok (.bipush 120, 2) := by decide +kernel
theorem dX5_feed_24 : decode cX5_feed 24 = .ok (.if_icmp .le 10, 3) := by decide +kernel
theorem dX5_feed_27 : decode cX5_feed 27 = .ok (.aload_n 0, 1) := by decide +kernel
theorem dX5_feed_28 : decode cX5_feed 28 = .ok (.ldc 94, 2) := by decide +kernel
theorem dX5_feed_30 : decode cX5_feed 30 = .ok (.invokevirtual 66, 3) := by decide +kernel
theorem dX5_feed_33 : decode cX5_feed 33 = .ok (.ireturn, 1) := by decide +kernel
theorem dX5_feed_34 : decode cX5_feed 34 = .ok (.iload_n 2, 1) := by decide +kernel
theorem dX5_feed_35 : decode cX5_feed 35 = .ok (.iconst 1, 1) := by decide +kernel
theorem dX5_feed_36 : decode cX5_feed 36 = .ok (.isub, 1) := by decide +kernel
theorem dX5_feed_37 : decode cX5_feed 37 = .ok (.istore_n 3, 1) := by decide +kernel
theorem dX5_feed_38 : decode cX5_feed 38 = .ok (.iload_n 3, 1) := by decide +kernel
theorem dX5_feed_39 : decode cX5_feed 39 = .ok (.ifCond .lt 38, 3) := by decide +kernel
theorem dX5_feed_42 : decode cX5_feed 42 = .ok (.aload_n 0, 1) := by decide +kernel
theorem dX5_feed_43 : decode cX5_feed 43 = .ok (.getfield 22, 3) := by decide +kernel
theorem dX5_feed_46 : decode cX5_feed 46 = .ok (.aload_n 0, 1) := by decide +kernel
theorem dX5_feed_47 : decode cX5_feed 47 = .ok (.getfield 227, 3) := by decide +kernel
theorem dX5_feed_50 : decode cX5_feed 50 = .ok (.iload_n 1, 1) := by decide +kernel
theorem dX5_feed_51 : decode cX5_feed 51 = .ok (.bipush 8, 2) := by decide +kernel
theorem dX5_feed_53 : decode cX5_feed 53 = .ok (.iload_n 3, 1) := by decide +kernel
theorem dX5_feed_54 : decode cX5_feed 54 = .ok (.imul, 1) := by decide +kernel
theorem dX5_feed_55 : decode cX5_feed 55 = .ok (.ishr, 1) := by decide +kernel
theorem dX5_feed_56 : decode cX5_feed 56 = .ok (.sipush 255, 3) := by decide +kernel
theorem dX5_feed_59 : decode cX5_feed 59 = .ok (.iand, 1) := by decide +kernel
theorem dX5_feed_60 : decode cX5_feed 60 = .ok (.iastore, 1) := by decide +kernel
theorem dX5_feed_61 : decode cX5_feed 61 = .ok (.aload_n 0, 1) := by decide +kernel
theorem dX5_feed_62 : decode cX5_feed 62 = .ok (.dup, 1) := by decide +kernel
theorem dX5_feed_63 : decode cX5_feed 63 = .ok (.getfield 227, 3) := by decide +kernel
theorem dX5_feed_66 : decode cX5_feed 66 = .ok (.iconst 1, 1) := by decide +kernel
theorem dX5_feed_67 : decode cX5_feed 67 = .ok (.iadd, 1) := by decide +kernel
theorem dX5_feed_68 : decode cX5_feed 68 = .ok (.putfield 227, 3) := by decide +kernel
theorem dX5_feed_71 : decode cX5_feed 71 = .ok (.iinc 3 (-1), 3) := by decide +kernel
theorem dX5_feed_74 : decode cX5_feed 74 = .ok (.goto (-36), 3) := by decide +kernel
theorem dX5_feed_77 : decode cX5_feed 77 = .ok (.aload_n 0, 1) := by decide +kernel
theorem dX5_feed_78 : decode cX5_feed 78 = .ok (.getfield 227, 3) := by decide +kernel
theorem dX5_feed_81 : decode cX5_feed 81 = .ok (.ireturn, 1) := by decide +kernel
theorem dX5_wipe_0 : decode cX5_wipe 0 = .ok (.aload_n 0, 1) := by decide +kernel
theorem dX5_wipe_1 : decode cX5_wipe 1 = .ok (.getfield 227, 3) := by decide +kernel
theorem dX5_wipe_4 : decode cX5_wipe 4 = .ok (.istore_n 1, 1) := by decide +kernel
theorem dX5_wipe_5 : decode cX5_wipe 5 = .ok (.aload_n 0, 1) := by decide +kernel
theorem dX5_wipe_6 : decode cX5_wipe 6 = .ok (.iconst 0, 1) := by decide +kernel
theorem dX5_wipe_7 : decode cX5_wipe 7 = .ok (.putfield 227, 3) := by decide +kernel
theorem dX5_wipe_10 : decode cX5_wipe 10 = .ok (.iload_n 1, 1) := by decide +kernel
theorem dX5_wipe_11 : decode cX5_wipe 11 = .ok (.ireturn, 1) := by decide +kernel
theorem dX5_byteAt_0 : decode cX5_byteAt 0 = .ok (.iload_n 1, 1) := by decide +kernel
theorem dX5_byteAt_1 : decode cX5_byteAt 1 = .ok (.aload_n 0, 1) := by decide +kernel
theorem dX5_byteAt_2 : decode cX5_byteAt 2 = .ok (.getfield 227, 3) := by decide +kernel
theorem dX5_byteAt_5 : decode cX5_byteAt 5 = .ok (.if_icmp .ge 12, 3) := by decide +kernel
theorem dX5_byteAt_8 : decode cX5_byteAt 8 = .ok (.aload_n 0, 1) := by decide +kernel
theorem dX5_byteAt_9 : decode cX5_byteAt 9 = .ok (.getfield 22, 3) := by decide +kernel
theorem dX5_byteAt_12 : decode cX5_byteAt 12 = .ok (.iload_n 1, 1) := by decide +kernel
theorem dX5_byteAt_13 : decode cX5_byteAt 13 = .ok (.iaload, 1) := by decide +kernel
theorem dX5_byteAt_14 : decode cX5_byteAt 14 = .ok (.goto 4, 3) := by decide +kernel
theorem dX5_byteAt_17 : decode cX5_byteAt 17 = .ok (.iconst (-1), 1) := by decide +kernel
theorem dX5_byteAt_18 : decode cX5_byteAt 18 = .ok (.ireturn, 1) := by decide +kernel
theorem dX5_token_0 : decode cX5_token 0 = .ok (.aload_n 0, 1) := by decide +kernel
theorem dX5_token_1 : decode cX5_token 1 = .ok (.aload_n 0, 1) := by decide +kernel
theorem dX5_token_2 : decode cX5_token 2 = .ok (.getfield 231, 3) := by decide +kernel
theorem dX5_token_5 : decode cX5_token 5 = .ok (.putfield 234, 3) := by decide +kernel
theorem dX5_token_8 : decode cX5_token 8 = .ok (.aload_n 0, 1) := by decide +kernel
theorem dX5_token_9 : decode cX5_token 9 = .ok (.aload_n 0, 1) := by decide +kernel
theorem dX5_token_10 : decode cX5_token 10 = .ok (.getfield 234, 3) := by decide +kernel
theorem dX5_token_13 : decode cX5_token 13 = .ok (.invokevirtual 237, 3) := by decide +kernel
theorem dX5_token_16 : decode cX5_token 16 = .ok (.bipush 32, 2) := by decide +kernel
theorem dX5_token_18 : decode cX5_token 18 = .ok (.if_icmp .ne 16, 3) := by decide +kernel
theorem dX5_token_21 : decode cX5_token 21 = .ok (.aload_n 0, 1) := by decide +kernel
theorem dX5_token_22 : decode cX5_token 22 = .ok (.dup, 1) := by decide +kernel
theorem dX5_token_23 : decode cX5_token 23 = .ok (.getfield 234, 3) := by decide +kernel
theorem dX5_token_26 : decode cX5_token 26 = .ok (.iconst 1, 1) := by decide +kernel
theorem dX5_token_27 : decode cX5_token 27 = .ok (.iadd, 1) := by decide +kernel
theorem dX5_token_28 : decode cX5_token 28 = .ok (.putfield 234, 3) := by decide +kernel
theorem dX5_token_31 : decode cX5_token 31 = .ok (.goto (-23), 3) := by decide +kernel
theorem dX5_token_34 : decode cX5_token 34 = .ok (.aload_n 0, 1) := by decide +kernel
theorem dX5_token_35 : decode cX5_token 35 = .ok (.aload_n 0, 1) := by decide +kernel
theorem dX5_token_36 : decode cX5_token 36 = .ok (.getfield 234, 3) := by decide +kernel
theorem dX5_token_39 : decode cX5_token 39 = .ok (.invokevirtual 237, 3) := by decide +kernel
theorem dX5_token_42 : decode cX5_token 42 = .ok (.istore_n 1, 1) := by decide +kernel
theorem dX5_token_43 : decode cX5_token 43 = .ok (.aload_n 0, 1) := by decide +kernel
theorem dX5_token_44 : decode cX5_token 44 = .ok (.aload_n 0, 1) := by decide +kernel
theorem dX5_token_45 : decode cX5_token 45 = .ok (.getfield 234, 3) := by decide +kernel
theorem dX5_token_48 : decode cX5_token 48 = .ok (.putfield 231, 3) := by decide +kernel
theorem dX5_token_51 : decode cX5_token 51 = .ok (.aload_n 0, 1) := by decide +kernel
theorem dX5_token_52 : decode cX5_token 52 = .ok (.iconst 0, 1) := by decide +kernel
theorem dX5_token_53 : decode cX5_token 53 = .ok (.putfield 240, 3) := by decide +kernel
theorem dX5_token_56 : decode cX5_token 56 = .ok (.iload_n 1, 1) := by decide +kernel
theorem dX5_token_57 : decode cX5_token 57 = .ok (.ifCond .ge 11, 3) := by decide +kernel
theorem dX5_token_60 : decode cX5_token 60 = .ok (.aload_n 0, 1) := by decide +kernel
theorem dX5_token_61 : decode cX5_token 61 = .ok (.iconst 0, 1) := by decide +kernel
theorem dX5_token_62 : decode cX5_token 62 = .ok (.putfield 243, 3) := by decide +kernel
theorem dX5_token_65 : decode cX5_token 65 = .ok (.goto 141, 3) := by decide +kernel
theorem dX5_token_68 : decode cX5_token 68 = .ok (.iload_n 1, 1) := by decide +kernel
theorem dX5_token_69 : decode cX5_token 69 = .ok (.bipush 97, 2) := by decide +kernel
theorem dX5_token_71 : decode cX5_token 71 = .ok (.bipush 122, 2) := by decide +kernel
theorem dX5_token_73 : decode cX5_token 73 = .ok (.invokestatic 70, 3) := by decide +kernel
theorem dX5_token_76 : decode cX5_token 76 = .ok (.ifCond .eq 39, 3) := by decide +kernel
theorem dX5_token_79 : decode cX5_token 79 = .ok (.aload_n 0, 1) := by decide +kernel
theorem dX5_token_80 : decode cX5_token 80 = .ok (.iconst 1, 1) := by decide +kernel
theorem dX5_token_81 : decode cX5_token 81 = .ok (.putfield 243, 3) := by decide +kernel
theorem dX5_token_84 : decode cX5_token 84 = .ok (.aload_n 0, 1) := by decide +kernel
theorem dX5_token_85 : decode cX5_token 85 = .ok (.aload_n 0, 1) := by decide +kernel
theorem dX5_token_86 : decode cX5_token 86 = .ok (.getfield 231, 3) := by decide +kernel
theorem dX5_token_89 : decode cX5_token 89 = .ok (.invokevirtual 237, 3) := by decide +kernel
theorem dX5_token_92 : decode cX5_token 92 = .ok (.bipush 97, 2) := by decide +kernel
theorem dX5_token_94 : decode cX5_token 94 = .ok (.bipush 122, 2) := by decide +kernel
theorem dX5_token_96 : decode cX5_token 96 = .ok (.invokestatic 70, 3) := by decide +kernel
theorem dX5_token_99 : decode cX5_token 99 = .ok (.ifCond .eq 107, 3) := by decide +kernel
theorem dX5_token_102 : decode cX5_token 102 = .ok (.aload_n 0, 1) := by decide +kernel
theorem dX5_token_103 : decode cX5_token 103 = .ok (.dup, 1) := by decide +kernel
theorem dX5_token_104 : decode cX5_token 104 = .ok (.getfield 231, 3) := by decide +kernel
theorem dX5_token_107 : decode cX5_token 107 = .ok (.iconst 1, 1) := by decide +kernel
theorem dX5_token_108 : decode cX5_token 108 = .ok (.iadd, 1) := by decide +kernel
theorem dX5_token_109 : decode cX5_token 109 = .ok (.putfield 231, 3) := by decide +kernel
theorem dX5_token_112 : decode cX5_token 112 = .ok (.goto (-28), 3) := by decide +kernel
theorem dX5_token_115 : decode cX5_token 115 = .ok (.iload_n 1, 1) := by decide +kernel
theorem dX5_token_116 : decode cX5_token 116 = .ok (.bipush 48, 2) := by decide +kernel
theorem dX5_token_118 : decode cX5_token 118 = .ok (.bipush 57, 2) := by decide +kernel
theorem dX5_token_120 : decode cX5_token 120 = .ok (.invokestatic 70, 3) := by decide +kernel
theorem dX5_token_123 : decode cX5_token 123 = .ok (.ifCond .eq 68, 3) := by decide +kernel
theorem dX5_token_126 : decode cX5_token 126 = .ok (.aload_n 0, 1) := by decide +kernel
theorem dX5_token_127 : decode cX5_token 127 = .ok (.iconst 2, 1) := by decide +kernel
theorem dX5_token_128 : decode cX5_token 128 = .ok (.putfield 243, 3) := by decide +kernel
theorem dX5_token_131 : decode cX5_token 131 = .ok (.aload_n 0, 1) := by decide +kernel
theorem dX5_token_132 : decode cX5_token 132 = .ok (.aload_n 0, 1) := by decide +kernel
theorem dX5_token_133 : decode cX5_token 133 = .ok (.getfield 231, 3) := by decide +kernel
theorem dX5_token_136 : decode cX5_token 136 = .ok (.invokevirtual 237, 3) := by decide +kernel
theorem dX5_token_139 : decode cX5_token 139 = .ok (.bipush 48, 2) := by decide +kernel
theorem dX5_token_141 : decode cX5_token 141 = .ok (.bipush 57, 2) := by decide +kernel
theorem dX5_token_143 : decode cX5_token 143 = .ok (.invokestatic 70, 3) := by decide +kernel
theorem dX5_token_146 : decode cX5_token 146 = .ok (.ifCond .eq 60, 3) := by decide +kernel
theorem dX5_token_149 : decode cX5_token 149 = .ok (.aload_n 0, 1) := by decide +kernel
theorem dX5_token_150 : decode cX5_token 150 = .ok (.sipush 10000, 3) := by decide +kernel
theorem dX5_token_153 : decode cX5_token 153 = .ok (.bipush 10, 2) := by decide +kernel
theorem dX5_token_155 : decode cX5_token 155 = .ok (.aload_n 0, 1) := by decide +kernel
theorem dX5_token_156 : decode cX5_token 156 = .ok (.getfield 240, 3) := by decide +kernel
theorem dX5_token_159 : decode cX5_token 159 = .ok (.imul, 1) := by decide +kernel
theorem dX5_token_160 : decode cX5_token 160 = .ok (.aload_n 0, 1) := by decide +kernel
theorem dX5_token_161 : decode cX5_token 161 = .ok (.aload_n 0, 1) := by decide +kernel
theorem dX5_token_162 : decode cX5_token 162 = .ok (.getfield 231, 3) := by decide +kernel
theorem dX5_token_165 : decode cX5_token 165 = .ok (.invokevirtual 237, 3) := by decide +kernel
theorem dX5_token_168 : decode cX5_token 168 = .ok (.iadd, 1) := by decide +kernel
theorem dX5_token_169 : decode cX5_token 169 = .ok (.bipush 48, 2) := by decide +kernel
theorem dX5_token_171 : decode cX5_token 171 = .ok (.isub, 1) := by decide +kernel
theorem dX5_token_172 : decode cX5_token 172 = .ok (.invokestatic 133, 3) := by decide +kernel
theorem dX5_token_175 : decode cX5_token 175 = .ok (.putfield 240, 3) := by decide +kernel
theorem dX5_token_178 : decode cX5_token 178 = .ok (.aload_n 0, 1) := by decide +kernel
theorem dX5_token_179 : decode cX5_token 179 = .ok (.dup, 1) := by decide +kernel
theorem dX5_token_180 : decode cX5_token 180 = .ok (.getfield 231, 3) := by decide +kernel
theorem dX5_token_183 : decode cX5_token 183 = .ok (.iconst 1, 1) := by decide +kernel
theorem dX5_token_184 : decode cX5_token 184 = .ok (.iadd, 1) := by decide +kernel
theorem dX5_token_185 : decode cX5_token 185 = .ok (.putfield 231, 3) := by decide +kernel
theorem dX5_token_188 : decode cX5_token 188 = .ok (.goto (-57), 3) := by decide +kernel
theorem dX5_token_191 : decode cX5_token 191 = .ok (.aload_n 0, 1) := by decide +kernel
theorem dX5_token_192 : decode cX5_token 192 = .ok (.iconst 3, 1) := by decide +kernel
theorem dX5_token_193 : decode cX5_token 193 = .ok (.putfield 243, 3) := by decide +kernel
theorem dX5_token_196 : decode cX5_token 196 = .ok (.aload_n 0, 1) := by decide +kernel
theorem dX5_token_197 : decode cX5_token 197 = .ok (.dup, 1) := by decide +kernel
theorem dX5_token_198 : decode cX5_token 198 = .ok (.getfield 231, 3) := by decide +kernel
theorem dX5_token_201 : decode cX5_token 201 = .ok (.iconst 1, 1) := by decide +kernel
theorem dX5_token_202 : decode cX5_token 202 = .ok (.iadd, 1) := by decide +kernel
theorem dX5_token_203 : decode cX5_token 203 = .ok (.putfield 231, 3) := by decide +kernel
theorem dX5_token_206 : decode cX5_token 206 = .ok (.return_, 1) := by decide +kernel
theorem dX5_isWord_0 : decode cX5_isWord 0 = .ok (.aload_n 0, 1) := by decide +kernel
theorem dX5_isWord_1 : decode cX5_isWord 1 = .ok (.getfield 243, 3) := by decide +kernel
theorem dX5_isWord_4 : decode cX5_isWord 4 = .ok (.iconst 1, 1) := by decide +kernel
theorem dX5_isWord_5 : decode cX5_isWord 5 = .ok (.if_icmp .ne 23, 3) := by decide +kernel
theorem dX5_isWord_8 : decode cX5_isWord 8 = .ok (.aload_n 0, 1) := by decide +kernel
theorem dX5_isWord_9 : decode cX5_isWord 9 = .ok (.getfield 231, 3) := by decide +kernel
theorem dX5_isWord_12 : decode cX5_isWord 12 = .ok (.aload_n 0, 1) := by decide +kernel
theorem dX5_isWord_13 : decode cX5_isWord 13 = .ok (.getfield 234, 3) := by decide +kernel
theorem dX5_isWord_16 : decode cX5_isWord 16 = .ok (.isub, 1) := by decide +kernel
theorem dX5_isWord_17 : decode cX5_isWord 17 = .ok (.aload_n 1, 1) := by decide +kernel
theorem dX5_isWord_18 : decode cX5_isWord 18 = .ok (.invokevirtual 246, 3) := by decide +kernel
theorem dX5_isWord_21 : decode cX5_isWord 21 = .ok (.if_icmp .ne 7, 3) := by decide +kernel
theorem dX5_isWord_24 : decode cX5_isWord 24 = .ok (.iconst 1, 1) := by decide +kernel
theorem dX5_isWord_25 : decode cX5_isWord 25 = .ok (.goto 4, 3) := by decide +kernel
theorem dX5_isWord_28 : decode cX5_isWord 28 = .ok (.iconst 0, 1) := by decide +kernel
theorem dX5_isWord_29 : decode cX5_isWord 29 = .ok (.istore_n 2, 1) := by decide +kernel
theorem dX5_isWord_30 : decode cX5_isWord 30 = .ok (.iconst 0, 1) := by decide +kernel
theorem dX5_isWord_31 : decode cX5_isWord 31 = .ok (.istore_n 3, 1) := by decide +kernel
theorem dX5_isWord_32 : decode cX5_isWord 32 = .ok (.iload_n 3, 1) := by decide +kernel
theorem dX5_isWord_33 : decode cX5_isWord 33 = .ok (.aload_n 1, 1) := by decide +kernel
theorem dX5_isWord_34 : decode cX5_isWord 34 = .ok (.invokevirtual 246, 3) := by decide +kernel
theorem dX5_isWord_37 : decode cX5_isWord 37 = .ok (.if_icmp .ge 38, 3) := by decide +kernel
theorem dX5_isWord_40 : decode cX5_isWord 40 = .ok (.iload_n 2, 1) := by decide +kernel
theorem dX5_isWord_41 : decode cX5_isWord 41 = .ok (.ifCond .eq 34, 3) := by decide +kernel
theorem dX5_isWord_44 : decode cX5_isWord 44 = .ok (.aload_n 0, 1) := by decide +kernel
theorem dX5_isWord_45 : decode cX5_isWord 45 = .ok (.getfield 22, 3) := by decide +kernel
theorem dX5_isWord_48 : decode cX5_isWord 48 = .ok (.aload_n 0, 1) := by decide +kernel
theorem dX5_isWord_49 : decode cX5_isWord 49 = .ok (.getfield 234, 3) := by decide +kernel
theorem dX5_isWord_52 : decode cX5_isWord 52 = .ok (.iload_n 3, 1) := by decide +kernel
theorem dX5_isWord_53 : decode cX5_isWord 53 = .ok (.iadd, 1) := by decide +kernel
theorem dX5_isWord_54 : decode cX5_isWord 54 = .ok (.iaload, 1) := by decide +kernel
theorem dX5_isWord_55 : decode cX5_isWord 55 = .ok (.aload_n 1, 1) := by decide +kernel
theorem dX5_isWord_56 : decode cX5_isWord 56 = .ok (.iload_n 3, 1) := by decide +kernel
theorem dX5_isWord_57 : decode cX5_isWord 57 = .ok (.invokevirtual 249, 3) := by decide +kernel
theorem dX5_isWord_60 : decode cX5_isWord 60 = .ok (.if_icmp .ne 7, 3) := by decide +kernel
theorem dX5_isWord_63 : decode cX5_isWord 63 = .ok (.iconst 1, 1) := by decide +kernel
theorem dX5_isWord_64 : decode cX5_isWord 64 = .ok (.goto 4, 3) := by decide +kernel
theorem dX5_isWord_67 : decode cX5_isWord 67 = .ok (.iconst 0, 1) := by decide +kernel
theorem dX5_isWord_68 : decode cX5_isWord 68 = .ok (.istore_n 2, 1) := by decide +kernel
theorem dX5_isWord_69 : decode cX5_isWord 69 = .ok (.iinc 3 1, 3) := by decide +kernel
theorem dX5_isWord_72 : decode cX5_isWord 72 = .ok (.goto (-40), 3) := by decide +kernel
theorem dX5_isWord_75 : decode cX5_isWord 75 = .ok (.iload_n 2, 1) := by decide +kernel
theorem dX5_isWord_76 : decode cX5_isWord 76 = .ok (.ireturn, 1) := by decide +kernel
theorem dX5_must_0 : decode cX5_must 0 = .ok (.aload_n 0, 1) := by decide +kernel
theorem dX5_must_1 : decode cX5_must 1 = .ok (.aload_n 0, 1) := by decide +kernel
theorem dX5_must_2 : decode cX5_must 2 = .ok (.getfield 253, 3) := by decide +kernel
theorem dX5_must_5 : decode cX5_must 5 = .ok (.ifCond .ne 7, 3) := by decide +kernel
theorem dX5_must_8 : decode cX5_must 8 = .ok (.iload_n 1, 1) := by decide +kernel
theorem dX5_must_9 : decode cX5_must 9 = .ok (.ifCond .ne 7, 3) := by decide +kernel
theorem dX5_must_12 : decode cX5_must 12 = .ok (.iconst 1, 1) := by decide +kernel
theorem dX5_must_13 : decode cX5_must 13 = .ok (.goto 4, 3) := by decide +kernel
theorem dX5_must_16 : decode cX5_must 16 = .ok (.iconst 0, 1) := by decide +kernel
theorem dX5_must_17 : decode cX5_must 17 = .ok (.putfield 253, 3) := by decide +kernel
theorem dX5_must_20 : decode cX5_must 20 = .ok (.aload_n 0, 1) := by decide +kernel
theorem dX5_must_21 : decode cX5_must 21 = .ok (.getfield 253, 3) := by decide +kernel
theorem dX5_must_24 : decode cX5_must 24 = .ok (.ifCond .ne 7, 3) := by decide +kernel
theorem dX5_must_27 : decode cX5_must 27 = .ok (.aload_n 0, 1) := by decide +kernel
theorem dX5_must_28 : decode cX5_must 28 = .ok (.invokevirtual 257, 3) := by decide +kernel
theorem dX5_must_31 : decode cX5_must 31 = .ok (.return_, 1) := by decide +kernel
theorem dX5_number_0 : decode cX5_number 0 = .ok (.aload_n 0, 1) := by decide +kernel
theorem dX5_number_1 : decode cX5_number 1 = .ok (.getfield 240, 3) := by decide +kernel
theorem dX5_number_4 : decode cX5_number 4 = .ok (.istore_n 3, 1) := by decide +kernel
theorem dX5_number_5 : decode cX5_number 5 = .ok (.aload_n 0, 1) := by decide +kernel
theorem dX5_number_6 : decode cX5_number 6 = .ok (.aload_n 0, 1) := by decide +kernel
theorem dX5_number_7 : decode cX5_number 7 = .ok (.getfield 243, 3) := by decide +kernel
theorem dX5_number_10 : decode cX5_number 10 = .ok (.iconst 2, 1) := by decide +kernel
theorem dX5_number_11 : decode cX5_number 11 = .ok (.if_icmp .ne 16, 3) := by decide +kernel
theorem dX5_number_14 : decode cX5_number 14 = .ok (.iload_n 3, 1) := by decide +kernel
theorem dX5_number_15 : decode cX5_number 15 = .ok (.iload_n 1, 1) := by decide +kernel
theorem dX5_number_16 : decode cX5_number 16 = .ok (.iload_n 2, 1) := by decide +kernel
theorem dX5_number_17 : decode cX5_number 17 = .ok (.invokestatic 70, 3) := by decide +kernel
theorem dX5_number_20 : decode cX5_number 20 = .ok (.ifCond .eq 7, 3) := by decide +kernel
theorem dX5_number_23 : decode cX5_number 23 = .ok (.iconst 1, 1) := by decide +kernel
theorem dX5_number_24 : decode cX5_number 24 = .ok (.goto 4, 3) := by decide +kernel
theorem dX5_number_27 : decode cX5_number 27 = .ok (.iconst 0, 1) := by decide +kernel
theorem dX5_number_28 : decode cX5_number 28 = .ok (.invokevirtual 260, 3) := by decide +kernel
theorem dX5_number_31 : decode cX5_number 31 = .ok (.iload_n 3, 1) := by decide +kernel
theorem dX5_number_32 : decode cX5_number 32 = .ok (.ireturn, 1) := by decide +kernel
theorem dX5_addItem_0 : decode cX5_addItem 0 = .ok (.iconst 5, 1) := by decide +kernel
theorem dX5_addItem_1 : decode cX5_addItem 1 = .ok (.aload_n 0, 1) := by decide +kernel
theorem dX5_addItem_2 : decode cX5_addItem 2 = .ok (.getfield 264, 3) := by decide +kernel
theorem dX5_addItem_5 : decode cX5_addItem 5 = .ok (.imul, 1) := by decide +kernel
theorem dX5_addItem_6 : decode cX5_addItem 6 = .ok (.istore 6, 2) := by decide +kernel
theorem dX5_addItem_8 : decode cX5_addItem 8 = .ok (.aload_n 0, 1) := by decide +kernel
theorem dX5_addItem_9 : decode cX5_addItem 9 = .ok (.getfield 45, 3) := by decide +kernel
theorem dX5_addItem_12 : decode cX5_addItem 12 = .ok (.iload 6, 2) := by decide +kernel
theorem dX5_addItem_14 : decode cX5_addItem 14 = .ok (.iload_n 1, 1) := by decide +kernel
theorem dX5_addItem_15 : decode cX5_addItem 15 = .ok (.iastore, 1) := by decide +kernel
theorem dX5_addItem_16 : decode cX5_addItem 16 = .ok (.aload_n 0, 1) := by decide +kernel
theorem dX5_addItem_17 : decode cX5_addItem 17 = .ok (.getfield 45, 3) := by decide +kernel
theorem dX5_addItem_20 : decode cX5_addItem 20 = .ok (.iload 6, 2) := by decide +kernel
theorem dX5_addItem_22 : decode cX5_addItem 22 = .ok (.iconst 1, 1) := by decide +kernel
theorem dX5_addItem_23 : decode cX5_addItem 23 = .ok (.iadd, 1) := by decide +kernel
theorem dX5_addItem_24 : decode cX5_addItem 24 = .ok (.iload_n 2, 1) := by decide +kernel
theorem dX5_addItem_25 : decode cX5_addItem 25 = .ok (.iastore, 1) := by decide +kernel
theorem dX5_addItem_26 : decode cX5_addItem 26 = .ok (.aload_n 0, 1) := by decide +kernel
theorem dX5_addItem_27 : decode cX5_addItem 27 = .ok (.getfield 45, 3) := by decide +kernel
theorem dX5_addItem_30 : decode cX5_addItem 30 = .ok (.iload 6, 2) := by decide +kernel
theorem dX5_addItem_32 : decode cX5_addItem 32 = .ok (.iconst 2, 1) := by decide +kernel
theorem dX5_addItem_33 : decode cX5_addItem 33 = .ok (.iadd, 1) := by decide +kernel
theorem dX5_addItem_34 : decode cX5_addItem 34 = .ok (.iload_n 3, 1) := by decide +kernel
theorem dX5_addItem_35 : decode cX5_addItem 35 = .ok (.iastore, 1) := by decide +kernel
theorem dX5_addItem_36 : decode cX5_addItem 36 = .ok (.aload_n 0, 1) := by decide +kernel
theorem dX5_addItem_37 : decode cX5_addItem 37 = .ok (.getfield 45, 3) := by decide +kernel
theorem dX5_addItem_40 : decode cX5_addItem 40 = .ok (.iload 6, 2) := by decide +kernel
theorem dX5_addItem_42 : decode cX5_addItem 42 = .ok (.iconst 3, 1) := by decide +kernel
theorem dX5_addItem_43 : decode cX5_addItem 43 = .ok (.iadd, 1) := by decide +kernel
theorem dX5_addItem_44 : decode cX5_addItem 44 = .ok (.iload 4, 2) := by decide +kernel
theorem dX5_addItem_46 : decode cX5_addItem 46 = .ok (.iastore, 1) := by decide +kernel
theorem dX5_addItem_47 : decode cX5_addItem 47 = .ok (.aload_n 0, 1) := by decide +kernel
theorem dX5_addItem_48 : decode cX5_addItem 48 = .ok (.getfield 45, 3) := by decide +kernel
theorem dX5_addItem_51 : decode cX5_addItem 51 = .ok (.iload 6, 2) := by decide +kernel
theorem dX5_addItem_53 : decode cX5_addItem 53 = .ok (.iconst 4, 1) := by decide +kernel
theorem dX5_addItem_54 : decode cX5_addItem 54 = .ok (.iadd, 1) := by decide +kernel
theorem dX5_addItem_55 : decode cX5_addItem 55 = .ok (.iload 5, 2) := by decide +kernel
theorem dX5_addItem_57 : decode cX5_addItem 57 = .ok (.iastore, 1) := by decide +kernel
theorem dX5_addItem_58 : decode cX5_addItem 58 = .ok (.aload_n 0, 1) := by decide +kernel
theorem dX5_addItem_59 : decode cX5_addItem 59 = .ok (.dup, 1) := by decide +kernel
theorem dX5_addItem_60 : decode cX5_addItem 60 = .ok (.getfield 264, 3) := by decide +kernel
theorem dX5_addItem_63 : decode cX5_addItem 63 = .ok (.iconst 1, 1) := by decide +kernel
theorem dX5_addItem_64 : decode cX5_addItem 64 = .ok (.iadd, 1) := by decide +kernel
theorem dX5_addItem_65 : decode cX5_addItem 65 = .ok (.putfield 264, 3) := by decide +kernel
theorem dX5_addItem_68 : decode cX5_addItem 68 = .ok (.return_, 1) := by decide +kernel
theorem dX5_takesWord_0 : decode cX5_takesWord 0 = .ok (.aload_n 0, 1) := by decide +kernel
theorem dX5_takesWord_1 : decode cX5_takesWord 1 = .ok (.getfield 253, 3) := by decide +kernel
theorem dX5_takesWord_4 : decode cX5_takesWord 4 = .ok (.ifCond .ne 15, 3) := by decide +kernel
theorem dX5_takesWord_7 : decode cX5_takesWord 7 = .ok (.aload_n 0, 1) := by decide +kernel
theorem dX5_takesWord_8 : decode cX5_takesWord 8 = .ok (.aload_n 1, 1) := by decide +kernel
theorem dX5_takesWord_9 : decode cX5_takesWord 9 = .ok (.invokevirtual 267, 3) := by decide +kernel
theorem dX5_takesWord_12 : decode cX5_takesWord 12 = .ok (.ifCond .eq 7, 3) := by decide +kernel
theorem dX5_takesWord_15 : decode cX5_takesWord 15 = .ok (.iconst 1, 1) := by decide +kernel
theorem dX5_takesWord_16 : decode cX5_takesWord 16 = .ok (.goto 4, 3) := by decide +kernel
theorem dX5_takesWord_19 : decode cX5_takesWord 19 = .ok (.iconst 0, 1) := by decide +kernel
theorem dX5_takesWord_20 : decode cX5_takesWord 20 = .ok (.istore_n 2, 1) := by decide +kernel
theorem dX5_takesWord_21 : decode cX5_takesWord 21 = .ok (.iload_n 2, 1) := by decide +kernel
theorem dX5_takesWord_22 : decode cX5_takesWord 22 = .ok (.ifCond .eq 8, 3) := by decide +kernel
theorem dX5_takesWord_25 : decode cX5_takesWord 25 = .ok (.aload_n 0, 1) := by decide +kernel
theorem dX5_takesWord_26 : decode cX5_takesWord 26 = .ok (.iconst 1, 1) := by decide +kernel
theorem dX5_takesWord_27 : decode cX5_takesWord 27 = .ok (.invokevirtual 260, 3) := by decide +kernel
theorem dX5_takesWord_30 : decode cX5_takesWord 30 = .ok (.iload_n 2, 1) := by decide +kernel
theorem dX5_takesWord_31 : decode cX5_takesWord 31 = .ok (.ireturn, 1) := by decide +kernel
theorem dX5_readCurtain_0 : decode cX5_readCurtain 0 = .ok (.aload_n 0, 1) := by decide +kernel
theorem dX5_readCurtain_1 : decode cX5_readCurtain 1 = .ok (.aload_n 0, 1) := by decide +kernel
theorem dX5_readCurtain_2 : decode cX5_readCurtain 2 = .ok (.getfield 271, 3) := by decide +kernel
theorem dX5_readCurtain_5 : decode cX5_readCurtain 5 = .ok (.bipush 8, 2) := by decide +kernel
theorem dX5_readCurtain_7 : decode cX5_readCurtain 7 = .ok (.if_icmp .ge 7, 3) := by decide +kernel
theorem dX5_readCurtain_10 : decode cX5_readCurtain 10 = .ok (.iconst 1, 1) := by decide +kernel
theorem dX5_readCurtain_11 : decode cX5_readCurtain 11 = .ok (.goto 4, 3) := by decide +kernel
theorem dX5_readCurtain_14 : decode cX5_readCurtain 14 = .ok (.iconst 0, 1) := by decide +kernel
theorem dX5_readCurtain_15 : decode cX5_readCurtain 15 = .ok (.invokevirtual 260, 3) := by decide +kernel
theorem dX5_readCurtain_18 : decode cX5_readCurtain 18 = .ok (.aload_n 0, 1) := by decide +kernel
theorem dX5_readCurtain_19 : decode cX5_readCurtain 19 = .ok (.ldc_w 274, 3) := by decide +kernel
theorem dX5_readCurtain_22 : decode cX5_readCurtain 22 = .ok (.invokevirtual 276, 3) := by decide +kernel
theorem dX5_readCurtain_25 : decode cX5_readCurtain 25 = .ok (.ifCond .eq 13, 3) := by decide +kernel
theorem dX5_readCurtain_28 : decode cX5_readCurtain 28 = .ok (.aload_n 0, 1) := by decide +kernel
theorem dX5_readCurtain_29 : decode cX5_readCurtain 29 = .ok (.iconst 0, 1) := by decide +kernel
theorem dX5_readCurtain_30 : decode cX5_readCurtain 30 = .ok (.bipush 99, 2) := by decide +kernel
theorem dX5_readCurtain_32 : decode cX5_readCurtain 32 = .ok (.invokevirtual 279, 3) := by decide +kernel
theorem dX5_readCurtain_35 : decode cX5_readCurtain 35 = .ok (.goto 5, 3) := by decide +kernel
theorem dX5_readCurtain_38 : decode cX5_readCurtain 38 = .ok (.bipush 60, 2) := by decide +kernel
theorem dX5_readCurtain_40 : decode cX5_readCurtain 40 = .ok (.istore_n 2, 1) := by decide +kernel
theorem dX5_readCurtain_41 : decode cX5_readCurtain 41 = .ok (.aload_n 0, 1) := by decide +kernel
theorem dX5_readCurtain_42 : decode cX5_readCurtain 42 = .ok (.ldc_w 282, 3) := by decide +kernel
theorem dX5_readCurtain_45 : decode cX5_readCurtain 45 = .ok (.invokevirtual 276, 3) := by decide +kernel
theorem dX5_readCurtain_48 : decode cX5_readCurtain 48 = .ok (.ifCond .eq 14, 3) := by decide +kernel
theorem dX5_readCurtain_51 : decode cX5_readCurtain 51 = .ok (.aload_n 0, 1) := by decide +kernel
theorem dX5_readCurtain_52 : decode cX5_readCurtain 52 = .ok (.iconst 0, 1) := by decide +kernel
theorem dX5_readCurtain_53 : decode cX5_readCurtain 53 = .ok (.sipush 4095, 3) := by decide +kernel
theorem dX5_readCurtain_56 : decode cX5_readCurtain 56 = .ok (.invokevirtual 279, 3) := by decide +kernel
theorem dX5_readCurtain_59 : decode cX5_readCurtain 59 = .ok (.goto 4, 3) := by decide +kernel
theorem dX5_readCurtain_62 : decode cX5_readCurtain 62 = .ok (.iconst 0, 1) := by decide +kernel
theorem dX5_readCurtain_63 : decode cX5_readCurtain 63 = .ok (.istore_n 3, 1) := by decide +kernel
theorem dX5_readCurtain_64 : decode cX5_readCurtain 64 = .ok (.aload_n 0, 1) := by decide +kernel
theorem dX5_readCurtain_65 : decode cX5_readCurtain 65 = .ok (.ldc_w 284, 3) := by decide +kernel
theorem dX5_readCurtain_68 : decode cX5_readCurtain 68 = .ok (.invokevirtual 276, 3) := by decide +kernel
theorem dX5_readCurtain_71 : decode cX5_readCurtain 71 = .ok (.ifCond .eq 13, 3) := by decide +kernel
theorem dX5_readCurtain_74 : decode cX5_readCurtain 74 = .ok (.aload_n 0, 1) := by decide +kernel
theorem dX5_readCurtain_75 : decode cX5_readCurtain 75 = .ok (.iconst 0, 1) := by decide +kernel
theorem dX5_readCurtain_76 : decode cX5_readCurtain 76 = .ok (.bipush 20, 2) := by decide +kernel
theorem dX5_readCurtain_78 : decode cX5_readCurtain 78 = .ok (.invokevirtual 279, 3) := by decide +kernel
theorem dX5_readCurtain_81 : decode cX5_readCurtain 81 = .ok (.goto 5, 3) := by decide +kernel
theorem dX5_readCurtain_84 : decode cX5_readCurtain 84 = .ok (.bipush 20, 2) := by decide +kernel
theorem dX5_readCurtain_86 : decode cX5_readCurtain 86 = .ok (.istore 4, 2) := by decide +kernel
theorem dX5_readCurtain_88 : decode cX5_readCurtain 88 = .ok (.aload_n 0, 1) := by decide +kernel
theorem dX5_readCurtain_89 : decode cX5_readCurtain 89 = .ok (.iload_n 1, 1) := by decide +kernel
theorem dX5_readCurtain_90 : decode cX5_readCurtain 90 = .ok (.iload_n 2, 1) := by decide +kernel
theorem dX5_readCurtain_91 : decode cX5_readCurtain 91 = .ok (.iload_n 3, 1) := by decide +kernel
theorem dX5_readCurtain_92 : decode cX5_readCurtain 92 = .ok (.iload 4, 2) := by decide +kernel
theorem dX5_readCurtain_94 : decode cX5_readCurtain 94 = .ok (.aload_n 0, 1) := by decide +kernel
theorem dX5_readCurtain_95 : decode cX5_readCurtain 95 = .ok (.ldc_w 286, 3) := by decide +kernel
theorem dX5_readCurtain_98 : decode cX5_readCurtain 98 = .ok (.invokevirtual 276, 3) := by decide +kernel
theorem dX5_readCurtain_101 : decode cX5_readCurtain 101 = .ok (.ifCond .eq 7, 3) := by decide +kernel
theorem dX5_readCurtain_104 : decode cX5_readCurtain 104 = .ok (.iconst 1, 1) := by decide +kernel
theorem dX5_readCurtain_105 : decode cX5_readCurtain 105 = .ok (.goto 4, 3) := by decide +kernel
theorem dX5_readCurtain_108 : decode cX5_readCurtain 108 = .ok (.iconst 0, 1) := by decide +kernel
theorem dX5_readCurtain_109 : decode cX5_readCurtain 109 = .ok (.invokevirtual 288, 3) := by decide +kernel
theorem dX5_readCurtain_112 : decode cX5_readCurtain 112 = .ok (.aload_n 0, 1) := by decide +kernel
theorem dX5_readCurtain_113 : decode cX5_readCurtain 113 = .ok (.dup, 1) := by decide +kernel
theorem dX5_readCurtain_114 : decode cX5_readCurtain 114 = .ok (.getfield 271, 3) := by decide +kernel
theorem dX5_readCurtain_117 : decode cX5_readCurtain 117 = .ok (.iconst 1, 1) := by decide +kernel
theorem dX5_readCurtain_118 : decode cX5_readCurtain 118 = .ok (.iadd, 1) := by decide +kernel
theorem dX5_readCurtain_119 : decode cX5_readCurtain 119 = .ok (.putfield 271, 3) := by decide +kernel
theorem dX5_readCurtain_122 : decode cX5_readCurtain 122 = .ok (.return_, 1) := by decide +kernel
