theorem dX5_readItem_0 : decode cX5_readItem 0 = .ok (.iconst (-1), 1) := by decide +kernel
theorem dX5_readItem_1 : decode cX5_readItem 1 = .ok (.istore_n 1, 1) := by decide +kernel
theorem dX5_readItem_2 : decode cX5_readItem 2 = .ok (.iconst 0, 1) := by decide +kernel
theorem dX5_readItem_3 : decode cX5_readItem 3 = .ok (.istore_n 2, 1) := by decide +kernel
theorem dX5_readItem_4 : decode cX5_readItem 4 = .ok (.iload_n 2, 1) := by decide +kernel
theorem dX5_readItem_5 : decode cX5_readItem 5 = .ok (.aload_n 0, 1) := by decide +kernel
theorem dX5_readItem_6 : decode cX5_readItem 6 = .ok (.getfield 41, 3) := by decide +kernel
theorem dX5_readItem_9 : decode cX5_readItem 9 = .ok (.arraylength, 1) := by decide +kernel
theorem dX5_readItem_10 : decode cX5_readItem 10 = .ok (.if_icmp .ge 28, 3) := by decide +kernel
theorem dX5_readItem_13 : decode cX5_readItem 13 = .ok (.aload_n 0, 1) := by decide +kernel
theorem dX5_readItem_14 : decode cX5_readItem 14 = .ok (.aload_n 0, 1) := by decide +kernel
theorem dX5_readItem_15 : decode cX5_readItem 15 = .ok (.getfield 41, 3) := by decide +kernel
theorem dX5_readItem_18 : decode cX5_readItem 18 = .ok (.iload_n 2, 1) := by decide +kernel
theorem dX5_readItem_19 : decode cX5_readItem 19 = .ok (.aaload, 1) := by decide +kernel
theorem dX5_readItem_20 : decode cX5_readItem 20 = .ok (.invokevirtual 267, 3) := by decide +kernel
theorem dX5_readItem_23 : decode cX5_readItem 23 = .ok (.ifCond .eq 7, 3) := by decide +kernel
theorem dX5_readItem_26 : decode cX5_readItem 26 = .ok (.iload_n 2, 1) := by decide +kernel
theorem dX5_readItem_27 : decode cX5_readItem 27 = .ok (.goto 4, 3) := by decide +kernel
theorem dX5_readItem_30 : decode cX5_readItem 30 = .ok (.iload_n 1, 1) := by decide +kernel
theorem dX5_readItem_31 : decode cX5_readItem 31 = .ok (.istore_n 1, 1) := by decide +kernel
theorem dX5_readItem_32 : decode cX5_readItem 32 = .ok (.iinc 2 1, 3) := by decide +kernel
theorem dX5_readItem_35 : decode cX5_readItem 35 = .ok (.goto (-31), 3) := by decide +kernel
theorem dX5_readItem_38 : decode cX5_readItem 38 = .ok (.iload_n 1, 1) := by decide +kernel
theorem dX5_readItem_39 : decode cX5_readItem 39 = .ok (.ifCond .lt 11, 3) := by decide +kernel
theorem dX5_readItem_42 : decode cX5_readItem 42 = .ok (.aload_n 0, 1) := by decide +kernel
theorem dX5_readItem_43 : decode cX5_readItem 43 = .ok (.iload_n 1, 1) := by decide +kernel
theorem dX5_readItem_44 : decode cX5_readItem 44 = .ok (.invokevirtual 292, 3) := by decide +kernel
theorem dX5_readItem_47 : decode cX5_readItem 47 = .ok (.goto 90, 3) := by decide +kernel
theorem dX5_readItem_50 : decode cX5_readItem 50 = .ok (.aload_n 0, 1) := by decide +kernel
theorem dX5_readItem_51 : decode cX5_readItem 51 = .ok (.ldc_w 295, 3) := by decide +kernel
theorem dX5_readItem_54 : decode cX5_readItem 54 = .ok (.invokevirtual 276, 3) := by decide +kernel
theorem dX5_readItem_57 : decode cX5_readItem 57 = .ok (.ifCond .eq 29, 3) := by decide +kernel
theorem dX5_readItem_60 : decode cX5_readItem 60 = .ok (.aload_n 0, 1) := by decide +kernel
theorem dX5_readItem_61 : decode cX5_readItem 61 = .ok (.iconst 0, 1) := by decide +kernel
theorem dX5_readItem_62 : decode cX5_readItem 62 = .ok (.iconst 5, 1) := by decide +kernel
theorem dX5_readItem_63 : decode cX5_readItem 63 = .ok (.invokevirtual 279, 3) := by decide +kernel
theorem dX5_readItem_66 : decode cX5_readItem 66 = .ok (.istore_n 2, 1) := by decide +kernel
theorem dX5_readItem_67 : decode cX5_readItem 67 = .ok (.aload_n 0, 1) := by decide +kernel
theorem dX5_readItem_68 : decode cX5_readItem 68 = .ok (.bipush 10, 2) := by decide +kernel
theorem dX5_readItem_70 : decode cX5_readItem 70 = .ok (.iload_n 2, 1) := by decide +kernel
theorem dX5_readItem_71 : decode cX5_readItem 71 = .ok (.aload_n 0, 1) := by decide +kernel
theorem dX5_readItem_72 : decode cX5_readItem 72 = .ok (.iconst 0, 1) := by decide +kernel
theorem dX5_readItem_73 : decode cX5_readItem 73 = .ok (.bipush 11, 2) := by decide +kernel
theorem dX5_readItem_75 : decode cX5_readItem 75 = .ok (.invokevirtual 279, 3) := by decide +kernel
theorem dX5_readItem_78 : decode cX5_readItem 78 = .ok (.iconst 0, 1) := by decide +kernel
theorem dX5_readItem_79 : decode cX5_readItem 79 = .ok (.iconst 0, 1) := by decide +kernel
theorem dX5_readItem_80 : decode cX5_readItem 80 = .ok (.invokevirtual 288, 3) := by decide +kernel
theorem dX5_readItem_83 : decode cX5_readItem 83 = .ok (.goto 54, 3) := by decide +kernel
theorem dX5_readItem_86 : decode cX5_readItem 86 = .ok (.aload_n 0, 1) := by decide +kernel
theorem dX5_readItem_87 : decode cX5_readItem 87 = .ok (.ldc_w 297, 3) := by decide +kernel
theorem dX5_readItem_90 : decode cX5_readItem 90 = .ok (.invokevirtual 276, 3) := by decide +kernel
theorem dX5_readItem_93 : decode cX5_readItem 93 = .ok (.ifCond .eq 16, 3) := by decide +kernel
theorem dX5_readItem_96 : decode cX5_readItem 96 = .ok (.aload_n 0, 1) := by decide +kernel
theorem dX5_readItem_97 : decode cX5_readItem 97 = .ok (.bipush 11, 2) := by decide +kernel
theorem dX5_readItem_99 : decode cX5_readItem 99 = .ok (.iconst 1, 1) := by decide +kernel
theorem dX5_readItem_100 : decode cX5_readItem 100 = .ok (.iconst 0, 1) := by decide +kernel
theorem dX5_readItem_101 : decode cX5_readItem 101 = .ok (.iconst 0, 1) := by decide +kernel
theorem dX5_readItem_102 : decode cX5_readItem 102 = .ok (.iconst 0, 1) := by decide +kernel
theorem dX5_readItem_103 : decode cX5_readItem 103 = .ok (.invokevirtual 288, 3) := by decide +kernel
theorem dX5_readItem_106 : decode cX5_readItem 106 = .ok (.goto 31, 3) := by decide +kernel
theorem dX5_readItem_109 : decode cX5_readItem 109 = .ok (.aload_n 0, 1) := by decide +kernel
theorem dX5_readItem_110 : decode cX5_readItem 110 = .ok (.ldc_w 299, 3) := by decide +kernel
theorem dX5_readItem_113 : decode cX5_readItem 113 = .ok (.invokevirtual 276, 3) := by decide +kernel
theorem dX5_readItem_116 : decode cX5_readItem 116 = .ok (.ifCond .eq 16, 3) := by decide +kernel
theorem dX5_readItem_119 : decode cX5_readItem 119 = .ok (.aload_n 0, 1) := by decide +kernel
theorem dX5_readItem_120 : decode cX5_readItem 120 = .ok (.bipush 11, 2) := by decide +kernel
theorem dX5_readItem_122 : decode cX5_readItem 122 = .ok (.iconst 0, 1) := by decide +kernel
theorem dX5_readItem_123 : decode cX5_readItem 123 = .ok (.iconst 0, 1) := by decide +kernel
theorem dX5_readItem_124 : decode cX5_readItem 124 = .ok (.iconst 0, 1) := by decide +kernel
theorem dX5_readItem_125 : decode cX5_readItem 125 = .ok (.iconst 0, 1) := by decide +kernel
theorem dX5_readItem_126 : decode cX5_readItem 126 = .ok (.invokevirtual 288, 3) := by decide +kernel
theorem dX5_readItem_129 : decode cX5_readItem 129 = .ok (.goto 8, 3) := by decide +kernel
theorem dX5_readItem_132 : decode cX5_readItem 132 = .ok (.aload_n 0, 1) := by decide +kernel
theorem dX5_readItem_133 : decode cX5_readItem 133 = .ok (.iconst 0, 1) := by decide +kernel
theorem dX5_readItem_134 : decode cX5_readItem 134 = .ok (.invokevirtual 260, 3) := by decide +kernel
theorem dX5_readItem_137 : decode cX5_readItem 137 = .ok (.return_, 1) := by decide +kernel
theorem dX5_isToldSo_0 : decode cX5_isToldSo 0 = .ok (.aload_n 0, 1) := by decide +kernel
theorem dX5_isToldSo_1 : decode cX5_isToldSo 1 = .ok (.getfield 45, 3) := by decide +kernel
theorem dX5_isToldSo_4 : decode cX5_isToldSo 4 = .ok (.iload_n 1, 1) := by decide +kernel
theorem dX5_isToldSo_5 : decode cX5_isToldSo 5 = .ok (.iconst 1, 1) := by decide +kernel
theorem dX5_isToldSo_6 : decode cX5_isToldSo 6 = .ok (.iadd, 1) := by decide +kernel
theorem dX5_isToldSo_7 : decode cX5_isToldSo 7 = .ok (.iaload, 1) := by decide +kernel
theorem dX5_isToldSo_8 : decode cX5_isToldSo 8 = .ok (.istore_n 2, 1) := by decide +kernel
theorem dX5_isToldSo_9 : decode cX5_isToldSo 9 = .ok (.aload_n 0, 1) := by decide +kernel
theorem dX5_isToldSo_10 : decode cX5_isToldSo 10 = .ok (.getfield 45, 3) := by decide +kernel
theorem dX5_isToldSo_13 : decode cX5_isToldSo 13 = .ok (.iload_n 1, 1) := by decide +kernel
theorem dX5_isToldSo_14 : decode cX5_isToldSo 14 = .ok (.iaload, 1) := by decide +kernel
theorem dX5_isToldSo_15 : decode cX5_isToldSo 15 = .ok (.lookupswitch 55 #[(10, 25), (11, 45)], 25) := by decide +kernel
theorem dX5_isToldSo_40 : decode cX5_isToldSo 40 = .ok (.aload_n 0, 1) := by decide +kernel
theorem dX5_isToldSo_41 : decode cX5_isToldSo 41 = .ok (.getfield 9, 3) := by decide +kernel
theorem dX5_isToldSo_44 : decode cX5_isToldSo 44 = .ok (.bipush 6, 2) := by decide +kernel
theorem dX5_isToldSo_46 : decode cX5_isToldSo 46 = .ok (.iload_n 2, 1) := by decide +kernel
theorem dX5_isToldSo_47 : decode cX5_isToldSo 47 = .ok (.iadd, 1) := by decide +kernel
theorem dX5_isToldSo_48 : decode cX5_isToldSo 48 = .ok (.aload_n 0, 1) := by decide +kernel
theorem dX5_isToldSo_49 : decode cX5_isToldSo 49 = .ok (.getfield 45, 3) := by decide +kernel
theorem dX5_isToldSo_52 : decode cX5_isToldSo 52 = .ok (.iload_n 1, 1) := by decide +kernel
theorem dX5_isToldSo_53 : decode cX5_isToldSo 53 = .ok (.iconst 2, 1) := by decide +kernel
theorem dX5_isToldSo_54 : decode cX5_isToldSo 54 = .ok (.iadd, 1) := by decide +kernel
theorem dX5_isToldSo_55 : decode cX5_isToldSo 55 = .ok (.iaload, 1) := by decide +kernel
theorem dX5_isToldSo_56 : decode cX5_isToldSo 56 = .ok (.iastore, 1) := by decide +kernel
theorem dX5_isToldSo_57 : decode cX5_isToldSo 57 = .ok (.goto 79, 3) := by decide +kernel
theorem dX5_isToldSo_60 : decode cX5_isToldSo 60 = .ok (.aload_n 0, 1) := by decide +kernel
theorem dX5_isToldSo_61 : decode cX5_isToldSo 61 = .ok (.getfield 9, 3) := by decide +kernel
theorem dX5_isToldSo_64 : decode cX5_isToldSo 64 = .ok (.iconst 3, 1) := by decide +kernel
theorem dX5_isToldSo_65 : decode cX5_isToldSo 65 = .ok (.iload_n 2, 1) := by decide +kernel
theorem dX5_isToldSo_66 : decode cX5_isToldSo 66 = .ok (.iastore, 1) := by decide +kernel
theorem dX5_isToldSo_67 : decode cX5_isToldSo 67 = .ok (.goto 69, 3) := by decide +kernel
theorem dX5_isToldSo_70 : decode cX5_isToldSo 70 = .ok (.aload_n 0, 1) := by decide +kernel
theorem dX5_isToldSo_71 : decode cX5_isToldSo 71 = .ok (.aload_n 0, 1) := by decide +kernel
theorem dX5_isToldSo_72 : decode cX5_isToldSo 72 = .ok (.getfield 45, 3) := by decide +kernel
theorem dX5_isToldSo_75 : decode cX5_isToldSo 75 = .ok (.iload_n 1, 1) := by decide +kernel
theorem dX5_isToldSo_76 : decode cX5_isToldSo 76 = .ok (.iaload, 1) := by decide +kernel
theorem dX5_isToldSo_77 : decode cX5_isToldSo 77 = .ok (.aload_n 0, 1) := by decide +kernel
theorem dX5_isToldSo_78 : decode cX5_isToldSo 78 = .ok (.getfield 45, 3) := by decide +kernel
theorem dX5_isToldSo_81 : decode cX5_isToldSo 81 = .ok (.iload_n 1, 1) := by decide +kernel
theorem dX5_isToldSo_82 : decode cX5_isToldSo 82 = .ok (.iconst 2, 1) := by decide +kernel
theorem dX5_isToldSo_83 : decode cX5_isToldSo 83 = .ok (.iadd, 1) := by decide +kernel
theorem dX5_isToldSo_84 : decode cX5_isToldSo 84 = .ok (.iaload, 1) := by decide +kernel
theorem dX5_isToldSo_85 : decode cX5_isToldSo 85 = .ok (.invokevirtual 95, 3) := by decide +kernel
theorem dX5_isToldSo_88 : decode cX5_isToldSo 88 = .ok (.istore_n 3, 1) := by decide +kernel
theorem dX5_isToldSo_89 : decode cX5_isToldSo 89 = .ok (.aload_n 0, 1) := by decide +kernel
theorem dX5_isToldSo_90 : decode cX5_isToldSo 90 = .ok (.getfield 9, 3) := by decide +kernel
theorem dX5_isToldSo_93 : decode cX5_isToldSo 93 = .ok (.iload_n 3, 1) := by decide +kernel
theorem dX5_isToldSo_94 : decode cX5_isToldSo 94 = .ok (.iconst 1, 1) := by decide +kernel
theorem dX5_isToldSo_95 : decode cX5_isToldSo 95 = .ok (.invokestatic 85, 3) := by decide +kernel
theorem dX5_isToldSo_98 : decode cX5_isToldSo 98 = .ok (.iload_n 2, 1) := by decide +kernel
theorem dX5_isToldSo_99 : decode cX5_isToldSo 99 = .ok (.iastore, 1) := by decide +kernel
theorem dX5_isToldSo_100 : decode cX5_isToldSo 100 = .ok (.aload_n 0, 1) := by decide +kernel
theorem dX5_isToldSo_101 : decode cX5_isToldSo 101 = .ok (.getfield 9, 3) := by decide +kernel
theorem dX5_isToldSo_104 : decode cX5_isToldSo 104 = .ok (.iload_n 3, 1) := by decide +kernel
theorem dX5_isToldSo_105 : decode cX5_isToldSo 105 = .ok (.iconst 3, 1) := by decide +kernel
theorem dX5_isToldSo_106 : decode cX5_isToldSo 106 = .ok (.invokestatic 85, 3) := by decide +kernel
theorem dX5_isToldSo_109 : decode cX5_isToldSo 109 = .ok (.aload_n 0, 1) := by decide +kernel
theorem dX5_isToldSo_110 : decode cX5_isToldSo 110 = .ok (.getfield 45, 3) := by decide +kernel
theorem dX5_isToldSo_113 : decode cX5_isToldSo 113 = .ok (.iload_n 1, 1) := by decide +kernel
theorem dX5_isToldSo_114 : decode cX5_isToldSo 114 = .ok (.iconst 3, 1) := by decide +kernel
theorem dX5_isToldSo_115 : decode cX5_isToldSo 115 = .ok (.iadd, 1) := by decide +kernel
theorem dX5_isToldSo_116 : decode cX5_isToldSo 116 = .ok (.iaload, 1) := by decide +kernel
theorem dX5_isToldSo_117 : decode cX5_isToldSo 117 = .ok (.iastore, 1) := by decide +kernel
theorem dX5_isToldSo_118 : decode cX5_isToldSo 118 = .ok (.aload_n 0, 1) := by decide +kernel
theorem dX5_isToldSo_119 : decode cX5_isToldSo 119 = .ok (.getfield 9, 3) := by decide +kernel
theorem dX5_isToldSo_122 : decode cX5_isToldSo 122 = .ok (.iload_n 3, 1) := by decide +kernel
theorem dX5_isToldSo_123 : decode cX5_isToldSo 123 = .ok (.iconst 4, 1) := by decide +kernel
theorem dX5_isToldSo_124 : decode cX5_isToldSo 124 = .ok (.invokestatic 85, 3) := by decide +kernel
theorem dX5_isToldSo_127 : decode cX5_isToldSo 127 = .ok (.aload_n 0, 1) := by decide +kernel
theorem dX5_isToldSo_128 : decode cX5_isToldSo 128 = .ok (.getfield 45, 3) := by decide +kernel
theorem dX5_isToldSo_131 : decode cX5_isToldSo 131 = .ok (.iload_n 1, 1) := by decide +kernel
theorem dX5_isToldSo_132 : decode cX5_isToldSo 132 = .ok (.iconst 4, 1) := by decide +kernel
theorem dX5_isToldSo_133 : decode cX5_isToldSo 133 = .ok (.iadd, 1) := by decide +kernel
theorem dX5_isToldSo_134 : decode cX5_isToldSo 134 = .ok (.iaload, 1) := by decide +kernel
theorem dX5_isToldSo_135 : decode cX5_isToldSo 135 = .ok (.iastore, 1) := by decide +kernel
theorem dX5_isToldSo_136 : decode cX5_isToldSo 136 = .ok (.return_, 1) := by decide +kernel
theorem dX5_text_0 : decode cX5_text 0 = .ok (.aload_n 0, 1) := by decide +kernel
theorem dX5_text_1 : decode cX5_text 1 = .ok (.iconst 0, 1) := by decide +kernel
theorem dX5_text_2 : decode cX5_text 2 = .ok (.putfield 231, 3) := by decide +kernel
theorem dX5_text_5 : decode cX5_text 5 = .ok (.aload_n 0, 1) := by decide +kernel
theorem dX5_text_6 : decode cX5_text 6 = .ok (.iconst 0, 1) := by decide +kernel
theorem dX5_text_7 : decode cX5_text 7 = .ok (.putfield 253, 3) := by decide +kernel
theorem dX5_text_10 : decode cX5_text 10 = .ok (.aload_n 0, 1) := by decide +kernel
theorem dX5_text_11 : decode cX5_text 11 = .ok (.iconst 0, 1) := by decide +kernel
theorem dX5_text_12 : decode cX5_text 12 = .ok (.putfield 264, 3) := by decide +kernel
theorem dX5_text_15 : decode cX5_text 15 = .ok (.aload_n 0, 1) := by decide +kernel
theorem dX5_text_16 : decode cX5_text 16 = .ok (.aload_n 0, 1) := by decide +kernel
theorem dX5_text_17 : decode cX5_text 17 = .ok (.getfield 9, 3) := by decide +kernel
theorem dX5_text_20 : decode cX5_text 20 = .ok (.iconst 1, 1) := by decide +kernel
theorem dX5_text_21 : decode cX5_text 21 = .ok (.iaload, 1) := by decide +kernel
theorem dX5_text_22 : decode cX5_text 22 = .ok (.putfield 271, 3) := by decide +kernel
theorem dX5_text_25 : decode cX5_text 25 = .ok (.aload_n 0, 1) := by decide +kernel
theorem dX5_text_26 : decode cX5_text 26 = .ok (.invokevirtual 257, 3) := by decide +kernel
theorem dX5_text_29 : decode cX5_text 29 = .ok (.aload_n 0, 1) := by decide +kernel
theorem dX5_text_30 : decode cX5_text 30 = .ok (.invokevirtual 301, 3) := by decide +kernel
theorem dX5_text_33 : decode cX5_text 33 = .ok (.aload_n 0, 1) := by decide +kernel
theorem dX5_text_34 : decode cX5_text 34 = .ok (.getfield 253, 3) := by decide +kernel
theorem dX5_text_37 : decode cX5_text 37 = .ok (.ifCond .ne 37, 3) := by decide +kernel
theorem dX5_text_40 : decode cX5_text 40 = .ok (.aload_n 0, 1) := by decide +kernel
theorem dX5_text_41 : decode cX5_text 41 = .ok (.getfield 243, 3) := by decide +kernel
theorem dX5_text_44 : decode cX5_text 44 = .ok (.iconst 3, 1) := by decide +kernel
theorem dX5_text_45 : decode cX5_text 45 = .ok (.if_icmp .ne 29, 3) := by decide +kernel
theorem dX5_text_48 : decode cX5_text 48 = .ok (.aload_n 0, 1) := by decide +kernel
theorem dX5_text_49 : decode cX5_text 49 = .ok (.getfield 22, 3) := by decide +kernel
theorem dX5_text_52 : decode cX5_text 52 = .ok (.aload_n 0, 1) := by decide +kernel
theorem dX5_text_53 : decode cX5_text 53 = .ok (.getfield 234, 3) := by decide +kernel
theorem dX5_text_56 : decode cX5_text 56 = .ok (.iaload, 1) := by decide +kernel
theorem dX5_text_57 : decode cX5_text 57 = .ok (.bipush 59, 2) := by decide +kernel
theorem dX5_text_59 : decode cX5_text 59 = .ok (.if_icmp .ne 15, 3) := by decide +kernel
theorem dX5_text_62 : decode cX5_text 62 = .ok (.aload_n 0, 1) := by decide +kernel
theorem dX5_text_63 : decode cX5_text 63 = .ok (.iconst 1, 1) := by decide +kernel
theorem dX5_text_64 : decode cX5_text 64 = .ok (.invokevirtual 260, 3) := by decide +kernel
theorem dX5_text_67 : decode cX5_text 67 = .ok (.aload_n 0, 1) := by decide +kernel
theorem dX5_text_68 : decode cX5_text 68 = .ok (.invokevirtual 301, 3) := by decide +kernel
theorem dX5_text_71 : decode cX5_text 71 = .ok (.goto (-38), 3) := by decide +kernel
theorem dX5_text_74 : decode cX5_text 74 = .ok (.aload_n 0, 1) := by decide +kernel
theorem dX5_text_75 : decode cX5_text 75 = .ok (.aload_n 0, 1) := by decide +kernel
theorem dX5_text_76 : decode cX5_text 76 = .ok (.getfield 243, 3) := by decide +kernel
theorem dX5_text_79 : decode cX5_text 79 = .ok (.ifCond .ne 7, 3) := by decide +kernel
theorem dX5_text_82 : decode cX5_text 82 = .ok (.iconst 1, 1) := by decide +kernel
theorem dX5_text_83 : decode cX5_text 83 = .ok (.goto 4, 3) := by decide +kernel
theorem dX5_text_86 : decode cX5_text 86 = .ok (.iconst 0, 1) := by decide +kernel
theorem dX5_text_87 : decode cX5_text 87 = .ok (.invokevirtual 260, 3) := by decide +kernel
theorem dX5_text_90 : decode cX5_text 90 = .ok (.aload_n 0, 1) := by decide +kernel
theorem dX5_text_91 : decode cX5_text 91 = .ok (.iconst 0, 1) := by decide +kernel
theorem dX5_text_92 : decode cX5_text 92 = .ok (.putfield 227, 3) := by decide +kernel
theorem dX5_text_95 : decode cX5_text 95 = .ok (.aload_n 0, 1) := by decide +kernel
theorem dX5_text_96 : decode cX5_text 96 = .ok (.getfield 253, 3) := by decide +kernel
theorem dX5_text_99 : decode cX5_text 99 = .ok (.ifCond .eq 10, 3) := by decide +kernel
theorem dX5_text_102 : decode cX5_text 102 = .ok (.iconst (-1), 1) := by decide +kernel
theorem dX5_text_103 : decode cX5_text 103 = .ok (.aload_n 0, 1) := by decide +kernel
theorem dX5_text_104 : decode cX5_text 104 = .ok (.getfield 234, 3) := by decide +kernel
theorem dX5_text_107 : decode cX5_text 107 = .ok (.isub, 1) := by decide +kernel
theorem dX5_text_108 : decode cX5_text 108 = .ok (.ireturn, 1) := by decide +kernel
theorem dX5_text_109 : decode cX5_text 109 = .ok (.iconst 0, 1) := by decide +kernel
theorem dX5_text_110 : decode cX5_text 110 = .ok (.istore_n 1, 1) := by decide +kernel
theorem dX5_text_111 : decode cX5_text 111 = .ok (.iload_n 1, 1) := by decide +kernel
theorem dX5_text_112 : decode cX5_text 112 = .ok (.aload_n 0, 1) := by decide +kernel
theorem dX5_text_113 : decode cX5_text 113 = .ok (.getfield 264, 3) := by decide +kernel
theorem dX5_text_116 : decode cX5_text 116 = .ok (.if_icmp .ge 16, 3) := by decide +kernel
theorem dX5_text_119 : decode cX5_text 119 = .ok (.aload_n 0, 1) := by decide +kernel
theorem dX5_text_120 : decode cX5_text 120 = .ok (.iconst 5, 1) := by decide +kernel
theorem dX5_text_121 : decode cX5_text 121 = .ok (.iload_n 1, 1) := by decide +kernel
theorem dX5_text_122 : decode cX5_text 122 = .ok (.imul, 1) := by decide +kernel
theorem dX5_text_123 : decode cX5_text 123 = .ok (.invokevirtual 304, 3) := by decide +kernel
theorem dX5_text_126 : decode cX5_text 126 = .ok (.iinc 1 1, 3) := by decide +kernel
theorem dX5_text_129 : decode cX5_text 129 = .ok (.goto (-18), 3) := by decide +kernel
theorem dX5_text_132 : decode cX5_text 132 = .ok (.aload_n 0, 1) := by decide +kernel
theorem dX5_text_133 : decode cX5_text 133 = .ok (.getfield 264, 3) := by decide +kernel
theorem dX5_text_136 : decode cX5_text 136 = .ok (.ireturn, 1) := by decide +kernel
theorem dX5_isSpot_0 : decode cX5_isSpot 0 = .ok (.iload_n 0, 1) := by decide +kernel
theorem dX5_isSpot_1 : decode cX5_isSpot 1 = .ok (.iconst 0, 1) := by decide +kernel
theorem dX5_isSpot_2 : decode cX5_isSpot 2 = .ok (.bipush 9, 2) := by decide +kernel
theorem dX5_isSpot_4 : decode cX5_isSpot 4 = .ok (.invokestatic 70, 3) := by decide +kernel
theorem dX5_isSpot_7 : decode cX5_isSpot 7 = .ok (.ireturn, 1) := by decide +kernel
theorem dX5_hold_0 : decode cX5_hold 0 = .ok (.iload_n 1, 1) := by decide +kernel
theorem dX5_hold_1 : decode cX5_hold 1 = .ok (.invokestatic 307, 3) := by decide +kernel
theorem dX5_hold_4 : decode cX5_hold 4 = .ok (.ifCond .eq 16, 3) := by decide +kernel
theorem dX5_hold_7 : decode cX5_hold 7 = .ok (.iload_n 2, 1) := by decide +kernel
theorem dX5_hold_8 : decode cX5_hold 8 = .ok (.iconst (-1), 1) := by decide +kernel
theorem dX5_hold_9 : decode cX5_hold 9 = .ok (.if_icmp .eq 18, 3) := by decide +kernel
theorem dX5_hold_12 : decode cX5_hold 12 = .ok (.aload_n 0, 1) := by decide +kernel
theorem dX5_hold_13 : decode cX5_hold 13 = .ok (.iload_n 2, 1) := by decide +kernel
theorem dX5_hold_14 : decode cX5_hold 14 = .ok (.invokevirtual 123, 3) := by decide +kernel
theorem dX5_hold_17 : decode cX5_hold 17 = .ok (.ifCond .ne 10, 3) := by decide +kernel
theorem dX5_hold_20 : decode cX5_hold 20 = .ok (.aload_n 0, 1) := by decide +kernel
theorem dX5_hold_21 : decode cX5_hold 21 = .ok (.ldc 60, 2) := by decide +kernel
theorem dX5_hold_23 : decode cX5_hold 23 = .ok (.invokevirtual 66, 3) := by decide +kernel
theorem dX5_hold_26 : decode cX5_hold 26 = .ok (.ireturn, 1) := by decide +kernel
theorem dX5_hold_27 : decode cX5_hold 27 = .ok (.aload_n 0, 1) := by decide +kernel
theorem dX5_hold_28 : decode cX5_hold 28 = .ok (.getfield 9, 3) := by decide +kernel
theorem dX5_hold_31 : decode cX5_hold 31 = .ok (.bipush 12, 2) := by decide +kernel
theorem dX5_hold_33 : decode cX5_hold 33 = .ok (.iload_n 1, 1) := by decide +kernel
theorem dX5_hold_34 : decode cX5_hold 34 = .ok (.iadd, 1) := by decide +kernel
theorem dX5_hold_35 : decode cX5_hold 35 = .ok (.iload_n 2, 1) := by decide +kernel
theorem dX5_hold_36 : decode cX5_hold 36 = .ok (.iastore, 1) := by decide +kernel
theorem dX5_hold_37 : decode cX5_hold 37 = .ok (.iconst 1, 1) := by decide +kernel
theorem dX5_hold_38 : decode cX5_hold 38 = .ok (.ireturn, 1) := by decide +kernel
theorem dX5_as_0 : decode cX5_as 0 = .ok (.iload_n 1, 1) := by decide +kernel
theorem dX5_as_1 : decode cX5_as 1 = .ok (.invokestatic 307, 3) := by decide +kernel
theorem dX5_as_4 : decode cX5_as 4 = .ok (.ifCond .eq 10, 3) := by decide +kernel
theorem dX5_as_7 : decode cX5_as 7 = .ok (.iload_n 2, 1) := by decide +kernel
theorem dX5_as_8 : decode cX5_as 8 = .ok (.invokestatic 88, 3) := by decide +kernel
theorem dX5_as_11 : decode cX5_as 11 = .ok (.ifCond .ne 10, 3) := by decide +kernel
theorem dX5_as_14 : decode cX5_as 14 = .ok (.aload_n 0, 1) := by decide +kernel
theorem dX5_as_15 : decode cX5_as 15 = .ok (.ldc 60, 2) := by decide +kernel
theorem dX5_as_17 : decode cX5_as 17 = .ok (.invokevirtual 66, 3) := by decide +kernel
theorem dX5_as_20 : decode cX5_as 20 = .ok (.ireturn, 1) := by decide +kernel
theorem dX5_as_21 : decode cX5_as 21 = .ok (.aload_n 0, 1) := by decide +kernel
theorem dX5_as_22 : decode cX5_as 22 = .ok (.getfield 9, 3) := by decide +kernel
theorem dX5_as_25 : decode cX5_as 25 = .ok (.bipush 12, 2) := by decide +kernel
theorem dX5_as_27 : decode cX5_as 27 = .ok (.iload_n 1, 1) := by decide +kernel
theorem dX5_as_28 : decode cX5_as 28 = .ok (.iadd, 1) := by decide +kernel
theorem dX5_as_29 : decode cX5_as 29 = .ok (.iaload, 1) := by decide +kernel
theorem dX5_as_30 : decode cX5_as 30 = .ok (.istore_n 3, 1) := by decide +kernel
theorem dX5_as_31 : decode cX5_as 31 = .ok (.iload_n 3, 1) := by decide +kernel
theorem dX5_as_32 : decode cX5_as 32 = .ok (.ifCond .ge 10, 3) := by decide +kernel
theorem dX5_as_35 : decode cX5_as 35 = .ok (.aload_n 0, 1) := by decide +kernel
theorem dX5_as_36 : decode cX5_as 36 = .ok (.ldc 211, 2) := by decide +kernel
theorem dX5_as_38 : decode cX5_as 38 = .ok (.invokevirtual 66, 3) := by decide +kernel
theorem dX5_as_41 : decode cX5_as 41 = .ok (.ireturn, 1) := by decide +kernel
theorem dX5_as_42 : decode cX5_as 42 = .ok (.aload_n 0, 1) := by decide +kernel
theorem dX5_as_43 : decode cX5_as 43 = .ok (.iload_n 3, 1) := by decide +kernel
theorem dX5_as_44 : decode cX5_as 44 = .ok (.iconst 0, 1) := by decide +kernel
theorem dX5_as_45 : decode cX5_as 45 = .ok (.invokevirtual 98, 3) := by decide +kernel
theorem dX5_as_48 : decode cX5_as 48 = .ok (.iload_n 2, 1) := by decide +kernel
theorem dX5_as_49 : decode cX5_as 49 = .ok (.invokestatic 310, 3) := by decide +kernel
theorem dX5_as_52 : decode cX5_as 52 = .ok (.ifCond .eq 7, 3) := by decide +kernel
theorem dX5_as_55 : decode cX5_as 55 = .ok (.iload_n 3, 1) := by decide +kernel
theorem dX5_as_56 : decode cX5_as 56 = .ok (.goto 10, 3) := by decide +kernel
theorem dX5_as_59 : decode cX5_as 59 = .ok (.aload_n 0, 1) := by decide +kernel
theorem dX5_as_60 : decode cX5_as 60 = .ok (.ldc_w 313, 3) := by decide +kernel
theorem dX5_as_63 : decode cX5_as 63 = .ok (.invokevirtual 66, 3) := by decide +kernel
theorem dX5_as_66 : decode cX5_as 66 = .ok (.ireturn, 1) := by decide +kernel
theorem dX5_isSheet_0 : decode cX5_isSheet 0 = .ok (.iload_n 0, 1) := by decide +kernel
theorem dX5_isSheet_1 : decode cX5_isSheet 1 = .ok (.iconst 0, 1) := by decide +kernel
theorem dX5_isSheet_2 : decode cX5_isSheet 2 = .ok (.iconst 3, 1) := by decide +kernel
theorem dX5_isSheet_3 : decode cX5_isSheet 3 = .ok (.invokestatic 70, 3) := by decide +kernel
theorem dX5_isSheet_6 : decode cX5_isSheet 6 = .ok (.ireturn, 1) := by decide +kernel
theorem dX5_cutTo_0 : decode cX5_cutTo 0 = .ok (.iload_n 1, 1) := by decide +kernel
theorem dX5_cutTo_1 : decode cX5_cutTo 1 = .ok (.bipush 8, 2) := by decide +kernel
theorem dX5_cutTo_3 : decode cX5_cutTo 3 = .ok (.if_icmp .ne 8, 3) := by decide +kernel
theorem dX5_cutTo_6 : decode cX5_cutTo 6 = .ok (.iload_n 0, 1) := by decide +kernel
theorem dX5_cutTo_7 : decode cX5_cutTo 7 = .ok (.i2b, 1) := by decide +kernel
theorem dX5_cutTo_8 : decode cX5_cutTo 8 = .ok (.goto 15, 3) := by decide +kernel
theorem dX5_cutTo_11 : decode cX5_cutTo 11 = .ok (.iload_n 1, 1) := by decide +kernel
theorem dX5_cutTo_12 : decode cX5_cutTo 12 = .ok (.bipush 16, 2) := by decide +kernel
theorem dX5_cutTo_14 : decode cX5_cutTo 14 = .ok (.if_icmp .ne 8, 3) := by decide +kernel
theorem dX5_cutTo_17 : decode cX5_cutTo 17 = .ok (.iload_n 0, 1) := by decide +kernel
theorem dX5_cutTo_18 : decode cX5_cutTo 18 = .ok (.i2s, 1) := by decide +kernel
theorem dX5_cutTo_19 : decode cX5_cutTo 19 = .ok (.goto 4, 3) := by decide +kernel
theorem dX5_cutTo_22 : decode cX5_cutTo 22 = .ok (.iload_n 0, 1) := by decide +kernel
theorem dX5_cutTo_23 : decode cX5_cutTo 23 = .ok (.ireturn, 1) := by decide +kernel
theorem dX5_sheet_0 : decode cX5_sheet 0 = .ok (.iload_n 1, 1) := by decide +kernel
theorem dX5_sheet_1 : decode cX5_sheet 1 = .ok (.invokestatic 208, 3) := by decide +kernel
theorem dX5_sheet_4 : decode cX5_sheet 4 = .ok (.ifCond .eq 25, 3) := by decide +kernel
theorem dX5_sheet_7 : decode cX5_sheet 7 = .ok (.iload_n 2, 1) := by decide +kernel
theorem dX5_sheet_8 : decode cX5_sheet 8 = .ok (.ifCond .eq 28, 3) := by decide +kernel
theorem dX5_sheet_11 : decode cX5_sheet 11 = .ok (.iload_n 2, 1) := by decide +kernel
theorem dX5_sheet_12 : decode cX5_sheet 12 = .ok (.bipush 8, 2) := by decide +kernel
theorem dX5_sheet_14 : decode cX5_sheet 14 = .ok (.if_icmp .eq 22, 3) := by decide +kernel
theorem dX5_sheet_17 : decode cX5_sheet 17 = .ok (.iload_n 2, 1) := by decide +kernel
theorem dX5_sheet_18 : decode cX5_sheet 18 = .ok (.bipush 16, 2) := by decide +kernel
theorem dX5_sheet_20 : decode cX5_sheet 20 = .ok (.if_icmp .eq 16, 3) := by decide +kernel
theorem dX5_sheet_23 : decode cX5_sheet 23 = .ok (.iload_n 2, 1) := by decide +kernel
theorem dX5_sheet_24 : decode cX5_sheet 24 = .ok (.bipush 32, 2) := by decide +kernel
theorem dX5_sheet_26 : decode cX5_sheet 26 = .ok (.if_icmp .eq 10, 3) := by decide +kernel
theorem dX5_sheet_29 : decode cX5_sheet 29 = .ok (.aload_n 0, 1) := by decide +kernel
theorem dX5_sheet_30 : decode cX5_sheet 30 = .ok (.ldc 60, 2) := by decide +kernel
theorem dX5_sheet_32 : decode cX5_sheet 32 = .ok (.invokevirtual 66, 3) := by decide +kernel
theorem dX5_sheet_35 : decode cX5_sheet 35 = .ok (.ireturn, 1) := by decide +kernel
theorem dX5_sheet_36 : decode cX5_sheet 36 = .ok (.iload_n 3, 1) := by decide +kernel
theorem dX5_sheet_37 : decode cX5_sheet 37 = .ok (.ifCond .ge 11, 3) := by decide +kernel
theorem dX5_sheet_40 : decode cX5_sheet 40 = .ok (.aload_n 0, 1) := by decide +kernel
theorem dX5_sheet_41 : decode cX5_sheet 41 = .ok (.ldc_w 314, 3) := by decide +kernel
theorem dX5_sheet_44 : decode cX5_sheet 44 = .ok (.invokevirtual 66, 3) := by decide +kernel
theorem dX5_sheet_47 : decode cX5_sheet 47 = .ok (.ireturn, 1) := by decide +kernel
theorem dX5_sheet_48 : decode cX5_sheet 48 = .ok (.iload_n 3, 1) := by decide +kernel
theorem dX5_sheet_49 : decode cX5_sheet 49 = .ok (.bipush 40, 2) := by decide +kernel
theorem dX5_sheet_51 : decode cX5_sheet 51 = .ok (.if_icmp .le 10, 3) := by decide +kernel
theorem dX5_sheet_54 : decode cX5_sheet 54 = .ok (.aload_n 0, 1) := by decide +kernel
theorem dX5_sheet_55 : decode cX5_sheet 55 = .ok (.ldc 60, 2) := by decide +kernel
theorem dX5_sheet_57 : decode cX5_sheet 57 = .ok (.invokevirtual 66, 3) := by decide +kernel
theorem dX5_sheet_60 : decode cX5_sheet 60 = .ok (.ireturn, 1) := by decide +kernel
theorem dX5_sheet_61 : decode cX5_sheet 61 = .ok (.aload_n 0, 1) := by decide +kernel
theorem dX5_sheet_62 : decode cX5_sheet 62 = .ok (.getfield 48, 3) := by decide +kernel
theorem dX5_sheet_65 : decode cX5_sheet 65 = .ok (.iload_n 1, 1) := by decide +kernel
theorem dX5_sheet_66 : decode cX5_sheet 66 = .ok (.iload_n 2, 1) := by decide +kernel
theorem dX5_sheet_67 : decode cX5_sheet 67 = .ok (.iastore, 1) := by decide +kernel
theorem dX5_sheet_68 : decode cX5_sheet 68 = .ok (.aload_n 0, 1) := by decide +kernel
theorem dX5_sheet_69 : decode cX5_sheet 69 = .ok (.getfield 51, 3) := by decide +kernel
theorem dX5_sheet_72 : decode cX5_sheet 72 = .ok (.iload_n 1, 1) := by decide +kernel
theorem dX5_sheet_73 : decode cX5_sheet 73 = .ok (.iload_n 2, 1) := by decide +kernel
theorem dX5_sheet_74 : decode cX5_sheet 74 = .ok (.ifCond .ne 7, 3) := by decide +kernel
theorem dX5_sheet_77 : decode cX5_sheet 77 = .ok (.iconst 0, 1) := by decide +kernel
theorem dX5_sheet_78 : decode cX5_sheet 78 = .ok (.goto 4, 3) := by decide +kernel
theorem dX5_sheet_81 : decode cX5_sheet 81 = .ok (.iload_n 3, 1) := by decide +kernel
theorem dX5_sheet_82 : decode cX5_sheet 82 = .ok (.iastore, 1) := by decide +kernel
theorem dX5_sheet_83 : decode cX5_sheet 83 = .ok (.iconst 0, 1) := by decide +kernel
theorem dX5_sheet_84 : decode cX5_sheet 84 = .ok (.istore 4, 2) := by decide +kernel
theorem dX5_sheet_86 : decode cX5_sheet 86 = .ok (.iload 4, 2) := by decide +kernel
theorem dX5_sheet_88 : decode cX5_sheet 88 = .ok (.bipush 40, 2) := by decide +kernel
theorem dX5_sheet_90 : decode cX5_sheet 90 = .ok (.if_icmp .ge 22, 3) := by decide +kernel
theorem dX5_sheet_93 : decode cX5_sheet 93 = .ok (.aload_n 0, 1) := by decide +kernel
theorem dX5_sheet_94 : decode cX5_sheet 94 = .ok (.getfield 54, 3) := by decide +kernel
theorem dX5_sheet_97 : decode cX5_sheet 97 = .ok (.bipush 40, 2) := by decide +kernel
theorem dX5_sheet_99 : decode cX5_sheet 99 = .ok (.iload_n 1, 1) := by decide +kernel
theorem dX5_sheet_100 : decode cX5_sheet 100 = .ok (.imul, 1) := by decide +kernel
theorem dX5_sheet_101 : decode cX5_sheet 101 = .ok (.iload 4, 2) := by decide +kernel
theorem dX5_sheet_103 : decode cX5_sheet 103 = .ok (.iadd, 1) := by decide +kernel
theorem dX5_sheet_104 : decode cX5_sheet 104 = .ok (.iconst 0, 1) := by decide +kernel
theorem dX5_sheet_105 : decode cX5_sheet 105 = .ok (.iastore, 1) := by decide +kernel
theorem dX5_sheet_106 : decode cX5_sheet 106 = .ok (.iinc 4 1, 3) := by decide +kernel
theorem dX5_sheet_109 : decode cX5_sheet 109 = .ok (.goto (-23), 3) := by decide +kernel
theorem dX5_sheet_112 : decode cX5_sheet 112 = .ok (.aload_n 0, 1) := by decide +kernel
theorem dX5_sheet_113 : decode cX5_sheet 113 = .ok (.getfield 51, 3) := by decide +kernel
theorem dX5_sheet_116 : decode cX5_sheet 116 = .ok (.iload_n 1, 1) := by decide +kernel
theorem dX5_sheet_117 : decode cX5_sheet 117 = .ok (.iaload, 1) := by decide +kernel
theorem dX5_sheet_118 : decode cX5_sheet 118 = .ok (.ireturn, 1) := by decide +kernel
theorem dX5_write_0 : decode cX5_write 0 = .ok (.iload_n 1, 1) := by decide +kernel
theorem dX5_write_1 : decode cX5_write 1 = .ok (.invokestatic 208, 3) := by decide +kernel
theorem dX5_write_4 : decode cX5_write 4 = .ok (.ifCond .ne 10, 3) := by decide +kernel
theorem dX5_write_7 : decode cX5_write 7 = .ok (.aload_n 0, 1) := by decide +kernel
theorem dX5_write_8 : decode cX5_write 8 = .ok (.ldc 60, 2) := by decide +kernel
theorem dX5_write_10 : decode cX5_write 10 = .ok (.invokevirtual 66, 3) := by decide +kernel
theorem dX5_write_13 : decode cX5_write 13 = .ok (.ireturn, 1) := by decide +kernel
theorem dX5_write_14 : decode cX5_write 14 = .ok (.aload_n 0, 1) := by decide +kernel
theorem dX5_write_15 : decode cX5_write 15 = .ok (.getfield 48, 3) := by decide +kernel
theorem dX5_write_18 : decode cX5_write 18 = .ok (.iload_n 1, 1) := by decide +kernel
theorem dX5_write_19 : decode cX5_write 19 = .ok (.iaload, 1) := by decide +kernel
theorem dX5_write_20 : decode cX5_write 20 = .ok (.ifCond .ne 10, 3) := by decide +kernel
theorem dX5_write_23 : decode cX5_write 23 = .ok (.aload_n 0, 1) := by decide +kernel
theorem dX5_write_24 : decode cX5_write 24 = .ok (.ldc 211, 2) := by decide +kernel
theorem dX5_write_26 : decode cX5_write 26 = .ok (.invokevirtual 66, 3) := by decide +kernel
theorem dX5_write_29 : decode cX5_write 29 = .ok (.ireturn, 1) := by decide +kernel
theorem dX5_write_30 : decode cX5_write 30 = .ok (.iload_n 2, 1) := by decide +kernel
theorem dX5_write_31 : decode cX5_write 31 = .ok (.iconst 0, 1) := by decide +kernel
theorem dX5_write_32 : decode cX5_write 32 = .ok (.aload_n 0, 1) := by decide +kernel
theorem dX5_write_33 : decode cX5_write 33 = .ok (.getfield 51, 3) := by decide +kernel
theorem dX5_write_36 : decode cX5_write 36 = .ok (.iload_n 1, 1) := by decide +kernel
theorem dX5_write_37 : decode cX5_write 37 = .ok (.iaload, 1) := by decide +kernel
theorem dX5_write_38 : decode cX5_write 38 = .ok (.iconst 1, 1) := by decide +kernel
theorem dX5_write_39 : decode cX5_write 39 = .ok (.isub, 1) := by decide +kernel
theorem dX5_write_40 : decode cX5_write 40 = .ok (.invokestatic 70, 3) := by decide +kernel
theorem dX5_write_43 : decode cX5_write 43 = .ok (.ifCond .ne 10, 3) := by decide +kernel
theorem dX5_write_46 : decode cX5_write 46 = .ok (.aload_n 0, 1) := by decide +kernel
theorem dX5_write_47 : decode cX5_write 47 = .ok (.ldc 60, 2) := by decide +kernel
theorem dX5_write_49 : decode cX5_write 49 = .ok (.invokevirtual 66, 3) := by decide +kernel
theorem dX5_write_52 : decode cX5_write 52 = .ok (.ireturn, 1) := by decide +kernel
theorem dX5_write_53 : decode cX5_write 53 = .ok (.aload_n 0, 1) := by decide +kernel
theorem dX5_write_54 : decode cX5_write 54 = .ok (.getfield 54, 3) := by decide +kernel
theorem dX5_write_57 : decode cX5_write 57 = .ok (.bipush 40, 2) := by decide +kernel
theorem dX5_write_59 : decode cX5_write 59 = .ok (.iload_n 1, 1) := by decide +kernel
theorem dX5_write_60 : decode cX5_write 60 = .ok (.imul, 1) := by decide +kernel
theorem dX5_write_61 : decode cX5_write 61 = .ok (.iload_n 2, 1) := by decide +kernel
theorem dX5_write_62 : decode cX5_write 62 = .ok (.iadd, 1) := by decide +kernel
theorem dX5_write_63 : decode cX5_write 63 = .ok (.iload_n 3, 1) := by decide +kernel
theorem dX5_write_64 : decode cX5_write 64 = .ok (.aload_n 0, 1) := by decide +kernel
theorem dX5_write_65 : decode cX5_write 65 = .ok (.getfield 48, 3) := by decide +kernel
theorem dX5_write_68 : decode cX5_write 68 = .ok (.iload_n 1, 1) := by decide +kernel
theorem dX5_write_69 : decode cX5_write 69 = .ok (.iaload, 1) := by decide +kernel
theorem dX5_write_70 : decode cX5_write 70 = .ok (.invokestatic 315, 3) := by decide +kernel
theorem dX5_write_73 : decode cX5_write 73 = .ok (.iastore, 1) := by decide +kernel
theorem dX5_write_74 : decode cX5_write 74 = .ok (.iconst 1, 1) := by decide +kernel
theorem dX5_write_75 : decode cX5_write 75 = .ok (.ireturn, 1) := by decide +kernel
theorem dX5_copy_0 : decode cX5_copy 0 = .ok (.iload_n 1, 1) := by decide +kernel
theorem dX5_copy_1 : decode cX5_copy 1 = .ok (.invokestatic 208, 3) := by decide +kernel
theorem dX5_copy_4 : decode cX5_copy 4 = .ok (.ifCond .eq 10, 3) := by decide +kernel
theorem dX5_copy_7 : decode cX5_copy 7 = .ok (.iload_n 3, 1) := by decide +kernel
theorem dX5_copy_8 : decode cX5_copy 8 = .ok (.invokestatic 208, 3) := by decide +kernel
theorem dX5_copy_11 : decode cX5_copy 11 = .ok (.ifCond .ne 10, 3) := by decide +kernel
theorem dX5_copy_14 : decode cX5_copy 14 = .ok (.aload_n 0, 1) := by decide +kernel
theorem dX5_copy_15 : decode cX5_copy 15 = .ok (.ldc 60, 2) := by decide +kernel
theorem dX5_copy_17 : decode cX5_copy 17 = .ok (.invokevirtual 66, 3) := by decide +kernel
theorem dX5_copy_20 : decode cX5_copy 20 = .ok (.ireturn, 1) := by decide +kernel
theorem dX5_copy_21 : decode cX5_copy 21 = .ok (.aload_n 0, 1) := by decide +kernel
theorem dX5_copy_22 : decode cX5_copy 22 = .ok (.getfield 48, 3) := by decide +kernel
theorem dX5_copy_25 : decode cX5_copy 25 = .ok (.iload_n 1, 1) := by decide +kernel
theorem dX5_copy_26 : decode cX5_copy 26 = .ok (.iaload, 1) := by decide +kernel
theorem dX5_copy_27 : decode cX5_copy 27 = .ok (.ifCond .eq 12, 3) := by decide +kernel
theorem dX5_copy_30 : decode cX5_copy 30 = .ok (.aload_n 0, 1) := by decide +kernel
theorem dX5_copy_31 : decode cX5_copy 31 = .ok (.getfield 48, 3) := by decide +kernel
theorem dX5_copy_34 : decode cX5_copy 34 = .ok (.iload_n 3, 1) := by decide +kernel
theorem dX5_copy_35 : decode cX5_copy 35 = .ok (.iaload, 1) := by decide +kernel
theorem dX5_copy_36 : decode cX5_copy 36 = .ok (.ifCond .ne 10, 3) := by decide +kernel
theorem dX5_copy_39 : decode cX5_copy 39 = .ok (.aload_n 0, 1) := by decide +kernel
theorem dX5_copy_40 : decode cX5_copy 40 = .ok (.ldc 211, 2) := by decide +kernel
theorem dX5_copy_42 : decode cX5_copy 42 = .ok (.invokevirtual 66, 3) := by decide +kernel
theorem dX5_copy_45 : decode cX5_copy 45 = .ok (.ireturn, 1) := by decide +kernel
theorem dX5_copy_46 : decode cX5_copy 46 = .ok (.aload_n 0, 1) := by decide +kernel
theorem dX5_copy_47 : decode cX5_copy 47 = .ok (.getfield 48, 3) := by decide +kernel
theorem dX5_copy_50 : decode cX5_copy 50 = .ok (.iload_n 1, 1) := by decide +kernel
theorem dX5_copy_51 : decode cX5_copy 51 = .ok (.iaload, 1) := by decide +kernel
theorem dX5_copy_52 : decode cX5_copy 52 = .ok (.aload_n 0, 1) := by decide +kernel
theorem dX5_copy_53 : decode cX5_copy 53 = .ok (.getfield 48, 3) := by decide +kernel
theorem dX5_copy_56 : decode cX5_copy 56 = .ok (.iload_n 3, 1) := by decide +kernel
theorem dX5_copy_57 : decode cX5_copy 57 = .ok (.iaload, 1) := by decide +kernel
theorem dX5_copy_58 : decode cX5_copy 58 = .ok (.if_icmp .eq 11, 3) := by decide +kernel
theorem dX5_copy_61 : decode cX5_copy 61 = .ok (.aload_n 0, 1) := by decide +kernel
theorem dX5_copy_62 : decode cX5_copy 62 = .ok (.ldc_w 313, 3) := by decide +kernel
theorem dX5_copy_65 : decode cX5_copy 65 = .ok (.invokevirtual 66, 3) := by decide +kernel
theorem dX5_copy_68 : decode cX5_copy 68 = .ok (.ireturn, 1) := by decide +kernel
theorem dX5_copy_69 : decode cX5_copy 69 = .ok (.iload_n 2, 1) := by decide +kernel
theorem dX5_copy_70 : decode cX5_copy 70 = .ok (.ifCond .lt 48, 3) := by decide +kernel
theorem dX5_copy_73 : decode cX5_copy 73 = .ok (.iload 4, 2) := by decide +kernel
theorem dX5_copy_75 : decode cX5_copy 75 = .ok (.ifCond .lt 43, 3) := by decide +kernel
theorem dX5_copy_78 : decode cX5_copy 78 = .ok (.iload 5, 2) := by decide +kernel
theorem dX5_copy_80 : decode cX5_copy 80 = .ok (.ifCond .lt 38, 3) := by decide +kernel
theorem dX5_copy_83 : decode cX5_copy 83 = .ok (.iload_n 2, 1) := by decide +kernel
theorem dX5_copy_84 : decode cX5_copy 84 = .ok (.i2l, 1) := by decide +kernel
theorem dX5_copy_85 : decode cX5_copy 85 = .ok (.iload 5, 2) := by decide +kernel
theorem dX5_copy_87 : decode cX5_copy 87 = .ok (.i2l, 1) := by decide +kernel
theorem dX5_copy_88 : decode cX5_copy 88 = .ok (.ladd, 1) := by decide +kernel
theorem dX5_copy_89 : decode cX5_copy 89 = .ok (.aload_n 0, 1) := by decide +kernel
theorem dX5_copy_90 : decode cX5_copy 90 = .ok (.getfield 51, 3) := by decide +kernel
theorem dX5_copy_93 : decode cX5_copy 93 = .ok (.iload_n 1, 1) := by decide +kernel
theorem dX5_copy_94 : decode cX5_copy 94 = .ok (.iaload, 1) := by decide +kernel
theorem dX5_copy_95 : decode cX5_copy 95 = .ok (.i2l, 1) := by decide +kernel
theorem dX5_copy_96 : decode cX5_copy 96 = .ok (.lcmp, 1) := by decide +kernel
theorem dX5_copy_97 : decode cX5_copy 97 = .ok (.ifCond .gt 21, 3) := by decide +kernel
theorem dX5_copy_100 : decode cX5_copy 100 = .ok (.iload 4, 2) := by decide +kernel
theorem dX5_copy_102 : decode cX5_copy 102 = .ok (.i2l, 1) := by decide +kernel
theorem dX5_copy_103 : decode cX5_copy 103 = .ok (.iload 5, 2) := by decide +kernel
theorem dX5_copy_105 : decode cX5_copy 105 = .ok (.i2l, 1) := by decide +kernel
theorem dX5_copy_106 : decode cX5_copy 106 = .ok (.ladd, 1) := by decide +kernel
theorem dX5_copy_107 : decode cX5_copy 107 = .ok (.aload_n 0, 1) := by decide +kernel
theorem dX5_copy_108 : decode cX5_copy 108 = .ok (.getfield 51, 3) := by decide +kernel
theorem dX5_copy_111 : decode cX5_copy 111 = .ok (.iload_n 3, 1) := by decide +kernel
theorem dX5_copy_112 : decode cX5_copy 112 = .ok (.iaload, 1) := by decide +kernel
theorem dX5_copy_113 : decode cX5_copy 113 = .ok (.i2l, 1) := by decide +kernel
theorem dX5_copy_114 : decode cX5_copy 114 = .ok (.lcmp, 1) := by decide +kernel
theorem dX5_copy_115 : decode cX5_copy 115 = .ok (.ifCond .le 10, 3) := by decide +kernel
theorem dX5_copy_118 : decode cX5_copy 118 = .ok (.aload_n 0, 1) := by decide +kernel
theorem dX5_copy_119 : decode cX5_copy 119 = .ok (.ldc 60, 2) := by decide +kernel
theorem dX5_copy_121 : decode cX5_copy 121 = .ok (.invokevirtual 66, 3) := by decide +kernel
theorem dX5_copy_124 : decode cX5_copy 124 = .ok (.ireturn, 1) := by decide +kernel
theorem dX5_copy_125 : decode cX5_copy 125 = .ok (.iconst 0, 1) := by decide +kernel
theorem dX5_copy_126 : decode cX5_copy 126 = .ok (.istore 6, 2) := by decide +kernel
theorem dX5_copy_128 : decode cX5_copy 128 = .ok (.iload 6, 2) := by decide +kernel
theorem dX5_copy_130 : decode cX5_copy 130 = .ok (.iload 5, 2) := by decide +kernel
theorem dX5_copy_132 : decode cX5_copy 132 = .ok (.if_icmp .ge 30, 3) := by decide +kernel
theorem dX5_copy_135 : decode cX5_copy 135 = .ok (.aload_n 0, 1) := by decide +kernel
theorem dX5_copy_136 : decode cX5_copy 136 = .ok (.getfield 57, 3) := by decide +kernel
theorem dX5_copy_139 : decode cX5_copy 139 = .ok (.iload 6, 2) := by decide +kernel
theorem dX5_copy_141 : decode cX5_copy 141 = .ok (.aload_n 0, 1) := by decide +kernel
theorem dX5_copy_142 : decode cX5_copy 142 = .ok (.getfield 54, 3) := by decide +kernel
theorem dX5_copy_145 : decode cX5_copy 145 = .ok (.bipush 40, 2) := by decide +kernel
theorem dX5_copy_147 : decode cX5_copy 147 = .ok (.iload_n 1, 1) := by decide +kernel
theorem dX5_copy_148 : decode cX5_copy 148 = .ok (.imul, 1) := by decide +kernel
theorem dX5_copy_149 : decode cX5_copy 149 = .ok (.iload_n 2, 1) := by decide +kernel
theorem dX5_copy_150 : decode cX5_copy 150 = .ok (.iadd, 1) := by decide +kernel
theorem dX5_copy_151 : decode cX5_copy 151 = .ok (.iload 6, 2) := by decide +kernel
theorem dX5_copy_153 : decode cX5_copy 153 = .ok (.iadd, 1) := by decide +kernel
theorem dX5_copy_154 : decode cX5_copy 154 = .ok (.iaload, 1) := by decide +kernel
theorem dX5_copy_155 : decode cX5_copy 155 = .ok (.iastore, 1) := by decide +kernel
theorem dX5_copy_156 : decode cX5_copy 156 = .ok (.iinc 6 1, 3) := by decide +kernel
theorem dX5_copy_159 : decode cX5_copy 159 = .ok (.goto (-31), 3) := by decide +kernel
theorem dX5_copy_162 : decode cX5_copy 162 = .ok (.iconst 0, 1) := by decide +kernel
theorem dX5_copy_163 : decode cX5_copy 163 = .ok (.istore 6, 2) := by decide +kernel
theorem dX5_copy_165 : decode cX5_copy 165 = .ok (.iload 6, 2) := by decide +kernel
theorem dX5_copy_167 : decode cX5_copy 167 = .ok (.iload 5, 2) := by decide +kernel
theorem dX5_copy_169 : decode cX5_copy 169 = .ok (.if_icmp .ge 31, 3) := by decide +kernel
theorem dX5_copy_172 : decode cX5_copy 172 = .ok (.aload_n 0, 1) := by decide +kernel
theorem dX5_copy_173 : decode cX5_copy 173 = .ok (.getfield 54, 3) := by decide +kernel
theorem dX5_copy_176 : decode cX5_copy 176 = .ok (.bipush 40, 2) := by decide +kernel
theorem dX5_copy_178 : decode cX5_copy 178 = .ok (.iload_n 3, 1) := by decide +kernel
theorem dX5_copy_179 : decode cX5_copy 179 = .ok (.imul, 1) := by decide +kernel
theorem dX5_copy_180 : decode cX5_copy 180 = .ok (.iload 4, 2) := by decide +kernel
theorem dX5_copy_182 : decode cX5_copy 182 = .ok (.iadd, 1) := by decide +kernel
theorem dX5_copy_183 : decode cX5_copy 183 = .ok (.iload 6, 2) := by decide +kernel
theorem dX5_copy_185 : decode cX5_copy 185 = .ok (.iadd, 1) := by decide +kernel
theorem dX5_copy_186 : decode cX5_copy 186 = .ok (.aload_n 0, 1) := by decide +kernel
theorem dX5_copy_187 : decode cX5_copy 187 = .ok (.getfield 57, 3) := by decide +kernel
theorem dX5_copy_190 : decode cX5_copy 190 = .ok (.iload 6, 2) := by decide +kernel
theorem dX5_copy_192 : decode cX5_copy 192 = .ok (.iaload, 1) := by decide +kernel
theorem dX5_copy_193 : decode cX5_copy 193 = .ok (.iastore, 1) := by decide +kernel
theorem dX5_copy_194 : decode cX5_copy 194 = .ok (.iinc 6 1, 3) := by decide +kernel
theorem dX5_copy_197 : decode cX5_copy 197 = .ok (.goto (-32), 3) := by decide +kernel
theorem dX5_copy_200 : decode cX5_copy 200 = .ok (.iload 5, 2) := by decide +kernel
theorem dX5_copy_202 : decode cX5_copy 202 = .ok (.ireturn, 1) := by decide +kernel
theorem dX5_above_0 : decode cX5_above 0 = .ok (.iload_n 0, 1) := by decide +kernel
theorem dX5_above_1 : decode cX5_above 1 = .ok (.ifCond .ne 7, 3) := by decide +kernel
theorem dX5_above_4 : decode cX5_above 4 = .ok (.iconst (-1), 1) := by decide +kernel
theorem dX5_above_5 : decode cX5_above 5 = .ok (.goto 32, 3) := by decide +kernel
theorem dX5_above_8 : decode cX5_above 8 = .ok (.iload_n 0, 1) := by decide +kernel
theorem dX5_above_9 : decode cX5_above 9 = .ok (.iconst 3, 1) := by decide +kernel
theorem dX5_above_10 : decode cX5_above 10 = .ok (.if_icmp .ne 7, 3) := by decide +kernel
theorem dX5_above_13 : decode cX5_above 13 = .ok (.iconst 2, 1) := by decide +kernel
theorem dX5_above_14 : decode cX5_above 14 = .ok (.goto 23, 3) := by decide +kernel
theorem dX5_above_17 : decode cX5_above 17 = .ok (.iload_n 0, 1) := by decide +kernel
theorem dX5_above_18 : decode cX5_above 18 = .ok (.iconst 4, 1) := by decide +kernel
theorem dX5_above_19 : decode cX5_above 19 = .ok (.if_icmp .ne 7, 3) := by decide +kernel
theorem dX5_above_22 : decode cX5_above 22 = .ok (.iconst 3, 1) := by decide +kernel
theorem dX5_above_23 : decode cX5_above 23 = .ok (.goto 14, 3) := by decide +kernel
theorem dX5_above_26 : decode cX5_above 26 = .ok (.iload_n 0, 1) := by decide +kernel
theorem dX5_above_27 : decode cX5_above 27 = .ok (.bipush 6, 2) := by decide +kernel
theorem dX5_above_29 : decode cX5_above 29 = .ok (.if_icmp .ne 7, 3) := by decide +kernel
theorem dX5_above_32 : decode cX5_above 32 = .ok (.iconst 1, 1) := by decide +kernel
theorem dX5_above_33 : decode cX5_above 33 = .ok (.goto 4, 3) := by decide +kernel
theorem dX5_above_36 : decode cX5_above 36 = .ok (.iconst 0, 1) := by decide +kernel
theorem dX5_above_37 : decode cX5_above 37 = .ok (.ireturn, 1) := by decide +kernel
theorem dX5_isUnder_0 : decode cX5_isUnder 0 = .ok (.iload_n 0, 1) := by decide +kernel
theorem dX5_isUnder_1 : decode cX5_isUnder 1 = .ok (.istore_n 2, 1) := by decide +kernel
theorem dX5_isUnder_2 : decode cX5_isUnder 2 = .ok (.iload_n 2, 1) := by decide +kernel
theorem dX5_isUnder_3 : decode cX5_isUnder 3 = .ok (.ifCond .lt 16, 3) := by decide +kernel
theorem dX5_isUnder_6 : decode cX5_isUnder 6 = .ok (.iload_n 2, 1) := by decide +kernel
theorem dX5_isUnder_7 : decode cX5_isUnder 7 = .ok (.iload_n 1, 1) := by decide +kernel
theorem dX5_isUnder_8 : decode cX5_isUnder 8 = .ok (.if_icmp .eq 11, 3) := by decide +kernel
theorem dX5_isUnder_11 : decode cX5_isUnder 11 = .ok (.iload_n 2, 1) := by decide +kernel
theorem dX5_isUnder_12 : decode cX5_isUnder 12 = .ok (.invokestatic 318, 3) := by decide +kernel
theorem dX5_isUnder_15 : decode cX5_isUnder 15 = .ok (.istore_n 2, 1) := by decide +kernel
theorem dX5_isUnder_16 : decode cX5_isUnder 16 = .ok (.goto (-14), 3) := by decide +kernel
theorem dX5_isUnder_19 : decode cX5_isUnder 19 = .ok (.iload_n 2, 1) := by decide +kernel
theorem dX5_isUnder_20 : decode cX5_isUnder 20 = .ok (.ifCond .lt 7, 3) := by decide +kernel
theorem dX5_isUnder_23 : decode cX5_isUnder 23 = .ok (.iconst 1, 1) := by decide +kernel
theorem dX5_isUnder_24 : decode cX5_isUnder 24 = .ok (.goto 4, 3) := by decide +kernel
theorem dX5_isUnder_27 : decode cX5_isUnder 27 = .ok (.iconst 0, 1) := by decide +kernel
theorem dX5_isUnder_28 : decode cX5_isUnder 28 = .ok (.ireturn, 1) := by decide +kernel
theorem dX5_load_0 : decode cX5_load 0 = .ok (.aload_n 0, 1) := by decide +kernel
theorem dX5_load_1 : decode cX5_load 1 = .ok (.iload_n 1, 1) := by decide +kernel
theorem dX5_load_2 : decode cX5_load 2 = .ok (.iconst 1, 1) := by decide +kernel
theorem dX5_load_3 : decode cX5_load 3 = .ok (.invokevirtual 215, 3) := by decide +kernel
theorem dX5_load_6 : decode cX5_load 6 = .ok (.ifCond .eq 14, 3) := by decide +kernel
theorem dX5_load_9 : decode cX5_load 9 = .ok (.aload_n 0, 1) := by decide +kernel
theorem dX5_load_10 : decode cX5_load 10 = .ok (.aload_n 0, 1) := by decide +kernel
theorem dX5_load_11 : decode cX5_load 11 = .ok (.iload_n 1, 1) := by decide +kernel
theorem dX5_load_12 : decode cX5_load 12 = .ok (.iconst 1, 1) := by decide +kernel
theorem dX5_load_13 : decode cX5_load 13 = .ok (.invokevirtual 215, 3) := by decide +kernel
theorem dX5_load_16 : decode cX5_load 16 = .ok (.invokevirtual 66, 3) := by decide +kernel
theorem dX5_load_19 : decode cX5_load 19 = .ok (.ireturn, 1) := by decide +kernel
theorem dX5_load_20 : decode cX5_load 20 = .ok (.iconst 0, 1) := by decide +kernel
theorem dX5_load_21 : decode cX5_load 21 = .ok (.istore_n 2, 1) := by decide +kernel
theorem dX5_load_22 : decode cX5_load 22 = .ok (.iload_n 2, 1) := by decide +kernel
theorem dX5_load_23 : decode cX5_load 23 = .ok (.aload_n 0, 1) := by decide +kernel
theorem dX5_load_24 : decode cX5_load 24 = .ok (.getfield 51, 3) := by decide +kernel
theorem dX5_load_27 : decode cX5_load 27 = .ok (.iload_n 1, 1) := by decide +kernel
theorem dX5_load_28 : decode cX5_load 28 = .ok (.iaload, 1) := by decide +kernel
theorem dX5_load_29 : decode cX5_load 29 = .ok (.if_icmp .ge 55, 3) := by decide +kernel
theorem dX5_load_32 : decode cX5_load 32 = .ok (.aload_n 0, 1) := by decide +kernel
theorem dX5_load_33 : decode cX5_load 33 = .ok (.iload_n 2, 1) := by decide +kernel
theorem dX5_load_34 : decode cX5_load 34 = .ok (.invokevirtual 123, 3) := by decide +kernel
theorem dX5_load_37 : decode cX5_load 37 = .ok (.ifCond .eq 47, 3) := by decide +kernel
theorem dX5_load_40 : decode cX5_load 40 = .ok (.aload_n 0, 1) := by decide +kernel
theorem dX5_load_41 : decode cX5_load 41 = .ok (.getfield 54, 3) := by decide +kernel
theorem dX5_load_44 : decode cX5_load 44 = .ok (.bipush 40, 2) := by decide +kernel
theorem dX5_load_46 : decode cX5_load 46 = .ok (.iload_n 1, 1) := by decide +kernel
theorem dX5_load_47 : decode cX5_load 47 = .ok (.imul, 1) := by decide +kernel
theorem dX5_load_48 : decode cX5_load 48 = .ok (.iload_n 2, 1) := by decide +kernel
theorem dX5_load_49 : decode cX5_load 49 = .ok (.iadd, 1) := by decide +kernel
theorem dX5_load_50 : decode cX5_load 50 = .ok (.iaload, 1) := by decide +kernel
theorem dX5_load_51 : decode cX5_load 51 = .ok (.invokestatic 91, 3) := by decide +kernel
theorem dX5_load_54 : decode cX5_load 54 = .ok (.ifCond .eq 30, 3) := by decide +kernel
theorem dX5_load_57 : decode cX5_load 57 = .ok (.aload_n 0, 1) := by decide +kernel
theorem dX5_load_58 : decode cX5_load 58 = .ok (.getfield 9, 3) := by decide +kernel
theorem dX5_load_61 : decode cX5_load 61 = .ok (.iload_n 2, 1) := by decide +kernel
theorem dX5_load_62 : decode cX5_load 62 = .ok (.iconst 2, 1) := by decide +kernel
theorem dX5_load_63 : decode cX5_load 63 = .ok (.invokestatic 85, 3) := by decide +kernel
theorem dX5_load_66 : decode cX5_load 66 = .ok (.aload_n 0, 1) := by decide +kernel
theorem dX5_load_67 : decode cX5_load 67 = .ok (.getfield 54, 3) := by decide +kernel
theorem dX5_load_70 : decode cX5_load 70 = .ok (.bipush 40, 2) := by decide +kernel
theorem dX5_load_72 : decode cX5_load 72 = .ok (.iload_n 1, 1) := by decide +kernel
theorem dX5_load_73 : decode cX5_load 73 = .ok (.imul, 1) := by decide +kernel
theorem dX5_load_74 : decode cX5_load 74 = .ok (.iload_n 2, 1) := by decide +kernel
theorem dX5_load_75 : decode cX5_load 75 = .ok (.iadd, 1) := by decide +kernel
theorem dX5_load_76 : decode cX5_load 76 = .ok (.iaload, 1) := by decide +kernel
theorem dX5_load_77 : decode cX5_load 77 = .ok (.iastore, 1) := by decide +kernel
theorem dX5_load_78 : decode cX5_load 78 = .ok (.iinc 2 1, 3) := by decide +kernel
theorem dX5_load_81 : decode cX5_load 81 = .ok (.goto (-59), 3) := by decide +kernel
theorem dX5_load_84 : decode cX5_load 84 = .ok (.iload_n 2, 1) := by decide +kernel
theorem dX5_load_85 : decode cX5_load 85 = .ok (.ireturn, 1) := by decide +kernel
theorem dX5_judge_0 : decode cX5_judge 0 = .ok (.aload_n 0, 1) := by decide +kernel
theorem dX5_judge_1 : decode cX5_judge 1 = .ok (.iload_n 1, 1) := by decide +kernel
theorem dX5_judge_2 : decode cX5_judge 2 = .ok (.iconst 1, 1) := by decide +kernel
theorem dX5_judge_3 : decode cX5_judge 3 = .ok (.invokevirtual 215, 3) := by decide +kernel
theorem dX5_judge_6 : decode cX5_judge 6 = .ok (.ifCond .eq 14, 3) := by decide +kernel
theorem dX5_judge_9 : decode cX5_judge 9 = .ok (.aload_n 0, 1) := by decide +kernel
theorem dX5_judge_10 : decode cX5_judge 10 = .ok (.aload_n 0, 1) := by decide +kernel
theorem dX5_judge_11 : decode cX5_judge 11 = .ok (.iload_n 1, 1) := by decide +kernel
theorem dX5_judge_12 : decode cX5_judge 12 = .ok (.iconst 1, 1) := by decide +kernel
theorem dX5_judge_13 : decode cX5_judge 13 = .ok (.invokevirtual 215, 3) := by decide +kernel
theorem dX5_judge_16 : decode cX5_judge 16 = .ok (.invokevirtual 66, 3) := by decide +kernel
theorem dX5_judge_19 : decode cX5_judge 19 = .ok (.ireturn, 1) := by decide +kernel
theorem dX5_judge_20 : decode cX5_judge 20 = .ok (.iconst 0, 1) := by decide +kernel
theorem dX5_judge_21 : decode cX5_judge 21 = .ok (.istore_n 2, 1) := by decide +kernel
theorem dX5_judge_22 : decode cX5_judge 22 = .ok (.iload_n 2, 1) := by decide +kernel
theorem dX5_judge_23 : decode cX5_judge 23 = .ok (.aload_n 0, 1) := by decide +kernel
theorem dX5_judge_24 : decode cX5_judge 24 = .ok (.getfield 51, 3) := by decide +kernel
theorem dX5_judge_27 : decode cX5_judge 27 = .ok (.iload_n 1, 1) := by decide +kernel
theorem dX5_judge_28 : decode cX5_judge 28 = .ok (.iaload, 1) := by decide +kernel
theorem dX5_judge_29 : decode cX5_judge 29 = .ok (.if_icmp .ge 37, 3) := by decide +kernel
theorem dX5_judge_32 : decode cX5_judge 32 = .ok (.aload_n 0, 1) := by decide +kernel
theorem dX5_judge_33 : decode cX5_judge 33 = .ok (.iload_n 2, 1) := by decide +kernel
theorem dX5_judge_34 : decode cX5_judge 34 = .ok (.invokevirtual 123, 3) := by decide +kernel
theorem dX5_judge_37 : decode cX5_judge 37 = .ok (.ifCond .eq 29, 3) := by decide +kernel
theorem dX5_judge_40 : decode cX5_judge 40 = .ok (.aload_n 0, 1) := by decide +kernel
theorem dX5_judge_41 : decode cX5_judge 41 = .ok (.getfield 54, 3) := by decide +kernel
theorem dX5_judge_44 : decode cX5_judge 44 = .ok (.bipush 40, 2) := by decide +kernel
theorem dX5_judge_46 : decode cX5_judge 46 = .ok (.iload_n 1, 1) := by decide +kernel
theorem dX5_judge_47 : decode cX5_judge 47 = .ok (.imul, 1) := by decide +kernel
theorem dX5_judge_48 : decode cX5_judge 48 = .ok (.iload_n 2, 1) := by decide +kernel
theorem dX5_judge_49 : decode cX5_judge 49 = .ok (.iadd, 1) := by decide +kernel
theorem dX5_judge_50 : decode cX5_judge 50 = .ok (.iaload, 1) := by decide +kernel
theorem dX5_judge_51 : decode cX5_judge 51 = .ok (.aload_n 0, 1) := by decide +kernel
theorem dX5_judge_52 : decode cX5_judge 52 = .ok (.iload_n 2, 1) := by decide +kernel
theorem dX5_judge_53 : decode cX5_judge 53 = .ok (.iconst 3, 1) := by decide +kernel
theorem dX5_judge_54 : decode cX5_judge 54 = .ok (.invokevirtual 98, 3) := by decide +kernel
theorem dX5_judge_57 : decode cX5_judge 57 = .ok (.if_icmp .ne 9, 3) := by decide +kernel
theorem dX5_judge_60 : decode cX5_judge 60 = .ok (.iinc 2 1, 3) := by decide +kernel
theorem dX5_judge_63 : decode cX5_judge 63 = .ok (.goto (-41), 3) := by decide +kernel
theorem dX5_judge_66 : decode cX5_judge 66 = .ok (.iload_n 2, 1) := by decide +kernel
theorem dX5_judge_67 : decode cX5_judge 67 = .ok (.aload_n 0, 1) := by decide +kernel
theorem dX5_judge_68 : decode cX5_judge 68 = .ok (.getfield 51, 3) := by decide +kernel
theorem dX5_judge_71 : decode cX5_judge 71 = .ok (.iload_n 1, 1) := by decide +kernel
theorem dX5_judge_72 : decode cX5_judge 72 = .ok (.iaload, 1) := by decide +kernel
theorem dX5_judge_73 : decode cX5_judge 73 = .ok (.if_icmp .ne 7, 3) := by decide +kernel
theorem dX5_judge_76 : decode cX5_judge 76 = .ok (.iconst 0, 1) := by decide +kernel
theorem dX5_judge_77 : decode cX5_judge 77 = .ok (.goto 6, 3) := by decide +kernel
theorem dX5_judge_80 : decode cX5_judge 80 = .ok (.iconst 1, 1) := by decide +kernel
theorem dX5_judge_81 : decode cX5_judge 81 = .ok (.iload_n 2, 1) := by decide +kernel
theorem dX5_judge_82 : decode cX5_judge 82 = .ok (.iadd, 1) := by decide +kernel
theorem dX5_judge_83 : decode cX5_judge 83 = .ok (.ireturn, 1) := by decide +kernel
theorem dX5_image_0 : decode cX5_image 0 = .ok (.aload_n 0, 1) := by decide +kernel
theorem dX5_image_1 : decode cX5_image 1 = .ok (.getfield 9, 3) := by decide +kernel
theorem dX5_image_4 : decode cX5_image 4 = .ok (.aload_n 0, 1) := by decide +kernel
theorem dX5_image_5 : decode cX5_image 5 = .ok (.getfield 13, 3) := by decide +kernel
theorem dX5_image_8 : decode cX5_image 8 = .ok (.invokestatic 61, 3) := by decide +kernel
theorem dX5_image_11 : decode cX5_image 11 = .ok (.aload_n 0, 1) := by decide +kernel
theorem dX5_image_12 : decode cX5_image 12 = .ok (.iconst 1, 1) := by decide +kernel
theorem dX5_image_13 : decode cX5_image 13 = .ok (.putfield 321, 3) := by decide +kernel
theorem dX5_image_16 : decode cX5_image 16 = .ok (.iconst 1, 1) := by decide +kernel
theorem dX5_image_17 : decode cX5_image 17 = .ok (.ireturn, 1) := by decide +kernel
theorem dX5_undo_0 : decode cX5_undo 0 = .ok (.aload_n 0, 1) := by decide +kernel
theorem dX5_undo_1 : decode cX5_undo 1 = .ok (.getfield 321, 3) := by decide +kernel
theorem dX5_undo_4 : decode cX5_undo 4 = .ok (.ifCond .ne 10, 3) := by decide +kernel
theorem dX5_undo_7 : decode cX5_undo 7 = .ok (.aload_n 0, 1) := by decide +kernel
theorem dX5_undo_8 : decode cX5_undo 8 = .ok (.ldc 65, 2) := by decide +kernel
theorem dX5_undo_10 : decode cX5_undo 10 = .ok (.invokevirtual 66, 3) := by decide +kernel
theorem dX5_undo_13 : decode cX5_undo 13 = .ok (.ireturn, 1) := by decide +kernel
theorem dX5_undo_14 : decode cX5_undo 14 = .ok (.aload_n 0, 1) := by decide +kernel
theorem dX5_undo_15 : decode cX5_undo 15 = .ok (.getfield 13, 3) := by decide +kernel
theorem dX5_undo_18 : decode cX5_undo 18 = .ok (.aload_n 0, 1) := by decide +kernel
theorem dX5_undo_19 : decode cX5_undo 19 = .ok (.getfield 9, 3) := by decide +kernel
theorem dX5_undo_22 : decode cX5_undo 22 = .ok (.invokestatic 61, 3) := by decide +kernel
theorem dX5_undo_25 : decode cX5_undo 25 = .ok (.aload_n 0, 1) := by decide +kernel
theorem dX5_undo_26 : decode cX5_undo 26 = .ok (.getfield 9, 3) := by decide +kernel
theorem dX5_undo_29 : decode cX5_undo 29 = .ok (.iconst 0, 1) := by decide +kernel
theorem dX5_undo_30 : decode cX5_undo 30 = .ok (.iaload, 1) := by decide +kernel
theorem dX5_undo_31 : decode cX5_undo 31 = .ok (.ireturn, 1) := by decide +kernel
theorem dX5_tear_0 : decode cX5_tear 0 = .ok (.aload_n 0, 1) := by decide +kernel
theorem dX5_tear_1 : decode cX5_tear 1 = .ok (.getfield 321, 3) := by decide +kernel
theorem dX5_tear_4 : decode cX5_tear 4 = .ok (.ifCond .eq 7, 3) := by decide +kernel
theorem dX5_tear_7 : decode cX5_tear 7 = .ok (.iconst 1, 1) := by decide +kernel
theorem dX5_tear_8 : decode cX5_tear 8 = .ok (.goto 4, 3) := by decide +kernel
theorem dX5_tear_11 : decode cX5_tear 11 = .ok (.iconst 0, 1) := by decide +kernel
theorem dX5_tear_12 : decode cX5_tear 12 = .ok (.istore_n 1, 1) := by decide +kernel
theorem dX5_tear_13 : decode cX5_tear 13 = .ok (.aload_n 0, 1) := by decide +kernel
theorem dX5_tear_14 : decode cX5_tear 14 = .ok (.iconst 0, 1) := by decide +kernel
theorem dX5_tear_15 : decode cX5_tear 15 = .ok (.putfield 321, 3) := by decide +kernel
theorem dX5_tear_18 : decode cX5_tear 18 = .ok (.iload_n 1, 1) := by decide +kernel
theorem dX5_tear_19 : decode cX5_tear 19 = .ok (.ireturn, 1) := by decide +kernel
theorem dX5_count_0 : decode cX5_count 0 = .ok (.iconst 0, 1) := by decide +kernel
theorem dX5_count_1 : decode cX5_count 1 = .ok (.istore_n 2, 1) := by decide +kernel
theorem dX5_count_2 : decode cX5_count 2 = .ok (.iload_n 1, 1) := by decide +kernel
theorem dX5_count_3 : decode cX5_count 3 = .ok (.tableswitch 129 0 7 #[45, 52, 59, 66, 73, 81, 86, 93], 45) := by decide +kernel
theorem dX5_count_48 : decode cX5_count 48 = .ok (.aload_n 0, 1) := by decide +kernel
theorem dX5_count_49 : decode cX5_count 49 = .ok (.getfield 9, 3) := by decide +kernel
theorem dX5_count_52 : decode cX5_count 52 = .ok (.iconst 0, 1) := by decide +kernel
theorem dX5_count_53 : decode cX5_count 53 = .ok (.iaload, 1) := by decide +kernel
theorem dX5_count_54 : decode cX5_count 54 = .ok (.ireturn, 1) := by decide +kernel
theorem dX5_count_55 : decode cX5_count 55 = .ok (.aload_n 0, 1) := by decide +kernel
theorem dX5_count_56 : decode cX5_count 56 = .ok (.getfield 9, 3) := by decide +kernel
theorem dX5_count_59 : decode cX5_count 59 = .ok (.iconst 1, 1) := by decide +kernel
theorem dX5_count_60 : decode cX5_count 60 = .ok (.iaload, 1) := by decide +kernel
theorem dX5_count_61 : decode cX5_count 61 = .ok (.ireturn, 1) := by decide +kernel
theorem dX5_count_62 : decode cX5_count 62 = .ok (.aload_n 0, 1) := by decide +kernel
theorem dX5_count_63 : decode cX5_count 63 = .ok (.getfield 9, 3) := by decide +kernel
theorem dX5_count_66 : decode cX5_count 66 = .ok (.iconst 4, 1) := by decide +kernel
theorem dX5_count_67 : decode cX5_count 67 = .ok (.iaload, 1) := by decide +kernel
theorem dX5_count_68 : decode cX5_count 68 = .ok (.ireturn, 1) := by decide +kernel
theorem dX5_count_69 : decode cX5_count 69 = .ok (.aload_n 0, 1) := by decide +kernel
theorem dX5_count_70 : decode cX5_count 70 = .ok (.getfield 9, 3) := by decide +kernel
theorem dX5_count_73 : decode cX5_count 73 = .ok (.iconst 5, 1) := by decide +kernel
theorem dX5_count_74 : decode cX5_count 74 = .ok (.iaload, 1) := by decide +kernel
theorem dX5_count_75 : decode cX5_count 75 = .ok (.ireturn, 1) := by decide +kernel
theorem dX5_count_76 : decode cX5_count 76 = .ok (.aload_n 0, 1) := by decide +kernel
theorem dX5_count_77 : decode cX5_count 77 = .ok (.invokevirtual 170, 3) := by decide +kernel
theorem dX5_count_80 : decode cX5_count 80 = .ok (.invokestatic 101, 3) := by decide +kernel
theorem dX5_count_83 : decode cX5_count 83 = .ok (.ireturn, 1) := by decide +kernel
theorem dX5_count_84 : decode cX5_count 84 = .ok (.aload_n 0, 1) := by decide +kernel
theorem dX5_count_85 : decode cX5_count 85 = .ok (.getfield 227, 3) := by decide +kernel
theorem dX5_count_88 : decode cX5_count 88 = .ok (.ireturn, 1) := by decide +kernel
theorem dX5_count_89 : decode cX5_count 89 = .ok (.aload_n 0, 1) := by decide +kernel
theorem dX5_count_90 : decode cX5_count 90 = .ok (.getfield 9, 3) := by decide +kernel
theorem dX5_count_93 : decode cX5_count 93 = .ok (.iconst 2, 1) := by decide +kernel
theorem dX5_count_94 : decode cX5_count 94 = .ok (.iaload, 1) := by decide +kernel
theorem dX5_count_95 : decode cX5_count 95 = .ok (.ireturn, 1) := by decide +kernel
theorem dX5_count_96 : decode cX5_count 96 = .ok (.iconst 0, 1) := by decide +kernel
theorem dX5_count_97 : decode cX5_count 97 = .ok (.istore_n 3, 1) := by decide +kernel
theorem dX5_count_98 : decode cX5_count 98 = .ok (.iload_n 3, 1) := by decide +kernel
theorem dX5_count_99 : decode cX5_count 99 = .ok (.bipush 10, 2) := by decide +kernel
theorem dX5_count_101 : decode cX5_count 101 = .ok (.if_icmp .ge 29, 3) := by decide +kernel
theorem dX5_count_104 : decode cX5_count 104 = .ok (.iload_n 2, 1) := by decide +kernel
theorem dX5_count_105 : decode cX5_count 105 = .ok (.aload_n 0, 1) := by decide +kernel
theorem dX5_count_106 : decode cX5_count 106 = .ok (.getfield 9, 3) := by decide +kernel
theorem dX5_count_109 : decode cX5_count 109 = .ok (.bipush 12, 2) := by decide +kernel
theorem dX5_count_111 : decode cX5_count 111 = .ok (.iload_n 3, 1) := by decide +kernel
theorem dX5_count_112 : decode cX5_count 112 = .ok (.iadd, 1) := by decide +kernel
theorem dX5_count_113 : decode cX5_count 113 = .ok (.iaload, 1) := by decide +kernel
theorem dX5_count_114 : decode cX5_count 114 = .ok (.ifCond .ge 7, 3) := by decide +kernel
theorem dX5_count_117 : decode cX5_count 117 = .ok (.iconst 0, 1) := by decide +kernel
theorem dX5_count_118 : decode cX5_count 118 = .ok (.goto 4, 3) := by decide +kernel
theorem dX5_count_121 : decode cX5_count 121 = .ok (.iconst 1, 1) := by decide +kernel
theorem dX5_count_122 : decode cX5_count 122 = .ok (.iadd, 1) := by decide +kernel
theorem dX5_count_123 : decode cX5_count 123 = .ok (.istore_n 2, 1) := by decide +kernel
theorem dX5_count_124 : decode cX5_count 124 = .ok (.iinc 3 1, 3) := by decide +kernel
theorem dX5_count_127 : decode cX5_count 127 = .ok (.goto (-29), 3) := by decide +kernel
theorem dX5_count_130 : decode cX5_count 130 = .ok (.iload_n 2, 1) := by decide +kernel
theorem dX5_count_131 : decode cX5_count 131 = .ok (.ireturn, 1) := by decide +kernel
theorem dX5_count_132 : decode cX5_count 132 = .ok (.aload_n 0, 1) := by decide +kernel
theorem dX5_count_133 : decode cX5_count 133 = .ok (.ldc 60, 2) := by decide +kernel
theorem dX5_count_135 : decode cX5_count 135 = .ok (.invokevirtual 66, 3) := by decide +kernel
theorem dX5_count_138 : decode cX5_count 138 = .ok (.ireturn, 1) := by decide +kernel
theorem dX5_status_0 : decode cX5_status 0 = .ok (.iload_n 1, 1) := by decide +kernel
theorem dX5_status_1 : decode cX5_status 1 = .ok (.iconst (-1), 1) := by decide +kernel
theorem dX5_status_2 : decode cX5_status 2 = .ok (.bipush 6, 2) := by decide +kernel
theorem dX5_status_4 : decode cX5_status 4 = .ok (.invokestatic 70, 3) := by decide +kernel
theorem dX5_status_7 : decode cX5_status 7 = .ok (.ifCond .eq 14, 3) := by decide +kernel
theorem dX5_status_10 : decode cX5_status 10 = .ok (.aload_n 0, 1) := by decide +kernel
theorem dX5_status_11 : decode cX5_status 11 = .ok (.getfield 19, 3) := by decide +kernel
theorem dX5_status_14 : decode cX5_status 14 = .ok (.iload_n 1, 1) := by decide +kernel
theorem dX5_status_15 : decode cX5_status 15 = .ok (.iconst 1, 1) := by decide +kernel
theorem dX5_status_16 : decode cX5_status 16 = .ok (.iadd, 1) := by decide +kernel
theorem dX5_status_17 : decode cX5_status 17 = .ok (.iaload, 1) := by decide +kernel
theorem dX5_status_18 : decode cX5_status 18 = .ok (.goto 9, 3) := by decide +kernel
theorem dX5_status_21 : decode cX5_status 21 = .ok (.aload_n 0, 1) := by decide +kernel
theorem dX5_status_22 : decode cX5_status 22 = .ok (.ldc 60, 2) := by decide +kernel
theorem dX5_status_24 : decode cX5_status 24 = .ok (.invokevirtual 66, 3) := by decide +kernel
theorem dX5_status_27 : decode cX5_status 27 = .ok (.ireturn, 1) := by decide +kernel
