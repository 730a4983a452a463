theorem dX0_init_0 : decode cX0_init 0 = .ok (.aload_n 0, 1) := by decide +kernel
theorem dX0_init_1 : decode cX0_init 1 = .ok (.invokespecial 3, 3) := by decide +kernel
theorem dX0_init_4 : decode cX0_init 4 = .ok (.return_, 1) := by decide +kernel
theorem dX0_beNew_0 : decode cX0_beNew 0 = .ok (.aload_n 0, 1) := by decide +kernel
theorem dX0_beNew_1 : decode cX0_beNew 1 = .ok (.iload_n 1, 1) := by decide +kernel
theorem dX0_beNew_2 : decode cX0_beNew 2 = .ok (.putfield 9, 3) := by decide +kernel
theorem dX0_beNew_5 : decode cX0_beNew 5 = .ok (.aload_n 0, 1) := by decide +kernel
theorem dX0_beNew_6 : decode cX0_beNew 6 = .ok (.bipush 60, 2) := by decide +kernel
theorem dX0_beNew_8 : decode cX0_beNew 8 = .ok (.putfield 15, 3) := by decide +kernel
theorem dX0_beNew_11 : decode cX0_beNew 11 = .ok (.aload_n 0, 1) := by decide +kernel
theorem dX0_beNew_12 : decode cX0_beNew 12 = .ok (.iconst 0, 1) := by decide +kernel
theorem dX0_beNew_13 : decode cX0_beNew 13 = .ok (.putfield 18, 3) := by decide +kernel
theorem dX0_beNew_16 : decode cX0_beNew 16 = .ok (.aload_n 0, 1) := by decide +kernel
theorem dX0_beNew_17 : decode cX0_beNew 17 = .ok (.bipush 20, 2) := by decide +kernel
theorem dX0_beNew_19 : decode cX0_beNew 19 = .ok (.putfield 21, 3) := by decide +kernel
theorem dX0_beNew_22 : decode cX0_beNew 22 = .ok (.aload_n 0, 1) := by decide +kernel
theorem dX0_beNew_23 : decode cX0_beNew 23 = .ok (.iconst 0, 1) := by decide +kernel
theorem dX0_beNew_24 : decode cX0_beNew 24 = .ok (.putfield 24, 3) := by decide +kernel
theorem dX0_beNew_27 : decode cX0_beNew 27 = .ok (.aload_n 0, 1) := by decide +kernel
theorem dX0_beNew_28 : decode cX0_beNew 28 = .ok (.iconst 0, 1) := by decide +kernel
theorem dX0_beNew_29 : decode cX0_beNew 29 = .ok (.putfield 27, 3) := by decide +kernel
theorem dX0_beNew_32 : decode cX0_beNew 32 = .ok (.return_, 1) := by decide +kernel
theorem dX0_take_0 : decode cX0_take 0 = .ok (.aload_n 0, 1) := by decide +kernel
theorem dX0_take_1 : decode cX0_take 1 = .ok (.aload_n 1, 1) := by decide +kernel
theorem dX0_take_2 : decode cX0_take 2 = .ok (.getfield 9, 3) := by decide +kernel
theorem dX0_take_5 : decode cX0_take 5 = .ok (.putfield 9, 3) := by decide +kernel
theorem dX0_take_8 : decode cX0_take 8 = .ok (.aload_n 0, 1) := by decide +kernel
theorem dX0_take_9 : decode cX0_take 9 = .ok (.aload_n 1, 1) := by decide +kernel
theorem dX0_take_10 : decode cX0_take 10 = .ok (.getfield 15, 3) := by decide +kernel
theorem dX0_take_13 : decode cX0_take 13 = .ok (.putfield 15, 3) := by decide +kernel
theorem dX0_take_16 : decode cX0_take 16 = .ok (.aload_n 0, 1) := by decide +kernel
theorem dX0_take_17 : decode cX0_take 17 = .ok (.aload_n 1, 1) := by decide +kernel
theorem dX0_take_18 : decode cX0_take 18 = .ok (.getfield 18, 3) := by decide +kernel
theorem dX0_take_21 : decode cX0_take 21 = .ok (.putfield 18, 3) := by decide +kernel
theorem dX0_take_24 : decode cX0_take 24 = .ok (.aload_n 0, 1) := by decide +kernel
theorem dX0_take_25 : decode cX0_take 25 = .ok (.aload_n 1, 1) := by decide +kernel
theorem dX0_take_26 : decode cX0_take 26 = .ok (.getfield 21, 3) := by decide +kernel
theorem dX0_take_29 : decode cX0_take 29 = .ok (.putfield 21, 3) := by decide +kernel
theorem dX0_take_32 : decode cX0_take 32 = .ok (.aload_n 0, 1) := by decide +kernel
theorem dX0_take_33 : decode cX0_take 33 = .ok (.aload_n 1, 1) := by decide +kernel
theorem dX0_take_34 : decode cX0_take 34 = .ok (.getfield 24, 3) := by decide +kernel
theorem dX0_take_37 : decode cX0_take 37 = .ok (.putfield 24, 3) := by decide +kernel
theorem dX0_take_40 : decode cX0_take 40 = .ok (.aload_n 0, 1) := by decide +kernel
theorem dX0_take_41 : decode cX0_take 41 = .ok (.aload_n 1, 1) := by decide +kernel
theorem dX0_take_42 : decode cX0_take 42 = .ok (.getfield 27, 3) := by decide +kernel
theorem dX0_take_45 : decode cX0_take 45 = .ok (.putfield 27, 3) := by decide +kernel
theorem dX0_take_48 : decode cX0_take 48 = .ok (.return_, 1) := by decide +kernel
theorem dX0_tell_0 : decode cX0_tell 0 = .ok (.iload_n 1, 1) := by decide +kernel
theorem dX0_tell_1 : decode cX0_tell 1 = .ok (.tableswitch 107 0 9 #[55, 60, 65, 70, 75, 80, 85, 90, 96, 101], 55) := by decide +kernel
theorem dX0_tell_56 : decode cX0_tell 56 = .ok (.aload_n 0, 1) := by decide +kernel
theorem dX0_tell_57 : decode cX0_tell 57 = .ok (.getfield 9, 3) := by decide +kernel
theorem dX0_tell_60 : decode cX0_tell 60 = .ok (.ireturn, 1) := by decide +kernel
theorem dX0_tell_61 : decode cX0_tell 61 = .ok (.aload_n 0, 1) := by decide +kernel
theorem dX0_tell_62 : decode cX0_tell 62 = .ok (.getfield 15, 3) := by decide +kernel
theorem dX0_tell_65 : decode cX0_tell 65 = .ok (.ireturn, 1) := by decide +kernel
theorem dX0_tell_66 : decode cX0_tell 66 = .ok (.aload_n 0, 1) := by decide +kernel
theorem dX0_tell_67 : decode cX0_tell 67 = .ok (.getfield 18, 3) := by decide +kernel
theorem dX0_tell_70 : decode cX0_tell 70 = .ok (.ireturn, 1) := by decide +kernel
theorem dX0_tell_71 : decode cX0_tell 71 = .ok (.aload_n 0, 1) := by decide +kernel
theorem dX0_tell_72 : decode cX0_tell 72 = .ok (.getfield 21, 3) := by decide +kernel
theorem dX0_tell_75 : decode cX0_tell 75 = .ok (.ireturn, 1) := by decide +kernel
theorem dX0_tell_76 : decode cX0_tell 76 = .ok (.aload_n 0, 1) := by decide +kernel
theorem dX0_tell_77 : decode cX0_tell 77 = .ok (.getfield 24, 3) := by decide +kernel
theorem dX0_tell_80 : decode cX0_tell 80 = .ok (.ireturn, 1) := by decide +kernel
theorem dX0_tell_81 : decode cX0_tell 81 = .ok (.aload_n 0, 1) := by decide +kernel
theorem dX0_tell_82 : decode cX0_tell 82 = .ok (.getfield 27, 3) := by decide +kernel
theorem dX0_tell_85 : decode cX0_tell 85 = .ok (.ireturn, 1) := by decide +kernel
theorem dX0_tell_86 : decode cX0_tell 86 = .ok (.aload_n 0, 1) := by decide +kernel
theorem dX0_tell_87 : decode cX0_tell 87 = .ok (.invokevirtual 30, 3) := by decide +kernel
theorem dX0_tell_90 : decode cX0_tell 90 = .ok (.ireturn, 1) := by decide +kernel
theorem dX0_tell_91 : decode cX0_tell 91 = .ok (.aload_n 0, 1) := by decide +kernel
theorem dX0_tell_92 : decode cX0_tell 92 = .ok (.iload_n 2, 1) := by decide +kernel
theorem dX0_tell_93 : decode cX0_tell 93 = .ok (.invokevirtual 34, 3) := by decide +kernel
theorem dX0_tell_96 : decode cX0_tell 96 = .ok (.ireturn, 1) := by decide +kernel
theorem dX0_tell_97 : decode cX0_tell 97 = .ok (.aload_n 0, 1) := by decide +kernel
theorem dX0_tell_98 : decode cX0_tell 98 = .ok (.invokevirtual 38, 3) := by decide +kernel
theorem dX0_tell_101 : decode cX0_tell 101 = .ok (.ireturn, 1) := by decide +kernel
theorem dX0_tell_102 : decode cX0_tell 102 = .ok (.aload_n 0, 1) := by decide +kernel
theorem dX0_tell_103 : decode cX0_tell 103 = .ok (.iload_n 3, 1) := by decide +kernel
theorem dX0_tell_104 : decode cX0_tell 104 = .ok (.invokevirtual 41, 3) := by decide +kernel
theorem dX0_tell_107 : decode cX0_tell 107 = .ok (.ireturn, 1) := by decide +kernel
theorem dX0_tell_108 : decode cX0_tell 108 = .ok (.aload_n 0, 1) := by decide +kernel
theorem dX0_tell_109 : decode cX0_tell 109 = .ok (.invokevirtual 44, 3) := by decide +kernel
theorem dX0_tell_112 : decode cX0_tell 112 = .ok (.ireturn, 1) := by decide +kernel
theorem dX0_set_0 : decode cX0_set 0 = .ok (.iload_n 1, 1) := by decide +kernel
theorem dX0_set_1 : decode cX0_set 1 = .ok (.tableswitch 75 0 4 #[35, 43, 51, 59, 67], 35) := by decide +kernel
theorem dX0_set_36 : decode cX0_set 36 = .ok (.aload_n 0, 1) := by decide +kernel
theorem dX0_set_37 : decode cX0_set 37 = .ok (.iload_n 2, 1) := by decide +kernel
theorem dX0_set_38 : decode cX0_set 38 = .ok (.putfield 9, 3) := by decide +kernel
theorem dX0_set_41 : decode cX0_set 41 = .ok (.goto 40, 3) := by decide +kernel
theorem dX0_set_44 : decode cX0_set 44 = .ok (.aload_n 0, 1) := by decide +kernel
theorem dX0_set_45 : decode cX0_set 45 = .ok (.iload_n 2, 1) := by decide +kernel
theorem dX0_set_46 : decode cX0_set 46 = .ok (.putfield 15, 3) := by decide +kernel
theorem dX0_set_49 : decode cX0_set 49 = .ok (.goto 32, 3) := by decide +kernel
theorem dX0_set_52 : decode cX0_set 52 = .ok (.aload_n 0, 1) := by decide +kernel
theorem dX0_set_53 : decode cX0_set 53 = .ok (.iload_n 2, 1) := by decide +kernel
theorem dX0_set_54 : decode cX0_set 54 = .ok (.putfield 18, 3) := by decide +kernel
theorem dX0_set_57 : decode cX0_set 57 = .ok (.goto 24, 3) := by decide +kernel
theorem dX0_set_60 : decode cX0_set 60 = .ok (.aload_n 0, 1) := by decide +kernel
theorem dX0_set_61 : decode cX0_set 61 = .ok (.iload_n 2, 1) := by decide +kernel
theorem dX0_set_62 : decode cX0_set 62 = .ok (.putfield 21, 3) := by decide +kernel
theorem dX0_set_65 : decode cX0_set 65 = .ok (.goto 16, 3) := by decide +kernel
theorem dX0_set_68 : decode cX0_set 68 = .ok (.aload_n 0, 1) := by decide +kernel
theorem dX0_set_69 : decode cX0_set 69 = .ok (.iload_n 2, 1) := by decide +kernel
theorem dX0_set_70 : decode cX0_set 70 = .ok (.putfield 24, 3) := by decide +kernel
theorem dX0_set_73 : decode cX0_set 73 = .ok (.goto 8, 3) := by decide +kernel
theorem dX0_set_76 : decode cX0_set 76 = .ok (.aload_n 0, 1) := by decide +kernel
theorem dX0_set_77 : decode cX0_set 77 = .ok (.iload_n 2, 1) := by decide +kernel
theorem dX0_set_78 : decode cX0_set 78 = .ok (.putfield 27, 3) := by decide +kernel
theorem dX0_set_81 : decode cX0_set 81 = .ok (.return_, 1) := by decide +kernel
theorem dX0_countsAs_0 : decode cX0_countsAs 0 = .ok (.getstatic 47, 3) := by decide +kernel
theorem dX0_countsAs_3 : decode cX0_countsAs 3 = .ok (.aload_n 0, 1) := by decide +kernel
theorem dX0_countsAs_4 : decode cX0_countsAs 4 = .ok (.getfield 9, 3) := by decide +kernel
theorem dX0_countsAs_7 : decode cX0_countsAs 7 = .ok (.iaload, 1) := by decide +kernel
theorem dX0_countsAs_8 : decode cX0_countsAs 8 = .ok (.iload_n 1, 1) := by decide +kernel
theorem dX0_countsAs_9 : decode cX0_countsAs 9 = .ok (.ishr, 1) := by decide +kernel
theorem dX0_countsAs_10 : decode cX0_countsAs 10 = .ok (.iconst 1, 1) := by decide +kernel
theorem dX0_countsAs_11 : decode cX0_countsAs 11 = .ok (.iand, 1) := by decide +kernel
theorem dX0_countsAs_12 : decode cX0_countsAs 12 = .ok (.iconst 1, 1) := by decide +kernel
theorem dX0_countsAs_13 : decode cX0_countsAs 13 = .ok (.if_icmp .ne 7, 3) := by decide +kernel
theorem dX0_countsAs_16 : decode cX0_countsAs 16 = .ok (.iconst 1, 1) := by decide +kernel
theorem dX0_countsAs_17 : decode cX0_countsAs 17 = .ok (.goto 4, 3) := by decide +kernel
theorem dX0_countsAs_20 : decode cX0_countsAs 20 = .ok (.iconst 0, 1) := by decide +kernel
theorem dX0_countsAs_21 : decode cX0_countsAs 21 = .ok (.ireturn, 1) := by decide +kernel
theorem dX0_gladdens_0 : decode cX0_gladdens 0 = .ok (.aload_n 0, 1) := by decide +kernel
theorem dX0_gladdens_1 : decode cX0_gladdens 1 = .ok (.getfield 9, 3) := by decide +kernel
theorem dX0_gladdens_4 : decode cX0_gladdens 4 = .ok (.iconst 4, 1) := by decide +kernel
theorem dX0_gladdens_5 : decode cX0_gladdens 5 = .ok (.if_icmp .ne 22, 3) := by decide +kernel
theorem dX0_gladdens_8 : decode cX0_gladdens 8 = .ok (.getstatic 51, 3) := by decide +kernel
theorem dX0_gladdens_11 : decode cX0_gladdens 11 = .ok (.aload_n 0, 1) := by decide +kernel
theorem dX0_gladdens_12 : decode cX0_gladdens 12 = .ok (.getfield 9, 3) := by decide +kernel
theorem dX0_gladdens_15 : decode cX0_gladdens 15 = .ok (.iaload, 1) := by decide +kernel
theorem dX0_gladdens_16 : decode cX0_gladdens 16 = .ok (.aload_n 0, 1) := by decide +kernel
theorem dX0_gladdens_17 : decode cX0_gladdens 17 = .ok (.getfield 18, 3) := by decide +kernel
theorem dX0_gladdens_20 : decode cX0_gladdens 20 = .ok (.invokestatic 54, 3) := by decide +kernel
theorem dX0_gladdens_23 : decode cX0_gladdens 23 = .ok (.iadd, 1) := by decide +kernel
theorem dX0_gladdens_24 : decode cX0_gladdens 24 = .ok (.goto 11, 3) := by decide +kernel
theorem dX0_gladdens_27 : decode cX0_gladdens 27 = .ok (.getstatic 51, 3) := by decide +kernel
theorem dX0_gladdens_30 : decode cX0_gladdens 30 = .ok (.aload_n 0, 1) := by decide +kernel
theorem dX0_gladdens_31 : decode cX0_gladdens 31 = .ok (.getfield 9, 3) := by decide +kernel
theorem dX0_gladdens_34 : decode cX0_gladdens 34 = .ok (.iaload, 1) := by decide +kernel
theorem dX0_gladdens_35 : decode cX0_gladdens 35 = .ok (.ireturn, 1) := by decide +kernel
theorem dX0_tires_0 : decode cX0_tires 0 = .ok (.aload_n 0, 1) := by decide +kernel
theorem dX0_tires_1 : decode cX0_tires 1 = .ok (.getfield 9, 3) := by decide +kernel
theorem dX0_tires_4 : decode cX0_tires 4 = .ok (.bipush 6, 2) := by decide +kernel
theorem dX0_tires_6 : decode cX0_tires 6 = .ok (.if_icmp .ne 12, 3) := by decide +kernel
theorem dX0_tires_9 : decode cX0_tires 9 = .ok (.aload_n 0, 1) := by decide +kernel
theorem dX0_tires_10 : decode cX0_tires 10 = .ok (.getfield 21, 3) := by decide +kernel
theorem dX0_tires_13 : decode cX0_tires 13 = .ok (.ifCond .ne 5, 3) := by decide +kernel
theorem dX0_tires_16 : decode cX0_tires 16 = .ok (.iconst 0, 1) := by decide +kernel
theorem dX0_tires_17 : decode cX0_tires 17 = .ok (.ireturn, 1) := by decide +kernel
theorem dX0_tires_18 : decode cX0_tires 18 = .ok (.aload_n 0, 1) := by decide +kernel
theorem dX0_tires_19 : decode cX0_tires 19 = .ok (.getfield 9, 3) := by decide +kernel
theorem dX0_tires_22 : decode cX0_tires 22 = .ok (.iconst 3, 1) := by decide +kernel
theorem dX0_tires_23 : decode cX0_tires 23 = .ok (.if_icmp .eq 11, 3) := by decide +kernel
theorem dX0_tires_26 : decode cX0_tires 26 = .ok (.aload_n 0, 1) := by decide +kernel
theorem dX0_tires_27 : decode cX0_tires 27 = .ok (.getfield 9, 3) := by decide +kernel
theorem dX0_tires_30 : decode cX0_tires 30 = .ok (.iconst 4, 1) := by decide +kernel
theorem dX0_tires_31 : decode cX0_tires 31 = .ok (.if_icmp .ne 18, 3) := by decide +kernel
theorem dX0_tires_34 : decode cX0_tires 34 = .ok (.getstatic 59, 3) := by decide +kernel
theorem dX0_tires_37 : decode cX0_tires 37 = .ok (.aload_n 0, 1) := by decide +kernel
theorem dX0_tires_38 : decode cX0_tires 38 = .ok (.getfield 9, 3) := by decide +kernel
theorem dX0_tires_41 : decode cX0_tires 41 = .ok (.iaload, 1) := by decide +kernel
theorem dX0_tires_42 : decode cX0_tires 42 = .ok (.iload_n 1, 1) := by decide +kernel
theorem dX0_tires_43 : decode cX0_tires 43 = .ok (.iconst 1, 1) := by decide +kernel
theorem dX0_tires_44 : decode cX0_tires 44 = .ok (.iand, 1) := by decide +kernel
theorem dX0_tires_45 : decode cX0_tires 45 = .ok (.iadd, 1) := by decide +kernel
theorem dX0_tires_46 : decode cX0_tires 46 = .ok (.goto 11, 3) := by decide +kernel
theorem dX0_tires_49 : decode cX0_tires 49 = .ok (.getstatic 59, 3) := by decide +kernel
theorem dX0_tires_52 : decode cX0_tires 52 = .ok (.aload_n 0, 1) := by decide +kernel
theorem dX0_tires_53 : decode cX0_tires 53 = .ok (.getfield 9, 3) := by decide +kernel
theorem dX0_tires_56 : decode cX0_tires 56 = .ok (.iaload, 1) := by decide +kernel
theorem dX0_tires_57 : decode cX0_tires 57 = .ok (.ireturn, 1) := by decide +kernel
theorem dX0_bears_0 : decode cX0_bears 0 = .ok (.getstatic 62, 3) := by decide +kernel
theorem dX0_bears_3 : decode cX0_bears 3 = .ok (.aload_n 0, 1) := by decide +kernel
theorem dX0_bears_4 : decode cX0_bears 4 = .ok (.getfield 9, 3) := by decide +kernel
theorem dX0_bears_7 : decode cX0_bears 7 = .ok (.iaload, 1) := by decide +kernel
theorem dX0_bears_8 : decode cX0_bears 8 = .ok (.ireturn, 1) := by decide +kernel
theorem dX0_falls_0 : decode cX0_falls 0 = .ok (.aload_n 0, 1) := by decide +kernel
theorem dX0_falls_1 : decode cX0_falls 1 = .ok (.getfield 9, 3) := by decide +kernel
theorem dX0_falls_4 : decode cX0_falls 4 = .ok (.bipush 6, 2) := by decide +kernel
theorem dX0_falls_6 : decode cX0_falls 6 = .ok (.if_icmp .ne 22, 3) := by decide +kernel
theorem dX0_falls_9 : decode cX0_falls 9 = .ok (.iload_n 1, 1) := by decide +kernel
theorem dX0_falls_10 : decode cX0_falls 10 = .ok (.iconst 1, 1) := by decide +kernel
theorem dX0_falls_11 : decode cX0_falls 11 = .ok (.if_icmp .ne 17, 3) := by decide +kernel
theorem dX0_falls_14 : decode cX0_falls 14 = .ok (.getstatic 65, 3) := by decide +kernel
theorem dX0_falls_17 : decode cX0_falls 17 = .ok (.aload_n 0, 1) := by decide +kernel
theorem dX0_falls_18 : decode cX0_falls 18 = .ok (.getfield 9, 3) := by decide +kernel
theorem dX0_falls_21 : decode cX0_falls 21 = .ok (.iaload, 1) := by decide +kernel
theorem dX0_falls_22 : decode cX0_falls 22 = .ok (.bipush 6, 2) := by decide +kernel
theorem dX0_falls_24 : decode cX0_falls 24 = .ok (.iadd, 1) := by decide +kernel
theorem dX0_falls_25 : decode cX0_falls 25 = .ok (.goto 11, 3) := by decide +kernel
theorem dX0_falls_28 : decode cX0_falls 28 = .ok (.getstatic 65, 3) := by decide +kernel
theorem dX0_falls_31 : decode cX0_falls 31 = .ok (.aload_n 0, 1) := by decide +kernel
theorem dX0_falls_32 : decode cX0_falls 32 = .ok (.getfield 9, 3) := by decide +kernel
theorem dX0_falls_35 : decode cX0_falls 35 = .ok (.iaload, 1) := by decide +kernel
theorem dX0_falls_36 : decode cX0_falls 36 = .ok (.ireturn, 1) := by decide +kernel
theorem dX0_rises_0 : decode cX0_rises 0 = .ok (.getstatic 68, 3) := by decide +kernel
theorem dX0_rises_3 : decode cX0_rises 3 = .ok (.aload_n 0, 1) := by decide +kernel
theorem dX0_rises_4 : decode cX0_rises 4 = .ok (.getfield 9, 3) := by decide +kernel
theorem dX0_rises_7 : decode cX0_rises 7 = .ok (.iaload, 1) := by decide +kernel
theorem dX0_rises_8 : decode cX0_rises 8 = .ok (.ireturn, 1) := by decide +kernel
theorem dX0_getPulled_0 : decode cX0_getPulled 0 = .ok (.aload_n 0, 1) := by decide +kernel
theorem dX0_getPulled_1 : decode cX0_getPulled 1 = .ok (.bipush 20, 2) := by decide +kernel
theorem dX0_getPulled_3 : decode cX0_getPulled 3 = .ok (.aload_n 0, 1) := by decide +kernel
theorem dX0_getPulled_4 : decode cX0_getPulled 4 = .ok (.getfield 21, 3) := by decide +kernel
theorem dX0_getPulled_7 : decode cX0_getPulled 7 = .ok (.iload_n 1, 1) := by decide +kernel
theorem dX0_getPulled_8 : decode cX0_getPulled 8 = .ok (.bipush 10, 2) := by decide +kernel
theorem dX0_getPulled_10 : decode cX0_getPulled 10 = .ok (.idiv, 1) := by decide +kernel
theorem dX0_getPulled_11 : decode cX0_getPulled 11 = .ok (.iadd, 1) := by decide +kernel
theorem dX0_getPulled_12 : decode cX0_getPulled 12 = .ok (.aload_n 0, 1) := by decide +kernel
theorem dX0_getPulled_13 : decode cX0_getPulled 13 = .ok (.invokevirtual 44, 3) := by decide +kernel
theorem dX0_getPulled_16 : decode cX0_getPulled 16 = .ok (.iadd, 1) := by decide +kernel
theorem dX0_getPulled_17 : decode cX0_getPulled 17 = .ok (.invokestatic 71, 3) := by decide +kernel
theorem dX0_getPulled_20 : decode cX0_getPulled 20 = .ok (.putfield 21, 3) := by decide +kernel
theorem dX0_getPulled_23 : decode cX0_getPulled 23 = .ok (.aload_n 0, 1) := by decide +kernel
theorem dX0_getPulled_24 : decode cX0_getPulled 24 = .ok (.iconst 0, 1) := by decide +kernel
theorem dX0_getPulled_25 : decode cX0_getPulled 25 = .ok (.aload_n 0, 1) := by decide +kernel
theorem dX0_getPulled_26 : decode cX0_getPulled 26 = .ok (.getfield 15, 3) := by decide +kernel
theorem dX0_getPulled_29 : decode cX0_getPulled 29 = .ok (.iload_n 1, 1) := by decide +kernel
theorem dX0_getPulled_30 : decode cX0_getPulled 30 = .ok (.iconst 5, 1) := by decide +kernel
theorem dX0_getPulled_31 : decode cX0_getPulled 31 = .ok (.idiv, 1) := by decide +kernel
theorem dX0_getPulled_32 : decode cX0_getPulled 32 = .ok (.isub, 1) := by decide +kernel
theorem dX0_getPulled_33 : decode cX0_getPulled 33 = .ok (.invokestatic 77, 3) := by decide +kernel
theorem dX0_getPulled_36 : decode cX0_getPulled 36 = .ok (.putfield 15, 3) := by decide +kernel
theorem dX0_getPulled_39 : decode cX0_getPulled 39 = .ok (.return_, 1) := by decide +kernel
theorem dX0_passBeat_0 : decode cX0_passBeat 0 = .ok (.aload_n 0, 1) := by decide +kernel
theorem dX0_passBeat_1 : decode cX0_passBeat 1 = .ok (.iload_n 1, 1) := by decide +kernel
theorem dX0_passBeat_2 : decode cX0_passBeat 2 = .ok (.invokevirtual 80, 3) := by decide +kernel
theorem dX0_passBeat_5 : decode cX0_passBeat 5 = .ok (.aload_n 0, 1) := by decide +kernel
theorem dX0_passBeat_6 : decode cX0_passBeat 6 = .ok (.getfield 24, 3) := by decide +kernel
theorem dX0_passBeat_9 : decode cX0_passBeat 9 = .ok (.iconst 1, 1) := by decide +kernel
theorem dX0_passBeat_10 : decode cX0_passBeat 10 = .ok (.if_icmp .ne 5, 3) := by decide +kernel
theorem dX0_passBeat_13 : decode cX0_passBeat 13 = .ok (.iconst 0, 1) := by decide +kernel
theorem dX0_passBeat_14 : decode cX0_passBeat 14 = .ok (.ireturn, 1) := by decide +kernel
theorem dX0_passBeat_15 : decode cX0_passBeat 15 = .ok (.aload_n 0, 1) := by decide +kernel
theorem dX0_passBeat_16 : decode cX0_passBeat 16 = .ok (.getfield 21, 3) := by decide +kernel
theorem dX0_passBeat_19 : decode cX0_passBeat 19 = .ok (.ifCond .le 7, 3) := by decide +kernel
theorem dX0_passBeat_22 : decode cX0_passBeat 22 = .ok (.iconst 1, 1) := by decide +kernel
theorem dX0_passBeat_23 : decode cX0_passBeat 23 = .ok (.goto 4, 3) := by decide +kernel
theorem dX0_passBeat_26 : decode cX0_passBeat 26 = .ok (.iconst 0, 1) := by decide +kernel
theorem dX0_passBeat_27 : decode cX0_passBeat 27 = .ok (.istore_n 3, 1) := by decide +kernel
theorem dX0_passBeat_28 : decode cX0_passBeat 28 = .ok (.iload_n 2, 1) := by decide +kernel
theorem dX0_passBeat_29 : decode cX0_passBeat 29 = .ok (.iconst 1, 1) := by decide +kernel
theorem dX0_passBeat_30 : decode cX0_passBeat 30 = .ok (.if_icmp .eq 14, 3) := by decide +kernel
theorem dX0_passBeat_33 : decode cX0_passBeat 33 = .ok (.aload_n 0, 1) := by decide +kernel
theorem dX0_passBeat_34 : decode cX0_passBeat 34 = .ok (.getfield 15, 3) := by decide +kernel
theorem dX0_passBeat_37 : decode cX0_passBeat 37 = .ok (.aload_n 0, 1) := by decide +kernel
theorem dX0_passBeat_38 : decode cX0_passBeat 38 = .ok (.invokevirtual 38, 3) := by decide +kernel
theorem dX0_passBeat_41 : decode cX0_passBeat 41 = .ok (.if_icmp .ge 24, 3) := by decide +kernel
theorem dX0_passBeat_44 : decode cX0_passBeat 44 = .ok (.aload_n 0, 1) := by decide +kernel
theorem dX0_passBeat_45 : decode cX0_passBeat 45 = .ok (.iconst 0, 1) := by decide +kernel
theorem dX0_passBeat_46 : decode cX0_passBeat 46 = .ok (.aload_n 0, 1) := by decide +kernel
theorem dX0_passBeat_47 : decode cX0_passBeat 47 = .ok (.getfield 21, 3) := by decide +kernel
theorem dX0_passBeat_50 : decode cX0_passBeat 50 = .ok (.aload_n 0, 1) := by decide +kernel
theorem dX0_passBeat_51 : decode cX0_passBeat 51 = .ok (.iload_n 2, 1) := by decide +kernel
theorem dX0_passBeat_52 : decode cX0_passBeat 52 = .ok (.invokevirtual 41, 3) := by decide +kernel
theorem dX0_passBeat_55 : decode cX0_passBeat 55 = .ok (.isub, 1) := by decide +kernel
theorem dX0_passBeat_56 : decode cX0_passBeat 56 = .ok (.invokestatic 77, 3) := by decide +kernel
theorem dX0_passBeat_59 : decode cX0_passBeat 59 = .ok (.putfield 21, 3) := by decide +kernel
theorem dX0_passBeat_62 : decode cX0_passBeat 62 = .ok (.goto 21, 3) := by decide +kernel
theorem dX0_passBeat_65 : decode cX0_passBeat 65 = .ok (.aload_n 0, 1) := by decide +kernel
theorem dX0_passBeat_66 : decode cX0_passBeat 66 = .ok (.bipush 20, 2) := by decide +kernel
theorem dX0_passBeat_68 : decode cX0_passBeat 68 = .ok (.aload_n 0, 1) := by decide +kernel
theorem dX0_passBeat_69 : decode cX0_passBeat 69 = .ok (.getfield 21, 3) := by decide +kernel
theorem dX0_passBeat_72 : decode cX0_passBeat 72 = .ok (.aload_n 0, 1) := by decide +kernel
theorem dX0_passBeat_73 : decode cX0_passBeat 73 = .ok (.invokevirtual 44, 3) := by decide +kernel
theorem dX0_passBeat_76 : decode cX0_passBeat 76 = .ok (.iadd, 1) := by decide +kernel
theorem dX0_passBeat_77 : decode cX0_passBeat 77 = .ok (.invokestatic 71, 3) := by decide +kernel
theorem dX0_passBeat_80 : decode cX0_passBeat 80 = .ok (.putfield 21, 3) := by decide +kernel
theorem dX0_passBeat_83 : decode cX0_passBeat 83 = .ok (.iload_n 3, 1) := by decide +kernel
theorem dX0_passBeat_84 : decode cX0_passBeat 84 = .ok (.ifCond .eq 14, 3) := by decide +kernel
theorem dX0_passBeat_87 : decode cX0_passBeat 87 = .ok (.aload_n 0, 1) := by decide +kernel
theorem dX0_passBeat_88 : decode cX0_passBeat 88 = .ok (.getfield 21, 3) := by decide +kernel
theorem dX0_passBeat_91 : decode cX0_passBeat 91 = .ok (.ifCond .ne 7, 3) := by decide +kernel
theorem dX0_passBeat_94 : decode cX0_passBeat 94 = .ok (.iconst 1, 1) := by decide +kernel
theorem dX0_passBeat_95 : decode cX0_passBeat 95 = .ok (.goto 4, 3) := by decide +kernel
theorem dX0_passBeat_98 : decode cX0_passBeat 98 = .ok (.iconst 0, 1) := by decide +kernel
theorem dX0_passBeat_99 : decode cX0_passBeat 99 = .ok (.istore 4, 2) := by decide +kernel
theorem dX0_passBeat_101 : decode cX0_passBeat 101 = .ok (.iload 4, 2) := by decide +kernel
theorem dX0_passBeat_103 : decode cX0_passBeat 103 = .ok (.ifCond .eq 8, 3) := by decide +kernel
theorem dX0_passBeat_106 : decode cX0_passBeat 106 = .ok (.aload_n 0, 1) := by decide +kernel
theorem dX0_passBeat_107 : decode cX0_passBeat 107 = .ok (.iload_n 2, 1) := by decide +kernel
theorem dX0_passBeat_108 : decode cX0_passBeat 108 = .ok (.invokevirtual 84, 3) := by decide +kernel
theorem dX0_passBeat_111 : decode cX0_passBeat 111 = .ok (.iload 4, 2) := by decide +kernel
theorem dX0_passBeat_113 : decode cX0_passBeat 113 = .ok (.ireturn, 1) := by decide +kernel
theorem dX0_feel_0 : decode cX0_feel 0 = .ok (.aload_n 0, 1) := by decide +kernel
theorem dX0_feel_1 : decode cX0_feel 1 = .ok (.getfield 18, 3) := by decide +kernel
theorem dX0_feel_4 : decode cX0_feel 4 = .ok (.iload_n 1, 1) := by decide +kernel
theorem dX0_feel_5 : decode cX0_feel 5 = .ok (.ishr, 1) := by decide +kernel
theorem dX0_feel_6 : decode cX0_feel 6 = .ok (.iconst 1, 1) := by decide +kernel
theorem dX0_feel_7 : decode cX0_feel 7 = .ok (.iand, 1) := by decide +kernel
theorem dX0_feel_8 : decode cX0_feel 8 = .ok (.iconst 1, 1) := by decide +kernel
theorem dX0_feel_9 : decode cX0_feel 9 = .ok (.if_icmp .ne 24, 3) := by decide +kernel
theorem dX0_feel_12 : decode cX0_feel 12 = .ok (.aload_n 0, 1) := by decide +kernel
theorem dX0_feel_13 : decode cX0_feel 13 = .ok (.bipush 99, 2) := by decide +kernel
theorem dX0_feel_15 : decode cX0_feel 15 = .ok (.aload_n 0, 1) := by decide +kernel
theorem dX0_feel_16 : decode cX0_feel 16 = .ok (.getfield 15, 3) := by decide +kernel
theorem dX0_feel_19 : decode cX0_feel 19 = .ok (.aload_n 0, 1) := by decide +kernel
theorem dX0_feel_20 : decode cX0_feel 20 = .ok (.invokevirtual 30, 3) := by decide +kernel
theorem dX0_feel_23 : decode cX0_feel 23 = .ok (.iadd, 1) := by decide +kernel
theorem dX0_feel_24 : decode cX0_feel 24 = .ok (.invokestatic 71, 3) := by decide +kernel
theorem dX0_feel_27 : decode cX0_feel 27 = .ok (.putfield 15, 3) := by decide +kernel
theorem dX0_feel_30 : decode cX0_feel 30 = .ok (.goto 21, 3) := by decide +kernel
theorem dX0_feel_33 : decode cX0_feel 33 = .ok (.aload_n 0, 1) := by decide +kernel
theorem dX0_feel_34 : decode cX0_feel 34 = .ok (.iconst 0, 1) := by decide +kernel
theorem dX0_feel_35 : decode cX0_feel 35 = .ok (.aload_n 0, 1) := by decide +kernel
theorem dX0_feel_36 : decode cX0_feel 36 = .ok (.getfield 15, 3) := by decide +kernel
theorem dX0_feel_39 : decode cX0_feel 39 = .ok (.aload_n 0, 1) := by decide +kernel
theorem dX0_feel_40 : decode cX0_feel 40 = .ok (.iload_n 1, 1) := by decide +kernel
theorem dX0_feel_41 : decode cX0_feel 41 = .ok (.invokevirtual 34, 3) := by decide +kernel
theorem dX0_feel_44 : decode cX0_feel 44 = .ok (.isub, 1) := by decide +kernel
theorem dX0_feel_45 : decode cX0_feel 45 = .ok (.invokestatic 77, 3) := by decide +kernel
theorem dX0_feel_48 : decode cX0_feel 48 = .ok (.putfield 15, 3) := by decide +kernel
theorem dX0_feel_51 : decode cX0_feel 51 = .ok (.return_, 1) := by decide +kernel
theorem dX0_comeDown_0 : decode cX0_comeDown 0 = .ok (.aload_n 0, 1) := by decide +kernel
theorem dX0_comeDown_1 : decode cX0_comeDown 1 = .ok (.sipush 9999, 3) := by decide +kernel
theorem dX0_comeDown_4 : decode cX0_comeDown 4 = .ok (.aload_n 0, 1) := by decide +kernel
theorem dX0_comeDown_5 : decode cX0_comeDown 5 = .ok (.getfield 27, 3) := by decide +kernel
theorem dX0_comeDown_8 : decode cX0_comeDown 8 = .ok (.iconst 1, 1) := by decide +kernel
theorem dX0_comeDown_9 : decode cX0_comeDown 9 = .ok (.iadd, 1) := by decide +kernel
theorem dX0_comeDown_10 : decode cX0_comeDown 10 = .ok (.invokestatic 71, 3) := by decide +kernel
theorem dX0_comeDown_13 : decode cX0_comeDown 13 = .ok (.putfield 27, 3) := by decide +kernel
theorem dX0_comeDown_16 : decode cX0_comeDown 16 = .ok (.iload_n 1, 1) := by decide +kernel
theorem dX0_comeDown_17 : decode cX0_comeDown 17 = .ok (.ifCond .ne 19, 3) := by decide +kernel
theorem dX0_comeDown_20 : decode cX0_comeDown 20 = .ok (.aload_n 0, 1) := by decide +kernel
theorem dX0_comeDown_21 : decode cX0_comeDown 21 = .ok (.bipush 99, 2) := by decide +kernel
theorem dX0_comeDown_23 : decode cX0_comeDown 23 = .ok (.aload_n 0, 1) := by decide +kernel
theorem dX0_comeDown_24 : decode cX0_comeDown 24 = .ok (.getfield 15, 3) := by decide +kernel
theorem dX0_comeDown_27 : decode cX0_comeDown 27 = .ok (.bipush 25, 2) := by decide +kernel
theorem dX0_comeDown_29 : decode cX0_comeDown 29 = .ok (.iadd, 1) := by decide +kernel
theorem dX0_comeDown_30 : decode cX0_comeDown 30 = .ok (.invokestatic 71, 3) := by decide +kernel
theorem dX0_comeDown_33 : decode cX0_comeDown 33 = .ok (.putfield 15, 3) := by decide +kernel
theorem dX0_comeDown_36 : decode cX0_comeDown 36 = .ok (.return_, 1) := by decide +kernel
theorem dX1_init_0 : decode cX1_init 0 = .ok (.aload_n 0, 1) := by decide +kernel
theorem dX1_init_1 : decode cX1_init 1 = .ok (.invokespecial 3, 3) := by decide +kernel
theorem dX1_init_4 : decode cX1_init 4 = .ok (.aload_n 0, 1) := by decide +kernel
theorem dX1_init_5 : decode cX1_init 5 = .ok (.iconst 1, 1) := by decide +kernel
theorem dX1_init_6 : decode cX1_init 6 = .ok (.putfield 9, 3) := by decide +kernel
theorem dX1_init_9 : decode cX1_init 9 = .ok (.aload_n 0, 1) := by decide +kernel
theorem dX1_init_10 : decode cX1_init 10 = .ok (.bipush 6, 2) := by decide +kernel
theorem dX1_init_12 : decode cX1_init 12 = .ok (.newarray .int, 2) := by decide +kernel
theorem dX1_init_14 : decode cX1_init 14 = .ok (.putfield 15, 3) := by decide +kernel
theorem dX1_init_17 : decode cX1_init 17 = .ok (.aload_n 0, 1) := by decide +kernel
theorem dX1_init_18 : decode cX1_init 18 = .ok (.bipush 10, 2) := by decide +kernel
theorem dX1_init_20 : decode cX1_init 20 = .ok (.newarray .int, 2) := by decide +kernel
theorem dX1_init_22 : decode cX1_init 22 = .ok (.putfield 19, 3) := by decide +kernel
theorem dX1_init_25 : decode cX1_init 25 = .ok (.aload_n 0, 1) := by decide +kernel
theorem dX1_init_26 : decode cX1_init 26 = .ok (.bipush 8, 2) := by decide +kernel
theorem dX1_init_28 : decode cX1_init 28 = .ok (.anewarray 22, 3) := by decide +kernel
theorem dX1_init_31 : decode cX1_init 31 = .ok (.putfield 24, 3) := by decide +kernel
theorem dX1_init_34 : decode cX1_init 34 = .ok (.iconst 0, 1) := by decide +kernel
theorem dX1_init_35 : decode cX1_init 35 = .ok (.istore_n 1, 1) := by decide +kernel
theorem dX1_init_36 : decode cX1_init 36 = .ok (.iload_n 1, 1) := by decide +kernel
theorem dX1_init_37 : decode cX1_init 37 = .ok (.bipush 6, 2) := by decide +kernel
theorem dX1_init_39 : decode cX1_init 39 = .ok (.if_icmp .ge 16, 3) := by decide +kernel
theorem dX1_init_42 : decode cX1_init 42 = .ok (.aload_n 0, 1) := by decide +kernel
theorem dX1_init_43 : decode cX1_init 43 = .ok (.getfield 15, 3) := by decide +kernel
theorem dX1_init_46 : decode cX1_init 46 = .ok (.iload_n 1, 1) := by decide +kernel
theorem dX1_init_47 : decode cX1_init 47 = .ok (.iload_n 1, 1) := by decide +kernel
theorem dX1_init_48 : decode cX1_init 48 = .ok (.iastore, 1) := by decide +kernel
theorem dX1_init_49 : decode cX1_init 49 = .ok (.iinc 1 1, 3) := by decide +kernel
theorem dX1_init_52 : decode cX1_init 52 = .ok (.goto (-16), 3) := by decide +kernel
theorem dX1_init_55 : decode cX1_init 55 = .ok (.iconst 0, 1) := by decide +kernel
theorem dX1_init_56 : decode cX1_init 56 = .ok (.istore_n 1, 1) := by decide +kernel
theorem dX1_init_57 : decode cX1_init 57 = .ok (.iload_n 1, 1) := by decide +kernel
theorem dX1_init_58 : decode cX1_init 58 = .ok (.bipush 10, 2) := by decide +kernel
theorem dX1_init_60 : decode cX1_init 60 = .ok (.if_icmp .ge 16, 3) := by decide +kernel
theorem dX1_init_63 : decode cX1_init 63 = .ok (.aload_n 0, 1) := by decide +kernel
theorem dX1_init_64 : decode cX1_init 64 = .ok (.getfield 19, 3) := by decide +kernel
theorem dX1_init_67 : decode cX1_init 67 = .ok (.iload_n 1, 1) := by decide +kernel
theorem dX1_init_68 : decode cX1_init 68 = .ok (.iconst (-1), 1) := by decide +kernel
theorem dX1_init_69 : decode cX1_init 69 = .ok (.iastore, 1) := by decide +kernel
theorem dX1_init_70 : decode cX1_init 70 = .ok (.iinc 1 1, 3) := by decide +kernel
theorem dX1_init_73 : decode cX1_init 73 = .ok (.goto (-16), 3) := by decide +kernel
theorem dX1_init_76 : decode cX1_init 76 = .ok (.iconst 0, 1) := by decide +kernel
theorem dX1_init_77 : decode cX1_init 77 = .ok (.istore_n 1, 1) := by decide +kernel
theorem dX1_init_78 : decode cX1_init 78 = .ok (.iload_n 1, 1) := by decide +kernel
theorem dX1_init_79 : decode cX1_init 79 = .ok (.bipush 8, 2) := by decide +kernel
theorem dX1_init_81 : decode cX1_init 81 = .ok (.if_icmp .ge 22, 3) := by decide +kernel
theorem dX1_init_84 : decode cX1_init 84 = .ok (.aload_n 0, 1) := by decide +kernel
theorem dX1_init_85 : decode cX1_init 85 = .ok (.getfield 24, 3) := by decide +kernel
theorem dX1_init_88 : decode cX1_init 88 = .ok (.iload_n 1, 1) := by decide +kernel
theorem dX1_init_89 : decode cX1_init 89 = .ok (.new 22, 3) := by decide +kernel
theorem dX1_init_92 : decode cX1_init 92 = .ok (.dup, 1) := by decide +kernel
theorem dX1_init_93 : decode cX1_init 93 = .ok (.invokespecial 28, 3) := by decide +kernel
theorem dX1_init_96 : decode cX1_init 96 = .ok (.aastore, 1) := by decide +kernel
theorem dX1_init_97 : decode cX1_init 97 = .ok (.iinc 1 1, 3) := by decide +kernel
theorem dX1_init_100 : decode cX1_init 100 = .ok (.goto (-22), 3) := by decide +kernel
theorem dX1_init_103 : decode cX1_init 103 = .ok (.return_, 1) := by decide +kernel
theorem dX1_take_0 : decode cX1_take 0 = .ok (.aload_n 0, 1) := by decide +kernel
theorem dX1_take_1 : decode cX1_take 1 = .ok (.aload_n 1, 1) := by decide +kernel
theorem dX1_take_2 : decode cX1_take 2 = .ok (.getfield 29, 3) := by decide +kernel
theorem dX1_take_5 : decode cX1_take 5 = .ok (.putfield 29, 3) := by decide +kernel
theorem dX1_take_8 : decode cX1_take 8 = .ok (.aload_n 0, 1) := by decide +kernel
theorem dX1_take_9 : decode cX1_take 9 = .ok (.aload_n 1, 1) := by decide +kernel
theorem dX1_take_10 : decode cX1_take 10 = .ok (.getfield 32, 3) := by decide +kernel
theorem dX1_take_13 : decode cX1_take 13 = .ok (.putfield 32, 3) := by decide +kernel
theorem dX1_take_16 : decode cX1_take 16 = .ok (.aload_n 0, 1) := by decide +kernel
theorem dX1_take_17 : decode cX1_take 17 = .ok (.aload_n 1, 1) := by decide +kernel
theorem dX1_take_18 : decode cX1_take 18 = .ok (.getfield 35, 3) := by decide +kernel
theorem dX1_take_21 : decode cX1_take 21 = .ok (.putfield 35, 3) := by decide +kernel
theorem dX1_take_24 : decode cX1_take 24 = .ok (.aload_n 0, 1) := by decide +kernel
theorem dX1_take_25 : decode cX1_take 25 = .ok (.aload_n 1, 1) := by decide +kernel
theorem dX1_take_26 : decode cX1_take 26 = .ok (.getfield 38, 3) := by decide +kernel
theorem dX1_take_29 : decode cX1_take 29 = .ok (.putfield 38, 3) := by decide +kernel
theorem dX1_take_32 : decode cX1_take 32 = .ok (.aload_n 0, 1) := by decide +kernel
theorem dX1_take_33 : decode cX1_take 33 = .ok (.aload_n 1, 1) := by decide +kernel
theorem dX1_take_34 : decode cX1_take 34 = .ok (.getfield 9, 3) := by decide +kernel
theorem dX1_take_37 : decode cX1_take 37 = .ok (.putfield 9, 3) := by decide +kernel
theorem dX1_take_40 : decode cX1_take 40 = .ok (.aload_n 0, 1) := by decide +kernel
theorem dX1_take_41 : decode cX1_take 41 = .ok (.aload_n 1, 1) := by decide +kernel
theorem dX1_take_42 : decode cX1_take 42 = .ok (.getfield 41, 3) := by decide +kernel
theorem dX1_take_45 : decode cX1_take 45 = .ok (.putfield 41, 3) := by decide +kernel
theorem dX1_take_48 : decode cX1_take 48 = .ok (.aload_n 1, 1) := by decide +kernel
theorem dX1_take_49 : decode cX1_take 49 = .ok (.getfield 15, 3) := by decide +kernel
theorem dX1_take_52 : decode cX1_take 52 = .ok (.iconst 0, 1) := by decide +kernel
theorem dX1_take_53 : decode cX1_take 53 = .ok (.aload_n 0, 1) := by decide +kernel
theorem dX1_take_54 : decode cX1_take 54 = .ok (.getfield 15, 3) := by decide +kernel
theorem dX1_take_57 : decode cX1_take 57 = .ok (.iconst 0, 1) := by decide +kernel
theorem dX1_take_58 : decode cX1_take 58 = .ok (.bipush 6, 2) := by decide +kernel
theorem dX1_take_60 : decode cX1_take 60 = .ok (.invokestatic 44, 3) := by decide +kernel
theorem dX1_take_63 : decode cX1_take 63 = .ok (.aload_n 1, 1) := by decide +kernel
theorem dX1_take_64 : decode cX1_take 64 = .ok (.getfield 19, 3) := by decide +kernel
theorem dX1_take_67 : decode cX1_take 67 = .ok (.iconst 0, 1) := by decide +kernel
theorem dX1_take_68 : decode cX1_take 68 = .ok (.aload_n 0, 1) := by decide +kernel
theorem dX1_take_69 : decode cX1_take 69 = .ok (.getfield 19, 3) := by decide +kernel
theorem dX1_take_72 : decode cX1_take 72 = .ok (.iconst 0, 1) := by decide +kernel
theorem dX1_take_73 : decode cX1_take 73 = .ok (.bipush 10, 2) := by decide +kernel
theorem dX1_take_75 : decode cX1_take 75 = .ok (.invokestatic 44, 3) := by decide +kernel
theorem dX1_take_78 : decode cX1_take 78 = .ok (.iconst 0, 1) := by decide +kernel
theorem dX1_take_79 : decode cX1_take 79 = .ok (.istore_n 2, 1) := by decide +kernel
theorem dX1_take_80 : decode cX1_take 80 = .ok (.iload_n 2, 1) := by decide +kernel
theorem dX1_take_81 : decode cX1_take 81 = .ok (.aload_n 0, 1) := by decide +kernel
theorem dX1_take_82 : decode cX1_take 82 = .ok (.getfield 41, 3) := by decide +kernel
theorem dX1_take_85 : decode cX1_take 85 = .ok (.if_icmp .ge 24, 3) := by decide +kernel
theorem dX1_take_88 : decode cX1_take 88 = .ok (.aload_n 0, 1) := by decide +kernel
theorem dX1_take_89 : decode cX1_take 89 = .ok (.getfield 24, 3) := by decide +kernel
theorem dX1_take_92 : decode cX1_take 92 = .ok (.iload_n 2, 1) := by decide +kernel
theorem dX1_take_93 : decode cX1_take 93 = .ok (.aaload, 1) := by decide +kernel
theorem dX1_take_94 : decode cX1_take 94 = .ok (.aload_n 1, 1) := by decide +kernel
theorem dX1_take_95 : decode cX1_take 95 = .ok (.getfield 24, 3) := by decide +kernel
theorem dX1_take_98 : decode cX1_take 98 = .ok (.iload_n 2, 1) := by decide +kernel
theorem dX1_take_99 : decode cX1_take 99 = .ok (.aaload, 1) := by decide +kernel
theorem dX1_take_100 : decode cX1_take 100 = .ok (.invokevirtual 50, 3) := by decide +kernel
theorem dX1_take_103 : decode cX1_take 103 = .ok (.iinc 2 1, 3) := by decide +kernel
theorem dX1_take_106 : decode cX1_take 106 = .ok (.goto (-26), 3) := by decide +kernel
theorem dX1_take_109 : decode cX1_take 109 = .ok (.return_, 1) := by decide +kernel
theorem dX1_isFull_0 : decode cX1_isFull 0 = .ok (.aload_n 0, 1) := by decide +kernel
theorem dX1_isFull_1 : decode cX1_isFull 1 = .ok (.getfield 41, 3) := by decide +kernel
theorem dX1_isFull_4 : decode cX1_isFull 4 = .ok (.bipush 8, 2) := by decide +kernel
theorem dX1_isFull_6 : decode cX1_isFull 6 = .ok (.if_icmp .lt 7, 3) := by decide +kernel
theorem dX1_isFull_9 : decode cX1_isFull 9 = .ok (.iconst 1, 1) := by decide +kernel
theorem dX1_isFull_10 : decode cX1_isFull 10 = .ok (.goto 4, 3) := by decide +kernel
theorem dX1_isFull_13 : decode cX1_isFull 13 = .ok (.iconst 0, 1) := by decide +kernel
theorem dX1_isFull_14 : decode cX1_isFull 14 = .ok (.ireturn, 1) := by decide +kernel
theorem dX1_hang_0 : decode cX1_hang 0 = .ok (.aload_n 0, 1) := by decide +kernel
theorem dX1_hang_1 : decode cX1_hang 1 = .ok (.getfield 24, 3) := by decide +kernel
theorem dX1_hang_4 : decode cX1_hang 4 = .ok (.aload_n 0, 1) := by decide +kernel
theorem dX1_hang_5 : decode cX1_hang 5 = .ok (.getfield 41, 3) := by decide +kernel
theorem dX1_hang_8 : decode cX1_hang 8 = .ok (.aaload, 1) := by decide +kernel
theorem dX1_hang_9 : decode cX1_hang 9 = .ok (.astore_n 2, 1) := by decide +kernel
theorem dX1_hang_10 : decode cX1_hang 10 = .ok (.aload_n 2, 1) := by decide +kernel
theorem dX1_hang_11 : decode cX1_hang 11 = .ok (.iload_n 1, 1) := by decide +kernel
theorem dX1_hang_12 : decode cX1_hang 12 = .ok (.invokevirtual 54, 3) := by decide +kernel
theorem dX1_hang_15 : decode cX1_hang 15 = .ok (.aload_n 0, 1) := by decide +kernel
theorem dX1_hang_16 : decode cX1_hang 16 = .ok (.dup, 1) := by decide +kernel
theorem dX1_hang_17 : decode cX1_hang 17 = .ok (.getfield 41, 3) := by decide +kernel
theorem dX1_hang_20 : decode cX1_hang 20 = .ok (.iconst 1, 1) := by decide +kernel
theorem dX1_hang_21 : decode cX1_hang 21 = .ok (.iadd, 1) := by decide +kernel
theorem dX1_hang_22 : decode cX1_hang 22 = .ok (.putfield 41, 3) := by decide +kernel
theorem dX1_hang_25 : decode cX1_hang 25 = .ok (.aload_n 2, 1) := by decide +kernel
theorem dX1_hang_26 : decode cX1_hang 26 = .ok (.areturn, 1) := by decide +kernel
theorem dX1_placeIn_0 : decode cX1_placeIn 0 = .ok (.ldc 58, 2) := by decide +kernel
theorem dX1_placeIn_2 : decode cX1_placeIn 2 = .ok (.aload_n 0, 1) := by decide +kernel
theorem dX1_placeIn_3 : decode cX1_placeIn 3 = .ok (.getfield 38, 3) := by decide +kernel
theorem dX1_placeIn_6 : decode cX1_placeIn 6 = .ok (.iload_n 1, 1) := by decide +kernel
theorem dX1_placeIn_7 : decode cX1_placeIn 7 = .ok (.iadd, 1) := by decide +kernel
theorem dX1_placeIn_8 : decode cX1_placeIn 8 = .ok (.invokestatic 59, 3) := by decide +kernel
theorem dX1_placeIn_11 : decode cX1_placeIn 11 = .ok (.bipush 6, 2) := by decide +kernel
theorem dX1_placeIn_13 : decode cX1_placeIn 13 = .ok (.irem, 1) := by decide +kernel
theorem dX1_placeIn_14 : decode cX1_placeIn 14 = .ok (.ireturn, 1) := by decide +kernel
theorem dX1_sceneIn_0 : decode cX1_sceneIn 0 = .ok (.aload_n 0, 1) := by decide +kernel
theorem dX1_sceneIn_1 : decode cX1_sceneIn 1 = .ok (.getfield 15, 3) := by decide +kernel
theorem dX1_sceneIn_4 : decode cX1_sceneIn 4 = .ok (.aload_n 0, 1) := by decide +kernel
theorem dX1_sceneIn_5 : decode cX1_sceneIn 5 = .ok (.iload_n 1, 1) := by decide +kernel
theorem dX1_sceneIn_6 : decode cX1_sceneIn 6 = .ok (.invokevirtual 65, 3) := by decide +kernel
theorem dX1_sceneIn_9 : decode cX1_sceneIn 9 = .ok (.iaload, 1) := by decide +kernel
theorem dX1_sceneIn_10 : decode cX1_sceneIn 10 = .ok (.ireturn, 1) := by decide +kernel
theorem dX1_passBeats_0 : decode cX1_passBeats 0 = .ok (.iconst 0, 1) := by decide +kernel
theorem dX1_passBeats_1 : decode cX1_passBeats 1 = .ok (.istore_n 2, 1) := by decide +kernel
theorem dX1_passBeats_2 : decode cX1_passBeats 2 = .ok (.iload_n 2, 1) := by decide +kernel
theorem dX1_passBeats_3 : decode cX1_passBeats 3 = .ok (.iload_n 1, 1) := by decide +kernel
theorem dX1_passBeats_4 : decode cX1_passBeats 4 = .ok (.if_icmp .ge 13, 3) := by decide +kernel
theorem dX1_passBeats_7 : decode cX1_passBeats 7 = .ok (.aload_n 0, 1) := by decide +kernel
theorem dX1_passBeats_8 : decode cX1_passBeats 8 = .ok (.invokevirtual 69, 3) := by decide +kernel
theorem dX1_passBeats_11 : decode cX1_passBeats 11 = .ok (.iinc 2 1, 3) := by decide +kernel
theorem dX1_passBeats_14 : decode cX1_passBeats 14 = .ok (.goto (-12), 3) := by decide +kernel
theorem dX1_passBeats_17 : decode cX1_passBeats 17 = .ok (.return_, 1) := by decide +kernel
theorem dX1_passBeat_0 : decode cX1_passBeat 0 = .ok (.aload_n 0, 1) := by decide +kernel
theorem dX1_passBeat_1 : decode cX1_passBeat 1 = .ok (.iconst 0, 1) := by decide +kernel
theorem dX1_passBeat_2 : decode cX1_passBeat 2 = .ok (.invokevirtual 72, 3) := by decide +kernel
theorem dX1_passBeat_5 : decode cX1_passBeat 5 = .ok (.istore_n 1, 1) := by decide +kernel
theorem dX1_passBeat_6 : decode cX1_passBeat 6 = .ok (.iconst 0, 1) := by decide +kernel
theorem dX1_passBeat_7 : decode cX1_passBeat 7 = .ok (.istore_n 2, 1) := by decide +kernel
theorem dX1_passBeat_8 : decode cX1_passBeat 8 = .ok (.iload_n 2, 1) := by decide +kernel
theorem dX1_passBeat_9 : decode cX1_passBeat 9 = .ok (.aload_n 0, 1) := by decide +kernel
theorem dX1_passBeat_10 : decode cX1_passBeat 10 = .ok (.getfield 41, 3) := by decide +kernel
theorem dX1_passBeat_13 : decode cX1_passBeat 13 = .ok (.if_icmp .ge 30, 3) := by decide +kernel
theorem dX1_passBeat_16 : decode cX1_passBeat 16 = .ok (.aload_n 0, 1) := by decide +kernel
theorem dX1_passBeat_17 : decode cX1_passBeat 17 = .ok (.getfield 24, 3) := by decide +kernel
theorem dX1_passBeat_20 : decode cX1_passBeat 20 = .ok (.iload_n 2, 1) := by decide +kernel
theorem dX1_passBeat_21 : decode cX1_passBeat 21 = .ok (.aaload, 1) := by decide +kernel
theorem dX1_passBeat_22 : decode cX1_passBeat 22 = .ok (.iload_n 1, 1) := by decide +kernel
theorem dX1_passBeat_23 : decode cX1_passBeat 23 = .ok (.aload_n 0, 1) := by decide +kernel
theorem dX1_passBeat_24 : decode cX1_passBeat 24 = .ok (.getfield 29, 3) := by decide +kernel
theorem dX1_passBeat_27 : decode cX1_passBeat 27 = .ok (.invokevirtual 75, 3) := by decide +kernel
theorem dX1_passBeat_30 : decode cX1_passBeat 30 = .ok (.ifCond .eq 7, 3) := by decide +kernel
theorem dX1_passBeat_33 : decode cX1_passBeat 33 = .ok (.aload_n 0, 1) := by decide +kernel
theorem dX1_passBeat_34 : decode cX1_passBeat 34 = .ok (.invokevirtual 78, 3) := by decide +kernel
theorem dX1_passBeat_37 : decode cX1_passBeat 37 = .ok (.iinc 2 1, 3) := by decide +kernel
theorem dX1_passBeat_40 : decode cX1_passBeat 40 = .ok (.goto (-32), 3) := by decide +kernel
theorem dX1_passBeat_43 : decode cX1_passBeat 43 = .ok (.aload_n 0, 1) := by decide +kernel
theorem dX1_passBeat_44 : decode cX1_passBeat 44 = .ok (.ldc 58, 2) := by decide +kernel
theorem dX1_passBeat_46 : decode cX1_passBeat 46 = .ok (.aload_n 0, 1) := by decide +kernel
theorem dX1_passBeat_47 : decode cX1_passBeat 47 = .ok (.getfield 38, 3) := by decide +kernel
theorem dX1_passBeat_50 : decode cX1_passBeat 50 = .ok (.iconst 1, 1) := by decide +kernel
theorem dX1_passBeat_51 : decode cX1_passBeat 51 = .ok (.iadd, 1) := by decide +kernel
theorem dX1_passBeat_52 : decode cX1_passBeat 52 = .ok (.invokestatic 59, 3) := by decide +kernel
theorem dX1_passBeat_55 : decode cX1_passBeat 55 = .ok (.putfield 38, 3) := by decide +kernel
theorem dX1_passBeat_58 : decode cX1_passBeat 58 = .ok (.return_, 1) := by decide +kernel
theorem dX1_tellDown_0 : decode cX1_tellDown 0 = .ok (.aload_n 0, 1) := by decide +kernel
theorem dX1_tellDown_1 : decode cX1_tellDown 1 = .ok (.getfield 29, 3) := by decide +kernel
theorem dX1_tellDown_4 : decode cX1_tellDown 4 = .ok (.iconst 1, 1) := by decide +kernel
theorem dX1_tellDown_5 : decode cX1_tellDown 5 = .ok (.if_icmp .ne 23, 3) := by decide +kernel
theorem dX1_tellDown_8 : decode cX1_tellDown 8 = .ok (.aload_n 0, 1) := by decide +kernel
theorem dX1_tellDown_9 : decode cX1_tellDown 9 = .ok (.sipush 900, 3) := by decide +kernel
theorem dX1_tellDown_12 : decode cX1_tellDown 12 = .ok (.aload_n 0, 1) := by decide +kernel
theorem dX1_tellDown_13 : decode cX1_tellDown 13 = .ok (.getfield 35, 3) := by decide +kernel
theorem dX1_tellDown_16 : decode cX1_tellDown 16 = .ok (.bipush 100, 2) := by decide +kernel
theorem dX1_tellDown_18 : decode cX1_tellDown 18 = .ok (.iadd, 1) := by decide +kernel
theorem dX1_tellDown_19 : decode cX1_tellDown 19 = .ok (.invokestatic 59, 3) := by decide +kernel
theorem dX1_tellDown_22 : decode cX1_tellDown 22 = .ok (.putfield 35, 3) := by decide +kernel
theorem dX1_tellDown_25 : decode cX1_tellDown 25 = .ok (.goto 18, 3) := by decide +kernel
theorem dX1_tellDown_28 : decode cX1_tellDown 28 = .ok (.aload_n 0, 1) := by decide +kernel
theorem dX1_tellDown_29 : decode cX1_tellDown 29 = .ok (.ldc 58, 2) := by decide +kernel
theorem dX1_tellDown_31 : decode cX1_tellDown 31 = .ok (.aload_n 0, 1) := by decide +kernel
theorem dX1_tellDown_32 : decode cX1_tellDown 32 = .ok (.getfield 32, 3) := by decide +kernel
theorem dX1_tellDown_35 : decode cX1_tellDown 35 = .ok (.iconst 1, 1) := by decide +kernel
theorem dX1_tellDown_36 : decode cX1_tellDown 36 = .ok (.iadd, 1) := by decide +kernel
theorem dX1_tellDown_37 : decode cX1_tellDown 37 = .ok (.invokestatic 59, 3) := by decide +kernel
theorem dX1_tellDown_40 : decode cX1_tellDown 40 = .ok (.putfield 32, 3) := by decide +kernel
theorem dX1_tellDown_43 : decode cX1_tellDown 43 = .ok (.return_, 1) := by decide +kernel
theorem dX1_draw_0 : decode cX1_draw 0 = .ok (.aload_n 0, 1) := by decide +kernel
theorem dX1_draw_1 : decode cX1_draw 1 = .ok (.aload_n 0, 1) := by decide +kernel
theorem dX1_draw_2 : decode cX1_draw 2 = .ok (.getfield 9, 3) := by decide +kernel
theorem dX1_draw_5 : decode cX1_draw 5 = .ok (.ldc 81, 2) := by decide +kernel
theorem dX1_draw_7 : decode cX1_draw 7 = .ok (.imul, 1) := by decide +kernel
theorem dX1_draw_8 : decode cX1_draw 8 = .ok (.sipush 12345, 3) := by decide +kernel
theorem dX1_draw_11 : decode cX1_draw 11 = .ok (.iadd, 1) := by decide +kernel
theorem dX1_draw_12 : decode cX1_draw 12 = .ok (.putfield 9, 3) := by decide +kernel
theorem dX1_draw_15 : decode cX1_draw 15 = .ok (.aload_n 0, 1) := by decide +kernel
theorem dX1_draw_16 : decode cX1_draw 16 = .ok (.getfield 9, 3) := by decide +kernel
theorem dX1_draw_19 : decode cX1_draw 19 = .ok (.bipush 8, 2) := by decide +kernel
theorem dX1_draw_21 : decode cX1_draw 21 = .ok (.iushr, 1) := by decide +kernel
theorem dX1_draw_22 : decode cX1_draw 22 = .ok (.ireturn, 1) := by decide +kernel
theorem dX1_thoseDown_0 : decode cX1_thoseDown 0 = .ok (.iconst 0, 1) := by decide +kernel
theorem dX1_thoseDown_1 : decode cX1_thoseDown 1 = .ok (.istore_n 1, 1) := by decide +kernel
theorem dX1_thoseDown_2 : decode cX1_thoseDown 2 = .ok (.iconst 0, 1) := by decide +kernel
theorem dX1_thoseDown_3 : decode cX1_thoseDown 3 = .ok (.istore_n 2, 1) := by decide +kernel
theorem dX1_thoseDown_4 : decode cX1_thoseDown 4 = .ok (.iload_n 2, 1) := by decide +kernel
theorem dX1_thoseDown_5 : decode cX1_thoseDown 5 = .ok (.aload_n 0, 1) := by decide +kernel
theorem dX1_thoseDown_6 : decode cX1_thoseDown 6 = .ok (.getfield 41, 3) := by decide +kernel
theorem dX1_thoseDown_9 : decode cX1_thoseDown 9 = .ok (.if_icmp .ge 31, 3) := by decide +kernel
theorem dX1_thoseDown_12 : decode cX1_thoseDown 12 = .ok (.iload_n 1, 1) := by decide +kernel
theorem dX1_thoseDown_13 : decode cX1_thoseDown 13 = .ok (.aload_n 0, 1) := by decide +kernel
theorem dX1_thoseDown_14 : decode cX1_thoseDown 14 = .ok (.getfield 24, 3) := by decide +kernel
theorem dX1_thoseDown_17 : decode cX1_thoseDown 17 = .ok (.iload_n 2, 1) := by decide +kernel
theorem dX1_thoseDown_18 : decode cX1_thoseDown 18 = .ok (.aaload, 1) := by decide +kernel
theorem dX1_thoseDown_19 : decode cX1_thoseDown 19 = .ok (.getfield 82, 3) := by decide +kernel
theorem dX1_thoseDown_22 : decode cX1_thoseDown 22 = .ok (.ifCond .ne 9, 3) := by decide +kernel
theorem dX1_thoseDown_25 : decode cX1_thoseDown 25 = .ok (.iconst 1, 1) := by decide +kernel
theorem dX1_thoseDown_26 : decode cX1_thoseDown 26 = .ok (.iload_n 2, 1) := by decide +kernel
theorem dX1_thoseDown_27 : decode cX1_thoseDown 27 = .ok (.ishl, 1) := by decide +kernel
theorem dX1_thoseDown_28 : decode cX1_thoseDown 28 = .ok (.goto 4, 3) := by decide +kernel
theorem dX1_thoseDown_31 : decode cX1_thoseDown 31 = .ok (.iconst 0, 1) := by decide +kernel
theorem dX1_thoseDown_32 : decode cX1_thoseDown 32 = .ok (.ior, 1) := by decide +kernel
theorem dX1_thoseDown_33 : decode cX1_thoseDown 33 = .ok (.istore_n 1, 1) := by decide +kernel
theorem dX1_thoseDown_34 : decode cX1_thoseDown 34 = .ok (.iinc 2 1, 3) := by decide +kernel
theorem dX1_thoseDown_37 : decode cX1_thoseDown 37 = .ok (.goto (-33), 3) := by decide +kernel
theorem dX1_thoseDown_40 : decode cX1_thoseDown 40 = .ok (.iload_n 1, 1) := by decide +kernel
theorem dX1_thoseDown_41 : decode cX1_thoseDown 41 = .ok (.ireturn, 1) := by decide +kernel
theorem dX1_thoseWeary_0 : decode cX1_thoseWeary 0 = .ok (.iconst 0, 1) := by decide +kernel
theorem dX1_thoseWeary_1 : decode cX1_thoseWeary 1 = .ok (.istore_n 1, 1) := by decide +kernel
theorem dX1_thoseWeary_2 : decode cX1_thoseWeary 2 = .ok (.iconst 0, 1) := by decide +kernel
theorem dX1_thoseWeary_3 : decode cX1_thoseWeary 3 = .ok (.istore_n 2, 1) := by decide +kernel
theorem dX1_thoseWeary_4 : decode cX1_thoseWeary 4 = .ok (.iload_n 2, 1) := by decide +kernel
theorem dX1_thoseWeary_5 : decode cX1_thoseWeary 5 = .ok (.aload_n 0, 1) := by decide +kernel
theorem dX1_thoseWeary_6 : decode cX1_thoseWeary 6 = .ok (.getfield 41, 3) := by decide +kernel
theorem dX1_thoseWeary_9 : decode cX1_thoseWeary 9 = .ok (.if_icmp .ge 40, 3) := by decide +kernel
theorem dX1_thoseWeary_12 : decode cX1_thoseWeary 12 = .ok (.iload_n 1, 1) := by decide +kernel
theorem dX1_thoseWeary_13 : decode cX1_thoseWeary 13 = .ok (.aload_n 0, 1) := by decide +kernel
theorem dX1_thoseWeary_14 : decode cX1_thoseWeary 14 = .ok (.getfield 24, 3) := by decide +kernel
theorem dX1_thoseWeary_17 : decode cX1_thoseWeary 17 = .ok (.iload_n 2, 1) := by decide +kernel
theorem dX1_thoseWeary_18 : decode cX1_thoseWeary 18 = .ok (.aaload, 1) := by decide +kernel
theorem dX1_thoseWeary_19 : decode cX1_thoseWeary 19 = .ok (.getfield 85, 3) := by decide +kernel
theorem dX1_thoseWeary_22 : decode cX1_thoseWeary 22 = .ok (.aload_n 0, 1) := by decide +kernel
theorem dX1_thoseWeary_23 : decode cX1_thoseWeary 23 = .ok (.getfield 24, 3) := by decide +kernel
theorem dX1_thoseWeary_26 : decode cX1_thoseWeary 26 = .ok (.iload_n 2, 1) := by decide +kernel
theorem dX1_thoseWeary_27 : decode cX1_thoseWeary 27 = .ok (.aaload, 1) := by decide +kernel
theorem dX1_thoseWeary_28 : decode cX1_thoseWeary 28 = .ok (.invokevirtual 88, 3) := by decide +kernel
theorem dX1_thoseWeary_31 : decode cX1_thoseWeary 31 = .ok (.if_icmp .ge 9, 3) := by decide +kernel
theorem dX1_thoseWeary_34 : decode cX1_thoseWeary 34 = .ok (.iconst 1, 1) := by decide +kernel
theorem dX1_thoseWeary_35 : decode cX1_thoseWeary 35 = .ok (.iload_n 2, 1) := by decide +kernel
theorem dX1_thoseWeary_36 : decode cX1_thoseWeary 36 = .ok (.ishl, 1) := by decide +kernel
theorem dX1_thoseWeary_37 : decode cX1_thoseWeary 37 = .ok (.goto 4, 3) := by decide +kernel
theorem dX1_thoseWeary_40 : decode cX1_thoseWeary 40 = .ok (.iconst 0, 1) := by decide +kernel
theorem dX1_thoseWeary_41 : decode cX1_thoseWeary 41 = .ok (.ior, 1) := by decide +kernel
theorem dX1_thoseWeary_42 : decode cX1_thoseWeary 42 = .ok (.istore_n 1, 1) := by decide +kernel
theorem dX1_thoseWeary_43 : decode cX1_thoseWeary 43 = .ok (.iinc 2 1, 3) := by decide +kernel
theorem dX1_thoseWeary_46 : decode cX1_thoseWeary 46 = .ok (.goto (-42), 3) := by decide +kernel
theorem dX1_thoseWeary_49 : decode cX1_thoseWeary 49 = .ok (.iload_n 1, 1) := by decide +kernel
theorem dX1_thoseWeary_50 : decode cX1_thoseWeary 50 = .ok (.ireturn, 1) := by decide +kernel
theorem dX1_allMoods_0 : decode cX1_allMoods 0 = .ok (.iconst 0, 1) := by decide +kernel
theorem dX1_allMoods_1 : decode cX1_allMoods 1 = .ok (.istore_n 1, 1) := by decide +kernel
theorem dX1_allMoods_2 : decode cX1_allMoods 2 = .ok (.iconst 0, 1) := by decide +kernel
theorem dX1_allMoods_3 : decode cX1_allMoods 3 = .ok (.istore_n 2, 1) := by decide +kernel
theorem dX1_allMoods_4 : decode cX1_allMoods 4 = .ok (.iload_n 2, 1) := by decide +kernel
theorem dX1_allMoods_5 : decode cX1_allMoods 5 = .ok (.aload_n 0, 1) := by decide +kernel
theorem dX1_allMoods_6 : decode cX1_allMoods 6 = .ok (.getfield 41, 3) := by decide +kernel
theorem dX1_allMoods_9 : decode cX1_allMoods 9 = .ok (.if_icmp .ge 21, 3) := by decide +kernel
theorem dX1_allMoods_12 : decode cX1_allMoods 12 = .ok (.iload_n 1, 1) := by decide +kernel
theorem dX1_allMoods_13 : decode cX1_allMoods 13 = .ok (.aload_n 0, 1) := by decide +kernel
theorem dX1_allMoods_14 : decode cX1_allMoods 14 = .ok (.getfield 24, 3) := by decide +kernel
theorem dX1_allMoods_17 : decode cX1_allMoods 17 = .ok (.iload_n 2, 1) := by decide +kernel
theorem dX1_allMoods_18 : decode cX1_allMoods 18 = .ok (.aaload, 1) := by decide +kernel
theorem dX1_allMoods_19 : decode cX1_allMoods 19 = .ok (.getfield 85, 3) := by decide +kernel
theorem dX1_allMoods_22 : decode cX1_allMoods 22 = .ok (.iadd, 1) := by decide +kernel
theorem dX1_allMoods_23 : decode cX1_allMoods 23 = .ok (.istore_n 1, 1) := by decide +kernel
theorem dX1_allMoods_24 : decode cX1_allMoods 24 = .ok (.iinc 2 1, 3) := by decide +kernel
theorem dX1_allMoods_27 : decode cX1_allMoods 27 = .ok (.goto (-23), 3) := by decide +kernel
theorem dX1_allMoods_30 : decode cX1_allMoods 30 = .ok (.iload_n 1, 1) := by decide +kernel
theorem dX1_allMoods_31 : decode cX1_allMoods 31 = .ok (.ireturn, 1) := by decide +kernel
theorem dX1_allLikes_0 : decode cX1_allLikes 0 = .ok (.iconst 0, 1) := by decide +kernel
theorem dX1_allLikes_1 : decode cX1_allLikes 1 = .ok (.istore_n 1, 1) := by decide +kernel
theorem dX1_allLikes_2 : decode cX1_allLikes 2 = .ok (.iconst 0, 1) := by decide +kernel
theorem dX1_allLikes_3 : decode cX1_allLikes 3 = .ok (.istore_n 2, 1) := by decide +kernel
theorem dX1_allLikes_4 : decode cX1_allLikes 4 = .ok (.iload_n 2, 1) := by decide +kernel
theorem dX1_allLikes_5 : decode cX1_allLikes 5 = .ok (.aload_n 0, 1) := by decide +kernel
theorem dX1_allLikes_6 : decode cX1_allLikes 6 = .ok (.getfield 41, 3) := by decide +kernel
theorem dX1_allLikes_9 : decode cX1_allLikes 9 = .ok (.if_icmp .ge 21, 3) := by decide +kernel
theorem dX1_allLikes_12 : decode cX1_allLikes 12 = .ok (.iload_n 1, 1) := by decide +kernel
theorem dX1_allLikes_13 : decode cX1_allLikes 13 = .ok (.aload_n 0, 1) := by decide +kernel
theorem dX1_allLikes_14 : decode cX1_allLikes 14 = .ok (.getfield 24, 3) := by decide +kernel
theorem dX1_allLikes_17 : decode cX1_allLikes 17 = .ok (.iload_n 2, 1) := by decide +kernel
theorem dX1_allLikes_18 : decode cX1_allLikes 18 = .ok (.aaload, 1) := by decide +kernel
theorem dX1_allLikes_19 : decode cX1_allLikes 19 = .ok (.getfield 92, 3) := by decide +kernel
theorem dX1_allLikes_22 : decode cX1_allLikes 22 = .ok (.ior, 1) := by decide +kernel
theorem dX1_allLikes_23 : decode cX1_allLikes 23 = .ok (.istore_n 1, 1) := by decide +kernel
theorem dX1_allLikes_24 : decode cX1_allLikes 24 = .ok (.iinc 2 1, 3) := by decide +kernel
theorem dX1_allLikes_27 : decode cX1_allLikes 27 = .ok (.goto (-23), 3) := by decide +kernel
theorem dX1_allLikes_30 : decode cX1_allLikes 30 = .ok (.iload_n 1, 1) := by decide +kernel
theorem dX1_allLikes_31 : decode cX1_allLikes 31 = .ok (.ireturn, 1) := by decide +kernel
theorem dX1_isPleasedBy_0 : decode cX1_isPleasedBy 0 = .ok (.iconst 0, 1) := by decide +kernel
theorem dX1_isPleasedBy_1 : decode cX1_isPleasedBy 1 = .ok (.istore_n 2, 1) := by decide +kernel
theorem dX1_isPleasedBy_2 : decode cX1_isPleasedBy 2 = .ok (.iload_n 2, 1) := by decide +kernel
theorem dX1_isPleasedBy_3 : decode cX1_isPleasedBy 3 = .ok (.aload_n 0, 1) := by decide +kernel
theorem dX1_isPleasedBy_4 : decode cX1_isPleasedBy 4 = .ok (.getfield 41, 3) := by decide +kernel
theorem dX1_isPleasedBy_7 : decode cX1_isPleasedBy 7 = .ok (.if_icmp .ge 31, 3) := by decide +kernel
theorem dX1_isPleasedBy_10 : decode cX1_isPleasedBy 10 = .ok (.aload_n 0, 1) := by decide +kernel
theorem dX1_isPleasedBy_11 : decode cX1_isPleasedBy 11 = .ok (.getfield 24, 3) := by decide +kernel
theorem dX1_isPleasedBy_14 : decode cX1_isPleasedBy 14 = .ok (.iload_n 2, 1) := by decide +kernel
theorem dX1_isPleasedBy_15 : decode cX1_isPleasedBy 15 = .ok (.aaload, 1) := by decide +kernel
theorem dX1_isPleasedBy_16 : decode cX1_isPleasedBy 16 = .ok (.getfield 92, 3) := by decide +kernel
theorem dX1_isPleasedBy_19 : decode cX1_isPleasedBy 19 = .ok (.istore_n 3, 1) := by decide +kernel
theorem dX1_isPleasedBy_20 : decode cX1_isPleasedBy 20 = .ok (.iload_n 3, 1) := by decide +kernel
theorem dX1_isPleasedBy_21 : decode cX1_isPleasedBy 21 = .ok (.ifCond .eq 11, 3) := by decide +kernel
theorem dX1_isPleasedBy_24 : decode cX1_isPleasedBy 24 = .ok (.iload_n 3, 1) := by decide +kernel
theorem dX1_isPleasedBy_25 : decode cX1_isPleasedBy 25 = .ok (.iload_n 1, 1) := by decide +kernel
theorem dX1_isPleasedBy_26 : decode cX1_isPleasedBy 26 = .ok (.iand, 1) := by decide +kernel
theorem dX1_isPleasedBy_27 : decode cX1_isPleasedBy 27 = .ok (.ifCond .ne 5, 3) := by decide +kernel
theorem dX1_isPleasedBy_30 : decode cX1_isPleasedBy 30 = .ok (.iconst 0, 1) := by decide +kernel
theorem dX1_isPleasedBy_31 : decode cX1_isPleasedBy 31 = .ok (.ireturn, 1) := by decide +kernel
theorem dX1_isPleasedBy_32 : decode cX1_isPleasedBy 32 = .ok (.iinc 2 1, 3) := by decide +kernel
theorem dX1_isPleasedBy_35 : decode cX1_isPleasedBy 35 = .ok (.goto (-33), 3) := by decide +kernel
theorem dX1_isPleasedBy_38 : decode cX1_isPleasedBy 38 = .ok (.iconst 1, 1) := by decide +kernel
theorem dX1_isPleasedBy_39 : decode cX1_isPleasedBy 39 = .ok (.ireturn, 1) := by decide +kernel
theorem dX1_heldSpots_0 : decode cX1_heldSpots 0 = .ok (.iconst 0, 1) := by decide +kernel
theorem dX1_heldSpots_1 : decode cX1_heldSpots 1 = .ok (.istore_n 1, 1) := by decide +kernel
theorem dX1_heldSpots_2 : decode cX1_heldSpots 2 = .ok (.aload_n 0, 1) := by decide +kernel
theorem dX1_heldSpots_3 : decode cX1_heldSpots 3 = .ok (.getfield 19, 3) := by decide +kernel
theorem dX1_heldSpots_6 : decode cX1_heldSpots 6 = .ok (.astore_n 2, 1) := by decide +kernel
theorem dX1_heldSpots_7 : decode cX1_heldSpots 7 = .ok (.aload_n 2, 1) := by decide +kernel
theorem dX1_heldSpots_8 : decode cX1_heldSpots 8 = .ok (.arraylength, 1) := by decide +kernel
theorem dX1_heldSpots_9 : decode cX1_heldSpots 9 = .ok (.istore_n 3, 1) := by decide +kernel
theorem dX1_heldSpots_10 : decode cX1_heldSpots 10 = .ok (.iconst 0, 1) := by decide +kernel
theorem dX1_heldSpots_11 : decode cX1_heldSpots 11 = .ok (.istore 4, 2) := by decide +kernel
theorem dX1_heldSpots_13 : decode cX1_heldSpots 13 = .ok (.iload 4, 2) := by decide +kernel
theorem dX1_heldSpots_15 : decode cX1_heldSpots 15 = .ok (.iload_n 3, 1) := by decide +kernel
theorem dX1_heldSpots_16 : decode cX1_heldSpots 16 = .ok (.if_icmp .ge 29, 3) := by decide +kernel
theorem dX1_heldSpots_19 : decode cX1_heldSpots 19 = .ok (.aload_n 2, 1) := by decide +kernel
theorem dX1_heldSpots_20 : decode cX1_heldSpots 20 = .ok (.iload 4, 2) := by decide +kernel
theorem dX1_heldSpots_22 : decode cX1_heldSpots 22 = .ok (.iaload, 1) := by decide +kernel
theorem dX1_heldSpots_23 : decode cX1_heldSpots 23 = .ok (.istore 5, 2) := by decide +kernel
theorem dX1_heldSpots_25 : decode cX1_heldSpots 25 = .ok (.iload_n 1, 1) := by decide +kernel
theorem dX1_heldSpots_26 : decode cX1_heldSpots 26 = .ok (.iload 5, 2) := by decide +kernel
theorem dX1_heldSpots_28 : decode cX1_heldSpots 28 = .ok (.iconst (-1), 1) := by decide +kernel
theorem dX1_heldSpots_29 : decode cX1_heldSpots 29 = .ok (.if_icmp .eq 7, 3) := by decide +kernel
theorem dX1_heldSpots_32 : decode cX1_heldSpots 32 = .ok (.iconst 1, 1) := by decide +kernel
theorem dX1_heldSpots_33 : decode cX1_heldSpots 33 = .ok (.goto 4, 3) := by decide +kernel
theorem dX1_heldSpots_36 : decode cX1_heldSpots 36 = .ok (.iconst 0, 1) := by decide +kernel
theorem dX1_heldSpots_37 : decode cX1_heldSpots 37 = .ok (.iadd, 1) := by decide +kernel
theorem dX1_heldSpots_38 : decode cX1_heldSpots 38 = .ok (.istore_n 1, 1) := by decide +kernel
theorem dX1_heldSpots_39 : decode cX1_heldSpots 39 = .ok (.iinc 4 1, 3) := by decide +kernel
theorem dX1_heldSpots_42 : decode cX1_heldSpots 42 = .ok (.goto (-29), 3) := by decide +kernel
theorem dX1_heldSpots_45 : decode cX1_heldSpots 45 = .ok (.iload_n 1, 1) := by decide +kernel
theorem dX1_heldSpots_46 : decode cX1_heldSpots 46 = .ok (.ireturn, 1) := by decide +kernel
theorem dX2_init_0 : decode cX2_init 0 = .ok (.aload_n 0, 1) := by decide +kernel
theorem dX2_init_1 : decode cX2_init 1 = .ok (.invokespecial 3, 3) := by decide +kernel
theorem dX2_init_4 : decode cX2_init 4 = .ok (.aload_n 0, 1) := by decide +kernel
theorem dX2_init_5 : decode cX2_init 5 = .ok (.bipush 40, 2) := by decide +kernel
theorem dX2_init_7 : decode cX2_init 7 = .ok (.newarray .int, 2) := by decide +kernel
theorem dX2_init_9 : decode cX2_init 9 = .ok (.putfield 9, 3) := by decide +kernel
theorem dX2_init_12 : decode cX2_init 12 = .ok (.return_, 1) := by decide +kernel
theorem dX2_isMissing_0 : decode cX2_isMissing 0 = .ok (.aload_n 0, 1) := by decide +kernel
theorem dX2_isMissing_1 : decode cX2_isMissing 1 = .ok (.getfield 15, 3) := by decide +kernel
theorem dX2_isMissing_4 : decode cX2_isMissing 4 = .ok (.ifCond .ne 7, 3) := by decide +kernel
theorem dX2_isMissing_7 : decode cX2_isMissing 7 = .ok (.iconst 1, 1) := by decide +kernel
theorem dX2_isMissing_8 : decode cX2_isMissing 8 = .ok (.goto 4, 3) := by decide +kernel
theorem dX2_isMissing_11 : decode cX2_isMissing 11 = .ok (.iconst 0, 1) := by decide +kernel
theorem dX2_isMissing_12 : decode cX2_isMissing 12 = .ok (.ireturn, 1) := by decide +kernel
theorem dX2_lay_0 : decode cX2_lay 0 = .ok (.aload_n 0, 1) := by decide +kernel
theorem dX2_lay_1 : decode cX2_lay 1 = .ok (.iload_n 1, 1) := by decide +kernel
theorem dX2_lay_2 : decode cX2_lay 2 = .ok (.putfield 15, 3) := by decide +kernel
theorem dX2_lay_5 : decode cX2_lay 5 = .ok (.aload_n 0, 1) := by decide +kernel
theorem dX2_lay_6 : decode cX2_lay 6 = .ok (.iload_n 2, 1) := by decide +kernel
theorem dX2_lay_7 : decode cX2_lay 7 = .ok (.putfield 19, 3) := by decide +kernel
theorem dX2_lay_10 : decode cX2_lay 10 = .ok (.iconst 0, 1) := by decide +kernel
theorem dX2_lay_11 : decode cX2_lay 11 = .ok (.istore_n 3, 1) := by decide +kernel
theorem dX2_lay_12 : decode cX2_lay 12 = .ok (.iload_n 3, 1) := by decide +kernel
theorem dX2_lay_13 : decode cX2_lay 13 = .ok (.iload_n 2, 1) := by decide +kernel
theorem dX2_lay_14 : decode cX2_lay 14 = .ok (.if_icmp .ge 16, 3) := by decide +kernel
theorem dX2_lay_17 : decode cX2_lay 17 = .ok (.aload_n 0, 1) := by decide +kernel
theorem dX2_lay_18 : decode cX2_lay 18 = .ok (.getfield 9, 3) := by decide +kernel
theorem dX2_lay_21 : decode cX2_lay 21 = .ok (.iload_n 3, 1) := by decide +kernel
theorem dX2_lay_22 : decode cX2_lay 22 = .ok (.iconst 0, 1) := by decide +kernel
theorem dX2_lay_23 : decode cX2_lay 23 = .ok (.iastore, 1) := by decide +kernel
theorem dX2_lay_24 : decode cX2_lay 24 = .ok (.iinc 3 1, 3) := by decide +kernel
theorem dX2_lay_27 : decode cX2_lay 27 = .ok (.goto (-15), 3) := by decide +kernel
theorem dX2_lay_30 : decode cX2_lay 30 = .ok (.return_, 1) := by decide +kernel
theorem dX2_put_0 : decode cX2_put 0 = .ok (.aload_n 0, 1) := by decide +kernel
theorem dX2_put_1 : decode cX2_put 1 = .ok (.getfield 15, 3) := by decide +kernel
theorem dX2_put_4 : decode cX2_put 4 = .ok (.bipush 8, 2) := by decide +kernel
theorem dX2_put_6 : decode cX2_put 6 = .ok (.if_icmp .ne 14, 3) := by decide +kernel
theorem dX2_put_9 : decode cX2_put 9 = .ok (.aload_n 0, 1) := by decide +kernel
theorem dX2_put_10 : decode cX2_put 10 = .ok (.getfield 9, 3) := by decide +kernel
theorem dX2_put_13 : decode cX2_put 13 = .ok (.iload_n 1, 1) := by decide +kernel
theorem dX2_put_14 : decode cX2_put 14 = .ok (.iload_n 2, 1) := by decide +kernel
theorem dX2_put_15 : decode cX2_put 15 = .ok (.i2b, 1) := by decide +kernel
theorem dX2_put_16 : decode cX2_put 16 = .ok (.iastore, 1) := by decide +kernel
theorem dX2_put_17 : decode cX2_put 17 = .ok (.goto 30, 3) := by decide +kernel
theorem dX2_put_20 : decode cX2_put 20 = .ok (.aload_n 0, 1) := by decide +kernel
theorem dX2_put_21 : decode cX2_put 21 = .ok (.getfield 15, 3) := by decide +kernel
theorem dX2_put_24 : decode cX2_put 24 = .ok (.bipush 16, 2) := by decide +kernel
theorem dX2_put_26 : decode cX2_put 26 = .ok (.if_icmp .ne 14, 3) := by decide +kernel
theorem dX2_put_29 : decode cX2_put 29 = .ok (.aload_n 0, 1) := by decide +kernel
theorem dX2_put_30 : decode cX2_put 30 = .ok (.getfield 9, 3) := by decide +kernel
theorem dX2_put_33 : decode cX2_put 33 = .ok (.iload_n 1, 1) := by decide +kernel
theorem dX2_put_34 : decode cX2_put 34 = .ok (.iload_n 2, 1) := by decide +kernel
theorem dX2_put_35 : decode cX2_put 35 = .ok (.i2s, 1) := by decide +kernel
theorem dX2_put_36 : decode cX2_put 36 = .ok (.iastore, 1) := by decide +kernel
theorem dX2_put_37 : decode cX2_put 37 = .ok (.goto 10, 3) := by decide +kernel
theorem dX2_put_40 : decode cX2_put 40 = .ok (.aload_n 0, 1) := by decide +kernel
theorem dX2_put_41 : decode cX2_put 41 = .ok (.getfield 9, 3) := by decide +kernel
theorem dX2_put_44 : decode cX2_put 44 = .ok (.iload_n 1, 1) := by decide +kernel
theorem dX2_put_45 : decode cX2_put 45 = .ok (.iload_n 2, 1) := by decide +kernel
theorem dX2_put_46 : decode cX2_put 46 = .ok (.iastore, 1) := by decide +kernel
theorem dX2_put_47 : decode cX2_put 47 = .ok (.return_, 1) := by decide +kernel
theorem dX2_has_0 : decode cX2_has 0 = .ok (.iload_n 2, 1) := by decide +kernel
theorem dX2_has_1 : decode cX2_has 1 = .ok (.ifCond .lt 21, 3) := by decide +kernel
theorem dX2_has_4 : decode cX2_has 4 = .ok (.iload_n 1, 1) := by decide +kernel
theorem dX2_has_5 : decode cX2_has 5 = .ok (.ifCond .lt 17, 3) := by decide +kernel
theorem dX2_has_8 : decode cX2_has 8 = .ok (.iload_n 1, 1) := by decide +kernel
theorem dX2_has_9 : decode cX2_has 9 = .ok (.aload_n 0, 1) := by decide +kernel
theorem dX2_has_10 : decode cX2_has 10 = .ok (.getfield 19, 3) := by decide +kernel
theorem dX2_has_13 : decode cX2_has 13 = .ok (.iload_n 2, 1) := by decide +kernel
theorem dX2_has_14 : decode cX2_has 14 = .ok (.isub, 1) := by decide +kernel
theorem dX2_has_15 : decode cX2_has 15 = .ok (.if_icmp .gt 7, 3) := by decide +kernel
theorem dX2_has_18 : decode cX2_has 18 = .ok (.iconst 1, 1) := by decide +kernel
theorem dX2_has_19 : decode cX2_has 19 = .ok (.goto 4, 3) := by decide +kernel
theorem dX2_has_22 : decode cX2_has 22 = .ok (.iconst 0, 1) := by decide +kernel
theorem dX2_has_23 : decode cX2_has 23 = .ok (.ireturn, 1) := by decide +kernel
theorem dX3_init_0 : decode cX3_init 0 = .ok (.aload_n 0, 1) := by decide +kernel
theorem dX3_init_1 : decode cX3_init 1 = .ok (.invokespecial 3, 3) := by decide +kernel
theorem dX3_init_4 : decode cX3_init 4 = .ok (.aload_n 0, 1) := by decide +kernel
theorem dX3_init_5 : decode cX3_init 5 = .ok (.bipush 120, 2) := by decide +kernel
theorem dX3_init_7 : decode cX3_init 7 = .ok (.newarray .byte, 2) := by decide +kernel
theorem dX3_init_9 : decode cX3_init 9 = .ok (.putfield 9, 3) := by decide +kernel
theorem dX3_init_12 : decode cX3_init 12 = .ok (.return_, 1) := by decide +kernel
theorem dX3_add_0 : decode cX3_add 0 = .ok (.aload_n 0, 1) := by decide +kernel
theorem dX3_add_1 : decode cX3_add 1 = .ok (.getfield 15, 3) := by decide +kernel
theorem dX3_add_4 : decode cX3_add 4 = .ok (.bipush 120, 2) := by decide +kernel
theorem dX3_add_6 : decode cX3_add 6 = .ok (.if_icmp .ge 23, 3) := by decide +kernel
theorem dX3_add_9 : decode cX3_add 9 = .ok (.aload_n 0, 1) := by decide +kernel
theorem dX3_add_10 : decode cX3_add 10 = .ok (.getfield 9, 3) := by decide +kernel
theorem dX3_add_13 : decode cX3_add 13 = .ok (.aload_n 0, 1) := by decide +kernel
theorem dX3_add_14 : decode cX3_add 14 = .ok (.getfield 15, 3) := by decide +kernel
theorem dX3_add_17 : decode cX3_add 17 = .ok (.iload_n 1, 1) := by decide +kernel
theorem dX3_add_18 : decode cX3_add 18 = .ok (.bastore, 1) := by decide +kernel
theorem dX3_add_19 : decode cX3_add 19 = .ok (.aload_n 0, 1) := by decide +kernel
theorem dX3_add_20 : decode cX3_add 20 = .ok (.dup, 1) := by decide +kernel
theorem dX3_add_21 : decode cX3_add 21 = .ok (.getfield 15, 3) := by decide +kernel
theorem dX3_add_24 : decode cX3_add 24 = .ok (.iconst 1, 1) := by decide +kernel
theorem dX3_add_25 : decode cX3_add 25 = .ok (.iadd, 1) := by decide +kernel
theorem dX3_add_26 : decode cX3_add 26 = .ok (.putfield 15, 3) := by decide +kernel
theorem dX3_add_29 : decode cX3_add 29 = .ok (.return_, 1) := by decide +kernel
theorem dX3_readInto_0 : decode cX3_readInto 0 = .ok (.aload_n 0, 1) := by decide +kernel
theorem dX3_readInto_1 : decode cX3_readInto 1 = .ok (.iconst 0, 1) := by decide +kernel
theorem dX3_readInto_2 : decode cX3_readInto 2 = .ok (.putfield 19, 3) := by decide +kernel
theorem dX3_readInto_5 : decode cX3_readInto 5 = .ok (.aload_n 0, 1) := by decide +kernel
theorem dX3_readInto_6 : decode cX3_readInto 6 = .ok (.invokevirtual 22, 3) := by decide +kernel
theorem dX3_readInto_9 : decode cX3_readInto 9 = .ok (.iconst 1, 1) := by decide +kernel
theorem dX3_readInto_10 : decode cX3_readInto 10 = .ok (.istore_n 2, 1) := by decide +kernel
theorem dX3_readInto_11 : decode cX3_readInto 11 = .ok (.iload_n 2, 1) := by decide +kernel
theorem dX3_readInto_12 : decode cX3_readInto 12 = .ok (.bipush 120, 2) := by decide +kernel
theorem dX3_readInto_14 : decode cX3_readInto 14 = .ok (.if_icmp .gt 70, 3) := by decide +kernel
theorem dX3_readInto_17 : decode cX3_readInto 17 = .ok (.aload_n 0, 1) := by decide +kernel
theorem dX3_readInto_18 : decode cX3_readInto 18 = .ok (.invokevirtual 25, 3) := by decide +kernel
theorem dX3_readInto_21 : decode cX3_readInto 21 = .ok (.istore_n 3, 1) := by decide +kernel
theorem dX3_readInto_22 : decode cX3_readInto 22 = .ok (.iload_n 3, 1) := by decide +kernel
theorem dX3_readInto_23 : decode cX3_readInto 23 = .ok (.iconst (-1), 1) := by decide +kernel
theorem dX3_readInto_24 : decode cX3_readInto 24 = .ok (.if_icmp .ne 11, 3) := by decide +kernel
theorem dX3_readInto_27 : decode cX3_readInto 27 = .ok (.aload_n 0, 1) := by decide +kernel
theorem dX3_readInto_28 : decode cX3_readInto 28 = .ok (.aload_n 1, 1) := by decide +kernel
theorem dX3_readInto_29 : decode cX3_readInto 29 = .ok (.invokevirtual 29, 3) := by decide +kernel
theorem dX3_readInto_32 : decode cX3_readInto 32 = .ok (.goto 9, 3) := by decide +kernel
theorem dX3_readInto_35 : decode cX3_readInto 35 = .ok (.aload_n 0, 1) := by decide +kernel
theorem dX3_readInto_36 : decode cX3_readInto 36 = .ok (.aload_n 1, 1) := by decide +kernel
theorem dX3_readInto_37 : decode cX3_readInto 37 = .ok (.iload_n 3, 1) := by decide +kernel
theorem dX3_readInto_38 : decode cX3_readInto 38 = .ok (.invokevirtual 33, 3) := by decide +kernel
theorem dX3_readInto_41 : decode cX3_readInto 41 = .ok (.istore 4, 2) := by decide +kernel
theorem dX3_readInto_43 : decode cX3_readInto 43 = .ok (.iload 4, 2) := by decide +kernel
theorem dX3_readInto_45 : decode cX3_readInto 45 = .ok (.ifCond .eq 13, 3) := by decide +kernel
theorem dX3_readInto_48 : decode cX3_readInto 48 = .ok (.aload_n 0, 1) := by decide +kernel
theorem dX3_readInto_49 : decode cX3_readInto 49 = .ok (.getfield 37, 3) := by decide +kernel
theorem dX3_readInto_52 : decode cX3_readInto 52 = .ok (.iconst 3, 1) := by decide +kernel
theorem dX3_readInto_53 : decode cX3_readInto 53 = .ok (.if_icmp .ne 5, 3) := by decide +kernel
theorem dX3_readInto_56 : decode cX3_readInto 56 = .ok (.iload_n 2, 1) := by decide +kernel
theorem dX3_readInto_57 : decode cX3_readInto 57 = .ok (.ireturn, 1) := by decide +kernel
theorem dX3_readInto_58 : decode cX3_readInto 58 = .ok (.iload 4, 2) := by decide +kernel
theorem dX3_readInto_60 : decode cX3_readInto 60 = .ok (.ifCond .eq 24, 3) := by decide +kernel
theorem dX3_readInto_63 : decode cX3_readInto 63 = .ok (.aload_n 0, 1) := by decide +kernel
theorem dX3_readInto_64 : decode cX3_readInto 64 = .ok (.getfield 37, 3) := by decide +kernel
theorem dX3_readInto_67 : decode cX3_readInto 67 = .ok (.iconst 2, 1) := by decide +kernel
theorem dX3_readInto_68 : decode cX3_readInto 68 = .ok (.if_icmp .eq 6, 3) := by decide +kernel
theorem dX3_readInto_71 : decode cX3_readInto 71 = .ok (.goto 13, 3) := by decide +kernel
theorem dX3_readInto_74 : decode cX3_readInto 74 = .ok (.aload_n 0, 1) := by decide +kernel
theorem dX3_readInto_75 : decode cX3_readInto 75 = .ok (.invokevirtual 22, 3) := by decide +kernel
theorem dX3_readInto_78 : decode cX3_readInto 78 = .ok (.iinc 2 1, 3) := by decide +kernel
theorem dX3_readInto_81 : decode cX3_readInto 81 = .ok (.goto (-70), 3) := by decide +kernel
theorem dX3_readInto_84 : decode cX3_readInto 84 = .ok (.iconst (-1), 1) := by decide +kernel
theorem dX3_readInto_85 : decode cX3_readInto 85 = .ok (.aload_n 0, 1) := by decide +kernel
theorem dX3_readInto_86 : decode cX3_readInto 86 = .ok (.getfield 40, 3) := by decide +kernel
theorem dX3_readInto_89 : decode cX3_readInto 89 = .ok (.isub, 1) := by decide +kernel
theorem dX3_readInto_90 : decode cX3_readInto 90 = .ok (.ireturn, 1) := by decide +kernel
theorem dX3_readOther_0 : decode cX3_readOther 0 = .ok (.aload_n 0, 1) := by decide +kernel
theorem dX3_readOther_1 : decode cX3_readOther 1 = .ok (.ldc 43, 2) := by decide +kernel
theorem dX3_readOther_3 : decode cX3_readOther 3 = .ok (.invokevirtual 45, 3) := by decide +kernel
theorem dX3_readOther_6 : decode cX3_readOther 6 = .ok (.ifCond .eq 9, 3) := by decide +kernel
theorem dX3_readOther_9 : decode cX3_readOther 9 = .ok (.aload_n 0, 1) := by decide +kernel
theorem dX3_readOther_10 : decode cX3_readOther 10 = .ok (.aload_n 1, 1) := by decide +kernel
theorem dX3_readOther_11 : decode cX3_readOther 11 = .ok (.invokevirtual 49, 3) := by decide +kernel
theorem dX3_readOther_14 : decode cX3_readOther 14 = .ok (.ireturn, 1) := by decide +kernel
theorem dX3_readOther_15 : decode cX3_readOther 15 = .ok (.aload_n 0, 1) := by decide +kernel
theorem dX3_readOther_16 : decode cX3_readOther 16 = .ok (.ldc 52, 2) := by decide +kernel
theorem dX3_readOther_18 : decode cX3_readOther 18 = .ok (.invokevirtual 45, 3) := by decide +kernel
theorem dX3_readOther_21 : decode cX3_readOther 21 = .ok (.ifCond .eq 10, 3) := by decide +kernel
theorem dX3_readOther_24 : decode cX3_readOther 24 = .ok (.aload_n 1, 1) := by decide +kernel
theorem dX3_readOther_25 : decode cX3_readOther 25 = .ok (.iconst 1, 1) := by decide +kernel
theorem dX3_readOther_26 : decode cX3_readOther 26 = .ok (.putfield 54, 3) := by decide +kernel
theorem dX3_readOther_29 : decode cX3_readOther 29 = .ok (.iconst 1, 1) := by decide +kernel
theorem dX3_readOther_30 : decode cX3_readOther 30 = .ok (.ireturn, 1) := by decide +kernel
theorem dX3_readOther_31 : decode cX3_readOther 31 = .ok (.aload_n 0, 1) := by decide +kernel
theorem dX3_readOther_32 : decode cX3_readOther 32 = .ok (.ldc 58, 2) := by decide +kernel
theorem dX3_readOther_34 : decode cX3_readOther 34 = .ok (.invokevirtual 45, 3) := by decide +kernel
theorem dX3_readOther_37 : decode cX3_readOther 37 = .ok (.ifCond .eq 10, 3) := by decide +kernel
theorem dX3_readOther_40 : decode cX3_readOther 40 = .ok (.aload_n 1, 1) := by decide +kernel
theorem dX3_readOther_41 : decode cX3_readOther 41 = .ok (.iconst 0, 1) := by decide +kernel
theorem dX3_readOther_42 : decode cX3_readOther 42 = .ok (.putfield 54, 3) := by decide +kernel
theorem dX3_readOther_45 : decode cX3_readOther 45 = .ok (.iconst 1, 1) := by decide +kernel
theorem dX3_readOther_46 : decode cX3_readOther 46 = .ok (.ireturn, 1) := by decide +kernel
theorem dX3_readOther_47 : decode cX3_readOther 47 = .ok (.iconst 0, 1) := by decide +kernel
theorem dX3_readOther_48 : decode cX3_readOther 48 = .ok (.ireturn, 1) := by decide +kernel
