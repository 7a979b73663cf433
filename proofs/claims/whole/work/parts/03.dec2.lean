theorem dX10_passes_10 : decode cX10_passes 10 = .ok (.iload_n 3, 1) := by decide +kernel
theorem dX10_passes_11 : decode cX10_passes 11 = .ok (.aload_n 0, 1) := by decide +kernel
theorem dX10_passes_12 : decode cX10_passes 12 = .ok (.getfield 91, 3) := by decide +kernel
theorem dX10_passes_15 : decode cX10_passes 15 = .ok (.if_icmp .ge 45, 3) := by decide +kernel
theorem dX10_passes_18 : decode cX10_passes 18 = .ok (.aload_n 0, 1) := by decide +kernel
theorem dX10_passes_19 : decode cX10_passes 19 = .ok (.getfield 40, 3) := by decide +kernel
theorem dX10_passes_22 : decode cX10_passes 22 = .ok (.iload_n 3, 1) := by decide +kernel
theorem dX10_passes_23 : decode cX10_passes 23 = .ok (.iaload, 1) := by decide +kernel
theorem dX10_passes_24 : decode cX10_passes 24 = .ok (.ifCond .lt 28, 3) := by decide +kernel
theorem dX10_passes_27 : decode cX10_passes 27 = .ok (.aload_n 0, 1) := by decide +kernel
theorem dX10_passes_28 : decode cX10_passes 28 = .ok (.iload_n 3, 1) := by decide +kernel
theorem dX10_passes_29 : decode cX10_passes 29 = .ok (.invokevirtual 162, 3) := by decide +kernel
theorem dX10_passes_32 : decode cX10_passes 32 = .ok (.ifCond .lt 20, 3) := by decide +kernel
theorem dX10_passes_35 : decode cX10_passes 35 = .ok (.iload_n 2, 1) := by decide +kernel
theorem dX10_passes_36 : decode cX10_passes 36 = .ok (.ifCond .lt 12, 3) := by decide +kernel
theorem dX10_passes_39 : decode cX10_passes 39 = .ok (.aload_n 0, 1) := by decide +kernel
theorem dX10_passes_40 : decode cX10_passes 40 = .ok (.iload_n 3, 1) := by decide +kernel
theorem dX10_passes_41 : decode cX10_passes 41 = .ok (.iload_n 2, 1) := by decide +kernel
theorem dX10_passes_42 : decode cX10_passes 42 = .ok (.invokevirtual 165, 3) := by decide +kernel
theorem dX10_passes_45 : decode cX10_passes 45 = .ok (.ifCond .eq 7, 3) := by decide +kernel
theorem dX10_passes_48 : decode cX10_passes 48 = .ok (.iload_n 3, 1) := by decide +kernel
theorem dX10_passes_49 : decode cX10_passes 49 = .ok (.goto 4, 3) := by decide +kernel
theorem dX10_passes_52 : decode cX10_passes 52 = .ok (.iload_n 2, 1) := by decide +kernel
theorem dX10_passes_53 : decode cX10_passes 53 = .ok (.istore_n 2, 1) := by decide +kernel
theorem dX10_passes_54 : decode cX10_passes 54 = .ok (.iinc 3 1, 3) := by decide +kernel
theorem dX10_passes_57 : decode cX10_passes 57 = .ok (.goto (-47), 3) := by decide +kernel
theorem dX10_passes_60 : decode cX10_passes 60 = .ok (.iload_n 2, 1) := by decide +kernel
theorem dX10_passes_61 : decode cX10_passes 61 = .ok (.ifCond .lt 7, 3) := by decide +kernel
theorem dX10_passes_64 : decode cX10_passes 64 = .ok (.iconst 1, 1) := by decide +kernel
theorem dX10_passes_65 : decode cX10_passes 65 = .ok (.goto 4, 3) := by decide +kernel
theorem dX10_passes_68 : decode cX10_passes 68 = .ok (.iconst 0, 1) := by decide +kernel
theorem dX10_passes_69 : decode cX10_passes 69 = .ok (.istore_n 1, 1) := by decide +kernel
theorem dX10_passes_70 : decode cX10_passes 70 = .ok (.iload_n 1, 1) := by decide +kernel
theorem dX10_passes_71 : decode cX10_passes 71 = .ok (.ifCond .eq 13, 3) := by decide +kernel
theorem dX10_passes_74 : decode cX10_passes 74 = .ok (.aload_n 0, 1) := by decide +kernel
theorem dX10_passes_75 : decode cX10_passes 75 = .ok (.aload_n 0, 1) := by decide +kernel
theorem dX10_passes_76 : decode cX10_passes 76 = .ok (.iload_n 2, 1) := by decide +kernel
theorem dX10_passes_77 : decode cX10_passes 77 = .ok (.invokevirtual 162, 3) := by decide +kernel
theorem dX10_passes_80 : decode cX10_passes 80 = .ok (.iload_n 2, 1) := by decide +kernel
theorem dX10_passes_81 : decode cX10_passes 81 = .ok (.invokevirtual 168, 3) := by decide +kernel
theorem dX10_passes_84 : decode cX10_passes 84 = .ok (.goto (-82), 3) := by decide +kernel
theorem dX10_passes_87 : decode cX10_passes 87 = .ok (.iconst 0, 1) := by decide +kernel
theorem dX10_passes_88 : decode cX10_passes 88 = .ok (.istore_n 2, 1) := by decide +kernel
theorem dX10_passes_89 : decode cX10_passes 89 = .ok (.iload_n 2, 1) := by decide +kernel
theorem dX10_passes_90 : decode cX10_passes 90 = .ok (.bipush 8, 2) := by decide +kernel
theorem dX10_passes_92 : decode cX10_passes 92 = .ok (.if_icmp .ge 32, 3) := by decide +kernel
theorem dX10_passes_95 : decode cX10_passes 95 = .ok (.aload_n 0, 1) := by decide +kernel
theorem dX10_passes_96 : decode cX10_passes 96 = .ok (.getfield 70, 3) := by decide +kernel
theorem dX10_passes_99 : decode cX10_passes 99 = .ok (.iload_n 2, 1) := by decide +kernel
theorem dX10_passes_100 : decode cX10_passes 100 = .ok (.dup2, 1) := by decide +kernel
theorem dX10_passes_101 : decode cX10_passes 101 = .ok (.iaload, 1) := by decide +kernel
theorem dX10_passes_102 : decode cX10_passes 102 = .ok (.aload_n 0, 1) := by decide +kernel
theorem dX10_passes_103 : decode cX10_passes 103 = .ok (.getfield 70, 3) := by decide +kernel
theorem dX10_passes_106 : decode cX10_passes 106 = .ok (.iload_n 2, 1) := by decide +kernel
theorem dX10_passes_107 : decode cX10_passes 107 = .ok (.iaload, 1) := by decide +kernel
theorem dX10_passes_108 : decode cX10_passes 108 = .ok (.ifCond .le 7, 3) := by decide +kernel
theorem dX10_passes_111 : decode cX10_passes 111 = .ok (.iconst 1, 1) := by decide +kernel
theorem dX10_passes_112 : decode cX10_passes 112 = .ok (.goto 4, 3) := by decide +kernel
theorem dX10_passes_115 : decode cX10_passes 115 = .ok (.iconst 0, 1) := by decide +kernel
theorem dX10_passes_116 : decode cX10_passes 116 = .ok (.isub, 1) := by decide +kernel
theorem dX10_passes_117 : decode cX10_passes 117 = .ok (.iastore, 1) := by decide +kernel
theorem dX10_passes_118 : decode cX10_passes 118 = .ok (.iinc 2 1, 3) := by decide +kernel
theorem dX10_passes_121 : decode cX10_passes 121 = .ok (.goto (-32), 3) := by decide +kernel
theorem dX10_passes_124 : decode cX10_passes 124 = .ok (.aload_n 0, 1) := by decide +kernel
theorem dX10_passes_125 : decode cX10_passes 125 = .ok (.dup, 1) := by decide +kernel
theorem dX10_passes_126 : decode cX10_passes 126 = .ok (.getfield 144, 3) := by decide +kernel
theorem dX10_passes_129 : decode cX10_passes 129 = .ok (.iconst 1, 1) := by decide +kernel
theorem dX10_passes_130 : decode cX10_passes 130 = .ok (.iadd, 1) := by decide +kernel
theorem dX10_passes_131 : decode cX10_passes 131 = .ok (.putfield 144, 3) := by decide +kernel
theorem dX10_passes_134 : decode cX10_passes 134 = .ok (.aload_n 0, 1) := by decide +kernel
theorem dX10_passes_135 : decode cX10_passes 135 = .ok (.invokevirtual 172, 3) := by decide +kernel
theorem dX10_passes_138 : decode cX10_passes 138 = .ok (.return_, 1) := by decide +kernel
theorem dX10_ticks_0 : decode cX10_ticks 0 = .ok (.iload_n 1, 1) := by decide +kernel
theorem dX10_ticks_1 : decode cX10_ticks 1 = .ok (.iconst 1, 1) := by decide +kernel
theorem dX10_ticks_2 : decode cX10_ticks 2 = .ok (.sipush 200, 3) := by decide +kernel
theorem dX10_ticks_5 : decode cX10_ticks 5 = .ok (.invokestatic 95, 3) := by decide +kernel
theorem dX10_ticks_8 : decode cX10_ticks 8 = .ok (.ifCond .ne 5, 3) := by decide +kernel
theorem dX10_ticks_11 : decode cX10_ticks 11 = .ok (.iconst (-1), 1) := by decide +kernel
theorem dX10_ticks_12 : decode cX10_ticks 12 = .ok (.ireturn, 1) := by decide +kernel
theorem dX10_ticks_13 : decode cX10_ticks 13 = .ok (.aload_n 0, 1) := by decide +kernel
theorem dX10_ticks_14 : decode cX10_ticks 14 = .ok (.getfield 144, 3) := by decide +kernel
theorem dX10_ticks_17 : decode cX10_ticks 17 = .ok (.iload_n 1, 1) := by decide +kernel
theorem dX10_ticks_18 : decode cX10_ticks 18 = .ok (.iadd, 1) := by decide +kernel
theorem dX10_ticks_19 : decode cX10_ticks 19 = .ok (.sipush 5000, 3) := by decide +kernel
theorem dX10_ticks_22 : decode cX10_ticks 22 = .ok (.if_icmp .le 6, 3) := by decide +kernel
theorem dX10_ticks_25 : decode cX10_ticks 25 = .ok (.bipush (-3), 2) := by decide +kernel
theorem dX10_ticks_27 : decode cX10_ticks 27 = .ok (.ireturn, 1) := by decide +kernel
theorem dX10_ticks_28 : decode cX10_ticks 28 = .ok (.iconst 0, 1) := by decide +kernel
theorem dX10_ticks_29 : decode cX10_ticks 29 = .ok (.istore_n 2, 1) := by decide +kernel
theorem dX10_ticks_30 : decode cX10_ticks 30 = .ok (.iload_n 2, 1) := by decide +kernel
theorem dX10_ticks_31 : decode cX10_ticks 31 = .ok (.iload_n 1, 1) := by decide +kernel
theorem dX10_ticks_32 : decode cX10_ticks 32 = .ok (.if_icmp .ge 13, 3) := by decide +kernel
theorem dX10_ticks_35 : decode cX10_ticks 35 = .ok (.aload_n 0, 1) := by decide +kernel
theorem dX10_ticks_36 : decode cX10_ticks 36 = .ok (.invokevirtual 175, 3) := by decide +kernel
theorem dX10_ticks_39 : decode cX10_ticks 39 = .ok (.iinc 2 1, 3) := by decide +kernel
theorem dX10_ticks_42 : decode cX10_ticks 42 = .ok (.goto (-12), 3) := by decide +kernel
theorem dX10_ticks_45 : decode cX10_ticks 45 = .ok (.aload_n 0, 1) := by decide +kernel
theorem dX10_ticks_46 : decode cX10_ticks 46 = .ok (.getfield 144, 3) := by decide +kernel
theorem dX10_ticks_49 : decode cX10_ticks 49 = .ok (.ireturn, 1) := by decide +kernel
theorem dX10_takeBack_0 : decode cX10_takeBack 0 = .ok (.aload_n 0, 1) := by decide +kernel
theorem dX10_takeBack_1 : decode cX10_takeBack 1 = .ok (.iload_n 1, 1) := by decide +kernel
theorem dX10_takeBack_2 : decode cX10_takeBack 2 = .ok (.invokevirtual 128, 3) := by decide +kernel
theorem dX10_takeBack_5 : decode cX10_takeBack 5 = .ok (.ifCond .ne 5, 3) := by decide +kernel
theorem dX10_takeBack_8 : decode cX10_takeBack 8 = .ok (.iconst (-1), 1) := by decide +kernel
theorem dX10_takeBack_9 : decode cX10_takeBack 9 = .ok (.ireturn, 1) := by decide +kernel
theorem dX10_takeBack_10 : decode cX10_takeBack 10 = .ok (.aload_n 0, 1) := by decide +kernel
theorem dX10_takeBack_11 : decode cX10_takeBack 11 = .ok (.getfield 40, 3) := by decide +kernel
theorem dX10_takeBack_14 : decode cX10_takeBack 14 = .ok (.iload_n 1, 1) := by decide +kernel
theorem dX10_takeBack_15 : decode cX10_takeBack 15 = .ok (.iaload, 1) := by decide +kernel
theorem dX10_takeBack_16 : decode cX10_takeBack 16 = .ok (.ifCond .ge 6, 3) := by decide +kernel
theorem dX10_takeBack_19 : decode cX10_takeBack 19 = .ok (.bipush (-2), 2) := by decide +kernel
theorem dX10_takeBack_21 : decode cX10_takeBack 21 = .ok (.ireturn, 1) := by decide +kernel
theorem dX10_takeBack_22 : decode cX10_takeBack 22 = .ok (.aload_n 0, 1) := by decide +kernel
theorem dX10_takeBack_23 : decode cX10_takeBack 23 = .ok (.getfield 144, 3) := by decide +kernel
theorem dX10_takeBack_26 : decode cX10_takeBack 26 = .ok (.aload_n 0, 1) := by decide +kernel
theorem dX10_takeBack_27 : decode cX10_takeBack 27 = .ok (.getfield 40, 3) := by decide +kernel
theorem dX10_takeBack_30 : decode cX10_takeBack 30 = .ok (.iload_n 1, 1) := by decide +kernel
theorem dX10_takeBack_31 : decode cX10_takeBack 31 = .ok (.iaload, 1) := by decide +kernel
theorem dX10_takeBack_32 : decode cX10_takeBack 32 = .ok (.isub, 1) := by decide +kernel
theorem dX10_takeBack_33 : decode cX10_takeBack 33 = .ok (.istore_n 2, 1) := by decide +kernel
theorem dX10_takeBack_34 : decode cX10_takeBack 34 = .ok (.aload_n 0, 1) := by decide +kernel
theorem dX10_takeBack_35 : decode cX10_takeBack 35 = .ok (.getfield 40, 3) := by decide +kernel
theorem dX10_takeBack_38 : decode cX10_takeBack 38 = .ok (.iload_n 1, 1) := by decide +kernel
theorem dX10_takeBack_39 : decode cX10_takeBack 39 = .ok (.iconst (-1), 1) := by decide +kernel
theorem dX10_takeBack_40 : decode cX10_takeBack 40 = .ok (.iastore, 1) := by decide +kernel
theorem dX10_takeBack_41 : decode cX10_takeBack 41 = .ok (.aload_n 0, 1) := by decide +kernel
theorem dX10_takeBack_42 : decode cX10_takeBack 42 = .ok (.dup, 1) := by decide +kernel
theorem dX10_takeBack_43 : decode cX10_takeBack 43 = .ok (.getfield 178, 3) := by decide +kernel
theorem dX10_takeBack_46 : decode cX10_takeBack 46 = .ok (.iconst 1, 1) := by decide +kernel
theorem dX10_takeBack_47 : decode cX10_takeBack 47 = .ok (.iadd, 1) := by decide +kernel
theorem dX10_takeBack_48 : decode cX10_takeBack 48 = .ok (.putfield 178, 3) := by decide +kernel
theorem dX10_takeBack_51 : decode cX10_takeBack 51 = .ok (.iload_n 2, 1) := by decide +kernel
theorem dX10_takeBack_52 : decode cX10_takeBack 52 = .ok (.ireturn, 1) := by decide +kernel
theorem dX10_flags_0 : decode cX10_flags 0 = .ok (.iload_n 1, 1) := by decide +kernel
theorem dX10_flags_1 : decode cX10_flags 1 = .ok (.iconst 0, 1) := by decide +kernel
theorem dX10_flags_2 : decode cX10_flags 2 = .ok (.iconst 1, 1) := by decide +kernel
theorem dX10_flags_3 : decode cX10_flags 3 = .ok (.aload_n 0, 1) := by decide +kernel
theorem dX10_flags_4 : decode cX10_flags 4 = .ok (.getfield 91, 3) := by decide +kernel
theorem dX10_flags_7 : decode cX10_flags 7 = .ok (.ishl, 1) := by decide +kernel
theorem dX10_flags_8 : decode cX10_flags 8 = .ok (.iconst 1, 1) := by decide +kernel
theorem dX10_flags_9 : decode cX10_flags 9 = .ok (.isub, 1) := by decide +kernel
theorem dX10_flags_10 : decode cX10_flags 10 = .ok (.invokestatic 95, 3) := by decide +kernel
theorem dX10_flags_13 : decode cX10_flags 13 = .ok (.ifCond .ne 5, 3) := by decide +kernel
theorem dX10_flags_16 : decode cX10_flags 16 = .ok (.iconst (-1), 1) := by decide +kernel
theorem dX10_flags_17 : decode cX10_flags 17 = .ok (.ireturn, 1) := by decide +kernel
theorem dX10_flags_18 : decode cX10_flags 18 = .ok (.aload_n 0, 1) := by decide +kernel
theorem dX10_flags_19 : decode cX10_flags 19 = .ok (.getfield 153, 3) := by decide +kernel
theorem dX10_flags_22 : decode cX10_flags 22 = .ok (.iload_n 1, 1) := by decide +kernel
theorem dX10_flags_23 : decode cX10_flags 23 = .ok (.iand, 1) := by decide +kernel
theorem dX10_flags_24 : decode cX10_flags 24 = .ok (.istore_n 2, 1) := by decide +kernel
theorem dX10_flags_25 : decode cX10_flags 25 = .ok (.aload_n 0, 1) := by decide +kernel
theorem dX10_flags_26 : decode cX10_flags 26 = .ok (.dup, 1) := by decide +kernel
theorem dX10_flags_27 : decode cX10_flags 27 = .ok (.getfield 153, 3) := by decide +kernel
theorem dX10_flags_30 : decode cX10_flags 30 = .ok (.iload_n 1, 1) := by decide +kernel
theorem dX10_flags_31 : decode cX10_flags 31 = .ok (.iconst (-1), 1) := by decide +kernel
theorem dX10_flags_32 : decode cX10_flags 32 = .ok (.ixor, 1) := by decide +kernel
theorem dX10_flags_33 : decode cX10_flags 33 = .ok (.iand, 1) := by decide +kernel
theorem dX10_flags_34 : decode cX10_flags 34 = .ok (.putfield 153, 3) := by decide +kernel
theorem dX10_flags_37 : decode cX10_flags 37 = .ok (.iload_n 2, 1) := by decide +kernel
theorem dX10_flags_38 : decode cX10_flags 38 = .ok (.ireturn, 1) := by decide +kernel
theorem dX10_about_0 : decode cX10_about 0 = .ok (.aload_n 0, 1) := by decide +kernel
theorem dX10_about_1 : decode cX10_about 1 = .ok (.iload_n 1, 1) := by decide +kernel
theorem dX10_about_2 : decode cX10_about 2 = .ok (.invokevirtual 128, 3) := by decide +kernel
theorem dX10_about_5 : decode cX10_about 5 = .ok (.ifCond .eq 12, 3) := by decide +kernel
theorem dX10_about_8 : decode cX10_about 8 = .ok (.iload_n 2, 1) := by decide +kernel
theorem dX10_about_9 : decode cX10_about 9 = .ok (.iconst 0, 1) := by decide +kernel
theorem dX10_about_10 : decode cX10_about 10 = .ok (.iconst 4, 1) := by decide +kernel
theorem dX10_about_11 : decode cX10_about 11 = .ok (.invokestatic 95, 3) := by decide +kernel
theorem dX10_about_14 : decode cX10_about 14 = .ok (.ifCond .ne 5, 3) := by decide +kernel
theorem dX10_about_17 : decode cX10_about 17 = .ok (.iconst (-1), 1) := by decide +kernel
theorem dX10_about_18 : decode cX10_about 18 = .ok (.ireturn, 1) := by decide +kernel
theorem dX10_about_19 : decode cX10_about 19 = .ok (.iload_n 2, 1) := by decide +kernel
theorem dX10_about_20 : decode cX10_about 20 = .ok (.tableswitch 82 0 3 #[32, 59, 68, 75], 32) := by decide +kernel
theorem dX10_about_52 : decode cX10_about 52 = .ok (.aload_n 0, 1) := by decide +kernel
theorem dX10_about_53 : decode cX10_about 53 = .ok (.getfield 40, 3) := by decide +kernel
theorem dX10_about_56 : decode cX10_about 56 = .ok (.iload_n 1, 1) := by decide +kernel
theorem dX10_about_57 : decode cX10_about 57 = .ok (.iaload, 1) := by decide +kernel
theorem dX10_about_58 : decode cX10_about 58 = .ok (.ifCond .lt 7, 3) := by decide +kernel
theorem dX10_about_61 : decode cX10_about 61 = .ok (.iconst 1, 1) := by decide +kernel
theorem dX10_about_62 : decode cX10_about 62 = .ok (.goto 16, 3) := by decide +kernel
theorem dX10_about_65 : decode cX10_about 65 = .ok (.aload_n 0, 1) := by decide +kernel
theorem dX10_about_66 : decode cX10_about 66 = .ok (.iload_n 1, 1) := by decide +kernel
theorem dX10_about_67 : decode cX10_about 67 = .ok (.invokevirtual 156, 3) := by decide +kernel
theorem dX10_about_70 : decode cX10_about 70 = .ok (.ifCond .eq 7, 3) := by decide +kernel
theorem dX10_about_73 : decode cX10_about 73 = .ok (.iconst 2, 1) := by decide +kernel
theorem dX10_about_74 : decode cX10_about 74 = .ok (.goto 4, 3) := by decide +kernel
theorem dX10_about_77 : decode cX10_about 77 = .ok (.iconst 0, 1) := by decide +kernel
theorem dX10_about_78 : decode cX10_about 78 = .ok (.ireturn, 1) := by decide +kernel
theorem dX10_about_79 : decode cX10_about 79 = .ok (.aload_n 0, 1) := by decide +kernel
theorem dX10_about_80 : decode cX10_about 80 = .ok (.getfield 153, 3) := by decide +kernel
theorem dX10_about_83 : decode cX10_about 83 = .ok (.iload_n 1, 1) := by decide +kernel
theorem dX10_about_84 : decode cX10_about 84 = .ok (.ishr, 1) := by decide +kernel
theorem dX10_about_85 : decode cX10_about 85 = .ok (.iconst 1, 1) := by decide +kernel
theorem dX10_about_86 : decode cX10_about 86 = .ok (.iand, 1) := by decide +kernel
theorem dX10_about_87 : decode cX10_about 87 = .ok (.ireturn, 1) := by decide +kernel
theorem dX10_about_88 : decode cX10_about 88 = .ok (.aload_n 0, 1) := by decide +kernel
theorem dX10_about_89 : decode cX10_about 89 = .ok (.getfield 43, 3) := by decide +kernel
theorem dX10_about_92 : decode cX10_about 92 = .ok (.iload_n 1, 1) := by decide +kernel
theorem dX10_about_93 : decode cX10_about 93 = .ok (.iaload, 1) := by decide +kernel
theorem dX10_about_94 : decode cX10_about 94 = .ok (.ireturn, 1) := by decide +kernel
theorem dX10_about_95 : decode cX10_about 95 = .ok (.aload_n 0, 1) := by decide +kernel
theorem dX10_about_96 : decode cX10_about 96 = .ok (.getfield 46, 3) := by decide +kernel
theorem dX10_about_99 : decode cX10_about 99 = .ok (.iload_n 1, 1) := by decide +kernel
theorem dX10_about_100 : decode cX10_about 100 = .ok (.iaload, 1) := by decide +kernel
theorem dX10_about_101 : decode cX10_about 101 = .ok (.ireturn, 1) := by decide +kernel
theorem dX10_about_102 : decode cX10_about 102 = .ok (.aload_n 0, 1) := by decide +kernel
theorem dX10_about_103 : decode cX10_about 103 = .ok (.getfield 49, 3) := by decide +kernel
theorem dX10_about_106 : decode cX10_about 106 = .ok (.iload_n 1, 1) := by decide +kernel
theorem dX10_about_107 : decode cX10_about 107 = .ok (.iaload, 1) := by decide +kernel
theorem dX10_about_108 : decode cX10_about 108 = .ok (.ireturn, 1) := by decide +kernel
theorem dX10_servantTold_0 : decode cX10_servantTold 0 = .ok (.aload_n 0, 1) := by decide +kernel
theorem dX10_servantTold_1 : decode cX10_servantTold 1 = .ok (.iload_n 1, 1) := by decide +kernel
theorem dX10_servantTold_2 : decode cX10_servantTold 2 = .ok (.invokevirtual 181, 3) := by decide +kernel
theorem dX10_servantTold_5 : decode cX10_servantTold 5 = .ok (.ifCond .eq 12, 3) := by decide +kernel
theorem dX10_servantTold_8 : decode cX10_servantTold 8 = .ok (.iload_n 2, 1) := by decide +kernel
theorem dX10_servantTold_9 : decode cX10_servantTold 9 = .ok (.iconst 0, 1) := by decide +kernel
theorem dX10_servantTold_10 : decode cX10_servantTold 10 = .ok (.iconst 4, 1) := by decide +kernel
theorem dX10_servantTold_11 : decode cX10_servantTold 11 = .ok (.invokestatic 95, 3) := by decide +kernel
theorem dX10_servantTold_14 : decode cX10_servantTold 14 = .ok (.ifCond .ne 5, 3) := by decide +kernel
theorem dX10_servantTold_17 : decode cX10_servantTold 17 = .ok (.iconst (-1), 1) := by decide +kernel
theorem dX10_servantTold_18 : decode cX10_servantTold 18 = .ok (.ireturn, 1) := by decide +kernel
theorem dX10_servantTold_19 : decode cX10_servantTold 19 = .ok (.iload_n 2, 1) := by decide +kernel
theorem dX10_servantTold_20 : decode cX10_servantTold 20 = .ok (.tableswitch 78 0 3 #[32, 39, 46, 53], 32) := by decide +kernel
theorem dX10_servantTold_52 : decode cX10_servantTold 52 = .ok (.aload_n 0, 1) := by decide +kernel
theorem dX10_servantTold_53 : decode cX10_servantTold 53 = .ok (.getfield 52, 3) := by decide +kernel
theorem dX10_servantTold_56 : decode cX10_servantTold 56 = .ok (.iload_n 1, 1) := by decide +kernel
theorem dX10_servantTold_57 : decode cX10_servantTold 57 = .ok (.iaload, 1) := by decide +kernel
theorem dX10_servantTold_58 : decode cX10_servantTold 58 = .ok (.ireturn, 1) := by decide +kernel
theorem dX10_servantTold_59 : decode cX10_servantTold 59 = .ok (.aload_n 0, 1) := by decide +kernel
theorem dX10_servantTold_60 : decode cX10_servantTold 60 = .ok (.getfield 55, 3) := by decide +kernel
theorem dX10_servantTold_63 : decode cX10_servantTold 63 = .ok (.iload_n 1, 1) := by decide +kernel
theorem dX10_servantTold_64 : decode cX10_servantTold 64 = .ok (.iaload, 1) := by decide +kernel
theorem dX10_servantTold_65 : decode cX10_servantTold 65 = .ok (.ireturn, 1) := by decide +kernel
theorem dX10_servantTold_66 : decode cX10_servantTold 66 = .ok (.aload_n 0, 1) := by decide +kernel
theorem dX10_servantTold_67 : decode cX10_servantTold 67 = .ok (.getfield 61, 3) := by decide +kernel
theorem dX10_servantTold_70 : decode cX10_servantTold 70 = .ok (.iload_n 1, 1) := by decide +kernel
theorem dX10_servantTold_71 : decode cX10_servantTold 71 = .ok (.iaload, 1) := by decide +kernel
theorem dX10_servantTold_72 : decode cX10_servantTold 72 = .ok (.ireturn, 1) := by decide +kernel
theorem dX10_servantTold_73 : decode cX10_servantTold 73 = .ok (.aload_n 0, 1) := by decide +kernel
theorem dX10_servantTold_74 : decode cX10_servantTold 74 = .ok (.getfield 61, 3) := by decide +kernel
theorem dX10_servantTold_77 : decode cX10_servantTold 77 = .ok (.iload_n 1, 1) := by decide +kernel
theorem dX10_servantTold_78 : decode cX10_servantTold 78 = .ok (.iaload, 1) := by decide +kernel
theorem dX10_servantTold_79 : decode cX10_servantTold 79 = .ok (.ifCond .ge 7, 3) := by decide +kernel
theorem dX10_servantTold_82 : decode cX10_servantTold 82 = .ok (.iconst 0, 1) := by decide +kernel
theorem dX10_servantTold_83 : decode cX10_servantTold 83 = .ok (.goto 14, 3) := by decide +kernel
theorem dX10_servantTold_86 : decode cX10_servantTold 86 = .ok (.aload_n 0, 1) := by decide +kernel
theorem dX10_servantTold_87 : decode cX10_servantTold 87 = .ok (.getfield 64, 3) := by decide +kernel
theorem dX10_servantTold_90 : decode cX10_servantTold 90 = .ok (.iload_n 1, 1) := by decide +kernel
theorem dX10_servantTold_91 : decode cX10_servantTold 91 = .ok (.iaload, 1) := by decide +kernel
theorem dX10_servantTold_92 : decode cX10_servantTold 92 = .ok (.aload_n 0, 1) := by decide +kernel
theorem dX10_servantTold_93 : decode cX10_servantTold 93 = .ok (.getfield 144, 3) := by decide +kernel
theorem dX10_servantTold_96 : decode cX10_servantTold 96 = .ok (.isub, 1) := by decide +kernel
theorem dX10_servantTold_97 : decode cX10_servantTold 97 = .ok (.ireturn, 1) := by decide +kernel
theorem dX10_servantTold_98 : decode cX10_servantTold 98 = .ok (.aload_n 0, 1) := by decide +kernel
theorem dX10_servantTold_99 : decode cX10_servantTold 99 = .ok (.getfield 67, 3) := by decide +kernel
theorem dX10_servantTold_102 : decode cX10_servantTold 102 = .ok (.iload_n 1, 1) := by decide +kernel
theorem dX10_servantTold_103 : decode cX10_servantTold 103 = .ok (.iaload, 1) := by decide +kernel
theorem dX10_servantTold_104 : decode cX10_servantTold 104 = .ok (.ireturn, 1) := by decide +kernel
theorem dX10_way_0 : decode cX10_way 0 = .ok (.aload_n 0, 1) := by decide +kernel
theorem dX10_way_1 : decode cX10_way 1 = .ok (.iload_n 1, 1) := by decide +kernel
theorem dX10_way_2 : decode cX10_way 2 = .ok (.invokevirtual 181, 3) := by decide +kernel
theorem dX10_way_5 : decode cX10_way 5 = .ok (.ifCond .eq 20, 3) := by decide +kernel
theorem dX10_way_8 : decode cX10_way 8 = .ok (.aload_n 0, 1) := by decide +kernel
theorem dX10_way_9 : decode cX10_way 9 = .ok (.iload_n 2, 1) := by decide +kernel
theorem dX10_way_10 : decode cX10_way 10 = .ok (.invokevirtual 128, 3) := by decide +kernel
theorem dX10_way_13 : decode cX10_way 13 = .ok (.ifCond .eq 12, 3) := by decide +kernel
theorem dX10_way_16 : decode cX10_way 16 = .ok (.aload_n 0, 1) := by decide +kernel
theorem dX10_way_17 : decode cX10_way 17 = .ok (.iload_n 1, 1) := by decide +kernel
theorem dX10_way_18 : decode cX10_way 18 = .ok (.iload_n 2, 1) := by decide +kernel
theorem dX10_way_19 : decode cX10_way 19 = .ok (.invokevirtual 150, 3) := by decide +kernel
theorem dX10_way_22 : decode cX10_way 22 = .ok (.goto 4, 3) := by decide +kernel
theorem dX10_way_25 : decode cX10_way 25 = .ok (.iconst (-1), 1) := by decide +kernel
theorem dX10_way_26 : decode cX10_way 26 = .ok (.ireturn, 1) := by decide +kernel
theorem dX10_swings_0 : decode cX10_swings 0 = .ok (.iload_n 1, 1) := by decide +kernel
theorem dX10_swings_1 : decode cX10_swings 1 = .ok (.iconst (-1), 1) := by decide +kernel
theorem dX10_swings_2 : decode cX10_swings 2 = .ok (.bipush 7, 2) := by decide +kernel
theorem dX10_swings_4 : decode cX10_swings 4 = .ok (.invokestatic 95, 3) := by decide +kernel
theorem dX10_swings_7 : decode cX10_swings 7 = .ok (.ifCond .ne 5, 3) := by decide +kernel
theorem dX10_swings_10 : decode cX10_swings 10 = .ok (.iconst (-1), 1) := by decide +kernel
theorem dX10_swings_11 : decode cX10_swings 11 = .ok (.ireturn, 1) := by decide +kernel
theorem dX10_swings_12 : decode cX10_swings 12 = .ok (.iconst 0, 1) := by decide +kernel
theorem dX10_swings_13 : decode cX10_swings 13 = .ok (.istore_n 2, 1) := by decide +kernel
theorem dX10_swings_14 : decode cX10_swings 14 = .ok (.iconst 0, 1) := by decide +kernel
theorem dX10_swings_15 : decode cX10_swings 15 = .ok (.istore_n 3, 1) := by decide +kernel
theorem dX10_swings_16 : decode cX10_swings 16 = .ok (.iload_n 3, 1) := by decide +kernel
theorem dX10_swings_17 : decode cX10_swings 17 = .ok (.bipush 8, 2) := by decide +kernel
theorem dX10_swings_19 : decode cX10_swings 19 = .ok (.if_icmp .ge 28, 3) := by decide +kernel
theorem dX10_swings_22 : decode cX10_swings 22 = .ok (.iload_n 2, 1) := by decide +kernel
theorem dX10_swings_23 : decode cX10_swings 23 = .ok (.aload_n 0, 1) := by decide +kernel
theorem dX10_swings_24 : decode cX10_swings 24 = .ok (.getfield 70, 3) := by decide +kernel
theorem dX10_swings_27 : decode cX10_swings 27 = .ok (.iload_n 3, 1) := by decide +kernel
theorem dX10_swings_28 : decode cX10_swings 28 = .ok (.iaload, 1) := by decide +kernel
theorem dX10_swings_29 : decode cX10_swings 29 = .ok (.ifCond .le 9, 3) := by decide +kernel
theorem dX10_swings_32 : decode cX10_swings 32 = .ok (.iconst 1, 1) := by decide +kernel
theorem dX10_swings_33 : decode cX10_swings 33 = .ok (.iload_n 3, 1) := by decide +kernel
theorem dX10_swings_34 : decode cX10_swings 34 = .ok (.ishl, 1) := by decide +kernel
theorem dX10_swings_35 : decode cX10_swings 35 = .ok (.goto 4, 3) := by decide +kernel
theorem dX10_swings_38 : decode cX10_swings 38 = .ok (.iconst 0, 1) := by decide +kernel
theorem dX10_swings_39 : decode cX10_swings 39 = .ok (.ior, 1) := by decide +kernel
theorem dX10_swings_40 : decode cX10_swings 40 = .ok (.istore_n 2, 1) := by decide +kernel
theorem dX10_swings_41 : decode cX10_swings 41 = .ok (.iinc 3 1, 3) := by decide +kernel
theorem dX10_swings_44 : decode cX10_swings 44 = .ok (.goto (-28), 3) := by decide +kernel
theorem dX10_swings_47 : decode cX10_swings 47 = .ok (.iload_n 1, 1) := by decide +kernel
theorem dX10_swings_48 : decode cX10_swings 48 = .ok (.ifCond .ge 7, 3) := by decide +kernel
theorem dX10_swings_51 : decode cX10_swings 51 = .ok (.iload_n 2, 1) := by decide +kernel
theorem dX10_swings_52 : decode cX10_swings 52 = .ok (.goto 9, 3) := by decide +kernel
theorem dX10_swings_55 : decode cX10_swings 55 = .ok (.aload_n 0, 1) := by decide +kernel
theorem dX10_swings_56 : decode cX10_swings 56 = .ok (.getfield 70, 3) := by decide +kernel
theorem dX10_swings_59 : decode cX10_swings 59 = .ok (.iload_n 1, 1) := by decide +kernel
theorem dX10_swings_60 : decode cX10_swings 60 = .ok (.iaload, 1) := by decide +kernel
theorem dX10_swings_61 : decode cX10_swings 61 = .ok (.ireturn, 1) := by decide +kernel
theorem dX10_waitingNow_0 : decode cX10_waitingNow 0 = .ok (.iconst 0, 1) := by decide +kernel
theorem dX10_waitingNow_1 : decode cX10_waitingNow 1 = .ok (.istore_n 1, 1) := by decide +kernel
theorem dX10_waitingNow_2 : decode cX10_waitingNow 2 = .ok (.iconst 0, 1) := by decide +kernel
theorem dX10_waitingNow_3 : decode cX10_waitingNow 3 = .ok (.istore_n 2, 1) := by decide +kernel
theorem dX10_waitingNow_4 : decode cX10_waitingNow 4 = .ok (.iload_n 2, 1) := by decide +kernel
theorem dX10_waitingNow_5 : decode cX10_waitingNow 5 = .ok (.aload_n 0, 1) := by decide +kernel
theorem dX10_waitingNow_6 : decode cX10_waitingNow 6 = .ok (.getfield 91, 3) := by decide +kernel
theorem dX10_waitingNow_9 : decode cX10_waitingNow 9 = .ok (.if_icmp .ge 26, 3) := by decide +kernel
theorem dX10_waitingNow_12 : decode cX10_waitingNow 12 = .ok (.iload_n 1, 1) := by decide +kernel
theorem dX10_waitingNow_13 : decode cX10_waitingNow 13 = .ok (.aload_n 0, 1) := by decide +kernel
theorem dX10_waitingNow_14 : decode cX10_waitingNow 14 = .ok (.getfield 40, 3) := by decide +kernel
theorem dX10_waitingNow_17 : decode cX10_waitingNow 17 = .ok (.iload_n 2, 1) := by decide +kernel
theorem dX10_waitingNow_18 : decode cX10_waitingNow 18 = .ok (.iaload, 1) := by decide +kernel
theorem dX10_waitingNow_19 : decode cX10_waitingNow 19 = .ok (.ifCond .lt 7, 3) := by decide +kernel
theorem dX10_waitingNow_22 : decode cX10_waitingNow 22 = .ok (.iconst 1, 1) := by decide +kernel
theorem dX10_waitingNow_23 : decode cX10_waitingNow 23 = .ok (.goto 4, 3) := by decide +kernel
theorem dX10_waitingNow_26 : decode cX10_waitingNow 26 = .ok (.iconst 0, 1) := by decide +kernel
theorem dX10_waitingNow_27 : decode cX10_waitingNow 27 = .ok (.iadd, 1) := by decide +kernel
theorem dX10_waitingNow_28 : decode cX10_waitingNow 28 = .ok (.istore_n 1, 1) := by decide +kernel
theorem dX10_waitingNow_29 : decode cX10_waitingNow 29 = .ok (.iinc 2 1, 3) := by decide +kernel
theorem dX10_waitingNow_32 : decode cX10_waitingNow 32 = .ok (.goto (-28), 3) := by decide +kernel
theorem dX10_waitingNow_35 : decode cX10_waitingNow 35 = .ok (.iload_n 1, 1) := by decide +kernel
theorem dX10_waitingNow_36 : decode cX10_waitingNow 36 = .ok (.ireturn, 1) := by decide +kernel
theorem dX10_shares_0 : decode cX10_shares 0 = .ok (.aload_n 0, 1) := by decide +kernel
theorem dX10_shares_1 : decode cX10_shares 1 = .ok (.iconst 0, 1) := by decide +kernel
theorem dX10_shares_2 : decode cX10_shares 2 = .ok (.putfield 184, 3) := by decide +kernel
theorem dX10_shares_5 : decode cX10_shares 5 = .ok (.iconst 0, 1) := by decide +kernel
theorem dX10_shares_6 : decode cX10_shares 6 = .ok (.istore_n 1, 1) := by decide +kernel
theorem dX10_shares_7 : decode cX10_shares 7 = .ok (.iload_n 1, 1) := by decide +kernel
theorem dX10_shares_8 : decode cX10_shares 8 = .ok (.aload_n 0, 1) := by decide +kernel
theorem dX10_shares_9 : decode cX10_shares 9 = .ok (.getfield 91, 3) := by decide +kernel
theorem dX10_shares_12 : decode cX10_shares 12 = .ok (.if_icmp .ge 38, 3) := by decide +kernel
theorem dX10_shares_15 : decode cX10_shares 15 = .ok (.aload_n 0, 1) := by decide +kernel
theorem dX10_shares_16 : decode cX10_shares 16 = .ok (.getfield 40, 3) := by decide +kernel
theorem dX10_shares_19 : decode cX10_shares 19 = .ok (.iload_n 1, 1) := by decide +kernel
theorem dX10_shares_20 : decode cX10_shares 20 = .ok (.iaload, 1) := by decide +kernel
theorem dX10_shares_21 : decode cX10_shares 21 = .ok (.ifCond .lt 23, 3) := by decide +kernel
theorem dX10_shares_24 : decode cX10_shares 24 = .ok (.aload_n 0, 1) := by decide +kernel
theorem dX10_shares_25 : decode cX10_shares 25 = .ok (.getfield 85, 3) := by decide +kernel
theorem dX10_shares_28 : decode cX10_shares 28 = .ok (.aload_n 0, 1) := by decide +kernel
theorem dX10_shares_29 : decode cX10_shares 29 = .ok (.getfield 184, 3) := by decide +kernel
theorem dX10_shares_32 : decode cX10_shares 32 = .ok (.iload_n 1, 1) := by decide +kernel
theorem dX10_shares_33 : decode cX10_shares 33 = .ok (.iastore, 1) := by decide +kernel
theorem dX10_shares_34 : decode cX10_shares 34 = .ok (.aload_n 0, 1) := by decide +kernel
theorem dX10_shares_35 : decode cX10_shares 35 = .ok (.dup, 1) := by decide +kernel
theorem dX10_shares_36 : decode cX10_shares 36 = .ok (.getfield 184, 3) := by decide +kernel
theorem dX10_shares_39 : decode cX10_shares 39 = .ok (.iconst 1, 1) := by decide +kernel
theorem dX10_shares_40 : decode cX10_shares 40 = .ok (.iadd, 1) := by decide +kernel
theorem dX10_shares_41 : decode cX10_shares 41 = .ok (.putfield 184, 3) := by decide +kernel
theorem dX10_shares_44 : decode cX10_shares 44 = .ok (.iinc 1 1, 3) := by decide +kernel
theorem dX10_shares_47 : decode cX10_shares 47 = .ok (.goto (-40), 3) := by decide +kernel
theorem dX10_shares_50 : decode cX10_shares 50 = .ok (.iconst 1, 1) := by decide +kernel
theorem dX10_shares_51 : decode cX10_shares 51 = .ok (.istore_n 1, 1) := by decide +kernel
theorem dX10_shares_52 : decode cX10_shares 52 = .ok (.iconst 0, 1) := by decide +kernel
theorem dX10_shares_53 : decode cX10_shares 53 = .ok (.istore_n 2, 1) := by decide +kernel
theorem dX10_shares_54 : decode cX10_shares 54 = .ok (.iload_n 2, 1) := by decide +kernel
theorem dX10_shares_55 : decode cX10_shares 55 = .ok (.aload_n 0, 1) := by decide +kernel
theorem dX10_shares_56 : decode cX10_shares 56 = .ok (.getfield 184, 3) := by decide +kernel
theorem dX10_shares_59 : decode cX10_shares 59 = .ok (.if_icmp .ge 14, 3) := by decide +kernel
theorem dX10_shares_62 : decode cX10_shares 62 = .ok (.iload_n 1, 1) := by decide +kernel
theorem dX10_shares_63 : decode cX10_shares 63 = .ok (.bipush 6, 2) := by decide +kernel
theorem dX10_shares_65 : decode cX10_shares 65 = .ok (.imul, 1) := by decide +kernel
theorem dX10_shares_66 : decode cX10_shares 66 = .ok (.istore_n 1, 1) := by decide +kernel
theorem dX10_shares_67 : decode cX10_shares 67 = .ok (.iinc 2 1, 3) := by decide +kernel
theorem dX10_shares_70 : decode cX10_shares 70 = .ok (.goto (-16), 3) := by decide +kernel
theorem dX10_shares_73 : decode cX10_shares 73 = .ok (.iconst 0, 1) := by decide +kernel
theorem dX10_shares_74 : decode cX10_shares 74 = .ok (.istore_n 2, 1) := by decide +kernel
theorem dX10_shares_75 : decode cX10_shares 75 = .ok (.aload_n 0, 1) := by decide +kernel
theorem dX10_shares_76 : decode cX10_shares 76 = .ok (.ldc 187, 2) := by decide +kernel
theorem dX10_shares_78 : decode cX10_shares 78 = .ok (.putfield 188, 3) := by decide +kernel
theorem dX10_shares_81 : decode cX10_shares 81 = .ok (.iconst 0, 1) := by decide +kernel
theorem dX10_shares_82 : decode cX10_shares 82 = .ok (.istore_n 3, 1) := by decide +kernel
theorem dX10_shares_83 : decode cX10_shares 83 = .ok (.iload_n 3, 1) := by decide +kernel
theorem dX10_shares_84 : decode cX10_shares 84 = .ok (.iload_n 1, 1) := by decide +kernel
theorem dX10_shares_85 : decode cX10_shares 85 = .ok (.if_icmp .ge 54, 3) := by decide +kernel
theorem dX10_shares_88 : decode cX10_shares 88 = .ok (.aload_n 0, 1) := by decide +kernel
theorem dX10_shares_89 : decode cX10_shares 89 = .ok (.iload_n 3, 1) := by decide +kernel
theorem dX10_shares_90 : decode cX10_shares 90 = .ok (.iload_n 1, 1) := by decide +kernel
theorem dX10_shares_91 : decode cX10_shares 91 = .ok (.invokevirtual 191, 3) := by decide +kernel
theorem dX10_shares_94 : decode cX10_shares 94 = .ok (.istore 4, 2) := by decide +kernel
theorem dX10_shares_96 : decode cX10_shares 96 = .ok (.iload 4, 2) := by decide +kernel
theorem dX10_shares_98 : decode cX10_shares 98 = .ok (.aload_n 0, 1) := by decide +kernel
theorem dX10_shares_99 : decode cX10_shares 99 = .ok (.getfield 188, 3) := by decide +kernel
theorem dX10_shares_102 : decode cX10_shares 102 = .ok (.if_icmp .ge 7, 3) := by decide +kernel
theorem dX10_shares_105 : decode cX10_shares 105 = .ok (.iload_n 3, 1) := by decide +kernel
theorem dX10_shares_106 : decode cX10_shares 106 = .ok (.goto 4, 3) := by decide +kernel
theorem dX10_shares_109 : decode cX10_shares 109 = .ok (.iload_n 2, 1) := by decide +kernel
theorem dX10_shares_110 : decode cX10_shares 110 = .ok (.istore_n 2, 1) := by decide +kernel
theorem dX10_shares_111 : decode cX10_shares 111 = .ok (.aload_n 0, 1) := by decide +kernel
theorem dX10_shares_112 : decode cX10_shares 112 = .ok (.iload 4, 2) := by decide +kernel
theorem dX10_shares_114 : decode cX10_shares 114 = .ok (.aload_n 0, 1) := by decide +kernel
theorem dX10_shares_115 : decode cX10_shares 115 = .ok (.getfield 188, 3) := by decide +kernel
theorem dX10_shares_118 : decode cX10_shares 118 = .ok (.if_icmp .ge 8, 3) := by decide +kernel
theorem dX10_shares_121 : decode cX10_shares 121 = .ok (.iload 4, 2) := by decide +kernel
theorem dX10_shares_123 : decode cX10_shares 123 = .ok (.goto 7, 3) := by decide +kernel
theorem dX10_shares_126 : decode cX10_shares 126 = .ok (.aload_n 0, 1) := by decide +kernel
theorem dX10_shares_127 : decode cX10_shares 127 = .ok (.getfield 188, 3) := by decide +kernel
theorem dX10_shares_130 : decode cX10_shares 130 = .ok (.putfield 188, 3) := by decide +kernel
theorem dX10_shares_133 : decode cX10_shares 133 = .ok (.iinc 3 1, 3) := by decide +kernel
theorem dX10_shares_136 : decode cX10_shares 136 = .ok (.goto (-53), 3) := by decide +kernel
theorem dX10_shares_139 : decode cX10_shares 139 = .ok (.iload_n 2, 1) := by decide +kernel
theorem dX10_shares_140 : decode cX10_shares 140 = .ok (.ireturn, 1) := by decide +kernel
theorem dX10_costOf_0 : decode cX10_costOf 0 = .ok (.iload_n 2, 1) := by decide +kernel
theorem dX10_costOf_1 : decode cX10_costOf 1 = .ok (.istore_n 3, 1) := by decide +kernel
theorem dX10_costOf_2 : decode cX10_costOf 2 = .ok (.iconst 0, 1) := by decide +kernel
theorem dX10_costOf_3 : decode cX10_costOf 3 = .ok (.istore 4, 2) := by decide +kernel
theorem dX10_costOf_5 : decode cX10_costOf 5 = .ok (.iconst 0, 1) := by decide +kernel
theorem dX10_costOf_6 : decode cX10_costOf 6 = .ok (.istore 5, 2) := by decide +kernel
theorem dX10_costOf_8 : decode cX10_costOf 8 = .ok (.iconst 0, 1) := by decide +kernel
theorem dX10_costOf_9 : decode cX10_costOf 9 = .ok (.istore 6, 2) := by decide +kernel
theorem dX10_costOf_11 : decode cX10_costOf 11 = .ok (.iload 6, 2) := by decide +kernel
theorem dX10_costOf_13 : decode cX10_costOf 13 = .ok (.aload_n 0, 1) := by decide +kernel
theorem dX10_costOf_14 : decode cX10_costOf 14 = .ok (.getfield 184, 3) := by decide +kernel
theorem dX10_costOf_17 : decode cX10_costOf 17 = .ok (.if_icmp .ge 123, 3) := by decide +kernel
theorem dX10_costOf_20 : decode cX10_costOf 20 = .ok (.iload_n 3, 1) := by decide +kernel
theorem dX10_costOf_21 : decode cX10_costOf 21 = .ok (.bipush 6, 2) := by decide +kernel
theorem dX10_costOf_23 : decode cX10_costOf 23 = .ok (.idiv, 1) := by decide +kernel
theorem dX10_costOf_24 : decode cX10_costOf 24 = .ok (.istore_n 3, 1) := by decide +kernel
theorem dX10_costOf_25 : decode cX10_costOf 25 = .ok (.iload_n 1, 1) := by decide +kernel
theorem dX10_costOf_26 : decode cX10_costOf 26 = .ok (.iload_n 3, 1) := by decide +kernel
theorem dX10_costOf_27 : decode cX10_costOf 27 = .ok (.idiv, 1) := by decide +kernel
theorem dX10_costOf_28 : decode cX10_costOf 28 = .ok (.bipush 6, 2) := by decide +kernel
theorem dX10_costOf_30 : decode cX10_costOf 30 = .ok (.irem, 1) := by decide +kernel
theorem dX10_costOf_31 : decode cX10_costOf 31 = .ok (.istore 7, 2) := by decide +kernel
theorem dX10_costOf_33 : decode cX10_costOf 33 = .ok (.aload_n 0, 1) := by decide +kernel
theorem dX10_costOf_34 : decode cX10_costOf 34 = .ok (.getfield 85, 3) := by decide +kernel
theorem dX10_costOf_37 : decode cX10_costOf 37 = .ok (.iload 6, 2) := by decide +kernel
theorem dX10_costOf_39 : decode cX10_costOf 39 = .ok (.iaload, 1) := by decide +kernel
theorem dX10_costOf_40 : decode cX10_costOf 40 = .ok (.istore 8, 2) := by decide +kernel
theorem dX10_costOf_42 : decode cX10_costOf 42 = .ok (.iload 7, 2) := by decide +kernel
theorem dX10_costOf_44 : decode cX10_costOf 44 = .ok (.iconst 5, 1) := by decide +kernel
theorem dX10_costOf_45 : decode cX10_costOf 45 = .ok (.if_icmp .ne 23, 3) := by decide +kernel
theorem dX10_costOf_48 : decode cX10_costOf 48 = .ok (.iload 5, 2) := by decide +kernel
theorem dX10_costOf_50 : decode cX10_costOf 50 = .ok (.aload_n 0, 1) := by decide +kernel
theorem dX10_costOf_51 : decode cX10_costOf 51 = .ok (.getfield 25, 3) := by decide +kernel
theorem dX10_costOf_54 : decode cX10_costOf 54 = .ok (.iload 8, 2) := by decide +kernel
theorem dX10_costOf_56 : decode cX10_costOf 56 = .ok (.iaload, 1) := by decide +kernel
theorem dX10_costOf_57 : decode cX10_costOf 57 = .ok (.iconst 1, 1) := by decide +kernel
theorem dX10_costOf_58 : decode cX10_costOf 58 = .ok (.iadd, 1) := by decide +kernel
theorem dX10_costOf_59 : decode cX10_costOf 59 = .ok (.bipush 100, 2) := by decide +kernel
theorem dX10_costOf_61 : decode cX10_costOf 61 = .ok (.imul, 1) := by decide +kernel
theorem dX10_costOf_62 : decode cX10_costOf 62 = .ok (.iadd, 1) := by decide +kernel
theorem dX10_costOf_63 : decode cX10_costOf 63 = .ok (.istore 5, 2) := by decide +kernel
theorem dX10_costOf_65 : decode cX10_costOf 65 = .ok (.goto 69, 3) := by decide +kernel
theorem dX10_costOf_68 : decode cX10_costOf 68 = .ok (.iload 7, 2) := by decide +kernel
theorem dX10_costOf_70 : decode cX10_costOf 70 = .ok (.aload_n 0, 1) := by decide +kernel
theorem dX10_costOf_71 : decode cX10_costOf 71 = .ok (.getfield 141, 3) := by decide +kernel
theorem dX10_costOf_74 : decode cX10_costOf 74 = .ok (.if_icmp .ge 25, 3) := by decide +kernel
theorem dX10_costOf_77 : decode cX10_costOf 77 = .ok (.iload 4, 2) := by decide +kernel
theorem dX10_costOf_79 : decode cX10_costOf 79 = .ok (.iload 7, 2) := by decide +kernel
theorem dX10_costOf_81 : decode cX10_costOf 81 = .ok (.ishr, 1) := by decide +kernel
theorem dX10_costOf_82 : decode cX10_costOf 82 = .ok (.iconst 1, 1) := by decide +kernel
theorem dX10_costOf_83 : decode cX10_costOf 83 = .ok (.iand, 1) := by decide +kernel
theorem dX10_costOf_84 : decode cX10_costOf 84 = .ok (.iconst 1, 1) := by decide +kernel
theorem dX10_costOf_85 : decode cX10_costOf 85 = .ok (.if_icmp .eq 14, 3) := by decide +kernel
theorem dX10_costOf_88 : decode cX10_costOf 88 = .ok (.aload_n 0, 1) := by decide +kernel
theorem dX10_costOf_89 : decode cX10_costOf 89 = .ok (.iload 7, 2) := by decide +kernel
theorem dX10_costOf_91 : decode cX10_costOf 91 = .ok (.iload 8, 2) := by decide +kernel
theorem dX10_costOf_93 : decode cX10_costOf 93 = .ok (.invokevirtual 159, 3) := by decide +kernel
theorem dX10_costOf_96 : decode cX10_costOf 96 = .ok (.ifCond .ne 6, 3) := by decide +kernel
theorem dX10_costOf_99 : decode cX10_costOf 99 = .ok (.ldc 187, 2) := by decide +kernel
theorem dX10_costOf_101 : decode cX10_costOf 101 = .ok (.ireturn, 1) := by decide +kernel
theorem dX10_costOf_102 : decode cX10_costOf 102 = .ok (.iload 4, 2) := by decide +kernel
theorem dX10_costOf_104 : decode cX10_costOf 104 = .ok (.iconst 1, 1) := by decide +kernel
theorem dX10_costOf_105 : decode cX10_costOf 105 = .ok (.iload 7, 2) := by decide +kernel
theorem dX10_costOf_107 : decode cX10_costOf 107 = .ok (.ishl, 1) := by decide +kernel
theorem dX10_costOf_108 : decode cX10_costOf 108 = .ok (.ior, 1) := by decide +kernel
theorem dX10_costOf_109 : decode cX10_costOf 109 = .ok (.istore 4, 2) := by decide +kernel
theorem dX10_costOf_111 : decode cX10_costOf 111 = .ok (.iload 5, 2) := by decide +kernel
theorem dX10_costOf_113 : decode cX10_costOf 113 = .ok (.aload_n 0, 1) := by decide +kernel
theorem dX10_costOf_114 : decode cX10_costOf 114 = .ok (.getfield 25, 3) := by decide +kernel
theorem dX10_costOf_117 : decode cX10_costOf 117 = .ok (.iload 8, 2) := by decide +kernel
theorem dX10_costOf_119 : decode cX10_costOf 119 = .ok (.iaload, 1) := by decide +kernel
theorem dX10_costOf_120 : decode cX10_costOf 120 = .ok (.iconst 1, 1) := by decide +kernel
theorem dX10_costOf_121 : decode cX10_costOf 121 = .ok (.iadd, 1) := by decide +kernel
theorem dX10_costOf_122 : decode cX10_costOf 122 = .ok (.aload_n 0, 1) := by decide +kernel
theorem dX10_costOf_123 : decode cX10_costOf 123 = .ok (.iload 7, 2) := by decide +kernel
theorem dX10_costOf_125 : decode cX10_costOf 125 = .ok (.iload 8, 2) := by decide +kernel
theorem dX10_costOf_127 : decode cX10_costOf 127 = .ok (.invokevirtual 150, 3) := by decide +kernel
theorem dX10_costOf_130 : decode cX10_costOf 130 = .ok (.imul, 1) := by decide +kernel
theorem dX10_costOf_131 : decode cX10_costOf 131 = .ok (.iadd, 1) := by decide +kernel
theorem dX10_costOf_132 : decode cX10_costOf 132 = .ok (.istore 5, 2) := by decide +kernel
theorem dX10_costOf_134 : decode cX10_costOf 134 = .ok (.iinc 6 1, 3) := by decide +kernel
theorem dX10_costOf_137 : decode cX10_costOf 137 = .ok (.goto (-126), 3) := by decide +kernel
theorem dX10_costOf_140 : decode cX10_costOf 140 = .ok (.iload 5, 2) := by decide +kernel
theorem dX10_costOf_142 : decode cX10_costOf 142 = .ok (.ireturn, 1) := by decide +kernel
theorem dX10_shareOf_0 : decode cX10_shareOf 0 = .ok (.iconst 1, 1) := by decide +kernel
theorem dX10_shareOf_1 : decode cX10_shareOf 1 = .ok (.istore_n 3, 1) := by decide +kernel
theorem dX10_shareOf_2 : decode cX10_shareOf 2 = .ok (.iload_n 2, 1) := by decide +kernel
theorem dX10_shareOf_3 : decode cX10_shareOf 3 = .ok (.iconst 1, 1) := by decide +kernel
theorem dX10_shareOf_4 : decode cX10_shareOf 4 = .ok (.iadd, 1) := by decide +kernel
theorem dX10_shareOf_5 : decode cX10_shareOf 5 = .ok (.istore 4, 2) := by decide +kernel
theorem dX10_shareOf_7 : decode cX10_shareOf 7 = .ok (.iload 4, 2) := by decide +kernel
theorem dX10_shareOf_9 : decode cX10_shareOf 9 = .ok (.aload_n 0, 1) := by decide +kernel
theorem dX10_shareOf_10 : decode cX10_shareOf 10 = .ok (.getfield 184, 3) := by decide +kernel
theorem dX10_shareOf_13 : decode cX10_shareOf 13 = .ok (.if_icmp .ge 14, 3) := by decide +kernel
theorem dX10_shareOf_16 : decode cX10_shareOf 16 = .ok (.iload_n 3, 1) := by decide +kernel
theorem dX10_shareOf_17 : decode cX10_shareOf 17 = .ok (.bipush 6, 2) := by decide +kernel
theorem dX10_shareOf_19 : decode cX10_shareOf 19 = .ok (.imul, 1) := by decide +kernel
theorem dX10_shareOf_20 : decode cX10_shareOf 20 = .ok (.istore_n 3, 1) := by decide +kernel
theorem dX10_shareOf_21 : decode cX10_shareOf 21 = .ok (.iinc 4 1, 3) := by decide +kernel
theorem dX10_shareOf_24 : decode cX10_shareOf 24 = .ok (.goto (-17), 3) := by decide +kernel
theorem dX10_shareOf_27 : decode cX10_shareOf 27 = .ok (.iload_n 1, 1) := by decide +kernel
theorem dX10_shareOf_28 : decode cX10_shareOf 28 = .ok (.iload_n 3, 1) := by decide +kernel
theorem dX10_shareOf_29 : decode cX10_shareOf 29 = .ok (.idiv, 1) := by decide +kernel
theorem dX10_shareOf_30 : decode cX10_shareOf 30 = .ok (.bipush 6, 2) := by decide +kernel
theorem dX10_shareOf_32 : decode cX10_shareOf 32 = .ok (.irem, 1) := by decide +kernel
theorem dX10_shareOf_33 : decode cX10_shareOf 33 = .ok (.ireturn, 1) := by decide +kernel
theorem dX10_share_0 : decode cX10_share 0 = .ok (.iload_n 1, 1) := by decide +kernel
theorem dX10_share_1 : decode cX10_share 1 = .ok (.iconst (-1), 1) := by decide +kernel
theorem dX10_share_2 : decode cX10_share 2 = .ok (.if_icmp .eq 13, 3) := by decide +kernel
theorem dX10_share_5 : decode cX10_share 5 = .ok (.aload_n 0, 1) := by decide +kernel
theorem dX10_share_6 : decode cX10_share 6 = .ok (.iload_n 1, 1) := by decide +kernel
theorem dX10_share_7 : decode cX10_share 7 = .ok (.invokevirtual 128, 3) := by decide +kernel
theorem dX10_share_10 : decode cX10_share 10 = .ok (.ifCond .ne 5, 3) := by decide +kernel
theorem dX10_share_13 : decode cX10_share 13 = .ok (.iconst (-1), 1) := by decide +kernel
theorem dX10_share_14 : decode cX10_share 14 = .ok (.ireturn, 1) := by decide +kernel
theorem dX10_share_15 : decode cX10_share 15 = .ok (.aload_n 0, 1) := by decide +kernel
theorem dX10_share_16 : decode cX10_share 16 = .ok (.invokevirtual 194, 3) := by decide +kernel
theorem dX10_share_19 : decode cX10_share 19 = .ok (.iconst 4, 1) := by decide +kernel
theorem dX10_share_20 : decode cX10_share 20 = .ok (.if_icmp .le 6, 3) := by decide +kernel
theorem dX10_share_23 : decode cX10_share 23 = .ok (.bipush (-2), 2) := by decide +kernel
theorem dX10_share_25 : decode cX10_share 25 = .ok (.ireturn, 1) := by decide +kernel
theorem dX10_share_26 : decode cX10_share 26 = .ok (.aload_n 0, 1) := by decide +kernel
theorem dX10_share_27 : decode cX10_share 27 = .ok (.invokevirtual 198, 3) := by decide +kernel
theorem dX10_share_30 : decode cX10_share 30 = .ok (.istore_n 2, 1) := by decide +kernel
theorem dX10_share_31 : decode cX10_share 31 = .ok (.iload_n 1, 1) := by decide +kernel
theorem dX10_share_32 : decode cX10_share 32 = .ok (.ifCond .ge 8, 3) := by decide +kernel
theorem dX10_share_35 : decode cX10_share 35 = .ok (.aload_n 0, 1) := by decide +kernel
theorem dX10_share_36 : decode cX10_share 36 = .ok (.getfield 188, 3) := by decide +kernel
theorem dX10_share_39 : decode cX10_share 39 = .ok (.ireturn, 1) := by decide +kernel
theorem dX10_share_40 : decode cX10_share 40 = .ok (.iconst 0, 1) := by decide +kernel
theorem dX10_share_41 : decode cX10_share 41 = .ok (.istore_n 3, 1) := by decide +kernel
theorem dX10_share_42 : decode cX10_share 42 = .ok (.iload_n 3, 1) := by decide +kernel
theorem dX10_share_43 : decode cX10_share 43 = .ok (.aload_n 0, 1) := by decide +kernel
theorem dX10_share_44 : decode cX10_share 44 = .ok (.getfield 184, 3) := by decide +kernel
theorem dX10_share_47 : decode cX10_share 47 = .ok (.if_icmp .ge 36, 3) := by decide +kernel
theorem dX10_share_50 : decode cX10_share 50 = .ok (.aload_n 0, 1) := by decide +kernel
theorem dX10_share_51 : decode cX10_share 51 = .ok (.getfield 85, 3) := by decide +kernel
theorem dX10_share_54 : decode cX10_share 54 = .ok (.iload_n 3, 1) := by decide +kernel
theorem dX10_share_55 : decode cX10_share 55 = .ok (.iaload, 1) := by decide +kernel
theorem dX10_share_56 : decode cX10_share 56 = .ok (.iload_n 1, 1) := by decide +kernel
theorem dX10_share_57 : decode cX10_share 57 = .ok (.if_icmp .ne 20, 3) := by decide +kernel
theorem dX10_share_60 : decode cX10_share 60 = .ok (.aload_n 0, 1) := by decide +kernel
theorem dX10_share_61 : decode cX10_share 61 = .ok (.iload_n 2, 1) := by decide +kernel
theorem dX10_share_62 : decode cX10_share 62 = .ok (.iload_n 3, 1) := by decide +kernel
theorem dX10_share_63 : decode cX10_share 63 = .ok (.invokevirtual 201, 3) := by decide +kernel
theorem dX10_share_66 : decode cX10_share 66 = .ok (.iconst 5, 1) := by decide +kernel
theorem dX10_share_67 : decode cX10_share 67 = .ok (.if_icmp .ge 10, 3) := by decide +kernel
theorem dX10_share_70 : decode cX10_share 70 = .ok (.aload_n 0, 1) := by decide +kernel
theorem dX10_share_71 : decode cX10_share 71 = .ok (.iload_n 2, 1) := by decide +kernel
theorem dX10_share_72 : decode cX10_share 72 = .ok (.iload_n 3, 1) := by decide +kernel
theorem dX10_share_73 : decode cX10_share 73 = .ok (.invokevirtual 201, 3) := by decide +kernel
theorem dX10_share_76 : decode cX10_share 76 = .ok (.ireturn, 1) := by decide +kernel
theorem dX10_share_77 : decode cX10_share 77 = .ok (.iinc 3 1, 3) := by decide +kernel
theorem dX10_share_80 : decode cX10_share 80 = .ok (.goto (-38), 3) := by decide +kernel
theorem dX10_share_83 : decode cX10_share 83 = .ok (.bipush (-4), 2) := by decide +kernel
theorem dX10_share_85 : decode cX10_share 85 = .ok (.ireturn, 1) := by decide +kernel
theorem dX10_send_0 : decode cX10_send 0 = .ok (.aload_n 0, 1) := by decide +kernel
theorem dX10_send_1 : decode cX10_send 1 = .ok (.invokevirtual 194, 3) := by decide +kernel
theorem dX10_send_4 : decode cX10_send 4 = .ok (.iconst 4, 1) := by decide +kernel
theorem dX10_send_5 : decode cX10_send 5 = .ok (.if_icmp .le 6, 3) := by decide +kernel
theorem dX10_send_8 : decode cX10_send 8 = .ok (.bipush (-2), 2) := by decide +kernel
theorem dX10_send_10 : decode cX10_send 10 = .ok (.ireturn, 1) := by decide +kernel
theorem dX10_send_11 : decode cX10_send 11 = .ok (.aload_n 0, 1) := by decide +kernel
theorem dX10_send_12 : decode cX10_send 12 = .ok (.invokevirtual 198, 3) := by decide +kernel
theorem dX10_send_15 : decode cX10_send 15 = .ok (.istore_n 1, 1) := by decide +kernel
theorem dX10_send_16 : decode cX10_send 16 = .ok (.iconst 0, 1) := by decide +kernel
theorem dX10_send_17 : decode cX10_send 17 = .ok (.istore_n 2, 1) := by decide +kernel
theorem dX10_send_18 : decode cX10_send 18 = .ok (.iconst 0, 1) := by decide +kernel
theorem dX10_send_19 : decode cX10_send 19 = .ok (.istore_n 3, 1) := by decide +kernel
theorem dX10_send_20 : decode cX10_send 20 = .ok (.iload_n 3, 1) := by decide +kernel
theorem dX10_send_21 : decode cX10_send 21 = .ok (.aload_n 0, 1) := by decide +kernel
theorem dX10_send_22 : decode cX10_send 22 = .ok (.getfield 184, 3) := by decide +kernel
theorem dX10_send_25 : decode cX10_send 25 = .ok (.if_icmp .ge 38, 3) := by decide +kernel
theorem dX10_send_28 : decode cX10_send 28 = .ok (.aload_n 0, 1) := by decide +kernel
theorem dX10_send_29 : decode cX10_send 29 = .ok (.iload_n 1, 1) := by decide +kernel
theorem dX10_send_30 : decode cX10_send 30 = .ok (.iload_n 3, 1) := by decide +kernel
theorem dX10_send_31 : decode cX10_send 31 = .ok (.invokevirtual 201, 3) := by decide +kernel
theorem dX10_send_34 : decode cX10_send 34 = .ok (.istore 4, 2) := by decide +kernel
theorem dX10_send_36 : decode cX10_send 36 = .ok (.iload 4, 2) := by decide +kernel
theorem dX10_send_38 : decode cX10_send 38 = .ok (.iconst 5, 1) := by decide +kernel
theorem dX10_send_39 : decode cX10_send 39 = .ok (.if_icmp .ge 18, 3) := by decide +kernel
theorem dX10_send_42 : decode cX10_send 42 = .ok (.aload_n 0, 1) := by decide +kernel
theorem dX10_send_43 : decode cX10_send 43 = .ok (.iload 4, 2) := by decide +kernel
theorem dX10_send_45 : decode cX10_send 45 = .ok (.aload_n 0, 1) := by decide +kernel
theorem dX10_send_46 : decode cX10_send 46 = .ok (.getfield 85, 3) := by decide +kernel
theorem dX10_send_49 : decode cX10_send 49 = .ok (.iload_n 3, 1) := by decide +kernel
theorem dX10_send_50 : decode cX10_send 50 = .ok (.iaload, 1) := by decide +kernel
theorem dX10_send_51 : decode cX10_send 51 = .ok (.invokevirtual 168, 3) := by decide +kernel
theorem dX10_send_54 : decode cX10_send 54 = .ok (.iinc 2 1, 3) := by decide +kernel
theorem dX10_send_57 : decode cX10_send 57 = .ok (.iinc 3 1, 3) := by decide +kernel
theorem dX10_send_60 : decode cX10_send 60 = .ok (.goto (-40), 3) := by decide +kernel
theorem dX10_send_63 : decode cX10_send 63 = .ok (.iload_n 2, 1) := by decide +kernel
theorem dX10_send_64 : decode cX10_send 64 = .ok (.ireturn, 1) := by decide +kernel
theorem dX10_test_0 : decode cX10_test 0 = .ok (.aload_n 0, 1) := by decide +kernel
theorem dX10_test_1 : decode cX10_test 1 = .ok (.iload_n 1, 1) := by decide +kernel
theorem dX10_test_2 : decode cX10_test 2 = .ok (.invokevirtual 128, 3) := by decide +kernel
theorem dX10_test_5 : decode cX10_test 5 = .ok (.ifCond .eq 22, 3) := by decide +kernel
theorem dX10_test_8 : decode cX10_test 8 = .ok (.iload_n 2, 1) := by decide +kernel
theorem dX10_test_9 : decode cX10_test 9 = .ok (.iconst 0, 1) := by decide +kernel
theorem dX10_test_10 : decode cX10_test 10 = .ok (.bipush 40, 2) := by decide +kernel
theorem dX10_test_12 : decode cX10_test 12 = .ok (.invokestatic 95, 3) := by decide +kernel
theorem dX10_test_15 : decode cX10_test 15 = .ok (.ifCond .eq 12, 3) := by decide +kernel
theorem dX10_test_18 : decode cX10_test 18 = .ok (.iload_n 3, 1) := by decide +kernel
theorem dX10_test_19 : decode cX10_test 19 = .ok (.iconst (-1), 1) := by decide +kernel
theorem dX10_test_20 : decode cX10_test 20 = .ok (.iconst 2, 1) := by decide +kernel
theorem dX10_test_21 : decode cX10_test 21 = .ok (.invokestatic 95, 3) := by decide +kernel
theorem dX10_test_24 : decode cX10_test 24 = .ok (.ifCond .ne 5, 3) := by decide +kernel
theorem dX10_test_27 : decode cX10_test 27 = .ok (.iconst (-1), 1) := by decide +kernel
theorem dX10_test_28 : decode cX10_test 28 = .ok (.ireturn, 1) := by decide +kernel
theorem dX10_test_29 : decode cX10_test 29 = .ok (.aload_n 0, 1) := by decide +kernel
theorem dX10_test_30 : decode cX10_test 30 = .ok (.getfield 204, 3) := by decide +kernel
theorem dX10_test_33 : decode cX10_test 33 = .ok (.bipush 12, 2) := by decide +kernel
theorem dX10_test_35 : decode cX10_test 35 = .ok (.if_icmp .ne 6, 3) := by decide +kernel
theorem dX10_test_38 : decode cX10_test 38 = .ok (.bipush (-3), 2) := by decide +kernel
theorem dX10_test_40 : decode cX10_test 40 = .ok (.ireturn, 1) := by decide +kernel
theorem dX10_test_41 : decode cX10_test 41 = .ok (.aload_n 0, 1) := by decide +kernel
theorem dX10_test_42 : decode cX10_test 42 = .ok (.getfield 73, 3) := by decide +kernel
theorem dX10_test_45 : decode cX10_test 45 = .ok (.aload_n 0, 1) := by decide +kernel
theorem dX10_test_46 : decode cX10_test 46 = .ok (.getfield 204, 3) := by decide +kernel
theorem dX10_test_49 : decode cX10_test 49 = .ok (.iload_n 1, 1) := by decide +kernel
theorem dX10_test_50 : decode cX10_test 50 = .ok (.iastore, 1) := by decide +kernel
theorem dX10_test_51 : decode cX10_test 51 = .ok (.aload_n 0, 1) := by decide +kernel
theorem dX10_test_52 : decode cX10_test 52 = .ok (.getfield 76, 3) := by decide +kernel
theorem dX10_test_55 : decode cX10_test 55 = .ok (.aload_n 0, 1) := by decide +kernel
theorem dX10_test_56 : decode cX10_test 56 = .ok (.getfield 204, 3) := by decide +kernel
theorem dX10_test_59 : decode cX10_test 59 = .ok (.iload_n 2, 1) := by decide +kernel
theorem dX10_test_60 : decode cX10_test 60 = .ok (.iastore, 1) := by decide +kernel
theorem dX10_test_61 : decode cX10_test 61 = .ok (.aload_n 0, 1) := by decide +kernel
theorem dX10_test_62 : decode cX10_test 62 = .ok (.getfield 79, 3) := by decide +kernel
theorem dX10_test_65 : decode cX10_test 65 = .ok (.aload_n 0, 1) := by decide +kernel
theorem dX10_test_66 : decode cX10_test 66 = .ok (.getfield 204, 3) := by decide +kernel
theorem dX10_test_69 : decode cX10_test 69 = .ok (.iload_n 3, 1) := by decide +kernel
theorem dX10_test_70 : decode cX10_test 70 = .ok (.iastore, 1) := by decide +kernel
theorem dX10_test_71 : decode cX10_test 71 = .ok (.aload_n 0, 1) := by decide +kernel
theorem dX10_test_72 : decode cX10_test 72 = .ok (.dup, 1) := by decide +kernel
theorem dX10_test_73 : decode cX10_test 73 = .ok (.getfield 204, 3) := by decide +kernel
theorem dX10_test_76 : decode cX10_test 76 = .ok (.iconst 1, 1) := by decide +kernel
theorem dX10_test_77 : decode cX10_test 77 = .ok (.iadd, 1) := by decide +kernel
theorem dX10_test_78 : decode cX10_test 78 = .ok (.putfield 204, 3) := by decide +kernel
theorem dX10_test_81 : decode cX10_test 81 = .ok (.aload_n 0, 1) := by decide +kernel
theorem dX10_test_82 : decode cX10_test 82 = .ok (.getfield 204, 3) := by decide +kernel
theorem dX10_test_85 : decode cX10_test 85 = .ok (.ireturn, 1) := by decide +kernel
theorem dX10_noTests_0 : decode cX10_noTests 0 = .ok (.aload_n 0, 1) := by decide +kernel
theorem dX10_noTests_1 : decode cX10_noTests 1 = .ok (.getfield 204, 3) := by decide +kernel
theorem dX10_noTests_4 : decode cX10_noTests 4 = .ok (.istore_n 1, 1) := by decide +kernel
theorem dX10_noTests_5 : decode cX10_noTests 5 = .ok (.aload_n 0, 1) := by decide +kernel
theorem dX10_noTests_6 : decode cX10_noTests 6 = .ok (.iconst 0, 1) := by decide +kernel
theorem dX10_noTests_7 : decode cX10_noTests 7 = .ok (.putfield 204, 3) := by decide +kernel
theorem dX10_noTests_10 : decode cX10_noTests 10 = .ok (.iload_n 1, 1) := by decide +kernel
theorem dX10_noTests_11 : decode cX10_noTests 11 = .ok (.ireturn, 1) := by decide +kernel
theorem dX10_explains_0 : decode cX10_explains 0 = .ok (.iconst 1, 1) := by decide +kernel
theorem dX10_explains_1 : decode cX10_explains 1 = .ok (.istore_n 2, 1) := by decide +kernel
theorem dX10_explains_2 : decode cX10_explains 2 = .ok (.iconst 0, 1) := by decide +kernel
theorem dX10_explains_3 : decode cX10_explains 3 = .ok (.istore_n 3, 1) := by decide +kernel
theorem dX10_explains_4 : decode cX10_explains 4 = .ok (.iload_n 3, 1) := by decide +kernel
theorem dX10_explains_5 : decode cX10_explains 5 = .ok (.aload_n 0, 1) := by decide +kernel
theorem dX10_explains_6 : decode cX10_explains 6 = .ok (.getfield 204, 3) := by decide +kernel
theorem dX10_explains_9 : decode cX10_explains 9 = .ok (.if_icmp .ge 54, 3) := by decide +kernel
theorem dX10_explains_12 : decode cX10_explains 12 = .ok (.iload_n 2, 1) := by decide +kernel
theorem dX10_explains_13 : decode cX10_explains 13 = .ok (.ifCond .eq 42, 3) := by decide +kernel
theorem dX10_explains_16 : decode cX10_explains 16 = .ok (.aload_n 0, 1) := by decide +kernel
theorem dX10_explains_17 : decode cX10_explains 17 = .ok (.getfield 79, 3) := by decide +kernel
theorem dX10_explains_20 : decode cX10_explains 20 = .ok (.iload_n 3, 1) := by decide +kernel
theorem dX10_explains_21 : decode cX10_explains 21 = .ok (.iaload, 1) := by decide +kernel
theorem dX10_explains_22 : decode cX10_explains 22 = .ok (.ifCond .lt 29, 3) := by decide +kernel
theorem dX10_explains_25 : decode cX10_explains 25 = .ok (.aload_n 0, 1) := by decide +kernel
theorem dX10_explains_26 : decode cX10_explains 26 = .ok (.aload_n 0, 1) := by decide +kernel
theorem dX10_explains_27 : decode cX10_explains 27 = .ok (.getfield 73, 3) := by decide +kernel
theorem dX10_explains_30 : decode cX10_explains 30 = .ok (.iload_n 3, 1) := by decide +kernel
theorem dX10_explains_31 : decode cX10_explains 31 = .ok (.iaload, 1) := by decide +kernel
theorem dX10_explains_32 : decode cX10_explains 32 = .ok (.aload_n 0, 1) := by decide +kernel
theorem dX10_explains_33 : decode cX10_explains 33 = .ok (.getfield 76, 3) := by decide +kernel
theorem dX10_explains_36 : decode cX10_explains 36 = .ok (.iload_n 3, 1) := by decide +kernel
theorem dX10_explains_37 : decode cX10_explains 37 = .ok (.iaload, 1) := by decide +kernel
theorem dX10_explains_38 : decode cX10_explains 38 = .ok (.iload_n 1, 1) := by decide +kernel
theorem dX10_explains_39 : decode cX10_explains 39 = .ok (.invokevirtual 132, 3) := by decide +kernel
theorem dX10_explains_42 : decode cX10_explains 42 = .ok (.aload_n 0, 1) := by decide +kernel
theorem dX10_explains_43 : decode cX10_explains 43 = .ok (.getfield 79, 3) := by decide +kernel
theorem dX10_explains_46 : decode cX10_explains 46 = .ok (.iload_n 3, 1) := by decide +kernel
theorem dX10_explains_47 : decode cX10_explains 47 = .ok (.iaload, 1) := by decide +kernel
theorem dX10_explains_48 : decode cX10_explains 48 = .ok (.if_icmp .ne 7, 3) := by decide +kernel
theorem dX10_explains_51 : decode cX10_explains 51 = .ok (.iconst 1, 1) := by decide +kernel
theorem dX10_explains_52 : decode cX10_explains 52 = .ok (.goto 4, 3) := by decide +kernel
theorem dX10_explains_55 : decode cX10_explains 55 = .ok (.iconst 0, 1) := by decide +kernel
theorem dX10_explains_56 : decode cX10_explains 56 = .ok (.istore_n 2, 1) := by decide +kernel
theorem dX10_explains_57 : decode cX10_explains 57 = .ok (.iinc 3 1, 3) := by decide +kernel
theorem dX10_explains_60 : decode cX10_explains 60 = .ok (.goto (-56), 3) := by decide +kernel
theorem dX10_explains_63 : decode cX10_explains 63 = .ok (.iload_n 2, 1) := by decide +kernel
theorem dX10_explains_64 : decode cX10_explains 64 = .ok (.ireturn, 1) := by decide +kernel
theorem dX10_fault_0 : decode cX10_fault 0 = .ok (.iload_n 1, 1) := by decide +kernel
theorem dX10_fault_1 : decode cX10_fault 1 = .ok (.iconst (-1), 1) := by decide +kernel
theorem dX10_fault_2 : decode cX10_fault 2 = .ok (.if_icmp .ge 5, 3) := by decide +kernel
theorem dX10_fault_5 : decode cX10_fault 5 = .ok (.iconst (-1), 1) := by decide +kernel
theorem dX10_fault_6 : decode cX10_fault 6 = .ok (.ireturn, 1) := by decide +kernel
theorem dX10_fault_7 : decode cX10_fault 7 = .ok (.iconst 0, 1) := by decide +kernel
theorem dX10_fault_8 : decode cX10_fault 8 = .ok (.istore_n 2, 1) := by decide +kernel
theorem dX10_fault_9 : decode cX10_fault 9 = .ok (.iconst 0, 1) := by decide +kernel
theorem dX10_fault_10 : decode cX10_fault 10 = .ok (.istore_n 3, 1) := by decide +kernel
theorem dX10_fault_11 : decode cX10_fault 11 = .ok (.iload_n 3, 1) := by decide +kernel
theorem dX10_fault_12 : decode cX10_fault 12 = .ok (.sipush 168, 3) := by decide +kernel
theorem dX10_fault_15 : decode cX10_fault 15 = .ok (.if_icmp .ge 27, 3) := by decide +kernel
theorem dX10_fault_18 : decode cX10_fault 18 = .ok (.aload_n 0, 1) := by decide +kernel
theorem dX10_fault_19 : decode cX10_fault 19 = .ok (.iload_n 3, 1) := by decide +kernel
theorem dX10_fault_20 : decode cX10_fault 20 = .ok (.invokevirtual 207, 3) := by decide +kernel
theorem dX10_fault_23 : decode cX10_fault 23 = .ok (.ifCond .eq 13, 3) := by decide +kernel
theorem dX10_fault_26 : decode cX10_fault 26 = .ok (.iload_n 2, 1) := by decide +kernel
theorem dX10_fault_27 : decode cX10_fault 27 = .ok (.iload_n 1, 1) := by decide +kernel
theorem dX10_fault_28 : decode cX10_fault 28 = .ok (.if_icmp .ne 5, 3) := by decide +kernel
theorem dX10_fault_31 : decode cX10_fault 31 = .ok (.iload_n 3, 1) := by decide +kernel
theorem dX10_fault_32 : decode cX10_fault 32 = .ok (.ireturn, 1) := by decide +kernel
theorem dX10_fault_33 : decode cX10_fault 33 = .ok (.iinc 2 1, 3) := by decide +kernel
theorem dX10_fault_36 : decode cX10_fault 36 = .ok (.iinc 3 1, 3) := by decide +kernel
theorem dX10_fault_39 : decode cX10_fault 39 = .ok (.goto (-28), 3) := by decide +kernel
theorem dX10_fault_42 : decode cX10_fault 42 = .ok (.iload_n 1, 1) := by decide +kernel
theorem dX10_fault_43 : decode cX10_fault 43 = .ok (.ifCond .ge 7, 3) := by decide +kernel
theorem dX10_fault_46 : decode cX10_fault 46 = .ok (.iload_n 2, 1) := by decide +kernel
theorem dX10_fault_47 : decode cX10_fault 47 = .ok (.goto 5, 3) := by decide +kernel
theorem dX10_fault_50 : decode cX10_fault 50 = .ok (.bipush (-4), 2) := by decide +kernel
theorem dX10_fault_52 : decode cX10_fault 52 = .ok (.ireturn, 1) := by decide +kernel
theorem dX10_nextTest_0 : decode cX10_nextTest 0 = .ok (.aload_n 0, 1) := by decide +kernel
theorem dX10_nextTest_1 : decode cX10_nextTest 1 = .ok (.iconst (-1), 1) := by decide +kernel
theorem dX10_nextTest_2 : decode cX10_nextTest 2 = .ok (.invokevirtual 210, 3) := by decide +kernel
theorem dX10_nextTest_5 : decode cX10_nextTest 5 = .ok (.iconst 2, 1) := by decide +kernel
theorem dX10_nextTest_6 : decode cX10_nextTest 6 = .ok (.if_icmp .ge 6, 3) := by decide +kernel
theorem dX10_nextTest_9 : decode cX10_nextTest 9 = .ok (.bipush (-4), 2) := by decide +kernel
theorem dX10_nextTest_11 : decode cX10_nextTest 11 = .ok (.ireturn, 1) := by decide +kernel
theorem dX10_nextTest_12 : decode cX10_nextTest 12 = .ok (.bipush (-4), 2) := by decide +kernel
theorem dX10_nextTest_14 : decode cX10_nextTest 14 = .ok (.istore_n 1, 1) := by decide +kernel
theorem dX10_nextTest_15 : decode cX10_nextTest 15 = .ok (.sipush 9999, 3) := by decide +kernel
theorem dX10_nextTest_18 : decode cX10_nextTest 18 = .ok (.istore_n 2, 1) := by decide +kernel
theorem dX10_nextTest_19 : decode cX10_nextTest 19 = .ok (.iconst 0, 1) := by decide +kernel
theorem dX10_nextTest_20 : decode cX10_nextTest 20 = .ok (.istore_n 3, 1) := by decide +kernel
theorem dX10_nextTest_21 : decode cX10_nextTest 21 = .ok (.iload_n 3, 1) := by decide +kernel
theorem dX10_nextTest_22 : decode cX10_nextTest 22 = .ok (.aload_n 0, 1) := by decide +kernel
theorem dX10_nextTest_23 : decode cX10_nextTest 23 = .ok (.getfield 91, 3) := by decide +kernel
theorem dX10_nextTest_26 : decode cX10_nextTest 26 = .ok (.if_icmp .ge 165, 3) := by decide +kernel
theorem dX10_nextTest_29 : decode cX10_nextTest 29 = .ok (.iconst 0, 1) := by decide +kernel
theorem dX10_nextTest_30 : decode cX10_nextTest 30 = .ok (.istore 4, 2) := by decide +kernel
theorem dX10_nextTest_32 : decode cX10_nextTest 32 = .ok (.iconst 0, 1) := by decide +kernel
theorem dX10_nextTest_33 : decode cX10_nextTest 33 = .ok (.istore 5, 2) := by decide +kernel
theorem dX10_nextTest_35 : decode cX10_nextTest 35 = .ok (.iconst 0, 1) := by decide +kernel
theorem dX10_nextTest_36 : decode cX10_nextTest 36 = .ok (.istore 6, 2) := by decide +kernel
theorem dX10_nextTest_38 : decode cX10_nextTest 38 = .ok (.iconst 0, 1) := by decide +kernel
theorem dX10_nextTest_39 : decode cX10_nextTest 39 = .ok (.istore 7, 2) := by decide +kernel
theorem dX10_nextTest_41 : decode cX10_nextTest 41 = .ok (.iload 7, 2) := by decide +kernel
theorem dX10_nextTest_43 : decode cX10_nextTest 43 = .ok (.sipush 168, 3) := by decide +kernel
theorem dX10_nextTest_46 : decode cX10_nextTest 46 = .ok (.if_icmp .ge 82, 3) := by decide +kernel
theorem dX10_nextTest_49 : decode cX10_nextTest 49 = .ok (.aload_n 0, 1) := by decide +kernel
theorem dX10_nextTest_50 : decode cX10_nextTest 50 = .ok (.iload 7, 2) := by decide +kernel
theorem dX10_nextTest_52 : decode cX10_nextTest 52 = .ok (.invokevirtual 207, 3) := by decide +kernel
theorem dX10_nextTest_55 : decode cX10_nextTest 55 = .ok (.ifCond .eq 17, 3) := by decide +kernel
theorem dX10_nextTest_58 : decode cX10_nextTest 58 = .ok (.aload_n 0, 1) := by decide +kernel
theorem dX10_nextTest_59 : decode cX10_nextTest 59 = .ok (.iload_n 3, 1) := by decide +kernel
theorem dX10_nextTest_60 : decode cX10_nextTest 60 = .ok (.aload_n 0, 1) := by decide +kernel
theorem dX10_nextTest_61 : decode cX10_nextTest 61 = .ok (.getfield 99, 3) := by decide +kernel
theorem dX10_nextTest_64 : decode cX10_nextTest 64 = .ok (.iload 7, 2) := by decide +kernel
theorem dX10_nextTest_66 : decode cX10_nextTest 66 = .ok (.invokevirtual 132, 3) := by decide +kernel
theorem dX10_nextTest_69 : decode cX10_nextTest 69 = .ok (.goto 4, 3) := by decide +kernel
theorem dX10_nextTest_72 : decode cX10_nextTest 72 = .ok (.iconst (-1), 1) := by decide +kernel
theorem dX10_nextTest_73 : decode cX10_nextTest 73 = .ok (.istore 8, 2) := by decide +kernel
theorem dX10_nextTest_75 : decode cX10_nextTest 75 = .ok (.iload 4, 2) := by decide +kernel
theorem dX10_nextTest_77 : decode cX10_nextTest 77 = .ok (.iload 8, 2) := by decide +kernel
theorem dX10_nextTest_79 : decode cX10_nextTest 79 = .ok (.ifCond .ne 7, 3) := by decide +kernel
theorem dX10_nextTest_82 : decode cX10_nextTest 82 = .ok (.iconst 1, 1) := by decide +kernel
theorem dX10_nextTest_83 : decode cX10_nextTest 83 = .ok (.goto 4, 3) := by decide +kernel
theorem dX10_nextTest_86 : decode cX10_nextTest 86 = .ok (.iconst 0, 1) := by decide +kernel
theorem dX10_nextTest_87 : decode cX10_nextTest 87 = .ok (.iadd, 1) := by decide +kernel
theorem dX10_nextTest_88 : decode cX10_nextTest 88 = .ok (.istore 4, 2) := by decide +kernel
theorem dX10_nextTest_90 : decode cX10_nextTest 90 = .ok (.iload 5, 2) := by decide +kernel
theorem dX10_nextTest_92 : decode cX10_nextTest 92 = .ok (.iload 8, 2) := by decide +kernel
theorem dX10_nextTest_94 : decode cX10_nextTest 94 = .ok (.iconst 1, 1) := by decide +kernel
theorem dX10_nextTest_95 : decode cX10_nextTest 95 = .ok (.if_icmp .ne 7, 3) := by decide +kernel
theorem dX10_nextTest_98 : decode cX10_nextTest 98 = .ok (.iconst 1, 1) := by decide +kernel
theorem dX10_nextTest_99 : decode cX10_nextTest 99 = .ok (.goto 4, 3) := by decide +kernel
theorem dX10_nextTest_102 : decode cX10_nextTest 102 = .ok (.iconst 0, 1) := by decide +kernel
theorem dX10_nextTest_103 : decode cX10_nextTest 103 = .ok (.iadd, 1) := by decide +kernel
theorem dX10_nextTest_104 : decode cX10_nextTest 104 = .ok (.istore 5, 2) := by decide +kernel
theorem dX10_nextTest_106 : decode cX10_nextTest 106 = .ok (.iload 6, 2) := by decide +kernel
theorem dX10_nextTest_108 : decode cX10_nextTest 108 = .ok (.iload 8, 2) := by decide +kernel
theorem dX10_nextTest_110 : decode cX10_nextTest 110 = .ok (.iconst 2, 1) := by decide +kernel
theorem dX10_nextTest_111 : decode cX10_nextTest 111 = .ok (.if_icmp .ne 7, 3) := by decide +kernel
theorem dX10_nextTest_114 : decode cX10_nextTest 114 = .ok (.iconst 1, 1) := by decide +kernel
theorem dX10_nextTest_115 : decode cX10_nextTest 115 = .ok (.goto 4, 3) := by decide +kernel
theorem dX10_nextTest_118 : decode cX10_nextTest 118 = .ok (.iconst 0, 1) := by decide +kernel
theorem dX10_nextTest_119 : decode cX10_nextTest 119 = .ok (.iadd, 1) := by decide +kernel
theorem dX10_nextTest_120 : decode cX10_nextTest 120 = .ok (.istore 6, 2) := by decide +kernel
theorem dX10_nextTest_122 : decode cX10_nextTest 122 = .ok (.iinc 7 1, 3) := by decide +kernel
theorem dX10_nextTest_125 : decode cX10_nextTest 125 = .ok (.goto (-84), 3) := by decide +kernel
theorem dX10_nextTest_128 : decode cX10_nextTest 128 = .ok (.iload 4, 2) := by decide +kernel
theorem dX10_nextTest_130 : decode cX10_nextTest 130 = .ok (.iload 5, 2) := by decide +kernel
theorem dX10_nextTest_132 : decode cX10_nextTest 132 = .ok (.if_icmp .le 8, 3) := by decide +kernel
theorem dX10_nextTest_135 : decode cX10_nextTest 135 = .ok (.iload 4, 2) := by decide +kernel
theorem dX10_nextTest_137 : decode cX10_nextTest 137 = .ok (.goto 5, 3) := by decide +kernel
theorem dX10_nextTest_140 : decode cX10_nextTest 140 = .ok (.iload 5, 2) := by decide +kernel
theorem dX10_nextTest_142 : decode cX10_nextTest 142 = .ok (.istore 7, 2) := by decide +kernel
theorem dX10_nextTest_144 : decode cX10_nextTest 144 = .ok (.iload 6, 2) := by decide +kernel
theorem dX10_nextTest_146 : decode cX10_nextTest 146 = .ok (.iload 7, 2) := by decide +kernel
theorem dX10_nextTest_148 : decode cX10_nextTest 148 = .ok (.if_icmp .le 8, 3) := by decide +kernel
theorem dX10_nextTest_151 : decode cX10_nextTest 151 = .ok (.iload 6, 2) := by decide +kernel
theorem dX10_nextTest_153 : decode cX10_nextTest 153 = .ok (.goto 5, 3) := by decide +kernel
theorem dX10_nextTest_156 : decode cX10_nextTest 156 = .ok (.iload 7, 2) := by decide +kernel
theorem dX10_nextTest_158 : decode cX10_nextTest 158 = .ok (.istore 7, 2) := by decide +kernel
theorem dX10_nextTest_160 : decode cX10_nextTest 160 = .ok (.iload 7, 2) := by decide +kernel
theorem dX10_nextTest_162 : decode cX10_nextTest 162 = .ok (.iload_n 2, 1) := by decide +kernel
theorem dX10_nextTest_163 : decode cX10_nextTest 163 = .ok (.if_icmp .ge 7, 3) := by decide +kernel
theorem dX10_nextTest_166 : decode cX10_nextTest 166 = .ok (.iload_n 3, 1) := by decide +kernel
theorem dX10_nextTest_167 : decode cX10_nextTest 167 = .ok (.goto 4, 3) := by decide +kernel
theorem dX10_nextTest_170 : decode cX10_nextTest 170 = .ok (.iload_n 1, 1) := by decide +kernel
theorem dX10_nextTest_171 : decode cX10_nextTest 171 = .ok (.istore_n 1, 1) := by decide +kernel
theorem dX10_nextTest_172 : decode cX10_nextTest 172 = .ok (.iload 7, 2) := by decide +kernel
theorem dX10_nextTest_174 : decode cX10_nextTest 174 = .ok (.iload_n 2, 1) := by decide +kernel
theorem dX10_nextTest_175 : decode cX10_nextTest 175 = .ok (.if_icmp .ge 8, 3) := by decide +kernel
theorem dX10_nextTest_178 : decode cX10_nextTest 178 = .ok (.iload 7, 2) := by decide +kernel
theorem dX10_nextTest_180 : decode cX10_nextTest 180 = .ok (.goto 4, 3) := by decide +kernel
theorem dX10_nextTest_183 : decode cX10_nextTest 183 = .ok (.iload_n 2, 1) := by decide +kernel
theorem dX10_nextTest_184 : decode cX10_nextTest 184 = .ok (.istore_n 2, 1) := by decide +kernel
theorem dX10_nextTest_185 : decode cX10_nextTest 185 = .ok (.iinc 3 1, 3) := by decide +kernel
theorem dX10_nextTest_188 : decode cX10_nextTest 188 = .ok (.goto (-167), 3) := by decide +kernel
theorem dX10_nextTest_191 : decode cX10_nextTest 191 = .ok (.iload_n 1, 1) := by decide +kernel
theorem dX10_nextTest_192 : decode cX10_nextTest 192 = .ok (.ireturn, 1) := by decide +kernel
theorem dX10_edge_0 : decode cX10_edge 0 = .ok (.iload_n 0, 1) := by decide +kernel
theorem dX10_edge_1 : decode cX10_edge 1 = .ok (.iload_n 1, 1) := by decide +kernel
theorem dX10_edge_2 : decode cX10_edge 2 = .ok (.if_icmp .ge 7, 3) := by decide +kernel
theorem dX10_edge_5 : decode cX10_edge 5 = .ok (.iload_n 0, 1) := by decide +kernel
theorem dX10_edge_6 : decode cX10_edge 6 = .ok (.goto 4, 3) := by decide +kernel
theorem dX10_edge_9 : decode cX10_edge 9 = .ok (.iload_n 1, 1) := by decide +kernel
theorem dX10_edge_10 : decode cX10_edge 10 = .ok (.istore_n 2, 1) := by decide +kernel
theorem dX10_edge_11 : decode cX10_edge 11 = .ok (.iload_n 0, 1) := by decide +kernel
theorem dX10_edge_12 : decode cX10_edge 12 = .ok (.iload_n 1, 1) := by decide +kernel
theorem dX10_edge_13 : decode cX10_edge 13 = .ok (.if_icmp .ge 7, 3) := by decide +kernel
theorem dX10_edge_16 : decode cX10_edge 16 = .ok (.iload_n 1, 1) := by decide +kernel
theorem dX10_edge_17 : decode cX10_edge 17 = .ok (.goto 4, 3) := by decide +kernel
theorem dX10_edge_20 : decode cX10_edge 20 = .ok (.iload_n 0, 1) := by decide +kernel
theorem dX10_edge_21 : decode cX10_edge 21 = .ok (.istore_n 3, 1) := by decide +kernel
theorem dX10_edge_22 : decode cX10_edge 22 = .ok (.iload_n 3, 1) := by decide +kernel
theorem dX10_edge_23 : decode cX10_edge 23 = .ok (.iload_n 2, 1) := by decide +kernel
theorem dX10_edge_24 : decode cX10_edge 24 = .ok (.isub, 1) := by decide +kernel
theorem dX10_edge_25 : decode cX10_edge 25 = .ok (.bipush 6, 2) := by decide +kernel
theorem dX10_edge_27 : decode cX10_edge 27 = .ok (.if_icmp .ne 8, 3) := by decide +kernel
theorem dX10_edge_30 : decode cX10_edge 30 = .ok (.bipush 24, 2) := by decide +kernel
theorem dX10_edge_32 : decode cX10_edge 32 = .ok (.iload_n 2, 1) := by decide +kernel
theorem dX10_edge_33 : decode cX10_edge 33 = .ok (.iadd, 1) := by decide +kernel
theorem dX10_edge_34 : decode cX10_edge 34 = .ok (.ireturn, 1) := by decide +kernel
theorem dX10_edge_35 : decode cX10_edge 35 = .ok (.iload_n 3, 1) := by decide +kernel
theorem dX10_edge_36 : decode cX10_edge 36 = .ok (.iload_n 2, 1) := by decide +kernel
theorem dX10_edge_37 : decode cX10_edge 37 = .ok (.isub, 1) := by decide +kernel
theorem dX10_edge_38 : decode cX10_edge 38 = .ok (.iconst 1, 1) := by decide +kernel
theorem dX10_edge_39 : decode cX10_edge 39 = .ok (.if_icmp .ne 15, 3) := by decide +kernel
theorem dX10_edge_42 : decode cX10_edge 42 = .ok (.iload_n 2, 1) := by decide +kernel
theorem dX10_edge_43 : decode cX10_edge 43 = .ok (.bipush 6, 2) := by decide +kernel
theorem dX10_edge_45 : decode cX10_edge 45 = .ok (.irem, 1) := by decide +kernel
theorem dX10_edge_46 : decode cX10_edge 46 = .ok (.iconst 5, 1) := by decide +kernel
theorem dX10_edge_47 : decode cX10_edge 47 = .ok (.if_icmp .ge 7, 3) := by decide +kernel
theorem dX10_edge_50 : decode cX10_edge 50 = .ok (.iload_n 2, 1) := by decide +kernel
theorem dX10_edge_51 : decode cX10_edge 51 = .ok (.goto 4, 3) := by decide +kernel
theorem dX10_edge_54 : decode cX10_edge 54 = .ok (.iconst (-1), 1) := by decide +kernel
theorem dX10_edge_55 : decode cX10_edge 55 = .ok (.ireturn, 1) := by decide +kernel
theorem dX10_frame_0 : decode cX10_frame 0 = .ok (.iload_n 1, 1) := by decide +kernel
theorem dX10_frame_1 : decode cX10_frame 1 = .ok (.iconst 0, 1) := by decide +kernel
theorem dX10_frame_2 : decode cX10_frame 2 = .ok (.bipush 23, 2) := by decide +kernel
theorem dX10_frame_4 : decode cX10_frame 4 = .ok (.invokestatic 95, 3) := by decide +kernel
theorem dX10_frame_7 : decode cX10_frame 7 = .ok (.ifCond .eq 30, 3) := by decide +kernel
theorem dX10_frame_10 : decode cX10_frame 10 = .ok (.iload_n 2, 1) := by decide +kernel
theorem dX10_frame_11 : decode cX10_frame 11 = .ok (.iconst 0, 1) := by decide +kernel
theorem dX10_frame_12 : decode cX10_frame 12 = .ok (.bipush 23, 2) := by decide +kernel
theorem dX10_frame_14 : decode cX10_frame 14 = .ok (.invokestatic 95, 3) := by decide +kernel
theorem dX10_frame_17 : decode cX10_frame 17 = .ok (.ifCond .eq 20, 3) := by decide +kernel
theorem dX10_frame_20 : decode cX10_frame 20 = .ok (.iload_n 1, 1) := by decide +kernel
theorem dX10_frame_21 : decode cX10_frame 21 = .ok (.iload_n 2, 1) := by decide +kernel
theorem dX10_frame_22 : decode cX10_frame 22 = .ok (.invokestatic 213, 3) := by decide +kernel
theorem dX10_frame_25 : decode cX10_frame 25 = .ok (.ifCond .lt 12, 3) := by decide +kernel
theorem dX10_frame_28 : decode cX10_frame 28 = .ok (.iload_n 3, 1) := by decide +kernel
theorem dX10_frame_29 : decode cX10_frame 29 = .ok (.iconst 0, 1) := by decide +kernel
theorem dX10_frame_30 : decode cX10_frame 30 = .ok (.iconst 2, 1) := by decide +kernel
theorem dX10_frame_31 : decode cX10_frame 31 = .ok (.invokestatic 95, 3) := by decide +kernel
theorem dX10_frame_34 : decode cX10_frame 34 = .ok (.ifCond .ne 5, 3) := by decide +kernel
theorem dX10_frame_37 : decode cX10_frame 37 = .ok (.iconst (-1), 1) := by decide +kernel
theorem dX10_frame_38 : decode cX10_frame 38 = .ok (.ireturn, 1) := by decide +kernel
theorem dX10_frame_39 : decode cX10_frame 39 = .ok (.aload_n 0, 1) := by decide +kernel
theorem dX10_frame_40 : decode cX10_frame 40 = .ok (.getfield 82, 3) := by decide +kernel
theorem dX10_frame_43 : decode cX10_frame 43 = .ok (.iload_n 1, 1) := by decide +kernel
theorem dX10_frame_44 : decode cX10_frame 44 = .ok (.iload_n 2, 1) := by decide +kernel
theorem dX10_frame_45 : decode cX10_frame 45 = .ok (.invokestatic 213, 3) := by decide +kernel
theorem dX10_frame_48 : decode cX10_frame 48 = .ok (.iaload, 1) := by decide +kernel
theorem dX10_frame_49 : decode cX10_frame 49 = .ok (.istore 4, 2) := by decide +kernel
theorem dX10_frame_51 : decode cX10_frame 51 = .ok (.aload_n 0, 1) := by decide +kernel
theorem dX10_frame_52 : decode cX10_frame 52 = .ok (.getfield 82, 3) := by decide +kernel
theorem dX10_frame_55 : decode cX10_frame 55 = .ok (.iload_n 1, 1) := by decide +kernel
theorem dX10_frame_56 : decode cX10_frame 56 = .ok (.iload_n 2, 1) := by decide +kernel
theorem dX10_frame_57 : decode cX10_frame 57 = .ok (.invokestatic 213, 3) := by decide +kernel
theorem dX10_frame_60 : decode cX10_frame 60 = .ok (.iload_n 3, 1) := by decide +kernel
theorem dX10_frame_61 : decode cX10_frame 61 = .ok (.iastore, 1) := by decide +kernel
theorem dX10_frame_62 : decode cX10_frame 62 = .ok (.iload 4, 2) := by decide +kernel
theorem dX10_frame_64 : decode cX10_frame 64 = .ok (.ireturn, 1) := by decide +kernel
theorem dX10_spreads_0 : decode cX10_spreads 0 = .ok (.iconst 1, 1) := by decide +kernel
theorem dX10_spreads_1 : decode cX10_spreads 1 = .ok (.istore_n 2, 1) := by decide +kernel
theorem dX10_spreads_2 : decode cX10_spreads 2 = .ok (.iload_n 2, 1) := by decide +kernel
theorem dX10_spreads_3 : decode cX10_spreads 3 = .ok (.ifCond .eq 125, 3) := by decide +kernel
theorem dX10_spreads_6 : decode cX10_spreads 6 = .ok (.iconst 0, 1) := by decide +kernel
theorem dX10_spreads_7 : decode cX10_spreads 7 = .ok (.istore_n 2, 1) := by decide +kernel
theorem dX10_spreads_8 : decode cX10_spreads 8 = .ok (.iconst 0, 1) := by decide +kernel
theorem dX10_spreads_9 : decode cX10_spreads 9 = .ok (.istore_n 3, 1) := by decide +kernel
theorem dX10_spreads_10 : decode cX10_spreads 10 = .ok (.iload_n 3, 1) := by decide +kernel
theorem dX10_spreads_11 : decode cX10_spreads 11 = .ok (.bipush 24, 2) := by decide +kernel
theorem dX10_spreads_13 : decode cX10_spreads 13 = .ok (.if_icmp .ge 112, 3) := by decide +kernel
theorem dX10_spreads_16 : decode cX10_spreads 16 = .ok (.iconst 0, 1) := by decide +kernel
theorem dX10_spreads_17 : decode cX10_spreads 17 = .ok (.istore 4, 2) := by decide +kernel
theorem dX10_spreads_19 : decode cX10_spreads 19 = .ok (.iload 4, 2) := by decide +kernel
theorem dX10_spreads_21 : decode cX10_spreads 21 = .ok (.bipush 24, 2) := by decide +kernel
theorem dX10_spreads_23 : decode cX10_spreads 23 = .ok (.if_icmp .ge 96, 3) := by decide +kernel
theorem dX10_spreads_26 : decode cX10_spreads 26 = .ok (.iload_n 3, 1) := by decide +kernel
theorem dX10_spreads_27 : decode cX10_spreads 27 = .ok (.iload 4, 2) := by decide +kernel
theorem dX10_spreads_29 : decode cX10_spreads 29 = .ok (.invokestatic 213, 3) := by decide +kernel
theorem dX10_spreads_32 : decode cX10_spreads 32 = .ok (.istore 5, 2) := by decide +kernel
theorem dX10_spreads_34 : decode cX10_spreads 34 = .ok (.iload 5, 2) := by decide +kernel
theorem dX10_spreads_36 : decode cX10_spreads 36 = .ok (.ifCond .lt 77, 3) := by decide +kernel
theorem dX10_spreads_39 : decode cX10_spreads 39 = .ok (.aload_n 0, 1) := by decide +kernel
theorem dX10_spreads_40 : decode cX10_spreads 40 = .ok (.getfield 82, 3) := by decide +kernel
theorem dX10_spreads_43 : decode cX10_spreads 43 = .ok (.iload 5, 2) := by decide +kernel
theorem dX10_spreads_45 : decode cX10_spreads 45 = .ok (.iaload, 1) := by decide +kernel
theorem dX10_spreads_46 : decode cX10_spreads 46 = .ok (.iconst 1, 1) := by decide +kernel
theorem dX10_spreads_47 : decode cX10_spreads 47 = .ok (.if_icmp .eq 66, 3) := by decide +kernel
theorem dX10_spreads_50 : decode cX10_spreads 50 = .ok (.aload_n 0, 1) := by decide +kernel
theorem dX10_spreads_51 : decode cX10_spreads 51 = .ok (.getfield 88, 3) := by decide +kernel
theorem dX10_spreads_54 : decode cX10_spreads 54 = .ok (.bipush 24, 2) := by decide +kernel
theorem dX10_spreads_56 : decode cX10_spreads 56 = .ok (.iload_n 1, 1) := by decide +kernel
theorem dX10_spreads_57 : decode cX10_spreads 57 = .ok (.imul, 1) := by decide +kernel
theorem dX10_spreads_58 : decode cX10_spreads 58 = .ok (.iload_n 3, 1) := by decide +kernel
theorem dX10_spreads_59 : decode cX10_spreads 59 = .ok (.iadd, 1) := by decide +kernel
theorem dX10_spreads_60 : decode cX10_spreads 60 = .ok (.iaload, 1) := by decide +kernel
theorem dX10_spreads_61 : decode cX10_spreads 61 = .ok (.aload_n 0, 1) := by decide +kernel
theorem dX10_spreads_62 : decode cX10_spreads 62 = .ok (.getfield 82, 3) := by decide +kernel
theorem dX10_spreads_65 : decode cX10_spreads 65 = .ok (.iload 5, 2) := by decide +kernel
theorem dX10_spreads_67 : decode cX10_spreads 67 = .ok (.iaload, 1) := by decide +kernel
theorem dX10_spreads_68 : decode cX10_spreads 68 = .ok (.iconst 2, 1) := by decide +kernel
theorem dX10_spreads_69 : decode cX10_spreads 69 = .ok (.if_icmp .ne 7, 3) := by decide +kernel
theorem dX10_spreads_72 : decode cX10_spreads 72 = .ok (.iconst 0, 1) := by decide +kernel
theorem dX10_spreads_73 : decode cX10_spreads 73 = .ok (.goto 4, 3) := by decide +kernel
theorem dX10_spreads_76 : decode cX10_spreads 76 = .ok (.iconst 1, 1) := by decide +kernel
theorem dX10_spreads_77 : decode cX10_spreads 77 = .ok (.iadd, 1) := by decide +kernel
theorem dX10_spreads_78 : decode cX10_spreads 78 = .ok (.istore 6, 2) := by decide +kernel
theorem dX10_spreads_80 : decode cX10_spreads 80 = .ok (.iload 6, 2) := by decide +kernel
theorem dX10_spreads_82 : decode cX10_spreads 82 = .ok (.aload_n 0, 1) := by decide +kernel
theorem dX10_spreads_83 : decode cX10_spreads 83 = .ok (.getfield 88, 3) := by decide +kernel
theorem dX10_spreads_86 : decode cX10_spreads 86 = .ok (.bipush 24, 2) := by decide +kernel
theorem dX10_spreads_88 : decode cX10_spreads 88 = .ok (.iload_n 1, 1) := by decide +kernel
theorem dX10_spreads_89 : decode cX10_spreads 89 = .ok (.imul, 1) := by decide +kernel
theorem dX10_spreads_90 : decode cX10_spreads 90 = .ok (.iload 4, 2) := by decide +kernel
theorem dX10_spreads_92 : decode cX10_spreads 92 = .ok (.iadd, 1) := by decide +kernel
theorem dX10_spreads_93 : decode cX10_spreads 93 = .ok (.iaload, 1) := by decide +kernel
theorem dX10_spreads_94 : decode cX10_spreads 94 = .ok (.if_icmp .ge 19, 3) := by decide +kernel
theorem dX10_spreads_97 : decode cX10_spreads 97 = .ok (.aload_n 0, 1) := by decide +kernel
theorem dX10_spreads_98 : decode cX10_spreads 98 = .ok (.getfield 88, 3) := by decide +kernel
theorem dX10_spreads_101 : decode cX10_spreads 101 = .ok (.bipush 24, 2) := by decide +kernel
theorem dX10_spreads_103 : decode cX10_spreads 103 = .ok (.iload_n 1, 1) := by decide +kernel
theorem dX10_spreads_104 : decode cX10_spreads 104 = .ok (.imul, 1) := by decide +kernel
theorem dX10_spreads_105 : decode cX10_spreads 105 = .ok (.iload 4, 2) := by decide +kernel
theorem dX10_spreads_107 : decode cX10_spreads 107 = .ok (.iadd, 1) := by decide +kernel
theorem dX10_spreads_108 : decode cX10_spreads 108 = .ok (.iload 6, 2) := by decide +kernel
theorem dX10_spreads_110 : decode cX10_spreads 110 = .ok (.iastore, 1) := by decide +kernel
theorem dX10_spreads_111 : decode cX10_spreads 111 = .ok (.iconst 1, 1) := by decide +kernel
theorem dX10_spreads_112 : decode cX10_spreads 112 = .ok (.istore_n 2, 1) := by decide +kernel
theorem dX10_spreads_113 : decode cX10_spreads 113 = .ok (.iinc 4 1, 3) := by decide +kernel
theorem dX10_spreads_116 : decode cX10_spreads 116 = .ok (.goto (-97), 3) := by decide +kernel
theorem dX10_spreads_119 : decode cX10_spreads 119 = .ok (.iinc 3 1, 3) := by decide +kernel
theorem dX10_spreads_122 : decode cX10_spreads 122 = .ok (.goto (-112), 3) := by decide +kernel
theorem dX10_spreads_125 : decode cX10_spreads 125 = .ok (.goto (-123), 3) := by decide +kernel
theorem dX10_spreads_128 : decode cX10_spreads 128 = .ok (.return_, 1) := by decide +kernel
theorem dX10_wires_0 : decode cX10_wires 0 = .ok (.iload_n 1, 1) := by decide +kernel
theorem dX10_wires_1 : decode cX10_wires 1 = .ok (.iconst 1, 1) := by decide +kernel
theorem dX10_wires_2 : decode cX10_wires 2 = .ok (.ldc 216, 2) := by decide +kernel
theorem dX10_wires_4 : decode cX10_wires 4 = .ok (.invokestatic 95, 3) := by decide +kernel
theorem dX10_wires_7 : decode cX10_wires 7 = .ok (.ifCond .eq 11, 3) := by decide +kernel
theorem dX10_wires_10 : decode cX10_wires 10 = .ok (.iload_n 1, 1) := by decide +kernel
theorem dX10_wires_11 : decode cX10_wires 11 = .ok (.invokestatic 103, 3) := by decide +kernel
theorem dX10_wires_14 : decode cX10_wires 14 = .ok (.iconst 5, 1) := by decide +kernel
theorem dX10_wires_15 : decode cX10_wires 15 = .ok (.if_icmp .le 5, 3) := by decide +kernel
theorem dX10_wires_18 : decode cX10_wires 18 = .ok (.iconst (-1), 1) := by decide +kernel
theorem dX10_wires_19 : decode cX10_wires 19 = .ok (.ireturn, 1) := by decide +kernel
theorem dX10_wires_20 : decode cX10_wires 20 = .ok (.iload_n 1, 1) := by decide +kernel
theorem dX10_wires_21 : decode cX10_wires 21 = .ok (.invokestatic 103, 3) := by decide +kernel
theorem dX10_wires_24 : decode cX10_wires 24 = .ok (.istore_n 2, 1) := by decide +kernel
theorem dX10_wires_25 : decode cX10_wires 25 = .ok (.iconst 0, 1) := by decide +kernel
theorem dX10_wires_26 : decode cX10_wires 26 = .ok (.istore_n 3, 1) := by decide +kernel
theorem dX10_wires_27 : decode cX10_wires 27 = .ok (.iload_n 3, 1) := by decide +kernel
theorem dX10_wires_28 : decode cX10_wires 28 = .ok (.sipush 768, 3) := by decide +kernel
theorem dX10_wires_31 : decode cX10_wires 31 = .ok (.if_icmp .ge 18, 3) := by decide +kernel
theorem dX10_wires_34 : decode cX10_wires 34 = .ok (.aload_n 0, 1) := by decide +kernel
theorem dX10_wires_35 : decode cX10_wires 35 = .ok (.getfield 88, 3) := by decide +kernel
theorem dX10_wires_38 : decode cX10_wires 38 = .ok (.iload_n 3, 1) := by decide +kernel
theorem dX10_wires_39 : decode cX10_wires 39 = .ok (.sipush 9999, 3) := by decide +kernel
theorem dX10_wires_42 : decode cX10_wires 42 = .ok (.iastore, 1) := by decide +kernel
theorem dX10_wires_43 : decode cX10_wires 43 = .ok (.iinc 3 1, 3) := by decide +kernel
theorem dX10_wires_46 : decode cX10_wires 46 = .ok (.goto (-19), 3) := by decide +kernel
theorem dX10_wires_49 : decode cX10_wires 49 = .ok (.iconst 0, 1) := by decide +kernel
theorem dX10_wires_50 : decode cX10_wires 50 = .ok (.istore_n 3, 1) := by decide +kernel
theorem dX10_wires_51 : decode cX10_wires 51 = .ok (.iconst 0, 1) := by decide +kernel
theorem dX10_wires_52 : decode cX10_wires 52 = .ok (.istore 4, 2) := by decide +kernel
theorem dX10_wires_54 : decode cX10_wires 54 = .ok (.iload 4, 2) := by decide +kernel
theorem dX10_wires_56 : decode cX10_wires 56 = .ok (.bipush 24, 2) := by decide +kernel
theorem dX10_wires_58 : decode cX10_wires 58 = .ok (.if_icmp .ge 37, 3) := by decide +kernel
theorem dX10_wires_61 : decode cX10_wires 61 = .ok (.iload_n 1, 1) := by decide +kernel
theorem dX10_wires_62 : decode cX10_wires 62 = .ok (.iload 4, 2) := by decide +kernel
theorem dX10_wires_64 : decode cX10_wires 64 = .ok (.ishr, 1) := by decide +kernel
theorem dX10_wires_65 : decode cX10_wires 65 = .ok (.iconst 1, 1) := by decide +kernel
theorem dX10_wires_66 : decode cX10_wires 66 = .ok (.iand, 1) := by decide +kernel
theorem dX10_wires_67 : decode cX10_wires 67 = .ok (.iconst 1, 1) := by decide +kernel
theorem dX10_wires_68 : decode cX10_wires 68 = .ok (.if_icmp .ne 21, 3) := by decide +kernel
theorem dX10_wires_71 : decode cX10_wires 71 = .ok (.aload_n 0, 1) := by decide +kernel
theorem dX10_wires_72 : decode cX10_wires 72 = .ok (.getfield 88, 3) := by decide +kernel
theorem dX10_wires_75 : decode cX10_wires 75 = .ok (.bipush 24, 2) := by decide +kernel
theorem dX10_wires_77 : decode cX10_wires 77 = .ok (.iconst 1, 1) := by decide +kernel
theorem dX10_wires_78 : decode cX10_wires 78 = .ok (.iload_n 3, 1) := by decide +kernel
theorem dX10_wires_79 : decode cX10_wires 79 = .ok (.ishl, 1) := by decide +kernel
theorem dX10_wires_80 : decode cX10_wires 80 = .ok (.imul, 1) := by decide +kernel
theorem dX10_wires_81 : decode cX10_wires 81 = .ok (.iload 4, 2) := by decide +kernel
theorem dX10_wires_83 : decode cX10_wires 83 = .ok (.iadd, 1) := by decide +kernel
theorem dX10_wires_84 : decode cX10_wires 84 = .ok (.iconst 0, 1) := by decide +kernel
theorem dX10_wires_85 : decode cX10_wires 85 = .ok (.iastore, 1) := by decide +kernel
theorem dX10_wires_86 : decode cX10_wires 86 = .ok (.iinc 3 1, 3) := by decide +kernel
theorem dX10_wires_89 : decode cX10_wires 89 = .ok (.iinc 4 1, 3) := by decide +kernel
theorem dX10_wires_92 : decode cX10_wires 92 = .ok (.goto (-38), 3) := by decide +kernel
theorem dX10_wires_95 : decode cX10_wires 95 = .ok (.iconst 1, 1) := by decide +kernel
theorem dX10_wires_96 : decode cX10_wires 96 = .ok (.istore 4, 2) := by decide +kernel
theorem dX10_wires_98 : decode cX10_wires 98 = .ok (.iload 4, 2) := by decide +kernel
theorem dX10_wires_100 : decode cX10_wires 100 = .ok (.iconst 1, 1) := by decide +kernel
theorem dX10_wires_101 : decode cX10_wires 101 = .ok (.iload_n 2, 1) := by decide +kernel
theorem dX10_wires_102 : decode cX10_wires 102 = .ok (.ishl, 1) := by decide +kernel
theorem dX10_wires_103 : decode cX10_wires 103 = .ok (.if_icmp .ge 140, 3) := by decide +kernel
theorem dX10_wires_106 : decode cX10_wires 106 = .ok (.iload 4, 2) := by decide +kernel
theorem dX10_wires_108 : decode cX10_wires 108 = .ok (.iconst 1, 1) := by decide +kernel
theorem dX10_wires_109 : decode cX10_wires 109 = .ok (.isub, 1) := by decide +kernel
theorem dX10_wires_110 : decode cX10_wires 110 = .ok (.iload 4, 2) := by decide +kernel
theorem dX10_wires_112 : decode cX10_wires 112 = .ok (.iand, 1) := by decide +kernel
theorem dX10_wires_113 : decode cX10_wires 113 = .ok (.istore 5, 2) := by decide +kernel
theorem dX10_wires_115 : decode cX10_wires 115 = .ok (.iload 5, 2) := by decide +kernel
theorem dX10_wires_117 : decode cX10_wires 117 = .ok (.ifCond .le 114, 3) := by decide +kernel
theorem dX10_wires_120 : decode cX10_wires 120 = .ok (.iconst 0, 1) := by decide +kernel
theorem dX10_wires_121 : decode cX10_wires 121 = .ok (.istore 6, 2) := by decide +kernel
theorem dX10_wires_123 : decode cX10_wires 123 = .ok (.iload 6, 2) := by decide +kernel
theorem dX10_wires_125 : decode cX10_wires 125 = .ok (.bipush 24, 2) := by decide +kernel
theorem dX10_wires_127 : decode cX10_wires 127 = .ok (.if_icmp .ge 92, 3) := by decide +kernel
theorem dX10_wires_130 : decode cX10_wires 130 = .ok (.aload_n 0, 1) := by decide +kernel
theorem dX10_wires_131 : decode cX10_wires 131 = .ok (.getfield 88, 3) := by decide +kernel
theorem dX10_wires_134 : decode cX10_wires 134 = .ok (.bipush 24, 2) := by decide +kernel
theorem dX10_wires_136 : decode cX10_wires 136 = .ok (.iload 5, 2) := by decide +kernel
theorem dX10_wires_138 : decode cX10_wires 138 = .ok (.imul, 1) := by decide +kernel
theorem dX10_wires_139 : decode cX10_wires 139 = .ok (.iload 6, 2) := by decide +kernel
theorem dX10_wires_141 : decode cX10_wires 141 = .ok (.iadd, 1) := by decide +kernel
theorem dX10_wires_142 : decode cX10_wires 142 = .ok (.iaload, 1) := by decide +kernel
theorem dX10_wires_143 : decode cX10_wires 143 = .ok (.aload_n 0, 1) := by decide +kernel
theorem dX10_wires_144 : decode cX10_wires 144 = .ok (.getfield 88, 3) := by decide +kernel
theorem dX10_wires_147 : decode cX10_wires 147 = .ok (.bipush 24, 2) := by decide +kernel
theorem dX10_wires_149 : decode cX10_wires 149 = .ok (.iload 4, 2) := by decide +kernel
theorem dX10_wires_151 : decode cX10_wires 151 = .ok (.iload 5, 2) := by decide +kernel
theorem dX10_wires_153 : decode cX10_wires 153 = .ok (.iconst (-1), 1) := by decide +kernel
theorem dX10_wires_154 : decode cX10_wires 154 = .ok (.ixor, 1) := by decide +kernel
theorem dX10_wires_155 : decode cX10_wires 155 = .ok (.iand, 1) := by decide +kernel
theorem dX10_wires_156 : decode cX10_wires 156 = .ok (.imul, 1) := by decide +kernel
theorem dX10_wires_157 : decode cX10_wires 157 = .ok (.iload 6, 2) := by decide +kernel
theorem dX10_wires_159 : decode cX10_wires 159 = .ok (.iadd, 1) := by decide +kernel
theorem dX10_wires_160 : decode cX10_wires 160 = .ok (.iaload, 1) := by decide +kernel
theorem dX10_wires_161 : decode cX10_wires 161 = .ok (.iadd, 1) := by decide +kernel
theorem dX10_wires_162 : decode cX10_wires 162 = .ok (.istore 7, 2) := by decide +kernel
theorem dX10_wires_164 : decode cX10_wires 164 = .ok (.aload_n 0, 1) := by decide +kernel
theorem dX10_wires_165 : decode cX10_wires 165 = .ok (.getfield 88, 3) := by decide +kernel
theorem dX10_wires_168 : decode cX10_wires 168 = .ok (.bipush 24, 2) := by decide +kernel
theorem dX10_wires_170 : decode cX10_wires 170 = .ok (.iload 4, 2) := by decide +kernel
theorem dX10_wires_172 : decode cX10_wires 172 = .ok (.imul, 1) := by decide +kernel
theorem dX10_wires_173 : decode cX10_wires 173 = .ok (.iload 6, 2) := by decide +kernel
theorem dX10_wires_175 : decode cX10_wires 175 = .ok (.iadd, 1) := by decide +kernel
theorem dX10_wires_176 : decode cX10_wires 176 = .ok (.iload 7, 2) := by decide +kernel
theorem dX10_wires_178 : decode cX10_wires 178 = .ok (.aload_n 0, 1) := by decide +kernel
theorem dX10_wires_179 : decode cX10_wires 179 = .ok (.getfield 88, 3) := by decide +kernel
theorem dX10_wires_182 : decode cX10_wires 182 = .ok (.bipush 24, 2) := by decide +kernel
theorem dX10_wires_184 : decode cX10_wires 184 = .ok (.iload 4, 2) := by decide +kernel
theorem dX10_wires_186 : decode cX10_wires 186 = .ok (.imul, 1) := by decide +kernel
theorem dX10_wires_187 : decode cX10_wires 187 = .ok (.iload 6, 2) := by decide +kernel
theorem dX10_wires_189 : decode cX10_wires 189 = .ok (.iadd, 1) := by decide +kernel
theorem dX10_wires_190 : decode cX10_wires 190 = .ok (.iaload, 1) := by decide +kernel
theorem dX10_wires_191 : decode cX10_wires 191 = .ok (.if_icmp .ge 8, 3) := by decide +kernel
theorem dX10_wires_194 : decode cX10_wires 194 = .ok (.iload 7, 2) := by decide +kernel
theorem dX10_wires_196 : decode cX10_wires 196 = .ok (.goto 16, 3) := by decide +kernel
theorem dX10_wires_199 : decode cX10_wires 199 = .ok (.aload_n 0, 1) := by decide +kernel
theorem dX10_wires_200 : decode cX10_wires 200 = .ok (.getfield 88, 3) := by decide +kernel
theorem dX10_wires_203 : decode cX10_wires 203 = .ok (.bipush 24, 2) := by decide +kernel
theorem dX10_wires_205 : decode cX10_wires 205 = .ok (.iload 4, 2) := by decide +kernel
theorem dX10_wires_207 : decode cX10_wires 207 = .ok (.imul, 1) := by decide +kernel
theorem dX10_wires_208 : decode cX10_wires 208 = .ok (.iload 6, 2) := by decide +kernel
theorem dX10_wires_210 : decode cX10_wires 210 = .ok (.iadd, 1) := by decide +kernel
theorem dX10_wires_211 : decode cX10_wires 211 = .ok (.iaload, 1) := by decide +kernel
theorem dX10_wires_212 : decode cX10_wires 212 = .ok (.iastore, 1) := by decide +kernel
theorem dX10_wires_213 : decode cX10_wires 213 = .ok (.iinc 6 1, 3) := by decide +kernel
theorem dX10_wires_216 : decode cX10_wires 216 = .ok (.goto (-93), 3) := by decide +kernel
theorem dX10_wires_219 : decode cX10_wires 219 = .ok (.iload 5, 2) := by decide +kernel
theorem dX10_wires_221 : decode cX10_wires 221 = .ok (.iconst 1, 1) := by decide +kernel
theorem dX10_wires_222 : decode cX10_wires 222 = .ok (.isub, 1) := by decide +kernel
theorem dX10_wires_223 : decode cX10_wires 223 = .ok (.iload 4, 2) := by decide +kernel
theorem dX10_wires_225 : decode cX10_wires 225 = .ok (.iand, 1) := by decide +kernel
theorem dX10_wires_226 : decode cX10_wires 226 = .ok (.istore 5, 2) := by decide +kernel
theorem dX10_wires_228 : decode cX10_wires 228 = .ok (.goto (-113), 3) := by decide +kernel
theorem dX10_wires_231 : decode cX10_wires 231 = .ok (.aload_n 0, 1) := by decide +kernel
theorem dX10_wires_232 : decode cX10_wires 232 = .ok (.iload 4, 2) := by decide +kernel
theorem dX10_wires_234 : decode cX10_wires 234 = .ok (.invokevirtual 217, 3) := by decide +kernel
theorem dX10_wires_237 : decode cX10_wires 237 = .ok (.iinc 4 1, 3) := by decide +kernel
theorem dX10_wires_240 : decode cX10_wires 240 = .ok (.goto (-142), 3) := by decide +kernel
theorem dX10_wires_243 : decode cX10_wires 243 = .ok (.sipush 9999, 3) := by decide +kernel
theorem dX10_wires_246 : decode cX10_wires 246 = .ok (.istore 4, 2) := by decide +kernel
theorem dX10_wires_248 : decode cX10_wires 248 = .ok (.iconst 0, 1) := by decide +kernel
theorem dX10_wires_249 : decode cX10_wires 249 = .ok (.istore 5, 2) := by decide +kernel
theorem dX10_wires_251 : decode cX10_wires 251 = .ok (.iload 5, 2) := by decide +kernel
theorem dX10_wires_253 : decode cX10_wires 253 = .ok (.bipush 24, 2) := by decide +kernel
theorem dX10_wires_255 : decode cX10_wires 255 = .ok (.if_icmp .ge 43, 3) := by decide +kernel
theorem dX10_wires_258 : decode cX10_wires 258 = .ok (.aload_n 0, 1) := by decide +kernel
theorem dX10_wires_259 : decode cX10_wires 259 = .ok (.getfield 88, 3) := by decide +kernel
theorem dX10_wires_262 : decode cX10_wires 262 = .ok (.bipush 24, 2) := by decide +kernel
theorem dX10_wires_264 : decode cX10_wires 264 = .ok (.iconst 1, 1) := by decide +kernel
theorem dX10_wires_265 : decode cX10_wires 265 = .ok (.iload_n 2, 1) := by decide +kernel
theorem dX10_wires_266 : decode cX10_wires 266 = .ok (.ishl, 1) := by decide +kernel
theorem dX10_wires_267 : decode cX10_wires 267 = .ok (.iconst 1, 1) := by decide +kernel
theorem dX10_wires_268 : decode cX10_wires 268 = .ok (.isub, 1) := by decide +kernel
theorem dX10_wires_269 : decode cX10_wires 269 = .ok (.imul, 1) := by decide +kernel
theorem dX10_wires_270 : decode cX10_wires 270 = .ok (.iload 5, 2) := by decide +kernel
theorem dX10_wires_272 : decode cX10_wires 272 = .ok (.iadd, 1) := by decide +kernel
theorem dX10_wires_273 : decode cX10_wires 273 = .ok (.iaload, 1) := by decide +kernel
theorem dX10_wires_274 : decode cX10_wires 274 = .ok (.istore 6, 2) := by decide +kernel
theorem dX10_wires_276 : decode cX10_wires 276 = .ok (.iload 6, 2) := by decide +kernel
theorem dX10_wires_278 : decode cX10_wires 278 = .ok (.iload 4, 2) := by decide +kernel
theorem dX10_wires_280 : decode cX10_wires 280 = .ok (.if_icmp .ge 8, 3) := by decide +kernel
theorem dX10_wires_283 : decode cX10_wires 283 = .ok (.iload 6, 2) := by decide +kernel
theorem dX10_wires_285 : decode cX10_wires 285 = .ok (.goto 5, 3) := by decide +kernel
theorem dX10_wires_288 : decode cX10_wires 288 = .ok (.iload 4, 2) := by decide +kernel
theorem dX10_wires_290 : decode cX10_wires 290 = .ok (.istore 4, 2) := by decide +kernel
theorem dX10_wires_292 : decode cX10_wires 292 = .ok (.iinc 5 1, 3) := by decide +kernel
theorem dX10_wires_295 : decode cX10_wires 295 = .ok (.goto (-44), 3) := by decide +kernel
theorem dX10_wires_298 : decode cX10_wires 298 = .ok (.iload 4, 2) := by decide +kernel
theorem dX10_wires_300 : decode cX10_wires 300 = .ok (.sipush 9999, 3) := by decide +kernel
theorem dX10_wires_303 : decode cX10_wires 303 = .ok (.if_icmp .ne 8, 3) := by decide +kernel
theorem dX10_wires_306 : decode cX10_wires 306 = .ok (.bipush (-4), 2) := by decide +kernel
theorem dX10_wires_308 : decode cX10_wires 308 = .ok (.goto 5, 3) := by decide +kernel
theorem dX10_wires_311 : decode cX10_wires 311 = .ok (.iload 4, 2) := by decide +kernel
theorem dX10_wires_313 : decode cX10_wires 313 = .ok (.ireturn, 1) := by decide +kernel
theorem dX10_count_0 : decode cX10_count 0 = .ok (.iconst 0, 1) := by decide +kernel
theorem dX10_count_1 : decode cX10_count 1 = .ok (.istore_n 2, 1) := by decide +kernel
theorem dX10_count_2 : decode cX10_count 2 = .ok (.iconst 0, 1) := by decide +kernel
theorem dX10_count_3 : decode cX10_count 3 = .ok (.istore_n 3, 1) := by decide +kernel
theorem dX10_count_4 : decode cX10_count 4 = .ok (.iconst 0, 1) := by decide +kernel
theorem dX10_count_5 : decode cX10_count 5 = .ok (.istore 4, 2) := by decide +kernel
theorem dX10_count_7 : decode cX10_count 7 = .ok (.iload 4, 2) := by decide +kernel
theorem dX10_count_9 : decode cX10_count 9 = .ok (.aload_n 0, 1) := by decide +kernel
theorem dX10_count_10 : decode cX10_count 10 = .ok (.getfield 91, 3) := by decide +kernel
theorem dX10_count_13 : decode cX10_count 13 = .ok (.if_icmp .ge 26, 3) := by decide +kernel
theorem dX10_count_16 : decode cX10_count 16 = .ok (.iload_n 2, 1) := by decide +kernel
theorem dX10_count_17 : decode cX10_count 17 = .ok (.aload_n 0, 1) := by decide +kernel
theorem dX10_count_18 : decode cX10_count 18 = .ok (.iload 4, 2) := by decide +kernel
theorem dX10_count_20 : decode cX10_count 20 = .ok (.invokevirtual 156, 3) := by decide +kernel
theorem dX10_count_23 : decode cX10_count 23 = .ok (.ifCond .eq 7, 3) := by decide +kernel
theorem dX10_count_26 : decode cX10_count 26 = .ok (.iconst 1, 1) := by decide +kernel
theorem dX10_count_27 : decode cX10_count 27 = .ok (.goto 4, 3) := by decide +kernel
theorem dX10_count_30 : decode cX10_count 30 = .ok (.iconst 0, 1) := by decide +kernel
theorem dX10_count_31 : decode cX10_count 31 = .ok (.iadd, 1) := by decide +kernel
theorem dX10_count_32 : decode cX10_count 32 = .ok (.istore_n 2, 1) := by decide +kernel
theorem dX10_count_33 : decode cX10_count 33 = .ok (.iinc 4 1, 3) := by decide +kernel
theorem dX10_count_36 : decode cX10_count 36 = .ok (.goto (-29), 3) := by decide +kernel
theorem dX10_count_39 : decode cX10_count 39 = .ok (.iconst 0, 1) := by decide +kernel
theorem dX10_count_40 : decode cX10_count 40 = .ok (.istore 4, 2) := by decide +kernel
theorem dX10_count_42 : decode cX10_count 42 = .ok (.iload 4, 2) := by decide +kernel
theorem dX10_count_44 : decode cX10_count 44 = .ok (.bipush 48, 2) := by decide +kernel
theorem dX10_count_46 : decode cX10_count 46 = .ok (.if_icmp .ge 28, 3) := by decide +kernel
theorem dX10_count_49 : decode cX10_count 49 = .ok (.iload_n 3, 1) := by decide +kernel
theorem dX10_count_50 : decode cX10_count 50 = .ok (.aload_n 0, 1) := by decide +kernel
theorem dX10_count_51 : decode cX10_count 51 = .ok (.getfield 82, 3) := by decide +kernel
theorem dX10_count_54 : decode cX10_count 54 = .ok (.iload 4, 2) := by decide +kernel
theorem dX10_count_56 : decode cX10_count 56 = .ok (.iaload, 1) := by decide +kernel
theorem dX10_count_57 : decode cX10_count 57 = .ok (.iconst 2, 1) := by decide +kernel
theorem dX10_count_58 : decode cX10_count 58 = .ok (.if_icmp .ne 7, 3) := by decide +kernel
theorem dX10_count_61 : decode cX10_count 61 = .ok (.iconst 1, 1) := by decide +kernel
theorem dX10_count_62 : decode cX10_count 62 = .ok (.goto 4, 3) := by decide +kernel
theorem dX10_count_65 : decode cX10_count 65 = .ok (.iconst 0, 1) := by decide +kernel
theorem dX10_count_66 : decode cX10_count 66 = .ok (.iadd, 1) := by decide +kernel
theorem dX10_count_67 : decode cX10_count 67 = .ok (.istore_n 3, 1) := by decide +kernel
theorem dX10_count_68 : decode cX10_count 68 = .ok (.iinc 4 1, 3) := by decide +kernel
theorem dX10_count_71 : decode cX10_count 71 = .ok (.goto (-29), 3) := by decide +kernel
theorem dX10_count_74 : decode cX10_count 74 = .ok (.iload_n 1, 1) := by decide +kernel
theorem dX10_count_75 : decode cX10_count 75 = .ok (.tableswitch 91 0 8 #[49, 54, 59, 64, 69, 71, 79, 84, 86], 49) := by decide +kernel
theorem dX10_count_124 : decode cX10_count 124 = .ok (.aload_n 0, 1) := by decide +kernel
theorem dX10_count_125 : decode cX10_count 125 = .ok (.getfield 91, 3) := by decide +kernel
theorem dX10_count_128 : decode cX10_count 128 = .ok (.ireturn, 1) := by decide +kernel
theorem dX10_count_129 : decode cX10_count 129 = .ok (.aload_n 0, 1) := by decide +kernel
theorem dX10_count_130 : decode cX10_count 130 = .ok (.getfield 141, 3) := by decide +kernel
theorem dX10_count_133 : decode cX10_count 133 = .ok (.ireturn, 1) := by decide +kernel
theorem dX10_count_134 : decode cX10_count 134 = .ok (.aload_n 0, 1) := by decide +kernel
theorem dX10_count_135 : decode cX10_count 135 = .ok (.getfield 144, 3) := by decide +kernel
theorem dX10_count_138 : decode cX10_count 138 = .ok (.ireturn, 1) := by decide +kernel
theorem dX10_count_139 : decode cX10_count 139 = .ok (.aload_n 0, 1) := by decide +kernel
theorem dX10_count_140 : decode cX10_count 140 = .ok (.invokevirtual 194, 3) := by decide +kernel
theorem dX10_count_143 : decode cX10_count 143 = .ok (.ireturn, 1) := by decide +kernel
theorem dX10_count_144 : decode cX10_count 144 = .ok (.iload_n 2, 1) := by decide +kernel
theorem dX10_count_145 : decode cX10_count 145 = .ok (.ireturn, 1) := by decide +kernel
theorem dX10_count_146 : decode cX10_count 146 = .ok (.aload_n 0, 1) := by decide +kernel
theorem dX10_count_147 : decode cX10_count 147 = .ok (.getfield 153, 3) := by decide +kernel
theorem dX10_count_150 : decode cX10_count 150 = .ok (.invokestatic 103, 3) := by decide +kernel
theorem dX10_count_153 : decode cX10_count 153 = .ok (.ireturn, 1) := by decide +kernel
theorem dX10_count_154 : decode cX10_count 154 = .ok (.aload_n 0, 1) := by decide +kernel
theorem dX10_count_155 : decode cX10_count 155 = .ok (.getfield 204, 3) := by decide +kernel
theorem dX10_count_158 : decode cX10_count 158 = .ok (.ireturn, 1) := by decide +kernel
theorem dX10_count_159 : decode cX10_count 159 = .ok (.iload_n 3, 1) := by decide +kernel
theorem dX10_count_160 : decode cX10_count 160 = .ok (.ireturn, 1) := by decide +kernel
theorem dX10_count_161 : decode cX10_count 161 = .ok (.aload_n 0, 1) := by decide +kernel
theorem dX10_count_162 : decode cX10_count 162 = .ok (.getfield 178, 3) := by decide +kernel
theorem dX10_count_165 : decode cX10_count 165 = .ok (.ireturn, 1) := by decide +kernel
theorem dX10_count_166 : decode cX10_count 166 = .ok (.iconst (-1), 1) := by decide +kernel
theorem dX10_count_167 : decode cX10_count 167 = .ok (.ireturn, 1) := by decide +kernel
theorem dJ6_bitCount_0f7a4_0 : decode cJ6_bitCount_0f7a4 0 = .ok (.iload_n 0, 1) := by decide +kernel
theorem dJ6_bitCount_0f7a4_1 : decode cJ6_bitCount_0f7a4 1 = .ok (.iload_n 0, 1) := by decide +kernel
theorem dJ6_bitCount_0f7a4_2 : decode cJ6_bitCount_0f7a4 2 = .ok (.iconst 1, 1) := by decide +kernel
theorem dJ6_bitCount_0f7a4_3 : decode cJ6_bitCount_0f7a4 3 = .ok (.iushr, 1) := by decide +kernel
theorem dJ6_bitCount_0f7a4_4 : decode cJ6_bitCount_0f7a4 4 = .ok (.ldc_w 265, 3) := by decide +kernel
theorem dJ6_bitCount_0f7a4_7 : decode cJ6_bitCount_0f7a4 7 = .ok (.iand, 1) := by decide +kernel
theorem dJ6_bitCount_0f7a4_8 : decode cJ6_bitCount_0f7a4 8 = .ok (.isub, 1) := by decide +kernel
theorem dJ6_bitCount_0f7a4_9 : decode cJ6_bitCount_0f7a4 9 = .ok (.istore_n 0, 1) := by decide +kernel
theorem dJ6_bitCount_0f7a4_10 : decode cJ6_bitCount_0f7a4 10 = .ok (.iload_n 0, 1) := by decide +kernel
theorem dJ6_bitCount_0f7a4_11 : decode cJ6_bitCount_0f7a4 11 = .ok (.ldc_w 266, 3) := by decide +kernel
theorem dJ6_bitCount_0f7a4_14 : decode cJ6_bitCount_0f7a4 14 = .ok (.iand, 1) := by decide +kernel
theorem dJ6_bitCount_0f7a4_15 : decode cJ6_bitCount_0f7a4 15 = .ok (.iload_n 0, 1) := by decide +kernel
theorem dJ6_bitCount_0f7a4_16 : decode cJ6_bitCount_0f7a4 16 = .ok (.iconst 2, 1) := by decide +kernel
theorem dJ6_bitCount_0f7a4_17 : decode cJ6_bitCount_0f7a4 17 = .ok (.iushr, 1) := by decide +kernel
theorem dJ6_bitCount_0f7a4_18 : decode cJ6_bitCount_0f7a4 18 = .ok (.ldc_w 266, 3) := by decide +kernel
theorem dJ6_bitCount_0f7a4_21 : decode cJ6_bitCount_0f7a4 21 = .ok (.iand, 1) := by decide +kernel
theorem dJ6_bitCount_0f7a4_22 : decode cJ6_bitCount_0f7a4 22 = .ok (.iadd, 1) := by decide +kernel
theorem dJ6_bitCount_0f7a4_23 : decode cJ6_bitCount_0f7a4 23 = .ok (.istore_n 0, 1) := by decide +kernel
theorem dJ6_bitCount_0f7a4_24 : decode cJ6_bitCount_0f7a4 24 = .ok (.iload_n 0, 1) := by decide +kernel
theorem dJ6_bitCount_0f7a4_25 : decode cJ6_bitCount_0f7a4 25 = .ok (.iload_n 0, 1) := by decide +kernel
theorem dJ6_bitCount_0f7a4_26 : decode cJ6_bitCount_0f7a4 26 = .ok (.iconst 4, 1) := by decide +kernel
theorem dJ6_bitCount_0f7a4_27 : decode cJ6_bitCount_0f7a4 27 = .ok (.iushr, 1) := by decide +kernel
theorem dJ6_bitCount_0f7a4_28 : decode cJ6_bitCount_0f7a4 28 = .ok (.iadd, 1) := by decide +kernel
theorem dJ6_bitCount_0f7a4_29 : decode cJ6_bitCount_0f7a4 29 = .ok (.ldc_w 267, 3) := by decide +kernel
theorem dJ6_bitCount_0f7a4_32 : decode cJ6_bitCount_0f7a4 32 = .ok (.iand, 1) := by decide +kernel
theorem dJ6_bitCount_0f7a4_33 : decode cJ6_bitCount_0f7a4 33 = .ok (.istore_n 0, 1) := by decide +kernel
theorem dJ6_bitCount_0f7a4_34 : decode cJ6_bitCount_0f7a4 34 = .ok (.iload_n 0, 1) := by decide +kernel
theorem dJ6_bitCount_0f7a4_35 : decode cJ6_bitCount_0f7a4 35 = .ok (.iload_n 0, 1) := by decide +kernel
theorem dJ6_bitCount_0f7a4_36 : decode cJ6_bitCount_0f7a4 36 = .ok (.bipush 8, 2) := by decide +kernel
theorem dJ6_bitCount_0f7a4_38 : decode cJ6_bitCount_0f7a4 38 = .ok (.iushr, 1) := by decide +kernel
theorem dJ6_bitCount_0f7a4_39 : decode cJ6_bitCount_0f7a4 39 = .ok (.iadd, 1) := by decide +kernel
theorem dJ6_bitCount_0f7a4_40 : decode cJ6_bitCount_0f7a4 40 = .ok (.istore_n 0, 1) := by decide +kernel
theorem dJ6_bitCount_0f7a4_41 : decode cJ6_bitCount_0f7a4 41 = .ok (.iload_n 0, 1) := by decide +kernel
theorem dJ6_bitCount_0f7a4_42 : decode cJ6_bitCount_0f7a4 42 = .ok (.iload_n 0, 1) := by decide +kernel
theorem dJ6_bitCount_0f7a4_43 : decode cJ6_bitCount_0f7a4 43 = .ok (.bipush 16, 2) := by decide +kernel
theorem dJ6_bitCount_0f7a4_45 : decode cJ6_bitCount_0f7a4 45 = .ok (.iushr, 1) := by decide +kernel
theorem dJ6_bitCount_0f7a4_46 : decode cJ6_bitCount_0f7a4 46 = .ok (.iadd, 1) := by decide +kernel
theorem dJ6_bitCount_0f7a4_47 : decode cJ6_bitCount_0f7a4 47 = .ok (.istore_n 0, 1) := by decide +kernel
theorem dJ6_bitCount_0f7a4_48 : decode cJ6_bitCount_0f7a4 48 = .ok (.iload_n 0, 1) := by decide +kernel
theorem dJ6_bitCount_0f7a4_49 : decode cJ6_bitCount_0f7a4 49 = .ok (.bipush 63, 2) := by decide +kernel
theorem dJ6_bitCount_0f7a4_51 : decode cJ6_bitCount_0f7a4 51 = .ok (.iand, 1) := by decide +kernel
theorem dJ6_bitCount_0f7a4_52 : decode cJ6_bitCount_0f7a4 52 = .ok (.ireturn, 1) := by decide +kernel
theorem dJ9_abs_0f7a4_0 : decode cJ9_abs_0f7a4 0 = .ok (.iload_n 0, 1) := by decide +kernel
theorem dJ9_abs_0f7a4_1 : decode cJ9_abs_0f7a4 1 = .ok (.ifCond .ge 8, 3) := by decide +kernel
theorem dJ9_abs_0f7a4_4 : decode cJ9_abs_0f7a4 4 = .ok (.iload_n 0, 1) := by decide +kernel
theorem dJ9_abs_0f7a4_5 : decode cJ9_abs_0f7a4 5 = .ok (.ineg, 1) := by decide +kernel
theorem dJ9_abs_0f7a4_6 : decode cJ9_abs_0f7a4 6 = .ok (.goto 4, 3) := by decide +kernel
theorem dJ9_abs_0f7a4_9 : decode cJ9_abs_0f7a4 9 = .ok (.iload_n 0, 1) := by decide +kernel
theorem dJ9_abs_0f7a4_10 : decode cJ9_abs_0f7a4 10 = .ok (.ireturn, 1) := by decide +kernel
theorem dJ9_max_7cf53_0 : decode cJ9_max_7cf53 0 = .ok (.iload_n 0, 1) := by decide +kernel
theorem dJ9_max_7cf53_1 : decode cJ9_max_7cf53 1 = .ok (.iload_n 1, 1) := by decide +kernel
theorem dJ9_max_7cf53_2 : decode cJ9_max_7cf53 2 = .ok (.if_icmp .lt 7, 3) := by decide +kernel
theorem dJ9_max_7cf53_5 : decode cJ9_max_7cf53 5 = .ok (.iload_n 0, 1) := by decide +kernel
theorem dJ9_max_7cf53_6 : decode cJ9_max_7cf53 6 = .ok (.goto 4, 3) := by decide +kernel
theorem dJ9_max_7cf53_9 : decode cJ9_max_7cf53 9 = .ok (.iload_n 1, 1) := by decide +kernel
theorem dJ9_max_7cf53_10 : decode cJ9_max_7cf53 10 = .ok (.ireturn, 1) := by decide +kernel
theorem dJ9_min_7cf53_0 : decode cJ9_min_7cf53 0 = .ok (.iload_n 0, 1) := by decide +kernel
theorem dJ9_min_7cf53_1 : decode cJ9_min_7cf53 1 = .ok (.iload_n 1, 1) := by decide +kernel
theorem dJ9_min_7cf53_2 : decode cJ9_min_7cf53 2 = .ok (.if_icmp .gt 7, 3) := by decide +kernel
theorem dJ9_min_7cf53_5 : decode cJ9_min_7cf53 5 = .ok (.iload_n 0, 1) := by decide +kernel
theorem dJ9_min_7cf53_6 : decode cJ9_min_7cf53 6 = .ok (.goto 4, 3) := by decide +kernel
theorem dJ9_min_7cf53_9 : decode cJ9_min_7cf53 9 = .ok (.iload_n 1, 1) := by decide +kernel
theorem dJ9_min_7cf53_10 : decode cJ9_min_7cf53 10 = .ok (.ireturn, 1) := by decide +kernel
theorem dL_law_0 : decode cL_law 0 = .ok (.new 7, 3) := by decide +kernel
theorem dL_law_3 : decode cL_law 3 = .ok (.dup, 1) := by decide +kernel
theorem dL_law_4 : decode cL_law 4 = .ok (.invokespecial 9, 3) := by decide +kernel
theorem dL_law_7 : decode cL_law 7 = .ok (.astore_n 1, 1) := by decide +kernel
theorem dL_law_8 : decode cL_law 8 = .ok (.new 10, 3) := by decide +kernel
theorem dL_law_11 : decode cL_law 11 = .ok (.dup, 1) := by decide +kernel
theorem dL_law_12 : decode cL_law 12 = .ok (.invokespecial 12, 3) := by decide +kernel
theorem dL_law_15 : decode cL_law 15 = .ok (.astore_n 2, 1) := by decide +kernel
theorem dL_law_16 : decode cL_law 16 = .ok (.iconst 0, 1) := by decide +kernel
theorem dL_law_17 : decode cL_law 17 = .ok (.istore_n 3, 1) := by decide +kernel
theorem dL_law_18 : decode cL_law 18 = .ok (.iload_n 3, 1) := by decide +kernel
theorem dL_law_19 : decode cL_law 19 = .ok (.aload_n 0, 1) := by decide +kernel
theorem dL_law_20 : decode cL_law 20 = .ok (.arraylength, 1) := by decide +kernel
theorem dL_law_21 : decode cL_law 21 = .ok (.bipush 6, 2) := by decide +kernel
theorem dL_law_23 : decode cL_law 23 = .ok (.isub, 1) := by decide +kernel
theorem dL_law_24 : decode cL_law 24 = .ok (.if_icmp .gt 919, 3) := by decide +kernel
theorem dL_law_27 : decode cL_law 27 = .ok (.aload_n 0, 1) := by decide +kernel
theorem dL_law_28 : decode cL_law 28 = .ok (.iload_n 3, 1) := by decide +kernel
theorem dL_law_29 : decode cL_law 29 = .ok (.iaload, 1) := by decide +kernel
theorem dL_law_30 : decode cL_law 30 = .ok (.bipush 31, 2) := by decide +kernel
theorem dL_law_32 : decode cL_law 32 = .ok (.iand, 1) := by decide +kernel
theorem dL_law_33 : decode cL_law 33 = .ok (.tableswitch 904 0 26 #[123, 156, 199, 222, 285, 318, 331, 354, 387, 430, 473, 496, 519, 542, 565, 598, 631, 664, 687, 710, 723, 766, 779, 802, 815, 858, 881], 123) := by decide +kernel
theorem dL_law_156 : decode cL_law 156 = .ok (.aload_n 1, 1) := by decide +kernel
theorem dL_law_157 : decode cL_law 157 = .ok (.aload_n 0, 1) := by decide +kernel
theorem dL_law_158 : decode cL_law 158 = .ok (.iload_n 3, 1) := by decide +kernel
theorem dL_law_159 : decode cL_law 159 = .ok (.iconst 1, 1) := by decide +kernel
theorem dL_law_160 : decode cL_law 160 = .ok (.iadd, 1) := by decide +kernel
theorem dL_law_161 : decode cL_law 161 = .ok (.iaload, 1) := by decide +kernel
theorem dL_law_162 : decode cL_law 162 = .ok (.aload_n 0, 1) := by decide +kernel
theorem dL_law_163 : decode cL_law 163 = .ok (.iload_n 3, 1) := by decide +kernel
theorem dL_law_164 : decode cL_law 164 = .ok (.iconst 2, 1) := by decide +kernel
theorem dL_law_165 : decode cL_law 165 = .ok (.iadd, 1) := by decide +kernel
theorem dL_law_166 : decode cL_law 166 = .ok (.iaload, 1) := by decide +kernel
theorem dL_law_167 : decode cL_law 167 = .ok (.invokevirtual 13, 3) := by decide +kernel
theorem dL_law_170 : decode cL_law 170 = .ok (.aload_n 2, 1) := by decide +kernel
theorem dL_law_171 : decode cL_law 171 = .ok (.aload_n 0, 1) := by decide +kernel
theorem dL_law_172 : decode cL_law 172 = .ok (.iload_n 3, 1) := by decide +kernel
theorem dL_law_173 : decode cL_law 173 = .ok (.iconst 1, 1) := by decide +kernel
theorem dL_law_174 : decode cL_law 174 = .ok (.iadd, 1) := by decide +kernel
theorem dL_law_175 : decode cL_law 175 = .ok (.iaload, 1) := by decide +kernel
theorem dL_law_176 : decode cL_law 176 = .ok (.aload_n 0, 1) := by decide +kernel
theorem dL_law_177 : decode cL_law 177 = .ok (.iload_n 3, 1) := by decide +kernel
theorem dL_law_178 : decode cL_law 178 = .ok (.iconst 2, 1) := by decide +kernel
theorem dL_law_179 : decode cL_law 179 = .ok (.iadd, 1) := by decide +kernel
theorem dL_law_180 : decode cL_law 180 = .ok (.iaload, 1) := by decide +kernel
theorem dL_law_181 : decode cL_law 181 = .ok (.invokevirtual 17, 3) := by decide +kernel
theorem dL_law_184 : decode cL_law 184 = .ok (.if_icmp .eq 753, 3) := by decide +kernel
theorem dL_law_187 : decode cL_law 187 = .ok (.iconst 0, 1) := by decide +kernel
theorem dL_law_188 : decode cL_law 188 = .ok (.ireturn, 1) := by decide +kernel
theorem dL_law_189 : decode cL_law 189 = .ok (.aload_n 1, 1) := by decide +kernel
theorem dL_law_190 : decode cL_law 190 = .ok (.aload_n 0, 1) := by decide +kernel
theorem dL_law_191 : decode cL_law 191 = .ok (.iload_n 3, 1) := by decide +kernel
theorem dL_law_192 : decode cL_law 192 = .ok (.iconst 1, 1) := by decide +kernel
theorem dL_law_193 : decode cL_law 193 = .ok (.iadd, 1) := by decide +kernel
theorem dL_law_194 : decode cL_law 194 = .ok (.iaload, 1) := by decide +kernel
theorem dL_law_195 : decode cL_law 195 = .ok (.aload_n 0, 1) := by decide +kernel
theorem dL_law_196 : decode cL_law 196 = .ok (.iload_n 3, 1) := by decide +kernel
theorem dL_law_197 : decode cL_law 197 = .ok (.iconst 2, 1) := by decide +kernel
theorem dL_law_198 : decode cL_law 198 = .ok (.iadd, 1) := by decide +kernel
theorem dL_law_199 : decode cL_law 199 = .ok (.iaload, 1) := by decide +kernel
theorem dL_law_200 : decode cL_law 200 = .ok (.aload_n 0, 1) := by decide +kernel
theorem dL_law_201 : decode cL_law 201 = .ok (.iload_n 3, 1) := by decide +kernel
theorem dL_law_202 : decode cL_law 202 = .ok (.iconst 3, 1) := by decide +kernel
theorem dL_law_203 : decode cL_law 203 = .ok (.iadd, 1) := by decide +kernel
theorem dL_law_204 : decode cL_law 204 = .ok (.iaload, 1) := by decide +kernel
theorem dL_law_205 : decode cL_law 205 = .ok (.invokevirtual 18, 3) := by decide +kernel
theorem dL_law_208 : decode cL_law 208 = .ok (.aload_n 2, 1) := by decide +kernel
theorem dL_law_209 : decode cL_law 209 = .ok (.aload_n 0, 1) := by decide +kernel
theorem dL_law_210 : decode cL_law 210 = .ok (.iload_n 3, 1) := by decide +kernel
theorem dL_law_211 : decode cL_law 211 = .ok (.iconst 1, 1) := by decide +kernel
theorem dL_law_212 : decode cL_law 212 = .ok (.iadd, 1) := by decide +kernel
theorem dL_law_213 : decode cL_law 213 = .ok (.iaload, 1) := by decide +kernel
theorem dL_law_214 : decode cL_law 214 = .ok (.aload_n 0, 1) := by decide +kernel
theorem dL_law_215 : decode cL_law 215 = .ok (.iload_n 3, 1) := by decide +kernel
theorem dL_law_216 : decode cL_law 216 = .ok (.iconst 2, 1) := by decide +kernel
theorem dL_law_217 : decode cL_law 217 = .ok (.iadd, 1) := by decide +kernel
theorem dL_law_218 : decode cL_law 218 = .ok (.iaload, 1) := by decide +kernel
theorem dL_law_219 : decode cL_law 219 = .ok (.aload_n 0, 1) := by decide +kernel
theorem dL_law_220 : decode cL_law 220 = .ok (.iload_n 3, 1) := by decide +kernel
theorem dL_law_221 : decode cL_law 221 = .ok (.iconst 3, 1) := by decide +kernel
theorem dL_law_222 : decode cL_law 222 = .ok (.iadd, 1) := by decide +kernel
theorem dL_law_223 : decode cL_law 223 = .ok (.iaload, 1) := by decide +kernel
theorem dL_law_224 : decode cL_law 224 = .ok (.invokevirtual 22, 3) := by decide +kernel
theorem dL_law_227 : decode cL_law 227 = .ok (.if_icmp .eq 710, 3) := by decide +kernel
theorem dL_law_230 : decode cL_law 230 = .ok (.iconst 0, 1) := by decide +kernel
theorem dL_law_231 : decode cL_law 231 = .ok (.ireturn, 1) := by decide +kernel
theorem dL_law_232 : decode cL_law 232 = .ok (.aload_n 1, 1) := by decide +kernel
theorem dL_law_233 : decode cL_law 233 = .ok (.aload_n 0, 1) := by decide +kernel
theorem dL_law_234 : decode cL_law 234 = .ok (.iload_n 3, 1) := by decide +kernel
theorem dL_law_235 : decode cL_law 235 = .ok (.iconst 1, 1) := by decide +kernel
theorem dL_law_236 : decode cL_law 236 = .ok (.iadd, 1) := by decide +kernel
theorem dL_law_237 : decode cL_law 237 = .ok (.iaload, 1) := by decide +kernel
theorem dL_law_238 : decode cL_law 238 = .ok (.invokevirtual 23, 3) := by decide +kernel
theorem dL_law_241 : decode cL_law 241 = .ok (.aload_n 2, 1) := by decide +kernel
theorem dL_law_242 : decode cL_law 242 = .ok (.aload_n 0, 1) := by decide +kernel
theorem dL_law_243 : decode cL_law 243 = .ok (.iload_n 3, 1) := by decide +kernel
theorem dL_law_244 : decode cL_law 244 = .ok (.iconst 1, 1) := by decide +kernel
theorem dL_law_245 : decode cL_law 245 = .ok (.iadd, 1) := by decide +kernel
theorem dL_law_246 : decode cL_law 246 = .ok (.iaload, 1) := by decide +kernel
theorem dL_law_247 : decode cL_law 247 = .ok (.invokevirtual 27, 3) := by decide +kernel
theorem dL_law_250 : decode cL_law 250 = .ok (.if_icmp .eq 687, 3) := by decide +kernel
theorem dL_law_253 : decode cL_law 253 = .ok (.iconst 0, 1) := by decide +kernel
theorem dL_law_254 : decode cL_law 254 = .ok (.ireturn, 1) := by decide +kernel
theorem dL_law_255 : decode cL_law 255 = .ok (.aload_n 1, 1) := by decide +kernel
theorem dL_law_256 : decode cL_law 256 = .ok (.aload_n 0, 1) := by decide +kernel
theorem dL_law_257 : decode cL_law 257 = .ok (.iload_n 3, 1) := by decide +kernel
theorem dL_law_258 : decode cL_law 258 = .ok (.iconst 1, 1) := by decide +kernel
theorem dL_law_259 : decode cL_law 259 = .ok (.iadd, 1) := by decide +kernel
theorem dL_law_260 : decode cL_law 260 = .ok (.iaload, 1) := by decide +kernel
theorem dL_law_261 : decode cL_law 261 = .ok (.aload_n 0, 1) := by decide +kernel
theorem dL_law_262 : decode cL_law 262 = .ok (.iload_n 3, 1) := by decide +kernel
theorem dL_law_263 : decode cL_law 263 = .ok (.iconst 2, 1) := by decide +kernel
theorem dL_law_264 : decode cL_law 264 = .ok (.iadd, 1) := by decide +kernel
theorem dL_law_265 : decode cL_law 265 = .ok (.iaload, 1) := by decide +kernel
theorem dL_law_266 : decode cL_law 266 = .ok (.aload_n 0, 1) := by decide +kernel
theorem dL_law_267 : decode cL_law 267 = .ok (.iload_n 3, 1) := by decide +kernel
theorem dL_law_268 : decode cL_law 268 = .ok (.iconst 3, 1) := by decide +kernel
theorem dL_law_269 : decode cL_law 269 = .ok (.iadd, 1) := by decide +kernel
theorem dL_law_270 : decode cL_law 270 = .ok (.iaload, 1) := by decide +kernel
theorem dL_law_271 : decode cL_law 271 = .ok (.aload_n 0, 1) := by decide +kernel
theorem dL_law_272 : decode cL_law 272 = .ok (.iload_n 3, 1) := by decide +kernel
theorem dL_law_273 : decode cL_law 273 = .ok (.iconst 4, 1) := by decide +kernel
theorem dL_law_274 : decode cL_law 274 = .ok (.iadd, 1) := by decide +kernel
theorem dL_law_275 : decode cL_law 275 = .ok (.iaload, 1) := by decide +kernel
theorem dL_law_276 : decode cL_law 276 = .ok (.aload_n 0, 1) := by decide +kernel
theorem dL_law_277 : decode cL_law 277 = .ok (.iload_n 3, 1) := by decide +kernel
theorem dL_law_278 : decode cL_law 278 = .ok (.iconst 5, 1) := by decide +kernel
theorem dL_law_279 : decode cL_law 279 = .ok (.iadd, 1) := by decide +kernel
theorem dL_law_280 : decode cL_law 280 = .ok (.iaload, 1) := by decide +kernel
theorem dL_law_281 : decode cL_law 281 = .ok (.invokevirtual 28, 3) := by decide +kernel
theorem dL_law_284 : decode cL_law 284 = .ok (.aload_n 2, 1) := by decide +kernel
theorem dL_law_285 : decode cL_law 285 = .ok (.aload_n 0, 1) := by decide +kernel
theorem dL_law_286 : decode cL_law 286 = .ok (.iload_n 3, 1) := by decide +kernel
theorem dL_law_287 : decode cL_law 287 = .ok (.iconst 1, 1) := by decide +kernel
theorem dL_law_288 : decode cL_law 288 = .ok (.iadd, 1) := by decide +kernel
theorem dL_law_289 : decode cL_law 289 = .ok (.iaload, 1) := by decide +kernel
theorem dL_law_290 : decode cL_law 290 = .ok (.aload_n 0, 1) := by decide +kernel
theorem dL_law_291 : decode cL_law 291 = .ok (.iload_n 3, 1) := by decide +kernel
theorem dL_law_292 : decode cL_law 292 = .ok (.iconst 2, 1) := by decide +kernel
theorem dL_law_293 : decode cL_law 293 = .ok (.iadd, 1) := by decide +kernel
theorem dL_law_294 : decode cL_law 294 = .ok (.iaload, 1) := by decide +kernel
theorem dL_law_295 : decode cL_law 295 = .ok (.aload_n 0, 1) := by decide +kernel
theorem dL_law_296 : decode cL_law 296 = .ok (.iload_n 3, 1) := by decide +kernel
theorem dL_law_297 : decode cL_law 297 = .ok (.iconst 3, 1) := by decide +kernel
theorem dL_law_298 : decode cL_law 298 = .ok (.iadd, 1) := by decide +kernel
theorem dL_law_299 : decode cL_law 299 = .ok (.iaload, 1) := by decide +kernel
theorem dL_law_300 : decode cL_law 300 = .ok (.aload_n 0, 1) := by decide +kernel
theorem dL_law_301 : decode cL_law 301 = .ok (.iload_n 3, 1) := by decide +kernel
theorem dL_law_302 : decode cL_law 302 = .ok (.iconst 4, 1) := by decide +kernel
theorem dL_law_303 : decode cL_law 303 = .ok (.iadd, 1) := by decide +kernel
theorem dL_law_304 : decode cL_law 304 = .ok (.iaload, 1) := by decide +kernel
theorem dL_law_305 : decode cL_law 305 = .ok (.aload_n 0, 1) := by decide +kernel
theorem dL_law_306 : decode cL_law 306 = .ok (.iload_n 3, 1) := by decide +kernel
theorem dL_law_307 : decode cL_law 307 = .ok (.iconst 5, 1) := by decide +kernel
theorem dL_law_308 : decode cL_law 308 = .ok (.iadd, 1) := by decide +kernel
theorem dL_law_309 : decode cL_law 309 = .ok (.iaload, 1) := by decide +kernel
theorem dL_law_310 : decode cL_law 310 = .ok (.invokevirtual 32, 3) := by decide +kernel
theorem dL_law_313 : decode cL_law 313 = .ok (.if_icmp .eq 624, 3) := by decide +kernel
theorem dL_law_316 : decode cL_law 316 = .ok (.iconst 0, 1) := by decide +kernel
theorem dL_law_317 : decode cL_law 317 = .ok (.ireturn, 1) := by decide +kernel
theorem dL_law_318 : decode cL_law 318 = .ok (.aload_n 1, 1) := by decide +kernel
theorem dL_law_319 : decode cL_law 319 = .ok (.aload_n 0, 1) := by decide +kernel
theorem dL_law_320 : decode cL_law 320 = .ok (.iload_n 3, 1) := by decide +kernel
theorem dL_law_321 : decode cL_law 321 = .ok (.iconst 1, 1) := by decide +kernel
theorem dL_law_322 : decode cL_law 322 = .ok (.iadd, 1) := by decide +kernel
theorem dL_law_323 : decode cL_law 323 = .ok (.iaload, 1) := by decide +kernel
theorem dL_law_324 : decode cL_law 324 = .ok (.aload_n 0, 1) := by decide +kernel
theorem dL_law_325 : decode cL_law 325 = .ok (.iload_n 3, 1) := by decide +kernel
theorem dL_law_326 : decode cL_law 326 = .ok (.iconst 2, 1) := by decide +kernel
theorem dL_law_327 : decode cL_law 327 = .ok (.iadd, 1) := by decide +kernel
theorem dL_law_328 : decode cL_law 328 = .ok (.iaload, 1) := by decide +kernel
theorem dL_law_329 : decode cL_law 329 = .ok (.invokevirtual 33, 3) := by decide +kernel
theorem dL_law_332 : decode cL_law 332 = .ok (.aload_n 2, 1) := by decide +kernel
theorem dL_law_333 : decode cL_law 333 = .ok (.aload_n 0, 1) := by decide +kernel
theorem dL_law_334 : decode cL_law 334 = .ok (.iload_n 3, 1) := by decide +kernel
theorem dL_law_335 : decode cL_law 335 = .ok (.iconst 1, 1) := by decide +kernel
theorem dL_law_336 : decode cL_law 336 = .ok (.iadd, 1) := by decide +kernel
theorem dL_law_337 : decode cL_law 337 = .ok (.iaload, 1) := by decide +kernel
theorem dL_law_338 : decode cL_law 338 = .ok (.aload_n 0, 1) := by decide +kernel
theorem dL_law_339 : decode cL_law 339 = .ok (.iload_n 3, 1) := by decide +kernel
theorem dL_law_340 : decode cL_law 340 = .ok (.iconst 2, 1) := by decide +kernel
theorem dL_law_341 : decode cL_law 341 = .ok (.iadd, 1) := by decide +kernel
theorem dL_law_342 : decode cL_law 342 = .ok (.iaload, 1) := by decide +kernel
theorem dL_law_343 : decode cL_law 343 = .ok (.invokevirtual 36, 3) := by decide +kernel
theorem dL_law_346 : decode cL_law 346 = .ok (.if_icmp .eq 591, 3) := by decide +kernel
theorem dL_law_349 : decode cL_law 349 = .ok (.iconst 0, 1) := by decide +kernel
theorem dL_law_350 : decode cL_law 350 = .ok (.ireturn, 1) := by decide +kernel
theorem dL_law_351 : decode cL_law 351 = .ok (.aload_n 1, 1) := by decide +kernel
theorem dL_law_352 : decode cL_law 352 = .ok (.invokevirtual 37, 3) := by decide +kernel
theorem dL_law_355 : decode cL_law 355 = .ok (.aload_n 2, 1) := by decide +kernel
theorem dL_law_356 : decode cL_law 356 = .ok (.invokevirtual 41, 3) := by decide +kernel
theorem dL_law_359 : decode cL_law 359 = .ok (.if_icmp .eq 578, 3) := by decide +kernel
theorem dL_law_362 : decode cL_law 362 = .ok (.iconst 0, 1) := by decide +kernel
theorem dL_law_363 : decode cL_law 363 = .ok (.ireturn, 1) := by decide +kernel
theorem dL_law_364 : decode cL_law 364 = .ok (.aload_n 1, 1) := by decide +kernel
theorem dL_law_365 : decode cL_law 365 = .ok (.aload_n 0, 1) := by decide +kernel
theorem dL_law_366 : decode cL_law 366 = .ok (.iload_n 3, 1) := by decide +kernel
theorem dL_law_367 : decode cL_law 367 = .ok (.iconst 1, 1) := by decide +kernel
theorem dL_law_368 : decode cL_law 368 = .ok (.iadd, 1) := by decide +kernel
theorem dL_law_369 : decode cL_law 369 = .ok (.iaload, 1) := by decide +kernel
theorem dL_law_370 : decode cL_law 370 = .ok (.invokevirtual 42, 3) := by decide +kernel
theorem dL_law_373 : decode cL_law 373 = .ok (.aload_n 2, 1) := by decide +kernel
theorem dL_law_374 : decode cL_law 374 = .ok (.aload_n 0, 1) := by decide +kernel
theorem dL_law_375 : decode cL_law 375 = .ok (.iload_n 3, 1) := by decide +kernel
theorem dL_law_376 : decode cL_law 376 = .ok (.iconst 1, 1) := by decide +kernel
theorem dL_law_377 : decode cL_law 377 = .ok (.iadd, 1) := by decide +kernel
theorem dL_law_378 : decode cL_law 378 = .ok (.iaload, 1) := by decide +kernel
theorem dL_law_379 : decode cL_law 379 = .ok (.invokevirtual 45, 3) := by decide +kernel
theorem dL_law_382 : decode cL_law 382 = .ok (.if_icmp .eq 555, 3) := by decide +kernel
theorem dL_law_385 : decode cL_law 385 = .ok (.iconst 0, 1) := by decide +kernel
theorem dL_law_386 : decode cL_law 386 = .ok (.ireturn, 1) := by decide +kernel
theorem dL_law_387 : decode cL_law 387 = .ok (.aload_n 1, 1) := by decide +kernel
theorem dL_law_388 : decode cL_law 388 = .ok (.aload_n 0, 1) := by decide +kernel
theorem dL_law_389 : decode cL_law 389 = .ok (.iload_n 3, 1) := by decide +kernel
theorem dL_law_390 : decode cL_law 390 = .ok (.iconst 1, 1) := by decide +kernel
theorem dL_law_391 : decode cL_law 391 = .ok (.iadd, 1) := by decide +kernel
theorem dL_law_392 : decode cL_law 392 = .ok (.iaload, 1) := by decide +kernel
theorem dL_law_393 : decode cL_law 393 = .ok (.aload_n 0, 1) := by decide +kernel
theorem dL_law_394 : decode cL_law 394 = .ok (.iload_n 3, 1) := by decide +kernel
theorem dL_law_395 : decode cL_law 395 = .ok (.iconst 2, 1) := by decide +kernel
theorem dL_law_396 : decode cL_law 396 = .ok (.iadd, 1) := by decide +kernel
theorem dL_law_397 : decode cL_law 397 = .ok (.iaload, 1) := by decide +kernel
theorem dL_law_398 : decode cL_law 398 = .ok (.invokevirtual 46, 3) := by decide +kernel
theorem dL_law_401 : decode cL_law 401 = .ok (.aload_n 2, 1) := by decide +kernel
theorem dL_law_402 : decode cL_law 402 = .ok (.aload_n 0, 1) := by decide +kernel
theorem dL_law_403 : decode cL_law 403 = .ok (.iload_n 3, 1) := by decide +kernel
theorem dL_law_404 : decode cL_law 404 = .ok (.iconst 1, 1) := by decide +kernel
theorem dL_law_405 : decode cL_law 405 = .ok (.iadd, 1) := by decide +kernel
theorem dL_law_406 : decode cL_law 406 = .ok (.iaload, 1) := by decide +kernel
theorem dL_law_407 : decode cL_law 407 = .ok (.aload_n 0, 1) := by decide +kernel
theorem dL_law_408 : decode cL_law 408 = .ok (.iload_n 3, 1) := by decide +kernel
theorem dL_law_409 : decode cL_law 409 = .ok (.iconst 2, 1) := by decide +kernel
theorem dL_law_410 : decode cL_law 410 = .ok (.iadd, 1) := by decide +kernel
theorem dL_law_411 : decode cL_law 411 = .ok (.iaload, 1) := by decide +kernel
theorem dL_law_412 : decode cL_law 412 = .ok (.invokevirtual 49, 3) := by decide +kernel
theorem dL_law_415 : decode cL_law 415 = .ok (.if_icmp .eq 522, 3) := by decide +kernel
theorem dL_law_418 : decode cL_law 418 = .ok (.iconst 0, 1) := by decide +kernel
theorem dL_law_419 : decode cL_law 419 = .ok (.ireturn, 1) := by decide +kernel
theorem dL_law_420 : decode cL_law 420 = .ok (.aload_n 1, 1) := by decide +kernel
theorem dL_law_421 : decode cL_law 421 = .ok (.aload_n 0, 1) := by decide +kernel
theorem dL_law_422 : decode cL_law 422 = .ok (.iload_n 3, 1) := by decide +kernel
theorem dL_law_423 : decode cL_law 423 = .ok (.iconst 1, 1) := by decide +kernel
theorem dL_law_424 : decode cL_law 424 = .ok (.iadd, 1) := by decide +kernel
theorem dL_law_425 : decode cL_law 425 = .ok (.iaload, 1) := by decide +kernel
theorem dL_law_426 : decode cL_law 426 = .ok (.aload_n 0, 1) := by decide +kernel
theorem dL_law_427 : decode cL_law 427 = .ok (.iload_n 3, 1) := by decide +kernel
theorem dL_law_428 : decode cL_law 428 = .ok (.iconst 2, 1) := by decide +kernel
theorem dL_law_429 : decode cL_law 429 = .ok (.iadd, 1) := by decide +kernel
theorem dL_law_430 : decode cL_law 430 = .ok (.iaload, 1) := by decide +kernel
theorem dL_law_431 : decode cL_law 431 = .ok (.aload_n 0, 1) := by decide +kernel
theorem dL_law_432 : decode cL_law 432 = .ok (.iload_n 3, 1) := by decide +kernel
theorem dL_law_433 : decode cL_law 433 = .ok (.iconst 3, 1) := by decide +kernel
theorem dL_law_434 : decode cL_law 434 = .ok (.iadd, 1) := by decide +kernel
theorem dL_law_435 : decode cL_law 435 = .ok (.iaload, 1) := by decide +kernel
theorem dL_law_436 : decode cL_law 436 = .ok (.invokevirtual 50, 3) := by decide +kernel
theorem dL_law_439 : decode cL_law 439 = .ok (.aload_n 2, 1) := by decide +kernel
theorem dL_law_440 : decode cL_law 440 = .ok (.aload_n 0, 1) := by decide +kernel
theorem dL_law_441 : decode cL_law 441 = .ok (.iload_n 3, 1) := by decide +kernel
theorem dL_law_442 : decode cL_law 442 = .ok (.iconst 1, 1) := by decide +kernel
theorem dL_law_443 : decode cL_law 443 = .ok (.iadd, 1) := by decide +kernel
theorem dL_law_444 : decode cL_law 444 = .ok (.iaload, 1) := by decide +kernel
theorem dL_law_445 : decode cL_law 445 = .ok (.aload_n 0, 1) := by decide +kernel
theorem dL_law_446 : decode cL_law 446 = .ok (.iload_n 3, 1) := by decide +kernel
theorem dL_law_447 : decode cL_law 447 = .ok (.iconst 2, 1) := by decide +kernel
theorem dL_law_448 : decode cL_law 448 = .ok (.iadd, 1) := by decide +kernel
theorem dL_law_449 : decode cL_law 449 = .ok (.iaload, 1) := by decide +kernel
theorem dL_law_450 : decode cL_law 450 = .ok (.aload_n 0, 1) := by decide +kernel
theorem dL_law_451 : decode cL_law 451 = .ok (.iload_n 3, 1) := by decide +kernel
theorem dL_law_452 : decode cL_law 452 = .ok (.iconst 3, 1) := by decide +kernel
theorem dL_law_453 : decode cL_law 453 = .ok (.iadd, 1) := by decide +kernel
theorem dL_law_454 : decode cL_law 454 = .ok (.iaload, 1) := by decide +kernel
theorem dL_law_455 : decode cL_law 455 = .ok (.invokevirtual 53, 3) := by decide +kernel
theorem dL_law_458 : decode cL_law 458 = .ok (.if_icmp .eq 479, 3) := by decide +kernel
theorem dL_law_461 : decode cL_law 461 = .ok (.iconst 0, 1) := by decide +kernel
theorem dL_law_462 : decode cL_law 462 = .ok (.ireturn, 1) := by decide +kernel
theorem dL_law_463 : decode cL_law 463 = .ok (.aload_n 1, 1) := by decide +kernel
theorem dL_law_464 : decode cL_law 464 = .ok (.aload_n 0, 1) := by decide +kernel
theorem dL_law_465 : decode cL_law 465 = .ok (.iload_n 3, 1) := by decide +kernel
theorem dL_law_466 : decode cL_law 466 = .ok (.iconst 1, 1) := by decide +kernel
theorem dL_law_467 : decode cL_law 467 = .ok (.iadd, 1) := by decide +kernel
theorem dL_law_468 : decode cL_law 468 = .ok (.iaload, 1) := by decide +kernel
theorem dL_law_469 : decode cL_law 469 = .ok (.aload_n 0, 1) := by decide +kernel
theorem dL_law_470 : decode cL_law 470 = .ok (.iload_n 3, 1) := by decide +kernel
theorem dL_law_471 : decode cL_law 471 = .ok (.iconst 2, 1) := by decide +kernel
theorem dL_law_472 : decode cL_law 472 = .ok (.iadd, 1) := by decide +kernel
theorem dL_law_473 : decode cL_law 473 = .ok (.iaload, 1) := by decide +kernel
theorem dL_law_474 : decode cL_law 474 = .ok (.aload_n 0, 1) := by decide +kernel
theorem dL_law_475 : decode cL_law 475 = .ok (.iload_n 3, 1) := by decide +kernel
theorem dL_law_476 : decode cL_law 476 = .ok (.iconst 3, 1) := by decide +kernel
theorem dL_law_477 : decode cL_law 477 = .ok (.iadd, 1) := by decide +kernel
theorem dL_law_478 : decode cL_law 478 = .ok (.iaload, 1) := by decide +kernel
theorem dL_law_479 : decode cL_law 479 = .ok (.invokevirtual 54, 3) := by decide +kernel
theorem dL_law_482 : decode cL_law 482 = .ok (.aload_n 2, 1) := by decide +kernel
theorem dL_law_483 : decode cL_law 483 = .ok (.aload_n 0, 1) := by decide +kernel
theorem dL_law_484 : decode cL_law 484 = .ok (.iload_n 3, 1) := by decide +kernel
theorem dL_law_485 : decode cL_law 485 = .ok (.iconst 1, 1) := by decide +kernel
theorem dL_law_486 : decode cL_law 486 = .ok (.iadd, 1) := by decide +kernel
theorem dL_law_487 : decode cL_law 487 = .ok (.iaload, 1) := by decide +kernel
theorem dL_law_488 : decode cL_law 488 = .ok (.aload_n 0, 1) := by decide +kernel
theorem dL_law_489 : decode cL_law 489 = .ok (.iload_n 3, 1) := by decide +kernel
theorem dL_law_490 : decode cL_law 490 = .ok (.iconst 2, 1) := by decide +kernel
theorem dL_law_491 : decode cL_law 491 = .ok (.iadd, 1) := by decide +kernel
theorem dL_law_492 : decode cL_law 492 = .ok (.iaload, 1) := by decide +kernel
theorem dL_law_493 : decode cL_law 493 = .ok (.aload_n 0, 1) := by decide +kernel
theorem dL_law_494 : decode cL_law 494 = .ok (.iload_n 3, 1) := by decide +kernel
theorem dL_law_495 : decode cL_law 495 = .ok (.iconst 3, 1) := by decide +kernel
theorem dL_law_496 : decode cL_law 496 = .ok (.iadd, 1) := by decide +kernel
theorem dL_law_497 : decode cL_law 497 = .ok (.iaload, 1) := by decide +kernel
theorem dL_law_498 : decode cL_law 498 = .ok (.invokevirtual 57, 3) := by decide +kernel
theorem dL_law_501 : decode cL_law 501 = .ok (.if_icmp .eq 436, 3) := by decide +kernel
theorem dL_law_504 : decode cL_law 504 = .ok (.iconst 0, 1) := by decide +kernel
theorem dL_law_505 : decode cL_law 505 = .ok (.ireturn, 1) := by decide +kernel
theorem dL_law_506 : decode cL_law 506 = .ok (.aload_n 1, 1) := by decide +kernel
theorem dL_law_507 : decode cL_law 507 = .ok (.aload_n 0, 1) := by decide +kernel
theorem dL_law_508 : decode cL_law 508 = .ok (.iload_n 3, 1) := by decide +kernel
theorem dL_law_509 : decode cL_law 509 = .ok (.iconst 1, 1) := by decide +kernel
theorem dL_law_510 : decode cL_law 510 = .ok (.iadd, 1) := by decide +kernel
theorem dL_law_511 : decode cL_law 511 = .ok (.iaload, 1) := by decide +kernel
theorem dL_law_512 : decode cL_law 512 = .ok (.invokevirtual 58, 3) := by decide +kernel
theorem dL_law_515 : decode cL_law 515 = .ok (.aload_n 2, 1) := by decide +kernel
theorem dL_law_516 : decode cL_law 516 = .ok (.aload_n 0, 1) := by decide +kernel
theorem dL_law_517 : decode cL_law 517 = .ok (.iload_n 3, 1) := by decide +kernel
theorem dL_law_518 : decode cL_law 518 = .ok (.iconst 1, 1) := by decide +kernel
theorem dL_law_519 : decode cL_law 519 = .ok (.iadd, 1) := by decide +kernel
theorem dL_law_520 : decode cL_law 520 = .ok (.iaload, 1) := by decide +kernel
theorem dL_law_521 : decode cL_law 521 = .ok (.invokevirtual 61, 3) := by decide +kernel
theorem dL_law_524 : decode cL_law 524 = .ok (.if_icmp .eq 413, 3) := by decide +kernel
theorem dL_law_527 : decode cL_law 527 = .ok (.iconst 0, 1) := by decide +kernel
theorem dL_law_528 : decode cL_law 528 = .ok (.ireturn, 1) := by decide +kernel
theorem dL_law_529 : decode cL_law 529 = .ok (.aload_n 1, 1) := by decide +kernel
theorem dL_law_530 : decode cL_law 530 = .ok (.aload_n 0, 1) := by decide +kernel
theorem dL_law_531 : decode cL_law 531 = .ok (.iload_n 3, 1) := by decide +kernel
theorem dL_law_532 : decode cL_law 532 = .ok (.iconst 1, 1) := by decide +kernel
theorem dL_law_533 : decode cL_law 533 = .ok (.iadd, 1) := by decide +kernel
theorem dL_law_534 : decode cL_law 534 = .ok (.iaload, 1) := by decide +kernel
theorem dL_law_535 : decode cL_law 535 = .ok (.invokevirtual 62, 3) := by decide +kernel
theorem dL_law_538 : decode cL_law 538 = .ok (.aload_n 2, 1) := by decide +kernel
theorem dL_law_539 : decode cL_law 539 = .ok (.aload_n 0, 1) := by decide +kernel
theorem dL_law_540 : decode cL_law 540 = .ok (.iload_n 3, 1) := by decide +kernel
theorem dL_law_541 : decode cL_law 541 = .ok (.iconst 1, 1) := by decide +kernel
theorem dL_law_542 : decode cL_law 542 = .ok (.iadd, 1) := by decide +kernel
theorem dL_law_543 : decode cL_law 543 = .ok (.iaload, 1) := by decide +kernel
theorem dL_law_544 : decode cL_law 544 = .ok (.invokevirtual 65, 3) := by decide +kernel
theorem dL_law_547 : decode cL_law 547 = .ok (.if_icmp .eq 390, 3) := by decide +kernel
theorem dL_law_550 : decode cL_law 550 = .ok (.iconst 0, 1) := by decide +kernel
theorem dL_law_551 : decode cL_law 551 = .ok (.ireturn, 1) := by decide +kernel
theorem dL_law_552 : decode cL_law 552 = .ok (.aload_n 1, 1) := by decide +kernel
theorem dL_law_553 : decode cL_law 553 = .ok (.aload_n 0, 1) := by decide +kernel
theorem dL_law_554 : decode cL_law 554 = .ok (.iload_n 3, 1) := by decide +kernel
theorem dL_law_555 : decode cL_law 555 = .ok (.iconst 1, 1) := by decide +kernel
theorem dL_law_556 : decode cL_law 556 = .ok (.iadd, 1) := by decide +kernel
theorem dL_law_557 : decode cL_law 557 = .ok (.iaload, 1) := by decide +kernel
theorem dL_law_558 : decode cL_law 558 = .ok (.invokevirtual 66, 3) := by decide +kernel
theorem dL_law_561 : decode cL_law 561 = .ok (.aload_n 2, 1) := by decide +kernel
theorem dL_law_562 : decode cL_law 562 = .ok (.aload_n 0, 1) := by decide +kernel
theorem dL_law_563 : decode cL_law 563 = .ok (.iload_n 3, 1) := by decide +kernel
theorem dL_law_564 : decode cL_law 564 = .ok (.iconst 1, 1) := by decide +kernel
theorem dL_law_565 : decode cL_law 565 = .ok (.iadd, 1) := by decide +kernel
theorem dL_law_566 : decode cL_law 566 = .ok (.iaload, 1) := by decide +kernel
theorem dL_law_567 : decode cL_law 567 = .ok (.invokevirtual 69, 3) := by decide +kernel
theorem dL_law_570 : decode cL_law 570 = .ok (.if_icmp .eq 367, 3) := by decide +kernel
theorem dL_law_573 : decode cL_law 573 = .ok (.iconst 0, 1) := by decide +kernel
theorem dL_law_574 : decode cL_law 574 = .ok (.ireturn, 1) := by decide +kernel
theorem dL_law_575 : decode cL_law 575 = .ok (.aload_n 1, 1) := by decide +kernel
theorem dL_law_576 : decode cL_law 576 = .ok (.aload_n 0, 1) := by decide +kernel
theorem dL_law_577 : decode cL_law 577 = .ok (.iload_n 3, 1) := by decide +kernel
theorem dL_law_578 : decode cL_law 578 = .ok (.iconst 1, 1) := by decide +kernel
theorem dL_law_579 : decode cL_law 579 = .ok (.iadd, 1) := by decide +kernel
theorem dL_law_580 : decode cL_law 580 = .ok (.iaload, 1) := by decide +kernel
theorem dL_law_581 : decode cL_law 581 = .ok (.invokevirtual 70, 3) := by decide +kernel
theorem dL_law_584 : decode cL_law 584 = .ok (.aload_n 2, 1) := by decide +kernel
theorem dL_law_585 : decode cL_law 585 = .ok (.aload_n 0, 1) := by decide +kernel
theorem dL_law_586 : decode cL_law 586 = .ok (.iload_n 3, 1) := by decide +kernel
theorem dL_law_587 : decode cL_law 587 = .ok (.iconst 1, 1) := by decide +kernel
theorem dL_law_588 : decode cL_law 588 = .ok (.iadd, 1) := by decide +kernel
theorem dL_law_589 : decode cL_law 589 = .ok (.iaload, 1) := by decide +kernel
theorem dL_law_590 : decode cL_law 590 = .ok (.invokevirtual 73, 3) := by decide +kernel
theorem dL_law_593 : decode cL_law 593 = .ok (.if_icmp .eq 344, 3) := by decide +kernel
theorem dL_law_596 : decode cL_law 596 = .ok (.iconst 0, 1) := by decide +kernel
theorem dL_law_597 : decode cL_law 597 = .ok (.ireturn, 1) := by decide +kernel
theorem dL_law_598 : decode cL_law 598 = .ok (.aload_n 1, 1) := by decide +kernel
theorem dL_law_599 : decode cL_law 599 = .ok (.aload_n 0, 1) := by decide +kernel
theorem dL_law_600 : decode cL_law 600 = .ok (.iload_n 3, 1) := by decide +kernel
theorem dL_law_601 : decode cL_law 601 = .ok (.iconst 1, 1) := by decide +kernel
theorem dL_law_602 : decode cL_law 602 = .ok (.iadd, 1) := by decide +kernel
theorem dL_law_603 : decode cL_law 603 = .ok (.iaload, 1) := by decide +kernel
theorem dL_law_604 : decode cL_law 604 = .ok (.aload_n 0, 1) := by decide +kernel
theorem dL_law_605 : decode cL_law 605 = .ok (.iload_n 3, 1) := by decide +kernel
theorem dL_law_606 : decode cL_law 606 = .ok (.iconst 2, 1) := by decide +kernel
theorem dL_law_607 : decode cL_law 607 = .ok (.iadd, 1) := by decide +kernel
theorem dL_law_608 : decode cL_law 608 = .ok (.iaload, 1) := by decide +kernel
theorem dL_law_609 : decode cL_law 609 = .ok (.invokevirtual 74, 3) := by decide +kernel
theorem dL_law_612 : decode cL_law 612 = .ok (.aload_n 2, 1) := by decide +kernel
theorem dL_law_613 : decode cL_law 613 = .ok (.aload_n 0, 1) := by decide +kernel
theorem dL_law_614 : decode cL_law 614 = .ok (.iload_n 3, 1) := by decide +kernel
theorem dL_law_615 : decode cL_law 615 = .ok (.iconst 1, 1) := by decide +kernel
theorem dL_law_616 : decode cL_law 616 = .ok (.iadd, 1) := by decide +kernel
theorem dL_law_617 : decode cL_law 617 = .ok (.iaload, 1) := by decide +kernel
theorem dL_law_618 : decode cL_law 618 = .ok (.aload_n 0, 1) := by decide +kernel
theorem dL_law_619 : decode cL_law 619 = .ok (.iload_n 3, 1) := by decide +kernel
theorem dL_law_620 : decode cL_law 620 = .ok (.iconst 2, 1) := by decide +kernel
theorem dL_law_621 : decode cL_law 621 = .ok (.iadd, 1) := by decide +kernel
theorem dL_law_622 : decode cL_law 622 = .ok (.iaload, 1) := by decide +kernel
theorem dL_law_623 : decode cL_law 623 = .ok (.invokevirtual 77, 3) := by decide +kernel
theorem dL_law_626 : decode cL_law 626 = .ok (.if_icmp .eq 311, 3) := by decide +kernel
theorem dL_law_629 : decode cL_law 629 = .ok (.iconst 0, 1) := by decide +kernel
theorem dL_law_630 : decode cL_law 630 = .ok (.ireturn, 1) := by decide +kernel
theorem dL_law_631 : decode cL_law 631 = .ok (.aload_n 1, 1) := by decide +kernel
theorem dL_law_632 : decode cL_law 632 = .ok (.aload_n 0, 1) := by decide +kernel
theorem dL_law_633 : decode cL_law 633 = .ok (.iload_n 3, 1) := by decide +kernel
theorem dL_law_634 : decode cL_law 634 = .ok (.iconst 1, 1) := by decide +kernel
theorem dL_law_635 : decode cL_law 635 = .ok (.iadd, 1) := by decide +kernel
theorem dL_law_636 : decode cL_law 636 = .ok (.iaload, 1) := by decide +kernel
theorem dL_law_637 : decode cL_law 637 = .ok (.aload_n 0, 1) := by decide +kernel
theorem dL_law_638 : decode cL_law 638 = .ok (.iload_n 3, 1) := by decide +kernel
theorem dL_law_639 : decode cL_law 639 = .ok (.iconst 2, 1) := by decide +kernel
theorem dL_law_640 : decode cL_law 640 = .ok (.iadd, 1) := by decide +kernel
theorem dL_law_641 : decode cL_law 641 = .ok (.iaload, 1) := by decide +kernel
theorem dL_law_642 : decode cL_law 642 = .ok (.invokevirtual 78, 3) := by decide +kernel
theorem dL_law_645 : decode cL_law 645 = .ok (.aload_n 2, 1) := by decide +kernel
theorem dL_law_646 : decode cL_law 646 = .ok (.aload_n 0, 1) := by decide +kernel
theorem dL_law_647 : decode cL_law 647 = .ok (.iload_n 3, 1) := by decide +kernel
theorem dL_law_648 : decode cL_law 648 = .ok (.iconst 1, 1) := by decide +kernel
theorem dL_law_649 : decode cL_law 649 = .ok (.iadd, 1) := by decide +kernel
theorem dL_law_650 : decode cL_law 650 = .ok (.iaload, 1) := by decide +kernel
theorem dL_law_651 : decode cL_law 651 = .ok (.aload_n 0, 1) := by decide +kernel
theorem dL_law_652 : decode cL_law 652 = .ok (.iload_n 3, 1) := by decide +kernel
theorem dL_law_653 : decode cL_law 653 = .ok (.iconst 2, 1) := by decide +kernel
theorem dL_law_654 : decode cL_law 654 = .ok (.iadd, 1) := by decide +kernel
theorem dL_law_655 : decode cL_law 655 = .ok (.iaload, 1) := by decide +kernel
theorem dL_law_656 : decode cL_law 656 = .ok (.invokevirtual 81, 3) := by decide +kernel
theorem dL_law_659 : decode cL_law 659 = .ok (.if_icmp .eq 278, 3) := by decide +kernel
theorem dL_law_662 : decode cL_law 662 = .ok (.iconst 0, 1) := by decide +kernel
theorem dL_law_663 : decode cL_law 663 = .ok (.ireturn, 1) := by decide +kernel
theorem dL_law_664 : decode cL_law 664 = .ok (.aload_n 1, 1) := by decide +kernel
theorem dL_law_665 : decode cL_law 665 = .ok (.aload_n 0, 1) := by decide +kernel
theorem dL_law_666 : decode cL_law 666 = .ok (.iload_n 3, 1) := by decide +kernel
theorem dL_law_667 : decode cL_law 667 = .ok (.iconst 1, 1) := by decide +kernel
theorem dL_law_668 : decode cL_law 668 = .ok (.iadd, 1) := by decide +kernel
theorem dL_law_669 : decode cL_law 669 = .ok (.iaload, 1) := by decide +kernel
theorem dL_law_670 : decode cL_law 670 = .ok (.aload_n 0, 1) := by decide +kernel
theorem dL_law_671 : decode cL_law 671 = .ok (.iload_n 3, 1) := by decide +kernel
theorem dL_law_672 : decode cL_law 672 = .ok (.iconst 2, 1) := by decide +kernel
theorem dL_law_673 : decode cL_law 673 = .ok (.iadd, 1) := by decide +kernel
theorem dL_law_674 : decode cL_law 674 = .ok (.iaload, 1) := by decide +kernel
theorem dL_law_675 : decode cL_law 675 = .ok (.invokevirtual 82, 3) := by decide +kernel
theorem dL_law_678 : decode cL_law 678 = .ok (.aload_n 2, 1) := by decide +kernel
theorem dL_law_679 : decode cL_law 679 = .ok (.aload_n 0, 1) := by decide +kernel
theorem dL_law_680 : decode cL_law 680 = .ok (.iload_n 3, 1) := by decide +kernel
theorem dL_law_681 : decode cL_law 681 = .ok (.iconst 1, 1) := by decide +kernel
theorem dL_law_682 : decode cL_law 682 = .ok (.iadd, 1) := by decide +kernel
theorem dL_law_683 : decode cL_law 683 = .ok (.iaload, 1) := by decide +kernel
theorem dL_law_684 : decode cL_law 684 = .ok (.aload_n 0, 1) := by decide +kernel
theorem dL_law_685 : decode cL_law 685 = .ok (.iload_n 3, 1) := by decide +kernel
theorem dL_law_686 : decode cL_law 686 = .ok (.iconst 2, 1) := by decide +kernel
theorem dL_law_687 : decode cL_law 687 = .ok (.iadd, 1) := by decide +kernel
theorem dL_law_688 : decode cL_law 688 = .ok (.iaload, 1) := by decide +kernel
theorem dL_law_689 : decode cL_law 689 = .ok (.invokevirtual 85, 3) := by decide +kernel
theorem dL_law_692 : decode cL_law 692 = .ok (.if_icmp .eq 245, 3) := by decide +kernel
theorem dL_law_695 : decode cL_law 695 = .ok (.iconst 0, 1) := by decide +kernel
theorem dL_law_696 : decode cL_law 696 = .ok (.ireturn, 1) := by decide +kernel
theorem dL_law_697 : decode cL_law 697 = .ok (.aload_n 1, 1) := by decide +kernel
theorem dL_law_698 : decode cL_law 698 = .ok (.aload_n 0, 1) := by decide +kernel
theorem dL_law_699 : decode cL_law 699 = .ok (.iload_n 3, 1) := by decide +kernel
theorem dL_law_700 : decode cL_law 700 = .ok (.iconst 1, 1) := by decide +kernel
theorem dL_law_701 : decode cL_law 701 = .ok (.iadd, 1) := by decide +kernel
theorem dL_law_702 : decode cL_law 702 = .ok (.iaload, 1) := by decide +kernel
theorem dL_law_703 : decode cL_law 703 = .ok (.invokevirtual 86, 3) := by decide +kernel
theorem dL_law_706 : decode cL_law 706 = .ok (.aload_n 2, 1) := by decide +kernel
theorem dL_law_707 : decode cL_law 707 = .ok (.aload_n 0, 1) := by decide +kernel
theorem dL_law_708 : decode cL_law 708 = .ok (.iload_n 3, 1) := by decide +kernel
theorem dL_law_709 : decode cL_law 709 = .ok (.iconst 1, 1) := by decide +kernel
theorem dL_law_710 : decode cL_law 710 = .ok (.iadd, 1) := by decide +kernel
theorem dL_law_711 : decode cL_law 711 = .ok (.iaload, 1) := by decide +kernel
theorem dL_law_712 : decode cL_law 712 = .ok (.invokevirtual 89, 3) := by decide +kernel
theorem dL_law_715 : decode cL_law 715 = .ok (.if_icmp .eq 222, 3) := by decide +kernel
theorem dL_law_718 : decode cL_law 718 = .ok (.iconst 0, 1) := by decide +kernel
theorem dL_law_719 : decode cL_law 719 = .ok (.ireturn, 1) := by decide +kernel
theorem dL_law_720 : decode cL_law 720 = .ok (.aload_n 1, 1) := by decide +kernel
theorem dL_law_721 : decode cL_law 721 = .ok (.aload_n 0, 1) := by decide +kernel
theorem dL_law_722 : decode cL_law 722 = .ok (.iload_n 3, 1) := by decide +kernel
theorem dL_law_723 : decode cL_law 723 = .ok (.iconst 1, 1) := by decide +kernel
theorem dL_law_724 : decode cL_law 724 = .ok (.iadd, 1) := by decide +kernel
theorem dL_law_725 : decode cL_law 725 = .ok (.iaload, 1) := by decide +kernel
theorem dL_law_726 : decode cL_law 726 = .ok (.invokevirtual 90, 3) := by decide +kernel
theorem dL_law_729 : decode cL_law 729 = .ok (.aload_n 2, 1) := by decide +kernel
theorem dL_law_730 : decode cL_law 730 = .ok (.aload_n 0, 1) := by decide +kernel
theorem dL_law_731 : decode cL_law 731 = .ok (.iload_n 3, 1) := by decide +kernel
theorem dL_law_732 : decode cL_law 732 = .ok (.iconst 1, 1) := by decide +kernel
theorem dL_law_733 : decode cL_law 733 = .ok (.iadd, 1) := by decide +kernel
theorem dL_law_734 : decode cL_law 734 = .ok (.iaload, 1) := by decide +kernel
theorem dL_law_735 : decode cL_law 735 = .ok (.invokevirtual 93, 3) := by decide +kernel
theorem dL_law_738 : decode cL_law 738 = .ok (.if_icmp .eq 199, 3) := by decide +kernel
theorem dL_law_741 : decode cL_law 741 = .ok (.iconst 0, 1) := by decide +kernel
theorem dL_law_742 : decode cL_law 742 = .ok (.ireturn, 1) := by decide +kernel
theorem dL_law_743 : decode cL_law 743 = .ok (.aload_n 1, 1) := by decide +kernel
theorem dL_law_744 : decode cL_law 744 = .ok (.invokevirtual 94, 3) := by decide +kernel
theorem dL_law_747 : decode cL_law 747 = .ok (.aload_n 2, 1) := by decide +kernel
theorem dL_law_748 : decode cL_law 748 = .ok (.invokevirtual 97, 3) := by decide +kernel
theorem dL_law_751 : decode cL_law 751 = .ok (.if_icmp .eq 186, 3) := by decide +kernel
theorem dL_law_754 : decode cL_law 754 = .ok (.iconst 0, 1) := by decide +kernel
theorem dL_law_755 : decode cL_law 755 = .ok (.ireturn, 1) := by decide +kernel
theorem dL_law_756 : decode cL_law 756 = .ok (.aload_n 1, 1) := by decide +kernel
theorem dL_law_757 : decode cL_law 757 = .ok (.aload_n 0, 1) := by decide +kernel
theorem dL_law_758 : decode cL_law 758 = .ok (.iload_n 3, 1) := by decide +kernel
theorem dL_law_759 : decode cL_law 759 = .ok (.iconst 1, 1) := by decide +kernel
theorem dL_law_760 : decode cL_law 760 = .ok (.iadd, 1) := by decide +kernel
theorem dL_law_761 : decode cL_law 761 = .ok (.iaload, 1) := by decide +kernel
theorem dL_law_762 : decode cL_law 762 = .ok (.aload_n 0, 1) := by decide +kernel
theorem dL_law_763 : decode cL_law 763 = .ok (.iload_n 3, 1) := by decide +kernel
theorem dL_law_764 : decode cL_law 764 = .ok (.iconst 2, 1) := by decide +kernel
theorem dL_law_765 : decode cL_law 765 = .ok (.iadd, 1) := by decide +kernel
theorem dL_law_766 : decode cL_law 766 = .ok (.iaload, 1) := by decide +kernel
theorem dL_law_767 : decode cL_law 767 = .ok (.aload_n 0, 1) := by decide +kernel
theorem dL_law_768 : decode cL_law 768 = .ok (.iload_n 3, 1) := by decide +kernel
theorem dL_law_769 : decode cL_law 769 = .ok (.iconst 3, 1) := by decide +kernel
theorem dL_law_770 : decode cL_law 770 = .ok (.iadd, 1) := by decide +kernel
theorem dL_law_771 : decode cL_law 771 = .ok (.iaload, 1) := by decide +kernel
theorem dL_law_772 : decode cL_law 772 = .ok (.invokevirtual 98, 3) := by decide +kernel
theorem dL_law_775 : decode cL_law 775 = .ok (.aload_n 2, 1) := by decide +kernel
theorem dL_law_776 : decode cL_law 776 = .ok (.aload_n 0, 1) := by decide +kernel
theorem dL_law_777 : decode cL_law 777 = .ok (.iload_n 3, 1) := by decide +kernel
theorem dL_law_778 : decode cL_law 778 = .ok (.iconst 1, 1) := by decide +kernel
theorem dL_law_779 : decode cL_law 779 = .ok (.iadd, 1) := by decide +kernel
theorem dL_law_780 : decode cL_law 780 = .ok (.iaload, 1) := by decide +kernel
theorem dL_law_781 : decode cL_law 781 = .ok (.aload_n 0, 1) := by decide +kernel
theorem dL_law_782 : decode cL_law 782 = .ok (.iload_n 3, 1) := by decide +kernel
theorem dL_law_783 : decode cL_law 783 = .ok (.iconst 2, 1) := by decide +kernel
theorem dL_law_784 : decode cL_law 784 = .ok (.iadd, 1) := by decide +kernel
theorem dL_law_785 : decode cL_law 785 = .ok (.iaload, 1) := by decide +kernel
theorem dL_law_786 : decode cL_law 786 = .ok (.aload_n 0, 1) := by decide +kernel
theorem dL_law_787 : decode cL_law 787 = .ok (.iload_n 3, 1) := by decide +kernel
theorem dL_law_788 : decode cL_law 788 = .ok (.iconst 3, 1) := by decide +kernel
theorem dL_law_789 : decode cL_law 789 = .ok (.iadd, 1) := by decide +kernel
theorem dL_law_790 : decode cL_law 790 = .ok (.iaload, 1) := by decide +kernel
theorem dL_law_791 : decode cL_law 791 = .ok (.invokevirtual 101, 3) := by decide +kernel
theorem dL_law_794 : decode cL_law 794 = .ok (.if_icmp .eq 143, 3) := by decide +kernel
theorem dL_law_797 : decode cL_law 797 = .ok (.iconst 0, 1) := by decide +kernel
theorem dL_law_798 : decode cL_law 798 = .ok (.ireturn, 1) := by decide +kernel
theorem dL_law_799 : decode cL_law 799 = .ok (.aload_n 1, 1) := by decide +kernel
theorem dL_law_800 : decode cL_law 800 = .ok (.invokevirtual 102, 3) := by decide +kernel
theorem dL_law_803 : decode cL_law 803 = .ok (.aload_n 2, 1) := by decide +kernel
theorem dL_law_804 : decode cL_law 804 = .ok (.invokevirtual 105, 3) := by decide +kernel
theorem dL_law_807 : decode cL_law 807 = .ok (.if_icmp .eq 130, 3) := by decide +kernel
theorem dL_law_810 : decode cL_law 810 = .ok (.iconst 0, 1) := by decide +kernel
theorem dL_law_811 : decode cL_law 811 = .ok (.ireturn, 1) := by decide +kernel
theorem dL_law_812 : decode cL_law 812 = .ok (.aload_n 1, 1) := by decide +kernel
theorem dL_law_813 : decode cL_law 813 = .ok (.aload_n 0, 1) := by decide +kernel
theorem dL_law_814 : decode cL_law 814 = .ok (.iload_n 3, 1) := by decide +kernel
theorem dL_law_815 : decode cL_law 815 = .ok (.iconst 1, 1) := by decide +kernel
theorem dL_law_816 : decode cL_law 816 = .ok (.iadd, 1) := by decide +kernel
theorem dL_law_817 : decode cL_law 817 = .ok (.iaload, 1) := by decide +kernel
theorem dL_law_818 : decode cL_law 818 = .ok (.invokevirtual 106, 3) := by decide +kernel
theorem dL_law_821 : decode cL_law 821 = .ok (.aload_n 2, 1) := by decide +kernel
theorem dL_law_822 : decode cL_law 822 = .ok (.aload_n 0, 1) := by decide +kernel
theorem dL_law_823 : decode cL_law 823 = .ok (.iload_n 3, 1) := by decide +kernel
theorem dL_law_824 : decode cL_law 824 = .ok (.iconst 1, 1) := by decide +kernel
theorem dL_law_825 : decode cL_law 825 = .ok (.iadd, 1) := by decide +kernel
theorem dL_law_826 : decode cL_law 826 = .ok (.iaload, 1) := by decide +kernel
theorem dL_law_827 : decode cL_law 827 = .ok (.invokevirtual 109, 3) := by decide +kernel
theorem dL_law_830 : decode cL_law 830 = .ok (.if_icmp .eq 107, 3) := by decide +kernel
theorem dL_law_833 : decode cL_law 833 = .ok (.iconst 0, 1) := by decide +kernel
theorem dL_law_834 : decode cL_law 834 = .ok (.ireturn, 1) := by decide +kernel
theorem dL_law_835 : decode cL_law 835 = .ok (.aload_n 1, 1) := by decide +kernel
theorem dL_law_836 : decode cL_law 836 = .ok (.invokevirtual 110, 3) := by decide +kernel
theorem dL_law_839 : decode cL_law 839 = .ok (.aload_n 2, 1) := by decide +kernel
theorem dL_law_840 : decode cL_law 840 = .ok (.invokevirtual 113, 3) := by decide +kernel
theorem dL_law_843 : decode cL_law 843 = .ok (.if_icmp .eq 94, 3) := by decide +kernel
theorem dL_law_846 : decode cL_law 846 = .ok (.iconst 0, 1) := by decide +kernel
theorem dL_law_847 : decode cL_law 847 = .ok (.ireturn, 1) := by decide +kernel
theorem dL_law_848 : decode cL_law 848 = .ok (.aload_n 1, 1) := by decide +kernel
theorem dL_law_849 : decode cL_law 849 = .ok (.aload_n 0, 1) := by decide +kernel
theorem dL_law_850 : decode cL_law 850 = .ok (.iload_n 3, 1) := by decide +kernel
theorem dL_law_851 : decode cL_law 851 = .ok (.iconst 1, 1) := by decide +kernel
theorem dL_law_852 : decode cL_law 852 = .ok (.iadd, 1) := by decide +kernel
theorem dL_law_853 : decode cL_law 853 = .ok (.iaload, 1) := by decide +kernel
theorem dL_law_854 : decode cL_law 854 = .ok (.aload_n 0, 1) := by decide +kernel
theorem dL_law_855 : decode cL_law 855 = .ok (.iload_n 3, 1) := by decide +kernel
theorem dL_law_856 : decode cL_law 856 = .ok (.iconst 2, 1) := by decide +kernel
theorem dL_law_857 : decode cL_law 857 = .ok (.iadd, 1) := by decide +kernel
theorem dL_law_858 : decode cL_law 858 = .ok (.iaload, 1) := by decide +kernel
theorem dL_law_859 : decode cL_law 859 = .ok (.aload_n 0, 1) := by decide +kernel
theorem dL_law_860 : decode cL_law 860 = .ok (.iload_n 3, 1) := by decide +kernel
theorem dL_law_861 : decode cL_law 861 = .ok (.iconst 3, 1) := by decide +kernel
theorem dL_law_862 : decode cL_law 862 = .ok (.iadd, 1) := by decide +kernel
theorem dL_law_863 : decode cL_law 863 = .ok (.iaload, 1) := by decide +kernel
theorem dL_law_864 : decode cL_law 864 = .ok (.invokevirtual 114, 3) := by decide +kernel
theorem dL_law_867 : decode cL_law 867 = .ok (.aload_n 2, 1) := by decide +kernel
theorem dL_law_868 : decode cL_law 868 = .ok (.aload_n 0, 1) := by decide +kernel
theorem dL_law_869 : decode cL_law 869 = .ok (.iload_n 3, 1) := by decide +kernel
theorem dL_law_870 : decode cL_law 870 = .ok (.iconst 1, 1) := by decide +kernel
theorem dL_law_871 : decode cL_law 871 = .ok (.iadd, 1) := by decide +kernel
theorem dL_law_872 : decode cL_law 872 = .ok (.iaload, 1) := by decide +kernel
theorem dL_law_873 : decode cL_law 873 = .ok (.aload_n 0, 1) := by decide +kernel
theorem dL_law_874 : decode cL_law 874 = .ok (.iload_n 3, 1) := by decide +kernel
theorem dL_law_875 : decode cL_law 875 = .ok (.iconst 2, 1) := by decide +kernel
theorem dL_law_876 : decode cL_law 876 = .ok (.iadd, 1) := by decide +kernel
theorem dL_law_877 : decode cL_law 877 = .ok (.iaload, 1) := by decide +kernel
theorem dL_law_878 : decode cL_law 878 = .ok (.aload_n 0, 1) := by decide +kernel
theorem dL_law_879 : decode cL_law 879 = .ok (.iload_n 3, 1) := by decide +kernel
theorem dL_law_880 : decode cL_law 880 = .ok (.iconst 3, 1) := by decide +kernel
theorem dL_law_881 : decode cL_law 881 = .ok (.iadd, 1) := by decide +kernel
theorem dL_law_882 : decode cL_law 882 = .ok (.iaload, 1) := by decide +kernel
theorem dL_law_883 : decode cL_law 883 = .ok (.invokevirtual 117, 3) := by decide +kernel
theorem dL_law_886 : decode cL_law 886 = .ok (.if_icmp .eq 51, 3) := by decide +kernel
theorem dL_law_889 : decode cL_law 889 = .ok (.iconst 0, 1) := by decide +kernel
theorem dL_law_890 : decode cL_law 890 = .ok (.ireturn, 1) := by decide +kernel
theorem dL_law_891 : decode cL_law 891 = .ok (.aload_n 1, 1) := by decide +kernel
theorem dL_law_892 : decode cL_law 892 = .ok (.aload_n 0, 1) := by decide +kernel
theorem dL_law_893 : decode cL_law 893 = .ok (.iload_n 3, 1) := by decide +kernel
theorem dL_law_894 : decode cL_law 894 = .ok (.iconst 1, 1) := by decide +kernel
theorem dL_law_895 : decode cL_law 895 = .ok (.iadd, 1) := by decide +kernel
theorem dL_law_896 : decode cL_law 896 = .ok (.iaload, 1) := by decide +kernel
theorem dL_law_897 : decode cL_law 897 = .ok (.invokevirtual 118, 3) := by decide +kernel
theorem dL_law_900 : decode cL_law 900 = .ok (.aload_n 2, 1) := by decide +kernel
theorem dL_law_901 : decode cL_law 901 = .ok (.aload_n 0, 1) := by decide +kernel
theorem dL_law_902 : decode cL_law 902 = .ok (.iload_n 3, 1) := by decide +kernel
theorem dL_law_903 : decode cL_law 903 = .ok (.iconst 1, 1) := by decide +kernel
theorem dL_law_904 : decode cL_law 904 = .ok (.iadd, 1) := by decide +kernel
theorem dL_law_905 : decode cL_law 905 = .ok (.iaload, 1) := by decide +kernel
theorem dL_law_906 : decode cL_law 906 = .ok (.invokevirtual 121, 3) := by decide +kernel
theorem dL_law_909 : decode cL_law 909 = .ok (.if_icmp .eq 28, 3) := by decide +kernel
theorem dL_law_912 : decode cL_law 912 = .ok (.iconst 0, 1) := by decide +kernel
theorem dL_law_913 : decode cL_law 913 = .ok (.ireturn, 1) := by decide +kernel
theorem dL_law_914 : decode cL_law 914 = .ok (.aload_n 1, 1) := by decide +kernel
theorem dL_law_915 : decode cL_law 915 = .ok (.aload_n 0, 1) := by decide +kernel
theorem dL_law_916 : decode cL_law 916 = .ok (.iload_n 3, 1) := by decide +kernel
theorem dL_law_917 : decode cL_law 917 = .ok (.iconst 1, 1) := by decide +kernel
theorem dL_law_918 : decode cL_law 918 = .ok (.iadd, 1) := by decide +kernel
theorem dL_law_919 : decode cL_law 919 = .ok (.iaload, 1) := by decide +kernel
theorem dL_law_920 : decode cL_law 920 = .ok (.invokevirtual 122, 3) := by decide +kernel
theorem dL_law_923 : decode cL_law 923 = .ok (.aload_n 2, 1) := by decide +kernel
theorem dL_law_924 : decode cL_law 924 = .ok (.aload_n 0, 1) := by decide +kernel
theorem dL_law_925 : decode cL_law 925 = .ok (.iload_n 3, 1) := by decide +kernel
theorem dL_law_926 : decode cL_law 926 = .ok (.iconst 1, 1) := by decide +kernel
theorem dL_law_927 : decode cL_law 927 = .ok (.iadd, 1) := by decide +kernel
theorem dL_law_928 : decode cL_law 928 = .ok (.iaload, 1) := by decide +kernel
theorem dL_law_929 : decode cL_law 929 = .ok (.invokevirtual 125, 3) := by decide +kernel
theorem dL_law_932 : decode cL_law 932 = .ok (.if_icmp .eq 5, 3) := by decide +kernel
theorem dL_law_935 : decode cL_law 935 = .ok (.iconst 0, 1) := by decide +kernel
theorem dL_law_936 : decode cL_law 936 = .ok (.ireturn, 1) := by decide +kernel
theorem dL_law_937 : decode cL_law 937 = .ok (.iinc 3 6, 3) := by decide +kernel
theorem dL_law_940 : decode cL_law 940 = .ok (.goto (-922), 3) := by decide +kernel
theorem dL_law_943 : decode cL_law 943 = .ok (.iconst 1, 1) := by decide +kernel
theorem dL_law_944 : decode cL_law 944 = .ok (.ireturn, 1) := by decide +kernel
