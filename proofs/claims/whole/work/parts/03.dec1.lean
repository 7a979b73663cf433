theorem dX9_crank_26 : decode cX9_crank 26 = .ok (.iload_n 2, 1) := by decide +kernel
theorem dX9_crank_27 : decode cX9_crank 27 = .ok (.invokevirtual 82, 3) := by decide +kernel
theorem dX9_crank_30 : decode cX9_crank 30 = .ok (.ireturn, 1) := by decide +kernel
theorem dX9_bell_0 : decode cX9_bell 0 = .ok (.iload_n 1, 1) := by decide +kernel
theorem dX9_bell_1 : decode cX9_bell 1 = .ok (.bipush 8, 2) := by decide +kernel
theorem dX9_bell_3 : decode cX9_bell 3 = .ok (.invokestatic 78, 3) := by decide +kernel
theorem dX9_bell_6 : decode cX9_bell 6 = .ok (.ifCond .ne 5, 3) := by decide +kernel
theorem dX9_bell_9 : decode cX9_bell 9 = .ok (.iconst (-1), 1) := by decide +kernel
theorem dX9_bell_10 : decode cX9_bell 10 = .ok (.ireturn, 1) := by decide +kernel
theorem dX9_bell_11 : decode cX9_bell 11 = .ok (.iload_n 2, 1) := by decide +kernel
theorem dX9_bell_12 : decode cX9_bell 12 = .ok (.ifCond .ne 22, 3) := by decide +kernel
theorem dX9_bell_15 : decode cX9_bell 15 = .ok (.iload_n 3, 1) := by decide +kernel
theorem dX9_bell_16 : decode cX9_bell 16 = .ok (.bipush 6, 2) := by decide +kernel
theorem dX9_bell_18 : decode cX9_bell 18 = .ok (.invokestatic 78, 3) := by decide +kernel
theorem dX9_bell_21 : decode cX9_bell 21 = .ok (.ifCond .eq 13, 3) := by decide +kernel
theorem dX9_bell_24 : decode cX9_bell 24 = .ok (.aload_n 0, 1) := by decide +kernel
theorem dX9_bell_25 : decode cX9_bell 25 = .ok (.getfield 19, 3) := by decide +kernel
theorem dX9_bell_28 : decode cX9_bell 28 = .ok (.iload_n 1, 1) := by decide +kernel
theorem dX9_bell_29 : decode cX9_bell 29 = .ok (.iload_n 3, 1) := by decide +kernel
theorem dX9_bell_30 : decode cX9_bell 30 = .ok (.invokevirtual 86, 3) := by decide +kernel
theorem dX9_bell_33 : decode cX9_bell 33 = .ok (.ireturn, 1) := by decide +kernel
theorem dX9_bell_34 : decode cX9_bell 34 = .ok (.iload_n 2, 1) := by decide +kernel
theorem dX9_bell_35 : decode cX9_bell 35 = .ok (.iconst 1, 1) := by decide +kernel
theorem dX9_bell_36 : decode cX9_bell 36 = .ok (.if_icmp .ne 22, 3) := by decide +kernel
theorem dX9_bell_39 : decode cX9_bell 39 = .ok (.iload_n 3, 1) := by decide +kernel
theorem dX9_bell_40 : decode cX9_bell 40 = .ok (.ifCond .eq 8, 3) := by decide +kernel
theorem dX9_bell_43 : decode cX9_bell 43 = .ok (.iload_n 3, 1) := by decide +kernel
theorem dX9_bell_44 : decode cX9_bell 44 = .ok (.iconst 1, 1) := by decide +kernel
theorem dX9_bell_45 : decode cX9_bell 45 = .ok (.if_icmp .ne 13, 3) := by decide +kernel
theorem dX9_bell_48 : decode cX9_bell 48 = .ok (.aload_n 0, 1) := by decide +kernel
theorem dX9_bell_49 : decode cX9_bell 49 = .ok (.getfield 19, 3) := by decide +kernel
theorem dX9_bell_52 : decode cX9_bell 52 = .ok (.iload_n 1, 1) := by decide +kernel
theorem dX9_bell_53 : decode cX9_bell 53 = .ok (.iload_n 3, 1) := by decide +kernel
theorem dX9_bell_54 : decode cX9_bell 54 = .ok (.invokevirtual 89, 3) := by decide +kernel
theorem dX9_bell_57 : decode cX9_bell 57 = .ok (.ireturn, 1) := by decide +kernel
theorem dX9_bell_58 : decode cX9_bell 58 = .ok (.iconst (-1), 1) := by decide +kernel
theorem dX9_bell_59 : decode cX9_bell 59 = .ok (.ireturn, 1) := by decide +kernel
theorem dX9_heat_0 : decode cX9_heat 0 = .ok (.iload_n 1, 1) := by decide +kernel
theorem dX9_heat_1 : decode cX9_heat 1 = .ok (.ifCond .lt 9, 3) := by decide +kernel
theorem dX9_heat_4 : decode cX9_heat 4 = .ok (.iload_n 1, 1) := by decide +kernel
theorem dX9_heat_5 : decode cX9_heat 5 = .ok (.bipush 40, 2) := by decide +kernel
theorem dX9_heat_7 : decode cX9_heat 7 = .ok (.if_icmp .le 5, 3) := by decide +kernel
theorem dX9_heat_10 : decode cX9_heat 10 = .ok (.iconst (-1), 1) := by decide +kernel
theorem dX9_heat_11 : decode cX9_heat 11 = .ok (.ireturn, 1) := by decide +kernel
theorem dX9_heat_12 : decode cX9_heat 12 = .ok (.aload_n 0, 1) := by decide +kernel
theorem dX9_heat_13 : decode cX9_heat 13 = .ok (.getfield 28, 3) := by decide +kernel
theorem dX9_heat_16 : decode cX9_heat 16 = .ok (.getfield 92, 3) := by decide +kernel
theorem dX9_heat_19 : decode cX9_heat 19 = .ok (.istore_n 2, 1) := by decide +kernel
theorem dX9_heat_20 : decode cX9_heat 20 = .ok (.aload_n 0, 1) := by decide +kernel
theorem dX9_heat_21 : decode cX9_heat 21 = .ok (.getfield 28, 3) := by decide +kernel
theorem dX9_heat_24 : decode cX9_heat 24 = .ok (.iload_n 1, 1) := by decide +kernel
theorem dX9_heat_25 : decode cX9_heat 25 = .ok (.putfield 92, 3) := by decide +kernel
theorem dX9_heat_28 : decode cX9_heat 28 = .ok (.iload_n 2, 1) := by decide +kernel
theorem dX9_heat_29 : decode cX9_heat 29 = .ok (.ireturn, 1) := by decide +kernel
theorem dX9_pull_0 : decode cX9_pull 0 = .ok (.iload_n 1, 1) := by decide +kernel
theorem dX9_pull_1 : decode cX9_pull 1 = .ok (.iconst 4, 1) := by decide +kernel
theorem dX9_pull_2 : decode cX9_pull 2 = .ok (.invokestatic 78, 3) := by decide +kernel
theorem dX9_pull_5 : decode cX9_pull 5 = .ok (.ifCond .eq 40, 3) := by decide +kernel
theorem dX9_pull_8 : decode cX9_pull 8 = .ok (.iload_n 2, 1) := by decide +kernel
theorem dX9_pull_9 : decode cX9_pull 9 = .ok (.bipush 31, 2) := by decide +kernel
theorem dX9_pull_11 : decode cX9_pull 11 = .ok (.invokestatic 78, 3) := by decide +kernel
theorem dX9_pull_14 : decode cX9_pull 14 = .ok (.ifCond .eq 31, 3) := by decide +kernel
theorem dX9_pull_17 : decode cX9_pull 17 = .ok (.iload_n 3, 1) := by decide +kernel
theorem dX9_pull_18 : decode cX9_pull 18 = .ok (.iconst 5, 1) := by decide +kernel
theorem dX9_pull_19 : decode cX9_pull 19 = .ok (.invokestatic 78, 3) := by decide +kernel
theorem dX9_pull_22 : decode cX9_pull 22 = .ok (.ifCond .eq 23, 3) := by decide +kernel
theorem dX9_pull_25 : decode cX9_pull 25 = .ok (.iload 4, 2) := by decide +kernel
theorem dX9_pull_27 : decode cX9_pull 27 = .ok (.bipush 8, 2) := by decide +kernel
theorem dX9_pull_29 : decode cX9_pull 29 = .ok (.invokestatic 78, 3) := by decide +kernel
theorem dX9_pull_32 : decode cX9_pull 32 = .ok (.ifCond .eq 13, 3) := by decide +kernel
theorem dX9_pull_35 : decode cX9_pull 35 = .ok (.iload 5, 2) := by decide +kernel
theorem dX9_pull_37 : decode cX9_pull 37 = .ok (.ldc 96, 2) := by decide +kernel
theorem dX9_pull_39 : decode cX9_pull 39 = .ok (.invokestatic 78, 3) := by decide +kernel
theorem dX9_pull_42 : decode cX9_pull 42 = .ok (.ifCond .ne 5, 3) := by decide +kernel
theorem dX9_pull_45 : decode cX9_pull 45 = .ok (.iconst (-1), 1) := by decide +kernel
theorem dX9_pull_46 : decode cX9_pull 46 = .ok (.ireturn, 1) := by decide +kernel
theorem dX9_pull_47 : decode cX9_pull 47 = .ok (.iload 5, 2) := by decide +kernel
theorem dX9_pull_49 : decode cX9_pull 49 = .ok (.invokestatic 97, 3) := by decide +kernel
theorem dX9_pull_52 : decode cX9_pull 52 = .ok (.istore 6, 2) := by decide +kernel
theorem dX9_pull_54 : decode cX9_pull 54 = .ok (.iload 6, 2) := by decide +kernel
theorem dX9_pull_56 : decode cX9_pull 56 = .ok (.iconst 1, 1) := by decide +kernel
theorem dX9_pull_57 : decode cX9_pull 57 = .ok (.if_icmp .lt 9, 3) := by decide +kernel
theorem dX9_pull_60 : decode cX9_pull 60 = .ok (.iload 6, 2) := by decide +kernel
theorem dX9_pull_62 : decode cX9_pull 62 = .ok (.iconst 5, 1) := by decide +kernel
theorem dX9_pull_63 : decode cX9_pull 63 = .ok (.if_icmp .le 5, 3) := by decide +kernel
theorem dX9_pull_66 : decode cX9_pull 66 = .ok (.iconst (-1), 1) := by decide +kernel
theorem dX9_pull_67 : decode cX9_pull 67 = .ok (.ireturn, 1) := by decide +kernel
theorem dX9_pull_68 : decode cX9_pull 68 = .ok (.aload_n 0, 1) := by decide +kernel
theorem dX9_pull_69 : decode cX9_pull 69 = .ok (.getfield 10, 3) := by decide +kernel
theorem dX9_pull_72 : decode cX9_pull 72 = .ok (.getfield 103, 3) := by decide +kernel
theorem dX9_pull_75 : decode cX9_pull 75 = .ok (.bipush 12, 2) := by decide +kernel
theorem dX9_pull_77 : decode cX9_pull 77 = .ok (.if_icmp .lt 6, 3) := by decide +kernel
theorem dX9_pull_80 : decode cX9_pull 80 = .ok (.bipush (-3), 2) := by decide +kernel
theorem dX9_pull_82 : decode cX9_pull 82 = .ok (.ireturn, 1) := by decide +kernel
theorem dX9_pull_83 : decode cX9_pull 83 = .ok (.aload_n 0, 1) := by decide +kernel
theorem dX9_pull_84 : decode cX9_pull 84 = .ok (.getfield 10, 3) := by decide +kernel
theorem dX9_pull_87 : decode cX9_pull 87 = .ok (.iload_n 1, 1) := by decide +kernel
theorem dX9_pull_88 : decode cX9_pull 88 = .ok (.iload_n 2, 1) := by decide +kernel
theorem dX9_pull_89 : decode cX9_pull 89 = .ok (.iload_n 3, 1) := by decide +kernel
theorem dX9_pull_90 : decode cX9_pull 90 = .ok (.iload 4, 2) := by decide +kernel
theorem dX9_pull_92 : decode cX9_pull 92 = .ok (.iload 5, 2) := by decide +kernel
theorem dX9_pull_94 : decode cX9_pull 94 = .ok (.invokevirtual 106, 3) := by decide +kernel
theorem dX9_pull_97 : decode cX9_pull 97 = .ok (.ireturn, 1) := by decide +kernel
theorem dX9_cross_0 : decode cX9_cross 0 = .ok (.iload_n 1, 1) := by decide +kernel
theorem dX9_cross_1 : decode cX9_cross 1 = .ok (.bipush 16, 2) := by decide +kernel
theorem dX9_cross_3 : decode cX9_cross 3 = .ok (.invokestatic 78, 3) := by decide +kernel
theorem dX9_cross_6 : decode cX9_cross 6 = .ok (.ifCond .eq 17, 3) := by decide +kernel
theorem dX9_cross_9 : decode cX9_cross 9 = .ok (.iload_n 2, 1) := by decide +kernel
theorem dX9_cross_10 : decode cX9_cross 10 = .ok (.bipush 16, 2) := by decide +kernel
theorem dX9_cross_12 : decode cX9_cross 12 = .ok (.invokestatic 78, 3) := by decide +kernel
theorem dX9_cross_15 : decode cX9_cross 15 = .ok (.ifCond .eq 8, 3) := by decide +kernel
theorem dX9_cross_18 : decode cX9_cross 18 = .ok (.iload_n 1, 1) := by decide +kernel
theorem dX9_cross_19 : decode cX9_cross 19 = .ok (.iload_n 2, 1) := by decide +kernel
theorem dX9_cross_20 : decode cX9_cross 20 = .ok (.if_icmp .ne 5, 3) := by decide +kernel
theorem dX9_cross_23 : decode cX9_cross 23 = .ok (.iconst (-1), 1) := by decide +kernel
theorem dX9_cross_24 : decode cX9_cross 24 = .ok (.ireturn, 1) := by decide +kernel
theorem dX9_cross_25 : decode cX9_cross 25 = .ok (.aload_n 0, 1) := by decide +kernel
theorem dX9_cross_26 : decode cX9_cross 26 = .ok (.getfield 28, 3) := by decide +kernel
theorem dX9_cross_29 : decode cX9_cross 29 = .ok (.iload_n 1, 1) := by decide +kernel
theorem dX9_cross_30 : decode cX9_cross 30 = .ok (.iload_n 2, 1) := by decide +kernel
theorem dX9_cross_31 : decode cX9_cross 31 = .ok (.invokevirtual 110, 3) := by decide +kernel
theorem dX9_cross_34 : decode cX9_cross 34 = .ok (.ifCond .eq 6, 3) := by decide +kernel
theorem dX9_cross_37 : decode cX9_cross 37 = .ok (.bipush (-2), 2) := by decide +kernel
theorem dX9_cross_39 : decode cX9_cross 39 = .ok (.ireturn, 1) := by decide +kernel
theorem dX9_cross_40 : decode cX9_cross 40 = .ok (.aload_n 0, 1) := by decide +kernel
theorem dX9_cross_41 : decode cX9_cross 41 = .ok (.getfield 28, 3) := by decide +kernel
theorem dX9_cross_44 : decode cX9_cross 44 = .ok (.getfield 113, 3) := by decide +kernel
theorem dX9_cross_47 : decode cX9_cross 47 = .ok (.iconst 4, 1) := by decide +kernel
theorem dX9_cross_48 : decode cX9_cross 48 = .ok (.if_icmp .lt 6, 3) := by decide +kernel
theorem dX9_cross_51 : decode cX9_cross 51 = .ok (.bipush (-3), 2) := by decide +kernel
theorem dX9_cross_53 : decode cX9_cross 53 = .ok (.ireturn, 1) := by decide +kernel
theorem dX9_cross_54 : decode cX9_cross 54 = .ok (.aload_n 0, 1) := by decide +kernel
theorem dX9_cross_55 : decode cX9_cross 55 = .ok (.getfield 28, 3) := by decide +kernel
theorem dX9_cross_58 : decode cX9_cross 58 = .ok (.iload_n 1, 1) := by decide +kernel
theorem dX9_cross_59 : decode cX9_cross 59 = .ok (.iload_n 2, 1) := by decide +kernel
theorem dX9_cross_60 : decode cX9_cross 60 = .ok (.invokevirtual 116, 3) := by decide +kernel
theorem dX9_cross_63 : decode cX9_cross 63 = .ok (.ireturn, 1) := by decide +kernel
theorem dX9_uncross_0 : decode cX9_uncross 0 = .ok (.aload_n 0, 1) := by decide +kernel
theorem dX9_uncross_1 : decode cX9_uncross 1 = .ok (.getfield 28, 3) := by decide +kernel
theorem dX9_uncross_4 : decode cX9_uncross 4 = .ok (.invokevirtual 119, 3) := by decide +kernel
theorem dX9_uncross_7 : decode cX9_uncross 7 = .ok (.ireturn, 1) := by decide +kernel
theorem dX9_force_0 : decode cX9_force 0 = .ok (.aload_n 0, 1) := by decide +kernel
theorem dX9_force_1 : decode cX9_force 1 = .ok (.getfield 10, 3) := by decide +kernel
theorem dX9_force_4 : decode cX9_force 4 = .ok (.iload_n 1, 1) := by decide +kernel
theorem dX9_force_5 : decode cX9_force 5 = .ok (.invokevirtual 123, 3) := by decide +kernel
theorem dX9_force_8 : decode cX9_force 8 = .ok (.ifCond .ne 5, 3) := by decide +kernel
theorem dX9_force_11 : decode cX9_force 11 = .ok (.iconst (-1), 1) := by decide +kernel
theorem dX9_force_12 : decode cX9_force 12 = .ok (.ireturn, 1) := by decide +kernel
theorem dX9_force_13 : decode cX9_force 13 = .ok (.aload_n 0, 1) := by decide +kernel
theorem dX9_force_14 : decode cX9_force 14 = .ok (.getfield 28, 3) := by decide +kernel
theorem dX9_force_17 : decode cX9_force 17 = .ok (.iload_n 1, 1) := by decide +kernel
theorem dX9_force_18 : decode cX9_force 18 = .ok (.invokevirtual 127, 3) := by decide +kernel
theorem dX9_force_21 : decode cX9_force 21 = .ok (.ireturn, 1) := by decide +kernel
theorem dX9_would_0 : decode cX9_would 0 = .ok (.aload_n 0, 1) := by decide +kernel
theorem dX9_would_1 : decode cX9_would 1 = .ok (.getfield 10, 3) := by decide +kernel
theorem dX9_would_4 : decode cX9_would 4 = .ok (.iload_n 1, 1) := by decide +kernel
theorem dX9_would_5 : decode cX9_would 5 = .ok (.invokevirtual 123, 3) := by decide +kernel
theorem dX9_would_8 : decode cX9_would 8 = .ok (.ifCond .eq 12, 3) := by decide +kernel
theorem dX9_would_11 : decode cX9_would 11 = .ok (.iload_n 2, 1) := by decide +kernel
theorem dX9_would_12 : decode cX9_would 12 = .ok (.bipush 8, 2) := by decide +kernel
theorem dX9_would_14 : decode cX9_would 14 = .ok (.invokestatic 78, 3) := by decide +kernel
theorem dX9_would_17 : decode cX9_would 17 = .ok (.ifCond .ne 5, 3) := by decide +kernel
theorem dX9_would_20 : decode cX9_would 20 = .ok (.iconst (-1), 1) := by decide +kernel
theorem dX9_would_21 : decode cX9_would 21 = .ok (.ireturn, 1) := by decide +kernel
theorem dX9_would_22 : decode cX9_would 22 = .ok (.iconst 1, 1) := by decide +kernel
theorem dX9_would_23 : decode cX9_would 23 = .ok (.iload_n 2, 1) := by decide +kernel
theorem dX9_would_24 : decode cX9_would 24 = .ok (.ishl, 1) := by decide +kernel
theorem dX9_would_25 : decode cX9_would 25 = .ok (.istore_n 3, 1) := by decide +kernel
theorem dX9_would_26 : decode cX9_would 26 = .ok (.aload_n 0, 1) := by decide +kernel
theorem dX9_would_27 : decode cX9_would 27 = .ok (.getfield 28, 3) := by decide +kernel
theorem dX9_would_30 : decode cX9_would 30 = .ok (.iload_n 1, 1) := by decide +kernel
theorem dX9_would_31 : decode cX9_would 31 = .ok (.invokevirtual 130, 3) := by decide +kernel
theorem dX9_would_34 : decode cX9_would 34 = .ok (.iload_n 3, 1) := by decide +kernel
theorem dX9_would_35 : decode cX9_would 35 = .ok (.iand, 1) := by decide +kernel
theorem dX9_would_36 : decode cX9_would 36 = .ok (.ifCond .eq 5, 3) := by decide +kernel
theorem dX9_would_39 : decode cX9_would 39 = .ok (.iconst 2, 1) := by decide +kernel
theorem dX9_would_40 : decode cX9_would 40 = .ok (.ireturn, 1) := by decide +kernel
theorem dX9_would_41 : decode cX9_would 41 = .ok (.aload_n 0, 1) := by decide +kernel
theorem dX9_would_42 : decode cX9_would 42 = .ok (.getfield 28, 3) := by decide +kernel
theorem dX9_would_45 : decode cX9_would 45 = .ok (.iload_n 1, 1) := by decide +kernel
theorem dX9_would_46 : decode cX9_would 46 = .ok (.invokevirtual 133, 3) := by decide +kernel
theorem dX9_would_49 : decode cX9_would 49 = .ok (.iload_n 3, 1) := by decide +kernel
theorem dX9_would_50 : decode cX9_would 50 = .ok (.iand, 1) := by decide +kernel
theorem dX9_would_51 : decode cX9_would 51 = .ok (.ifCond .eq 7, 3) := by decide +kernel
theorem dX9_would_54 : decode cX9_would 54 = .ok (.iconst 1, 1) := by decide +kernel
theorem dX9_would_55 : decode cX9_would 55 = .ok (.goto 4, 3) := by decide +kernel
theorem dX9_would_58 : decode cX9_would 58 = .ok (.iconst 0, 1) := by decide +kernel
theorem dX9_would_59 : decode cX9_would 59 = .ok (.ireturn, 1) := by decide +kernel
theorem dX9_means_0 : decode cX9_means 0 = .ok (.iload_n 1, 1) := by decide +kernel
theorem dX9_means_1 : decode cX9_means 1 = .ok (.iconst (-1), 1) := by decide +kernel
theorem dX9_means_2 : decode cX9_means 2 = .ok (.if_icmp .lt 30, 3) := by decide +kernel
theorem dX9_means_5 : decode cX9_means 5 = .ok (.iload_n 1, 1) := by decide +kernel
theorem dX9_means_6 : decode cX9_means 6 = .ok (.bipush 6, 2) := by decide +kernel
theorem dX9_means_8 : decode cX9_means 8 = .ok (.if_icmp .ge 24, 3) := by decide +kernel
theorem dX9_means_11 : decode cX9_means 11 = .ok (.iload_n 2, 1) := by decide +kernel
theorem dX9_means_12 : decode cX9_means 12 = .ok (.ifCond .lt 20, 3) := by decide +kernel
theorem dX9_means_15 : decode cX9_means 15 = .ok (.iload_n 2, 1) := by decide +kernel
theorem dX9_means_16 : decode cX9_means 16 = .ok (.iconst 2, 1) := by decide +kernel
theorem dX9_means_17 : decode cX9_means 17 = .ok (.if_icmp .gt 15, 3) := by decide +kernel
theorem dX9_means_20 : decode cX9_means 20 = .ok (.iload_n 3, 1) := by decide +kernel
theorem dX9_means_21 : decode cX9_means 21 = .ok (.iconst (-1), 1) := by decide +kernel
theorem dX9_means_22 : decode cX9_means 22 = .ok (.if_icmp .lt 10, 3) := by decide +kernel
theorem dX9_means_25 : decode cX9_means 25 = .ok (.iload_n 3, 1) := by decide +kernel
theorem dX9_means_26 : decode cX9_means 26 = .ok (.sipush 255, 3) := by decide +kernel
theorem dX9_means_29 : decode cX9_means 29 = .ok (.if_icmp .le 5, 3) := by decide +kernel
theorem dX9_means_32 : decode cX9_means 32 = .ok (.iconst (-1), 1) := by decide +kernel
theorem dX9_means_33 : decode cX9_means 33 = .ok (.ireturn, 1) := by decide +kernel
theorem dX9_means_34 : decode cX9_means 34 = .ok (.aload_n 0, 1) := by decide +kernel
theorem dX9_means_35 : decode cX9_means 35 = .ok (.getfield 19, 3) := by decide +kernel
theorem dX9_means_38 : decode cX9_means 38 = .ok (.iload_n 1, 1) := by decide +kernel
theorem dX9_means_39 : decode cX9_means 39 = .ok (.invokevirtual 136, 3) := by decide +kernel
theorem dX9_means_42 : decode cX9_means 42 = .ok (.istore 4, 2) := by decide +kernel
theorem dX9_means_44 : decode cX9_means 44 = .ok (.iload_n 3, 1) := by decide +kernel
theorem dX9_means_45 : decode cX9_means 45 = .ok (.iconst (-1), 1) := by decide +kernel
theorem dX9_means_46 : decode cX9_means 46 = .ok (.if_icmp .eq 9, 3) := by decide +kernel
theorem dX9_means_49 : decode cX9_means 49 = .ok (.iload 4, 2) := by decide +kernel
theorem dX9_means_51 : decode cX9_means 51 = .ok (.iload_n 3, 1) := by decide +kernel
theorem dX9_means_52 : decode cX9_means 52 = .ok (.iand, 1) := by decide +kernel
theorem dX9_means_53 : decode cX9_means 53 = .ok (.istore 4, 2) := by decide +kernel
theorem dX9_means_55 : decode cX9_means 55 = .ok (.aload_n 0, 1) := by decide +kernel
theorem dX9_means_56 : decode cX9_means 56 = .ok (.getfield 28, 3) := by decide +kernel
theorem dX9_means_59 : decode cX9_means 59 = .ok (.iload 4, 2) := by decide +kernel
theorem dX9_means_61 : decode cX9_means 61 = .ok (.iload_n 2, 1) := by decide +kernel
theorem dX9_means_62 : decode cX9_means 62 = .ok (.invokevirtual 139, 3) := by decide +kernel
theorem dX9_means_65 : decode cX9_means 65 = .ok (.ireturn, 1) := by decide +kernel
theorem dX9_servant_0 : decode cX9_servant 0 = .ok (.iload_n 1, 1) := by decide +kernel
theorem dX9_servant_1 : decode cX9_servant 1 = .ok (.iconst 4, 1) := by decide +kernel
theorem dX9_servant_2 : decode cX9_servant 2 = .ok (.invokestatic 78, 3) := by decide +kernel
theorem dX9_servant_5 : decode cX9_servant 5 = .ok (.ifCond .eq 21, 3) := by decide +kernel
theorem dX9_servant_8 : decode cX9_servant 8 = .ok (.iload_n 2, 1) := by decide +kernel
theorem dX9_servant_9 : decode cX9_servant 9 = .ok (.bipush 31, 2) := by decide +kernel
theorem dX9_servant_11 : decode cX9_servant 11 = .ok (.invokestatic 78, 3) := by decide +kernel
theorem dX9_servant_14 : decode cX9_servant 14 = .ok (.ifCond .eq 12, 3) := by decide +kernel
theorem dX9_servant_17 : decode cX9_servant 17 = .ok (.iload_n 3, 1) := by decide +kernel
theorem dX9_servant_18 : decode cX9_servant 18 = .ok (.bipush 32, 2) := by decide +kernel
theorem dX9_servant_20 : decode cX9_servant 20 = .ok (.invokestatic 78, 3) := by decide +kernel
theorem dX9_servant_23 : decode cX9_servant 23 = .ok (.ifCond .ne 5, 3) := by decide +kernel
theorem dX9_servant_26 : decode cX9_servant 26 = .ok (.iconst (-1), 1) := by decide +kernel
theorem dX9_servant_27 : decode cX9_servant 27 = .ok (.ireturn, 1) := by decide +kernel
theorem dX9_servant_28 : decode cX9_servant 28 = .ok (.aload_n 0, 1) := by decide +kernel
theorem dX9_servant_29 : decode cX9_servant 29 = .ok (.getfield 35, 3) := by decide +kernel
theorem dX9_servant_32 : decode cX9_servant 32 = .ok (.getfield 142, 3) := by decide +kernel
theorem dX9_servant_35 : decode cX9_servant 35 = .ok (.iconst 5, 1) := by decide +kernel
theorem dX9_servant_36 : decode cX9_servant 36 = .ok (.if_icmp .lt 6, 3) := by decide +kernel
theorem dX9_servant_39 : decode cX9_servant 39 = .ok (.bipush (-3), 2) := by decide +kernel
theorem dX9_servant_41 : decode cX9_servant 41 = .ok (.ireturn, 1) := by decide +kernel
theorem dX9_servant_42 : decode cX9_servant 42 = .ok (.aload_n 0, 1) := by decide +kernel
theorem dX9_servant_43 : decode cX9_servant 43 = .ok (.getfield 35, 3) := by decide +kernel
theorem dX9_servant_46 : decode cX9_servant 46 = .ok (.iload_n 1, 1) := by decide +kernel
theorem dX9_servant_47 : decode cX9_servant 47 = .ok (.iload_n 2, 1) := by decide +kernel
theorem dX9_servant_48 : decode cX9_servant 48 = .ok (.iload_n 3, 1) := by decide +kernel
theorem dX9_servant_49 : decode cX9_servant 49 = .ok (.invokevirtual 143, 3) := by decide +kernel
theorem dX9_servant_52 : decode cX9_servant 52 = .ok (.ireturn, 1) := by decide +kernel
theorem dX9_ring_0 : decode cX9_ring 0 = .ok (.aload_n 0, 1) := by decide +kernel
theorem dX9_ring_1 : decode cX9_ring 1 = .ok (.getfield 10, 3) := by decide +kernel
theorem dX9_ring_4 : decode cX9_ring 4 = .ok (.iload_n 1, 1) := by decide +kernel
theorem dX9_ring_5 : decode cX9_ring 5 = .ok (.invokevirtual 123, 3) := by decide +kernel
theorem dX9_ring_8 : decode cX9_ring 8 = .ok (.ifCond .ne 5, 3) := by decide +kernel
theorem dX9_ring_11 : decode cX9_ring 11 = .ok (.iconst (-1), 1) := by decide +kernel
theorem dX9_ring_12 : decode cX9_ring 12 = .ok (.ireturn, 1) := by decide +kernel
theorem dX9_ring_13 : decode cX9_ring 13 = .ok (.aload_n 0, 1) := by decide +kernel
theorem dX9_ring_14 : decode cX9_ring 14 = .ok (.getfield 28, 3) := by decide +kernel
theorem dX9_ring_17 : decode cX9_ring 17 = .ok (.iload_n 1, 1) := by decide +kernel
theorem dX9_ring_18 : decode cX9_ring 18 = .ok (.invokevirtual 130, 3) := by decide +kernel
theorem dX9_ring_21 : decode cX9_ring 21 = .ok (.istore_n 2, 1) := by decide +kernel
theorem dX9_ring_22 : decode cX9_ring 22 = .ok (.aload_n 0, 1) := by decide +kernel
theorem dX9_ring_23 : decode cX9_ring 23 = .ok (.getfield 28, 3) := by decide +kernel
theorem dX9_ring_26 : decode cX9_ring 26 = .ok (.iload_n 1, 1) := by decide +kernel
theorem dX9_ring_27 : decode cX9_ring 27 = .ok (.invokevirtual 133, 3) := by decide +kernel
theorem dX9_ring_30 : decode cX9_ring 30 = .ok (.istore_n 3, 1) := by decide +kernel
theorem dX9_ring_31 : decode cX9_ring 31 = .ok (.iload_n 2, 1) := by decide +kernel
theorem dX9_ring_32 : decode cX9_ring 32 = .ok (.iload_n 3, 1) := by decide +kernel
theorem dX9_ring_33 : decode cX9_ring 33 = .ok (.ior, 1) := by decide +kernel
theorem dX9_ring_34 : decode cX9_ring 34 = .ok (.istore 4, 2) := by decide +kernel
theorem dX9_ring_36 : decode cX9_ring 36 = .ok (.iload 4, 2) := by decide +kernel
theorem dX9_ring_38 : decode cX9_ring 38 = .ok (.ifCond .eq 27, 3) := by decide +kernel
theorem dX9_ring_41 : decode cX9_ring 41 = .ok (.aload_n 0, 1) := by decide +kernel
theorem dX9_ring_42 : decode cX9_ring 42 = .ok (.getfield 19, 3) := by decide +kernel
theorem dX9_ring_45 : decode cX9_ring 45 = .ok (.iload_n 2, 1) := by decide +kernel
theorem dX9_ring_46 : decode cX9_ring 46 = .ok (.iload_n 3, 1) := by decide +kernel
theorem dX9_ring_47 : decode cX9_ring 47 = .ok (.invokevirtual 146, 3) := by decide +kernel
theorem dX9_ring_50 : decode cX9_ring 50 = .ok (.aload_n 0, 1) := by decide +kernel
theorem dX9_ring_51 : decode cX9_ring 51 = .ok (.getfield 42, 3) := by decide +kernel
theorem dX9_ring_54 : decode cX9_ring 54 = .ok (.iload_n 1, 1) := by decide +kernel
theorem dX9_ring_55 : decode cX9_ring 55 = .ok (.aload_n 0, 1) := by decide +kernel
theorem dX9_ring_56 : decode cX9_ring 56 = .ok (.getfield 51, 3) := by decide +kernel
theorem dX9_ring_59 : decode cX9_ring 59 = .ok (.getfield 150, 3) := by decide +kernel
theorem dX9_ring_62 : decode cX9_ring 62 = .ok (.invokevirtual 153, 3) := by decide +kernel
theorem dX9_ring_65 : decode cX9_ring 65 = .ok (.iload 4, 2) := by decide +kernel
theorem dX9_ring_67 : decode cX9_ring 67 = .ok (.ireturn, 1) := by decide +kernel
theorem dX9_ticks_0 : decode cX9_ticks 0 = .ok (.iload_n 1, 1) := by decide +kernel
theorem dX9_ticks_1 : decode cX9_ticks 1 = .ok (.iconst 1, 1) := by decide +kernel
theorem dX9_ticks_2 : decode cX9_ticks 2 = .ok (.if_icmp .lt 10, 3) := by decide +kernel
theorem dX9_ticks_5 : decode cX9_ticks 5 = .ok (.iload_n 1, 1) := by decide +kernel
theorem dX9_ticks_6 : decode cX9_ticks 6 = .ok (.sipush 200, 3) := by decide +kernel
theorem dX9_ticks_9 : decode cX9_ticks 9 = .ok (.if_icmp .le 5, 3) := by decide +kernel
theorem dX9_ticks_12 : decode cX9_ticks 12 = .ok (.iconst (-1), 1) := by decide +kernel
theorem dX9_ticks_13 : decode cX9_ticks 13 = .ok (.ireturn, 1) := by decide +kernel
theorem dX9_ticks_14 : decode cX9_ticks 14 = .ok (.aload_n 0, 1) := by decide +kernel
theorem dX9_ticks_15 : decode cX9_ticks 15 = .ok (.getfield 51, 3) := by decide +kernel
theorem dX9_ticks_18 : decode cX9_ticks 18 = .ok (.getfield 150, 3) := by decide +kernel
theorem dX9_ticks_21 : decode cX9_ticks 21 = .ok (.iload_n 1, 1) := by decide +kernel
theorem dX9_ticks_22 : decode cX9_ticks 22 = .ok (.iadd, 1) := by decide +kernel
theorem dX9_ticks_23 : decode cX9_ticks 23 = .ok (.sipush 5000, 3) := by decide +kernel
theorem dX9_ticks_26 : decode cX9_ticks 26 = .ok (.if_icmp .le 6, 3) := by decide +kernel
theorem dX9_ticks_29 : decode cX9_ticks 29 = .ok (.bipush (-3), 2) := by decide +kernel
theorem dX9_ticks_31 : decode cX9_ticks 31 = .ok (.ireturn, 1) := by decide +kernel
theorem dX9_ticks_32 : decode cX9_ticks 32 = .ok (.iconst 0, 1) := by decide +kernel
theorem dX9_ticks_33 : decode cX9_ticks 33 = .ok (.istore_n 2, 1) := by decide +kernel
theorem dX9_ticks_34 : decode cX9_ticks 34 = .ok (.iload_n 2, 1) := by decide +kernel
theorem dX9_ticks_35 : decode cX9_ticks 35 = .ok (.iload_n 1, 1) := by decide +kernel
theorem dX9_ticks_36 : decode cX9_ticks 36 = .ok (.if_icmp .ge 30, 3) := by decide +kernel
theorem dX9_ticks_39 : decode cX9_ticks 39 = .ok (.aload_n 0, 1) := by decide +kernel
theorem dX9_ticks_40 : decode cX9_ticks 40 = .ok (.getfield 51, 3) := by decide +kernel
theorem dX9_ticks_43 : decode cX9_ticks 43 = .ok (.invokevirtual 156, 3) := by decide +kernel
theorem dX9_ticks_46 : decode cX9_ticks 46 = .ok (.aload_n 0, 1) := by decide +kernel
theorem dX9_ticks_47 : decode cX9_ticks 47 = .ok (.getfield 19, 3) := by decide +kernel
theorem dX9_ticks_50 : decode cX9_ticks 50 = .ok (.invokevirtual 159, 3) := by decide +kernel
theorem dX9_ticks_53 : decode cX9_ticks 53 = .ok (.aload_n 0, 1) := by decide +kernel
theorem dX9_ticks_54 : decode cX9_ticks 54 = .ok (.getfield 51, 3) := by decide +kernel
theorem dX9_ticks_57 : decode cX9_ticks 57 = .ok (.invokevirtual 162, 3) := by decide +kernel
theorem dX9_ticks_60 : decode cX9_ticks 60 = .ok (.iinc 2 1, 3) := by decide +kernel
theorem dX9_ticks_63 : decode cX9_ticks 63 = .ok (.goto (-29), 3) := by decide +kernel
theorem dX9_ticks_66 : decode cX9_ticks 66 = .ok (.aload_n 0, 1) := by decide +kernel
theorem dX9_ticks_67 : decode cX9_ticks 67 = .ok (.getfield 51, 3) := by decide +kernel
theorem dX9_ticks_70 : decode cX9_ticks 70 = .ok (.getfield 150, 3) := by decide +kernel
theorem dX9_ticks_73 : decode cX9_ticks 73 = .ok (.ireturn, 1) := by decide +kernel
theorem dX9_takeBack_0 : decode cX9_takeBack 0 = .ok (.aload_n 0, 1) := by decide +kernel
theorem dX9_takeBack_1 : decode cX9_takeBack 1 = .ok (.getfield 10, 3) := by decide +kernel
theorem dX9_takeBack_4 : decode cX9_takeBack 4 = .ok (.iload_n 1, 1) := by decide +kernel
theorem dX9_takeBack_5 : decode cX9_takeBack 5 = .ok (.invokevirtual 123, 3) := by decide +kernel
theorem dX9_takeBack_8 : decode cX9_takeBack 8 = .ok (.ifCond .ne 5, 3) := by decide +kernel
theorem dX9_takeBack_11 : decode cX9_takeBack 11 = .ok (.iconst (-1), 1) := by decide +kernel
theorem dX9_takeBack_12 : decode cX9_takeBack 12 = .ok (.ireturn, 1) := by decide +kernel
theorem dX9_takeBack_13 : decode cX9_takeBack 13 = .ok (.aload_n 0, 1) := by decide +kernel
theorem dX9_takeBack_14 : decode cX9_takeBack 14 = .ok (.getfield 42, 3) := by decide +kernel
theorem dX9_takeBack_17 : decode cX9_takeBack 17 = .ok (.iload_n 1, 1) := by decide +kernel
theorem dX9_takeBack_18 : decode cX9_takeBack 18 = .ok (.invokevirtual 165, 3) := by decide +kernel
theorem dX9_takeBack_21 : decode cX9_takeBack 21 = .ok (.ifCond .ne 6, 3) := by decide +kernel
theorem dX9_takeBack_24 : decode cX9_takeBack 24 = .ok (.bipush (-2), 2) := by decide +kernel
theorem dX9_takeBack_26 : decode cX9_takeBack 26 = .ok (.ireturn, 1) := by decide +kernel
theorem dX9_takeBack_27 : decode cX9_takeBack 27 = .ok (.aload_n 0, 1) := by decide +kernel
theorem dX9_takeBack_28 : decode cX9_takeBack 28 = .ok (.getfield 51, 3) := by decide +kernel
theorem dX9_takeBack_31 : decode cX9_takeBack 31 = .ok (.getfield 150, 3) := by decide +kernel
theorem dX9_takeBack_34 : decode cX9_takeBack 34 = .ok (.aload_n 0, 1) := by decide +kernel
theorem dX9_takeBack_35 : decode cX9_takeBack 35 = .ok (.getfield 42, 3) := by decide +kernel
theorem dX9_takeBack_38 : decode cX9_takeBack 38 = .ok (.getfield 168, 3) := by decide +kernel
theorem dX9_takeBack_41 : decode cX9_takeBack 41 = .ok (.iload_n 1, 1) := by decide +kernel
theorem dX9_takeBack_42 : decode cX9_takeBack 42 = .ok (.iaload, 1) := by decide +kernel
theorem dX9_takeBack_43 : decode cX9_takeBack 43 = .ok (.isub, 1) := by decide +kernel
theorem dX9_takeBack_44 : decode cX9_takeBack 44 = .ok (.istore_n 2, 1) := by decide +kernel
theorem dX9_takeBack_45 : decode cX9_takeBack 45 = .ok (.aload_n 0, 1) := by decide +kernel
theorem dX9_takeBack_46 : decode cX9_takeBack 46 = .ok (.getfield 42, 3) := by decide +kernel
theorem dX9_takeBack_49 : decode cX9_takeBack 49 = .ok (.iload_n 1, 1) := by decide +kernel
theorem dX9_takeBack_50 : decode cX9_takeBack 50 = .ok (.invokevirtual 172, 3) := by decide +kernel
theorem dX9_takeBack_53 : decode cX9_takeBack 53 = .ok (.iload_n 2, 1) := by decide +kernel
theorem dX9_takeBack_54 : decode cX9_takeBack 54 = .ok (.ireturn, 1) := by decide +kernel
theorem dX9_flags_0 : decode cX9_flags 0 = .ok (.iload_n 1, 1) := by decide +kernel
theorem dX9_flags_1 : decode cX9_flags 1 = .ok (.iconst 1, 1) := by decide +kernel
theorem dX9_flags_2 : decode cX9_flags 2 = .ok (.aload_n 0, 1) := by decide +kernel
theorem dX9_flags_3 : decode cX9_flags 3 = .ok (.getfield 10, 3) := by decide +kernel
theorem dX9_flags_6 : decode cX9_flags 6 = .ok (.getfield 103, 3) := by decide +kernel
theorem dX9_flags_9 : decode cX9_flags 9 = .ok (.ishl, 1) := by decide +kernel
theorem dX9_flags_10 : decode cX9_flags 10 = .ok (.invokestatic 78, 3) := by decide +kernel
theorem dX9_flags_13 : decode cX9_flags 13 = .ok (.ifCond .ne 5, 3) := by decide +kernel
theorem dX9_flags_16 : decode cX9_flags 16 = .ok (.iconst (-1), 1) := by decide +kernel
theorem dX9_flags_17 : decode cX9_flags 17 = .ok (.ireturn, 1) := by decide +kernel
theorem dX9_flags_18 : decode cX9_flags 18 = .ok (.aload_n 0, 1) := by decide +kernel
theorem dX9_flags_19 : decode cX9_flags 19 = .ok (.getfield 42, 3) := by decide +kernel
theorem dX9_flags_22 : decode cX9_flags 22 = .ok (.getfield 176, 3) := by decide +kernel
theorem dX9_flags_25 : decode cX9_flags 25 = .ok (.iload_n 1, 1) := by decide +kernel
theorem dX9_flags_26 : decode cX9_flags 26 = .ok (.iand, 1) := by decide +kernel
theorem dX9_flags_27 : decode cX9_flags 27 = .ok (.istore_n 2, 1) := by decide +kernel
theorem dX9_flags_28 : decode cX9_flags 28 = .ok (.aload_n 0, 1) := by decide +kernel
theorem dX9_flags_29 : decode cX9_flags 29 = .ok (.getfield 42, 3) := by decide +kernel
theorem dX9_flags_32 : decode cX9_flags 32 = .ok (.dup, 1) := by decide +kernel
theorem dX9_flags_33 : decode cX9_flags 33 = .ok (.getfield 176, 3) := by decide +kernel
theorem dX9_flags_36 : decode cX9_flags 36 = .ok (.iload_n 1, 1) := by decide +kernel
theorem dX9_flags_37 : decode cX9_flags 37 = .ok (.iconst (-1), 1) := by decide +kernel
theorem dX9_flags_38 : decode cX9_flags 38 = .ok (.ixor, 1) := by decide +kernel
theorem dX9_flags_39 : decode cX9_flags 39 = .ok (.iand, 1) := by decide +kernel
theorem dX9_flags_40 : decode cX9_flags 40 = .ok (.putfield 176, 3) := by decide +kernel
theorem dX9_flags_43 : decode cX9_flags 43 = .ok (.iload_n 2, 1) := by decide +kernel
theorem dX9_flags_44 : decode cX9_flags 44 = .ok (.ireturn, 1) := by decide +kernel
theorem dX9_about_0 : decode cX9_about 0 = .ok (.aload_n 0, 1) := by decide +kernel
theorem dX9_about_1 : decode cX9_about 1 = .ok (.getfield 10, 3) := by decide +kernel
theorem dX9_about_4 : decode cX9_about 4 = .ok (.iload_n 1, 1) := by decide +kernel
theorem dX9_about_5 : decode cX9_about 5 = .ok (.invokevirtual 123, 3) := by decide +kernel
theorem dX9_about_8 : decode cX9_about 8 = .ok (.ifCond .ne 5, 3) := by decide +kernel
theorem dX9_about_11 : decode cX9_about 11 = .ok (.iconst (-1), 1) := by decide +kernel
theorem dX9_about_12 : decode cX9_about 12 = .ok (.ireturn, 1) := by decide +kernel
theorem dX9_about_13 : decode cX9_about 13 = .ok (.iload_n 2, 1) := by decide +kernel
theorem dX9_about_14 : decode cX9_about 14 = .ok (.tableswitch 86 0 4 #[34, 44, 56, 66, 76], 34) := by decide +kernel
theorem dX9_about_48 : decode cX9_about 48 = .ok (.aload_n 0, 1) := by decide +kernel
theorem dX9_about_49 : decode cX9_about 49 = .ok (.getfield 42, 3) := by decide +kernel
theorem dX9_about_52 : decode cX9_about 52 = .ok (.getfield 179, 3) := by decide +kernel
theorem dX9_about_55 : decode cX9_about 55 = .ok (.iload_n 1, 1) := by decide +kernel
theorem dX9_about_56 : decode cX9_about 56 = .ok (.iaload, 1) := by decide +kernel
theorem dX9_about_57 : decode cX9_about 57 = .ok (.ireturn, 1) := by decide +kernel
theorem dX9_about_58 : decode cX9_about 58 = .ok (.aload_n 0, 1) := by decide +kernel
theorem dX9_about_59 : decode cX9_about 59 = .ok (.getfield 42, 3) := by decide +kernel
theorem dX9_about_62 : decode cX9_about 62 = .ok (.getfield 176, 3) := by decide +kernel
theorem dX9_about_65 : decode cX9_about 65 = .ok (.iload_n 1, 1) := by decide +kernel
theorem dX9_about_66 : decode cX9_about 66 = .ok (.ishr, 1) := by decide +kernel
theorem dX9_about_67 : decode cX9_about 67 = .ok (.iconst 1, 1) := by decide +kernel
theorem dX9_about_68 : decode cX9_about 68 = .ok (.iand, 1) := by decide +kernel
theorem dX9_about_69 : decode cX9_about 69 = .ok (.ireturn, 1) := by decide +kernel
theorem dX9_about_70 : decode cX9_about 70 = .ok (.aload_n 0, 1) := by decide +kernel
theorem dX9_about_71 : decode cX9_about 71 = .ok (.getfield 42, 3) := by decide +kernel
theorem dX9_about_74 : decode cX9_about 74 = .ok (.getfield 182, 3) := by decide +kernel
theorem dX9_about_77 : decode cX9_about 77 = .ok (.iload_n 1, 1) := by decide +kernel
theorem dX9_about_78 : decode cX9_about 78 = .ok (.iaload, 1) := by decide +kernel
theorem dX9_about_79 : decode cX9_about 79 = .ok (.ireturn, 1) := by decide +kernel
theorem dX9_about_80 : decode cX9_about 80 = .ok (.aload_n 0, 1) := by decide +kernel
theorem dX9_about_81 : decode cX9_about 81 = .ok (.getfield 42, 3) := by decide +kernel
theorem dX9_about_84 : decode cX9_about 84 = .ok (.getfield 185, 3) := by decide +kernel
theorem dX9_about_87 : decode cX9_about 87 = .ok (.iload_n 1, 1) := by decide +kernel
theorem dX9_about_88 : decode cX9_about 88 = .ok (.iaload, 1) := by decide +kernel
theorem dX9_about_89 : decode cX9_about 89 = .ok (.ireturn, 1) := by decide +kernel
theorem dX9_about_90 : decode cX9_about 90 = .ok (.aload_n 0, 1) := by decide +kernel
theorem dX9_about_91 : decode cX9_about 91 = .ok (.getfield 42, 3) := by decide +kernel
theorem dX9_about_94 : decode cX9_about 94 = .ok (.getfield 188, 3) := by decide +kernel
theorem dX9_about_97 : decode cX9_about 97 = .ok (.iload_n 1, 1) := by decide +kernel
theorem dX9_about_98 : decode cX9_about 98 = .ok (.iaload, 1) := by decide +kernel
theorem dX9_about_99 : decode cX9_about 99 = .ok (.ireturn, 1) := by decide +kernel
theorem dX9_about_100 : decode cX9_about 100 = .ok (.iconst (-1), 1) := by decide +kernel
theorem dX9_about_101 : decode cX9_about 101 = .ok (.ireturn, 1) := by decide +kernel
theorem dX9_servantTold_0 : decode cX9_servantTold 0 = .ok (.iload_n 1, 1) := by decide +kernel
theorem dX9_servantTold_1 : decode cX9_servantTold 1 = .ok (.aload_n 0, 1) := by decide +kernel
theorem dX9_servantTold_2 : decode cX9_servantTold 2 = .ok (.getfield 35, 3) := by decide +kernel
theorem dX9_servantTold_5 : decode cX9_servantTold 5 = .ok (.getfield 142, 3) := by decide +kernel
theorem dX9_servantTold_8 : decode cX9_servantTold 8 = .ok (.invokestatic 78, 3) := by decide +kernel
theorem dX9_servantTold_11 : decode cX9_servantTold 11 = .ok (.ifCond .ne 5, 3) := by decide +kernel
theorem dX9_servantTold_14 : decode cX9_servantTold 14 = .ok (.iconst (-1), 1) := by decide +kernel
theorem dX9_servantTold_15 : decode cX9_servantTold 15 = .ok (.ireturn, 1) := by decide +kernel
theorem dX9_servantTold_16 : decode cX9_servantTold 16 = .ok (.iload_n 2, 1) := by decide +kernel
theorem dX9_servantTold_17 : decode cX9_servantTold 17 = .ok (.tableswitch 108 0 4 #[35, 45, 55, 65, 98], 35) := by decide +kernel
theorem dX9_servantTold_52 : decode cX9_servantTold 52 = .ok (.aload_n 0, 1) := by decide +kernel
theorem dX9_servantTold_53 : decode cX9_servantTold 53 = .ok (.getfield 35, 3) := by decide +kernel
theorem dX9_servantTold_56 : decode cX9_servantTold 56 = .ok (.getfield 191, 3) := by decide +kernel
theorem dX9_servantTold_59 : decode cX9_servantTold 59 = .ok (.iload_n 1, 1) := by decide +kernel
theorem dX9_servantTold_60 : decode cX9_servantTold 60 = .ok (.iaload, 1) := by decide +kernel
theorem dX9_servantTold_61 : decode cX9_servantTold 61 = .ok (.ireturn, 1) := by decide +kernel
theorem dX9_servantTold_62 : decode cX9_servantTold 62 = .ok (.aload_n 0, 1) := by decide +kernel
theorem dX9_servantTold_63 : decode cX9_servantTold 63 = .ok (.getfield 35, 3) := by decide +kernel
theorem dX9_servantTold_66 : decode cX9_servantTold 66 = .ok (.getfield 194, 3) := by decide +kernel
theorem dX9_servantTold_69 : decode cX9_servantTold 69 = .ok (.iload_n 1, 1) := by decide +kernel
theorem dX9_servantTold_70 : decode cX9_servantTold 70 = .ok (.iaload, 1) := by decide +kernel
theorem dX9_servantTold_71 : decode cX9_servantTold 71 = .ok (.ireturn, 1) := by decide +kernel
theorem dX9_servantTold_72 : decode cX9_servantTold 72 = .ok (.aload_n 0, 1) := by decide +kernel
theorem dX9_servantTold_73 : decode cX9_servantTold 73 = .ok (.getfield 35, 3) := by decide +kernel
theorem dX9_servantTold_76 : decode cX9_servantTold 76 = .ok (.getfield 197, 3) := by decide +kernel
theorem dX9_servantTold_79 : decode cX9_servantTold 79 = .ok (.iload_n 1, 1) := by decide +kernel
theorem dX9_servantTold_80 : decode cX9_servantTold 80 = .ok (.iaload, 1) := by decide +kernel
theorem dX9_servantTold_81 : decode cX9_servantTold 81 = .ok (.ireturn, 1) := by decide +kernel
theorem dX9_servantTold_82 : decode cX9_servantTold 82 = .ok (.aload_n 0, 1) := by decide +kernel
theorem dX9_servantTold_83 : decode cX9_servantTold 83 = .ok (.getfield 35, 3) := by decide +kernel
theorem dX9_servantTold_86 : decode cX9_servantTold 86 = .ok (.iload_n 1, 1) := by decide +kernel
theorem dX9_servantTold_87 : decode cX9_servantTold 87 = .ok (.invokevirtual 200, 3) := by decide +kernel
theorem dX9_servantTold_90 : decode cX9_servantTold 90 = .ok (.ifCond .eq 7, 3) := by decide +kernel
theorem dX9_servantTold_93 : decode cX9_servantTold 93 = .ok (.iconst 0, 1) := by decide +kernel
theorem dX9_servantTold_94 : decode cX9_servantTold 94 = .ok (.goto 20, 3) := by decide +kernel
theorem dX9_servantTold_97 : decode cX9_servantTold 97 = .ok (.aload_n 0, 1) := by decide +kernel
theorem dX9_servantTold_98 : decode cX9_servantTold 98 = .ok (.getfield 35, 3) := by decide +kernel
theorem dX9_servantTold_101 : decode cX9_servantTold 101 = .ok (.getfield 203, 3) := by decide +kernel
theorem dX9_servantTold_104 : decode cX9_servantTold 104 = .ok (.iload_n 1, 1) := by decide +kernel
theorem dX9_servantTold_105 : decode cX9_servantTold 105 = .ok (.iaload, 1) := by decide +kernel
theorem dX9_servantTold_106 : decode cX9_servantTold 106 = .ok (.aload_n 0, 1) := by decide +kernel
theorem dX9_servantTold_107 : decode cX9_servantTold 107 = .ok (.getfield 51, 3) := by decide +kernel
theorem dX9_servantTold_110 : decode cX9_servantTold 110 = .ok (.getfield 150, 3) := by decide +kernel
theorem dX9_servantTold_113 : decode cX9_servantTold 113 = .ok (.isub, 1) := by decide +kernel
theorem dX9_servantTold_114 : decode cX9_servantTold 114 = .ok (.ireturn, 1) := by decide +kernel
theorem dX9_servantTold_115 : decode cX9_servantTold 115 = .ok (.aload_n 0, 1) := by decide +kernel
theorem dX9_servantTold_116 : decode cX9_servantTold 116 = .ok (.getfield 35, 3) := by decide +kernel
theorem dX9_servantTold_119 : decode cX9_servantTold 119 = .ok (.getfield 206, 3) := by decide +kernel
theorem dX9_servantTold_122 : decode cX9_servantTold 122 = .ok (.iload_n 1, 1) := by decide +kernel
theorem dX9_servantTold_123 : decode cX9_servantTold 123 = .ok (.iaload, 1) := by decide +kernel
theorem dX9_servantTold_124 : decode cX9_servantTold 124 = .ok (.ireturn, 1) := by decide +kernel
theorem dX9_servantTold_125 : decode cX9_servantTold 125 = .ok (.iconst (-1), 1) := by decide +kernel
theorem dX9_servantTold_126 : decode cX9_servantTold 126 = .ok (.ireturn, 1) := by decide +kernel
theorem dX9_way_0 : decode cX9_way 0 = .ok (.iload_n 1, 1) := by decide +kernel
theorem dX9_way_1 : decode cX9_way 1 = .ok (.aload_n 0, 1) := by decide +kernel
theorem dX9_way_2 : decode cX9_way 2 = .ok (.getfield 35, 3) := by decide +kernel
theorem dX9_way_5 : decode cX9_way 5 = .ok (.getfield 142, 3) := by decide +kernel
theorem dX9_way_8 : decode cX9_way 8 = .ok (.invokestatic 78, 3) := by decide +kernel
theorem dX9_way_11 : decode cX9_way 11 = .ok (.ifCond .eq 14, 3) := by decide +kernel
theorem dX9_way_14 : decode cX9_way 14 = .ok (.aload_n 0, 1) := by decide +kernel
theorem dX9_way_15 : decode cX9_way 15 = .ok (.getfield 10, 3) := by decide +kernel
theorem dX9_way_18 : decode cX9_way 18 = .ok (.iload_n 2, 1) := by decide +kernel
theorem dX9_way_19 : decode cX9_way 19 = .ok (.invokevirtual 123, 3) := by decide +kernel
theorem dX9_way_22 : decode cX9_way 22 = .ok (.ifCond .ne 5, 3) := by decide +kernel
theorem dX9_way_25 : decode cX9_way 25 = .ok (.iconst (-1), 1) := by decide +kernel
theorem dX9_way_26 : decode cX9_way 26 = .ok (.ireturn, 1) := by decide +kernel
theorem dX9_way_27 : decode cX9_way 27 = .ok (.aload_n 0, 1) := by decide +kernel
theorem dX9_way_28 : decode cX9_way 28 = .ok (.getfield 35, 3) := by decide +kernel
theorem dX9_way_31 : decode cX9_way 31 = .ok (.iload_n 1, 1) := by decide +kernel
theorem dX9_way_32 : decode cX9_way 32 = .ok (.aload_n 0, 1) := by decide +kernel
theorem dX9_way_33 : decode cX9_way 33 = .ok (.getfield 10, 3) := by decide +kernel
theorem dX9_way_36 : decode cX9_way 36 = .ok (.getfield 207, 3) := by decide +kernel
theorem dX9_way_39 : decode cX9_way 39 = .ok (.iload_n 2, 1) := by decide +kernel
theorem dX9_way_40 : decode cX9_way 40 = .ok (.iaload, 1) := by decide +kernel
theorem dX9_way_41 : decode cX9_way 41 = .ok (.aload_n 0, 1) := by decide +kernel
theorem dX9_way_42 : decode cX9_way 42 = .ok (.getfield 10, 3) := by decide +kernel
theorem dX9_way_45 : decode cX9_way 45 = .ok (.getfield 208, 3) := by decide +kernel
theorem dX9_way_48 : decode cX9_way 48 = .ok (.iload_n 2, 1) := by decide +kernel
theorem dX9_way_49 : decode cX9_way 49 = .ok (.iaload, 1) := by decide +kernel
theorem dX9_way_50 : decode cX9_way 50 = .ok (.invokevirtual 209, 3) := by decide +kernel
theorem dX9_way_53 : decode cX9_way 53 = .ok (.ireturn, 1) := by decide +kernel
theorem dX9_swings_0 : decode cX9_swings 0 = .ok (.iload_n 1, 1) := by decide +kernel
theorem dX9_swings_1 : decode cX9_swings 1 = .ok (.iconst (-1), 1) := by decide +kernel
theorem dX9_swings_2 : decode cX9_swings 2 = .ok (.if_icmp .ne 11, 3) := by decide +kernel
theorem dX9_swings_5 : decode cX9_swings 5 = .ok (.aload_n 0, 1) := by decide +kernel
theorem dX9_swings_6 : decode cX9_swings 6 = .ok (.getfield 19, 3) := by decide +kernel
theorem dX9_swings_9 : decode cX9_swings 9 = .ok (.invokevirtual 212, 3) := by decide +kernel
theorem dX9_swings_12 : decode cX9_swings 12 = .ok (.ireturn, 1) := by decide +kernel
theorem dX9_swings_13 : decode cX9_swings 13 = .ok (.iload_n 1, 1) := by decide +kernel
theorem dX9_swings_14 : decode cX9_swings 14 = .ok (.bipush 8, 2) := by decide +kernel
theorem dX9_swings_16 : decode cX9_swings 16 = .ok (.invokestatic 78, 3) := by decide +kernel
theorem dX9_swings_19 : decode cX9_swings 19 = .ok (.ifCond .ne 5, 3) := by decide +kernel
theorem dX9_swings_22 : decode cX9_swings 22 = .ok (.iconst (-1), 1) := by decide +kernel
theorem dX9_swings_23 : decode cX9_swings 23 = .ok (.ireturn, 1) := by decide +kernel
theorem dX9_swings_24 : decode cX9_swings 24 = .ok (.aload_n 0, 1) := by decide +kernel
theorem dX9_swings_25 : decode cX9_swings 25 = .ok (.getfield 19, 3) := by decide +kernel
theorem dX9_swings_28 : decode cX9_swings 28 = .ok (.getfield 215, 3) := by decide +kernel
theorem dX9_swings_31 : decode cX9_swings 31 = .ok (.iload_n 1, 1) := by decide +kernel
theorem dX9_swings_32 : decode cX9_swings 32 = .ok (.iaload, 1) := by decide +kernel
theorem dX9_swings_33 : decode cX9_swings 33 = .ok (.ireturn, 1) := by decide +kernel
theorem dX9_share_0 : decode cX9_share 0 = .ok (.iload_n 1, 1) := by decide +kernel
theorem dX9_share_1 : decode cX9_share 1 = .ok (.iconst (-1), 1) := by decide +kernel
theorem dX9_share_2 : decode cX9_share 2 = .ok (.if_icmp .eq 16, 3) := by decide +kernel
theorem dX9_share_5 : decode cX9_share 5 = .ok (.aload_n 0, 1) := by decide +kernel
theorem dX9_share_6 : decode cX9_share 6 = .ok (.getfield 10, 3) := by decide +kernel
theorem dX9_share_9 : decode cX9_share 9 = .ok (.iload_n 1, 1) := by decide +kernel
theorem dX9_share_10 : decode cX9_share 10 = .ok (.invokevirtual 123, 3) := by decide +kernel
theorem dX9_share_13 : decode cX9_share 13 = .ok (.ifCond .ne 5, 3) := by decide +kernel
theorem dX9_share_16 : decode cX9_share 16 = .ok (.iconst (-1), 1) := by decide +kernel
theorem dX9_share_17 : decode cX9_share 17 = .ok (.ireturn, 1) := by decide +kernel
theorem dX9_share_18 : decode cX9_share 18 = .ok (.aload_n 0, 1) := by decide +kernel
theorem dX9_share_19 : decode cX9_share 19 = .ok (.getfield 42, 3) := by decide +kernel
theorem dX9_share_22 : decode cX9_share 22 = .ok (.iconst 1, 1) := by decide +kernel
theorem dX9_share_23 : decode cX9_share 23 = .ok (.invokevirtual 218, 3) := by decide +kernel
theorem dX9_share_26 : decode cX9_share 26 = .ok (.iconst 4, 1) := by decide +kernel
theorem dX9_share_27 : decode cX9_share 27 = .ok (.if_icmp .le 6, 3) := by decide +kernel
theorem dX9_share_30 : decode cX9_share 30 = .ok (.bipush (-2), 2) := by decide +kernel
theorem dX9_share_32 : decode cX9_share 32 = .ok (.ireturn, 1) := by decide +kernel
theorem dX9_share_33 : decode cX9_share 33 = .ok (.aload_n 0, 1) := by decide +kernel
theorem dX9_share_34 : decode cX9_share 34 = .ok (.getfield 58, 3) := by decide +kernel
theorem dX9_share_37 : decode cX9_share 37 = .ok (.invokevirtual 221, 3) := by decide +kernel
theorem dX9_share_40 : decode cX9_share 40 = .ok (.iload_n 1, 1) := by decide +kernel
theorem dX9_share_41 : decode cX9_share 41 = .ok (.iconst (-1), 1) := by decide +kernel
theorem dX9_share_42 : decode cX9_share 42 = .ok (.if_icmp .ne 13, 3) := by decide +kernel
theorem dX9_share_45 : decode cX9_share 45 = .ok (.aload_n 0, 1) := by decide +kernel
theorem dX9_share_46 : decode cX9_share 46 = .ok (.getfield 58, 3) := by decide +kernel
theorem dX9_share_49 : decode cX9_share 49 = .ok (.getfield 224, 3) := by decide +kernel
theorem dX9_share_52 : decode cX9_share 52 = .ok (.goto 11, 3) := by decide +kernel
theorem dX9_share_55 : decode cX9_share 55 = .ok (.aload_n 0, 1) := by decide +kernel
theorem dX9_share_56 : decode cX9_share 56 = .ok (.getfield 58, 3) := by decide +kernel
theorem dX9_share_59 : decode cX9_share 59 = .ok (.iload_n 1, 1) := by decide +kernel
theorem dX9_share_60 : decode cX9_share 60 = .ok (.invokevirtual 227, 3) := by decide +kernel
theorem dX9_share_63 : decode cX9_share 63 = .ok (.ireturn, 1) := by decide +kernel
theorem dX9_send_0 : decode cX9_send 0 = .ok (.aload_n 0, 1) := by decide +kernel
theorem dX9_send_1 : decode cX9_send 1 = .ok (.getfield 42, 3) := by decide +kernel
theorem dX9_send_4 : decode cX9_send 4 = .ok (.iconst 1, 1) := by decide +kernel
theorem dX9_send_5 : decode cX9_send 5 = .ok (.invokevirtual 218, 3) := by decide +kernel
theorem dX9_send_8 : decode cX9_send 8 = .ok (.iconst 4, 1) := by decide +kernel
theorem dX9_send_9 : decode cX9_send 9 = .ok (.if_icmp .le 6, 3) := by decide +kernel
theorem dX9_send_12 : decode cX9_send 12 = .ok (.bipush (-2), 2) := by decide +kernel
theorem dX9_send_14 : decode cX9_send 14 = .ok (.ireturn, 1) := by decide +kernel
theorem dX9_send_15 : decode cX9_send 15 = .ok (.aload_n 0, 1) := by decide +kernel
theorem dX9_send_16 : decode cX9_send 16 = .ok (.getfield 58, 3) := by decide +kernel
theorem dX9_send_19 : decode cX9_send 19 = .ok (.invokevirtual 221, 3) := by decide +kernel
theorem dX9_send_22 : decode cX9_send 22 = .ok (.iconst 0, 1) := by decide +kernel
theorem dX9_send_23 : decode cX9_send 23 = .ok (.istore_n 1, 1) := by decide +kernel
theorem dX9_send_24 : decode cX9_send 24 = .ok (.iconst 0, 1) := by decide +kernel
theorem dX9_send_25 : decode cX9_send 25 = .ok (.istore_n 2, 1) := by decide +kernel
theorem dX9_send_26 : decode cX9_send 26 = .ok (.iload_n 2, 1) := by decide +kernel
theorem dX9_send_27 : decode cX9_send 27 = .ok (.aload_n 0, 1) := by decide +kernel
theorem dX9_send_28 : decode cX9_send 28 = .ok (.getfield 58, 3) := by decide +kernel
theorem dX9_send_31 : decode cX9_send 31 = .ok (.getfield 230, 3) := by decide +kernel
theorem dX9_send_34 : decode cX9_send 34 = .ok (.if_icmp .ge 50, 3) := by decide +kernel
theorem dX9_send_37 : decode cX9_send 37 = .ok (.aload_n 0, 1) := by decide +kernel
theorem dX9_send_38 : decode cX9_send 38 = .ok (.getfield 58, 3) := by decide +kernel
theorem dX9_send_41 : decode cX9_send 41 = .ok (.getfield 231, 3) := by decide +kernel
theorem dX9_send_44 : decode cX9_send 44 = .ok (.iload_n 2, 1) := by decide +kernel
theorem dX9_send_45 : decode cX9_send 45 = .ok (.iaload, 1) := by decide +kernel
theorem dX9_send_46 : decode cX9_send 46 = .ok (.iconst 5, 1) := by decide +kernel
theorem dX9_send_47 : decode cX9_send 47 = .ok (.if_icmp .eq 31, 3) := by decide +kernel
theorem dX9_send_50 : decode cX9_send 50 = .ok (.aload_n 0, 1) := by decide +kernel
theorem dX9_send_51 : decode cX9_send 51 = .ok (.getfield 51, 3) := by decide +kernel
theorem dX9_send_54 : decode cX9_send 54 = .ok (.aload_n 0, 1) := by decide +kernel
theorem dX9_send_55 : decode cX9_send 55 = .ok (.getfield 58, 3) := by decide +kernel
theorem dX9_send_58 : decode cX9_send 58 = .ok (.getfield 231, 3) := by decide +kernel
theorem dX9_send_61 : decode cX9_send 61 = .ok (.iload_n 2, 1) := by decide +kernel
theorem dX9_send_62 : decode cX9_send 62 = .ok (.iaload, 1) := by decide +kernel
theorem dX9_send_63 : decode cX9_send 63 = .ok (.aload_n 0, 1) := by decide +kernel
theorem dX9_send_64 : decode cX9_send 64 = .ok (.getfield 58, 3) := by decide +kernel
theorem dX9_send_67 : decode cX9_send 67 = .ok (.getfield 234, 3) := by decide +kernel
theorem dX9_send_70 : decode cX9_send 70 = .ok (.iload_n 2, 1) := by decide +kernel
theorem dX9_send_71 : decode cX9_send 71 = .ok (.iaload, 1) := by decide +kernel
theorem dX9_send_72 : decode cX9_send 72 = .ok (.invokevirtual 237, 3) := by decide +kernel
theorem dX9_send_75 : decode cX9_send 75 = .ok (.iinc 1 1, 3) := by decide +kernel
theorem dX9_send_78 : decode cX9_send 78 = .ok (.iinc 2 1, 3) := by decide +kernel
theorem dX9_send_81 : decode cX9_send 81 = .ok (.goto (-55), 3) := by decide +kernel
theorem dX9_send_84 : decode cX9_send 84 = .ok (.iload_n 1, 1) := by decide +kernel
theorem dX9_send_85 : decode cX9_send 85 = .ok (.ireturn, 1) := by decide +kernel
theorem dX9_test_0 : decode cX9_test 0 = .ok (.aload_n 0, 1) := by decide +kernel
theorem dX9_test_1 : decode cX9_test 1 = .ok (.getfield 10, 3) := by decide +kernel
theorem dX9_test_4 : decode cX9_test 4 = .ok (.iload_n 1, 1) := by decide +kernel
theorem dX9_test_5 : decode cX9_test 5 = .ok (.invokevirtual 123, 3) := by decide +kernel
theorem dX9_test_8 : decode cX9_test 8 = .ok (.ifCond .eq 23, 3) := by decide +kernel
theorem dX9_test_11 : decode cX9_test 11 = .ok (.iload_n 2, 1) := by decide +kernel
theorem dX9_test_12 : decode cX9_test 12 = .ok (.ifCond .lt 19, 3) := by decide +kernel
theorem dX9_test_15 : decode cX9_test 15 = .ok (.iload_n 2, 1) := by decide +kernel
theorem dX9_test_16 : decode cX9_test 16 = .ok (.bipush 40, 2) := by decide +kernel
theorem dX9_test_18 : decode cX9_test 18 = .ok (.if_icmp .gt 13, 3) := by decide +kernel
theorem dX9_test_21 : decode cX9_test 21 = .ok (.iload_n 3, 1) := by decide +kernel
theorem dX9_test_22 : decode cX9_test 22 = .ok (.iconst (-1), 1) := by decide +kernel
theorem dX9_test_23 : decode cX9_test 23 = .ok (.if_icmp .lt 8, 3) := by decide +kernel
theorem dX9_test_26 : decode cX9_test 26 = .ok (.iload_n 3, 1) := by decide +kernel
theorem dX9_test_27 : decode cX9_test 27 = .ok (.iconst 2, 1) := by decide +kernel
theorem dX9_test_28 : decode cX9_test 28 = .ok (.if_icmp .le 5, 3) := by decide +kernel
theorem dX9_test_31 : decode cX9_test 31 = .ok (.iconst (-1), 1) := by decide +kernel
theorem dX9_test_32 : decode cX9_test 32 = .ok (.ireturn, 1) := by decide +kernel
theorem dX9_test_33 : decode cX9_test 33 = .ok (.aload_n 0, 1) := by decide +kernel
theorem dX9_test_34 : decode cX9_test 34 = .ok (.getfield 67, 3) := by decide +kernel
theorem dX9_test_37 : decode cX9_test 37 = .ok (.getfield 240, 3) := by decide +kernel
theorem dX9_test_40 : decode cX9_test 40 = .ok (.bipush 12, 2) := by decide +kernel
theorem dX9_test_42 : decode cX9_test 42 = .ok (.if_icmp .lt 6, 3) := by decide +kernel
theorem dX9_test_45 : decode cX9_test 45 = .ok (.bipush (-3), 2) := by decide +kernel
theorem dX9_test_47 : decode cX9_test 47 = .ok (.ireturn, 1) := by decide +kernel
theorem dX9_test_48 : decode cX9_test 48 = .ok (.aload_n 0, 1) := by decide +kernel
theorem dX9_test_49 : decode cX9_test 49 = .ok (.getfield 67, 3) := by decide +kernel
theorem dX9_test_52 : decode cX9_test 52 = .ok (.iload_n 1, 1) := by decide +kernel
theorem dX9_test_53 : decode cX9_test 53 = .ok (.iload_n 2, 1) := by decide +kernel
theorem dX9_test_54 : decode cX9_test 54 = .ok (.iload_n 3, 1) := by decide +kernel
theorem dX9_test_55 : decode cX9_test 55 = .ok (.invokevirtual 243, 3) := by decide +kernel
theorem dX9_test_58 : decode cX9_test 58 = .ok (.ireturn, 1) := by decide +kernel
theorem dX9_noTests_0 : decode cX9_noTests 0 = .ok (.aload_n 0, 1) := by decide +kernel
theorem dX9_noTests_1 : decode cX9_noTests 1 = .ok (.getfield 67, 3) := by decide +kernel
theorem dX9_noTests_4 : decode cX9_noTests 4 = .ok (.invokevirtual 246, 3) := by decide +kernel
theorem dX9_noTests_7 : decode cX9_noTests 7 = .ok (.ireturn, 1) := by decide +kernel
theorem dX9_fault_0 : decode cX9_fault 0 = .ok (.iload_n 1, 1) := by decide +kernel
theorem dX9_fault_1 : decode cX9_fault 1 = .ok (.iconst (-1), 1) := by decide +kernel
theorem dX9_fault_2 : decode cX9_fault 2 = .ok (.if_icmp .ge 5, 3) := by decide +kernel
theorem dX9_fault_5 : decode cX9_fault 5 = .ok (.iconst (-1), 1) := by decide +kernel
theorem dX9_fault_6 : decode cX9_fault 6 = .ok (.ireturn, 1) := by decide +kernel
theorem dX9_fault_7 : decode cX9_fault 7 = .ok (.iload_n 1, 1) := by decide +kernel
theorem dX9_fault_8 : decode cX9_fault 8 = .ok (.iconst (-1), 1) := by decide +kernel
theorem dX9_fault_9 : decode cX9_fault 9 = .ok (.if_icmp .ne 11, 3) := by decide +kernel
theorem dX9_fault_12 : decode cX9_fault 12 = .ok (.aload_n 0, 1) := by decide +kernel
theorem dX9_fault_13 : decode cX9_fault 13 = .ok (.getfield 67, 3) := by decide +kernel
theorem dX9_fault_16 : decode cX9_fault 16 = .ok (.getfield 249, 3) := by decide +kernel
theorem dX9_fault_19 : decode cX9_fault 19 = .ok (.ireturn, 1) := by decide +kernel
theorem dX9_fault_20 : decode cX9_fault 20 = .ok (.iload_n 1, 1) := by decide +kernel
theorem dX9_fault_21 : decode cX9_fault 21 = .ok (.aload_n 0, 1) := by decide +kernel
theorem dX9_fault_22 : decode cX9_fault 22 = .ok (.getfield 67, 3) := by decide +kernel
theorem dX9_fault_25 : decode cX9_fault 25 = .ok (.getfield 249, 3) := by decide +kernel
theorem dX9_fault_28 : decode cX9_fault 28 = .ok (.if_icmp .ge 15, 3) := by decide +kernel
theorem dX9_fault_31 : decode cX9_fault 31 = .ok (.aload_n 0, 1) := by decide +kernel
theorem dX9_fault_32 : decode cX9_fault 32 = .ok (.getfield 67, 3) := by decide +kernel
theorem dX9_fault_35 : decode cX9_fault 35 = .ok (.getfield 250, 3) := by decide +kernel
theorem dX9_fault_38 : decode cX9_fault 38 = .ok (.iload_n 1, 1) := by decide +kernel
theorem dX9_fault_39 : decode cX9_fault 39 = .ok (.iaload, 1) := by decide +kernel
theorem dX9_fault_40 : decode cX9_fault 40 = .ok (.goto 5, 3) := by decide +kernel
theorem dX9_fault_43 : decode cX9_fault 43 = .ok (.bipush (-4), 2) := by decide +kernel
theorem dX9_fault_45 : decode cX9_fault 45 = .ok (.ireturn, 1) := by decide +kernel
theorem dX9_nextTest_0 : decode cX9_nextTest 0 = .ok (.aload_n 0, 1) := by decide +kernel
theorem dX9_nextTest_1 : decode cX9_nextTest 1 = .ok (.getfield 67, 3) := by decide +kernel
theorem dX9_nextTest_4 : decode cX9_nextTest 4 = .ok (.aload_n 0, 1) := by decide +kernel
theorem dX9_nextTest_5 : decode cX9_nextTest 5 = .ok (.getfield 28, 3) := by decide +kernel
theorem dX9_nextTest_8 : decode cX9_nextTest 8 = .ok (.getfield 92, 3) := by decide +kernel
theorem dX9_nextTest_11 : decode cX9_nextTest 11 = .ok (.invokevirtual 253, 3) := by decide +kernel
theorem dX9_nextTest_14 : decode cX9_nextTest 14 = .ok (.ireturn, 1) := by decide +kernel
theorem dX9_frame_0 : decode cX9_frame 0 = .ok (.iload_n 1, 1) := by decide +kernel
theorem dX9_frame_1 : decode cX9_frame 1 = .ok (.bipush 24, 2) := by decide +kernel
theorem dX9_frame_3 : decode cX9_frame 3 = .ok (.invokestatic 78, 3) := by decide +kernel
theorem dX9_frame_6 : decode cX9_frame 6 = .ok (.ifCond .eq 21, 3) := by decide +kernel
theorem dX9_frame_9 : decode cX9_frame 9 = .ok (.iload_n 2, 1) := by decide +kernel
theorem dX9_frame_10 : decode cX9_frame 10 = .ok (.bipush 24, 2) := by decide +kernel
theorem dX9_frame_12 : decode cX9_frame 12 = .ok (.invokestatic 78, 3) := by decide +kernel
theorem dX9_frame_15 : decode cX9_frame 15 = .ok (.ifCond .eq 12, 3) := by decide +kernel
theorem dX9_frame_18 : decode cX9_frame 18 = .ok (.iload_n 3, 1) := by decide +kernel
theorem dX9_frame_19 : decode cX9_frame 19 = .ok (.ifCond .lt 8, 3) := by decide +kernel
theorem dX9_frame_22 : decode cX9_frame 22 = .ok (.iload_n 3, 1) := by decide +kernel
theorem dX9_frame_23 : decode cX9_frame 23 = .ok (.iconst 2, 1) := by decide +kernel
theorem dX9_frame_24 : decode cX9_frame 24 = .ok (.if_icmp .le 5, 3) := by decide +kernel
theorem dX9_frame_27 : decode cX9_frame 27 = .ok (.iconst (-1), 1) := by decide +kernel
theorem dX9_frame_28 : decode cX9_frame 28 = .ok (.ireturn, 1) := by decide +kernel
theorem dX9_frame_29 : decode cX9_frame 29 = .ok (.aload_n 0, 1) := by decide +kernel
theorem dX9_frame_30 : decode cX9_frame 30 = .ok (.getfield 74, 3) := by decide +kernel
theorem dX9_frame_33 : decode cX9_frame 33 = .ok (.iload_n 1, 1) := by decide +kernel
theorem dX9_frame_34 : decode cX9_frame 34 = .ok (.iload_n 2, 1) := by decide +kernel
theorem dX9_frame_35 : decode cX9_frame 35 = .ok (.invokevirtual 256, 3) := by decide +kernel
theorem dX9_frame_38 : decode cX9_frame 38 = .ok (.ifCond .ne 5, 3) := by decide +kernel
theorem dX9_frame_41 : decode cX9_frame 41 = .ok (.iconst (-1), 1) := by decide +kernel
theorem dX9_frame_42 : decode cX9_frame 42 = .ok (.ireturn, 1) := by decide +kernel
theorem dX9_frame_43 : decode cX9_frame 43 = .ok (.aload_n 0, 1) := by decide +kernel
theorem dX9_frame_44 : decode cX9_frame 44 = .ok (.getfield 74, 3) := by decide +kernel
theorem dX9_frame_47 : decode cX9_frame 47 = .ok (.iload_n 1, 1) := by decide +kernel
theorem dX9_frame_48 : decode cX9_frame 48 = .ok (.iload_n 2, 1) := by decide +kernel
theorem dX9_frame_49 : decode cX9_frame 49 = .ok (.iload_n 3, 1) := by decide +kernel
theorem dX9_frame_50 : decode cX9_frame 50 = .ok (.invokevirtual 259, 3) := by decide +kernel
theorem dX9_frame_53 : decode cX9_frame 53 = .ok (.ireturn, 1) := by decide +kernel
theorem dX9_wires_0 : decode cX9_wires 0 = .ok (.iload_n 1, 1) := by decide +kernel
theorem dX9_wires_1 : decode cX9_wires 1 = .ok (.ldc_w 262, 3) := by decide +kernel
theorem dX9_wires_4 : decode cX9_wires 4 = .ok (.invokestatic 78, 3) := by decide +kernel
theorem dX9_wires_7 : decode cX9_wires 7 = .ok (.ifCond .ne 5, 3) := by decide +kernel
theorem dX9_wires_10 : decode cX9_wires 10 = .ok (.iconst (-1), 1) := by decide +kernel
theorem dX9_wires_11 : decode cX9_wires 11 = .ok (.ireturn, 1) := by decide +kernel
theorem dX9_wires_12 : decode cX9_wires 12 = .ok (.iload_n 1, 1) := by decide +kernel
theorem dX9_wires_13 : decode cX9_wires 13 = .ok (.invokestatic 97, 3) := by decide +kernel
theorem dX9_wires_16 : decode cX9_wires 16 = .ok (.istore_n 2, 1) := by decide +kernel
theorem dX9_wires_17 : decode cX9_wires 17 = .ok (.iload_n 2, 1) := by decide +kernel
theorem dX9_wires_18 : decode cX9_wires 18 = .ok (.iconst 1, 1) := by decide +kernel
theorem dX9_wires_19 : decode cX9_wires 19 = .ok (.if_icmp .lt 8, 3) := by decide +kernel
theorem dX9_wires_22 : decode cX9_wires 22 = .ok (.iload_n 2, 1) := by decide +kernel
theorem dX9_wires_23 : decode cX9_wires 23 = .ok (.iconst 5, 1) := by decide +kernel
theorem dX9_wires_24 : decode cX9_wires 24 = .ok (.if_icmp .le 5, 3) := by decide +kernel
theorem dX9_wires_27 : decode cX9_wires 27 = .ok (.iconst (-1), 1) := by decide +kernel
theorem dX9_wires_28 : decode cX9_wires 28 = .ok (.ireturn, 1) := by decide +kernel
theorem dX9_wires_29 : decode cX9_wires 29 = .ok (.aload_n 0, 1) := by decide +kernel
theorem dX9_wires_30 : decode cX9_wires 30 = .ok (.getfield 74, 3) := by decide +kernel
theorem dX9_wires_33 : decode cX9_wires 33 = .ok (.iload_n 1, 1) := by decide +kernel
theorem dX9_wires_34 : decode cX9_wires 34 = .ok (.invokevirtual 263, 3) := by decide +kernel
theorem dX9_wires_37 : decode cX9_wires 37 = .ok (.ireturn, 1) := by decide +kernel
theorem dX9_count_0 : decode cX9_count 0 = .ok (.iload_n 1, 1) := by decide +kernel
theorem dX9_count_1 : decode cX9_count 1 = .ok (.tableswitch 128 0 8 #[51, 59, 67, 75, 84, 93, 104, 112, 120], 51) := by decide +kernel
theorem dX9_count_52 : decode cX9_count 52 = .ok (.aload_n 0, 1) := by decide +kernel
theorem dX9_count_53 : decode cX9_count 53 = .ok (.getfield 10, 3) := by decide +kernel
theorem dX9_count_56 : decode cX9_count 56 = .ok (.getfield 103, 3) := by decide +kernel
theorem dX9_count_59 : decode cX9_count 59 = .ok (.ireturn, 1) := by decide +kernel
theorem dX9_count_60 : decode cX9_count 60 = .ok (.aload_n 0, 1) := by decide +kernel
theorem dX9_count_61 : decode cX9_count 61 = .ok (.getfield 35, 3) := by decide +kernel
theorem dX9_count_64 : decode cX9_count 64 = .ok (.getfield 142, 3) := by decide +kernel
theorem dX9_count_67 : decode cX9_count 67 = .ok (.ireturn, 1) := by decide +kernel
theorem dX9_count_68 : decode cX9_count 68 = .ok (.aload_n 0, 1) := by decide +kernel
theorem dX9_count_69 : decode cX9_count 69 = .ok (.getfield 51, 3) := by decide +kernel
theorem dX9_count_72 : decode cX9_count 72 = .ok (.getfield 150, 3) := by decide +kernel
theorem dX9_count_75 : decode cX9_count 75 = .ok (.ireturn, 1) := by decide +kernel
theorem dX9_count_76 : decode cX9_count 76 = .ok (.aload_n 0, 1) := by decide +kernel
theorem dX9_count_77 : decode cX9_count 77 = .ok (.getfield 42, 3) := by decide +kernel
theorem dX9_count_80 : decode cX9_count 80 = .ok (.iconst 1, 1) := by decide +kernel
theorem dX9_count_81 : decode cX9_count 81 = .ok (.invokevirtual 218, 3) := by decide +kernel
theorem dX9_count_84 : decode cX9_count 84 = .ok (.ireturn, 1) := by decide +kernel
theorem dX9_count_85 : decode cX9_count 85 = .ok (.aload_n 0, 1) := by decide +kernel
theorem dX9_count_86 : decode cX9_count 86 = .ok (.getfield 42, 3) := by decide +kernel
theorem dX9_count_89 : decode cX9_count 89 = .ok (.iconst 2, 1) := by decide +kernel
theorem dX9_count_90 : decode cX9_count 90 = .ok (.invokevirtual 218, 3) := by decide +kernel
theorem dX9_count_93 : decode cX9_count 93 = .ok (.ireturn, 1) := by decide +kernel
theorem dX9_count_94 : decode cX9_count 94 = .ok (.aload_n 0, 1) := by decide +kernel
theorem dX9_count_95 : decode cX9_count 95 = .ok (.getfield 42, 3) := by decide +kernel
theorem dX9_count_98 : decode cX9_count 98 = .ok (.getfield 176, 3) := by decide +kernel
theorem dX9_count_101 : decode cX9_count 101 = .ok (.invokestatic 97, 3) := by decide +kernel
theorem dX9_count_104 : decode cX9_count 104 = .ok (.ireturn, 1) := by decide +kernel
theorem dX9_count_105 : decode cX9_count 105 = .ok (.aload_n 0, 1) := by decide +kernel
theorem dX9_count_106 : decode cX9_count 106 = .ok (.getfield 67, 3) := by decide +kernel
theorem dX9_count_109 : decode cX9_count 109 = .ok (.getfield 240, 3) := by decide +kernel
theorem dX9_count_112 : decode cX9_count 112 = .ok (.ireturn, 1) := by decide +kernel
theorem dX9_count_113 : decode cX9_count 113 = .ok (.aload_n 0, 1) := by decide +kernel
theorem dX9_count_114 : decode cX9_count 114 = .ok (.getfield 74, 3) := by decide +kernel
theorem dX9_count_117 : decode cX9_count 117 = .ok (.invokevirtual 266, 3) := by decide +kernel
theorem dX9_count_120 : decode cX9_count 120 = .ok (.ireturn, 1) := by decide +kernel
theorem dX9_count_121 : decode cX9_count 121 = .ok (.aload_n 0, 1) := by decide +kernel
theorem dX9_count_122 : decode cX9_count 122 = .ok (.getfield 42, 3) := by decide +kernel
theorem dX9_count_125 : decode cX9_count 125 = .ok (.getfield 269, 3) := by decide +kernel
theorem dX9_count_128 : decode cX9_count 128 = .ok (.ireturn, 1) := by decide +kernel
theorem dX9_count_129 : decode cX9_count 129 = .ok (.iconst (-1), 1) := by decide +kernel
theorem dX9_count_130 : decode cX9_count 130 = .ok (.ireturn, 1) := by decide +kernel
theorem dX9_within_0 : decode cX9_within 0 = .ok (.iload_n 0, 1) := by decide +kernel
theorem dX9_within_1 : decode cX9_within 1 = .ok (.ifCond .lt 12, 3) := by decide +kernel
theorem dX9_within_4 : decode cX9_within 4 = .ok (.iload_n 0, 1) := by decide +kernel
theorem dX9_within_5 : decode cX9_within 5 = .ok (.iload_n 1, 1) := by decide +kernel
theorem dX9_within_6 : decode cX9_within 6 = .ok (.if_icmp .ge 7, 3) := by decide +kernel
theorem dX9_within_9 : decode cX9_within 9 = .ok (.iconst 1, 1) := by decide +kernel
theorem dX9_within_10 : decode cX9_within 10 = .ok (.goto 4, 3) := by decide +kernel
theorem dX9_within_13 : decode cX9_within 13 = .ok (.iconst 0, 1) := by decide +kernel
theorem dX9_within_14 : decode cX9_within 14 = .ok (.ireturn, 1) := by decide +kernel
theorem dX10_init_0 : decode cX10_init 0 = .ok (.aload_n 0, 1) := by decide +kernel
theorem dX10_init_1 : decode cX10_init 1 = .ok (.invokespecial 1, 3) := by decide +kernel
theorem dX10_init_4 : decode cX10_init 4 = .ok (.aload_n 0, 1) := by decide +kernel
theorem dX10_init_5 : decode cX10_init 5 = .ok (.bipush 16, 2) := by decide +kernel
theorem dX10_init_7 : decode cX10_init 7 = .ok (.newarray .int, 2) := by decide +kernel
theorem dX10_init_9 : decode cX10_init 9 = .ok (.putfield 7, 3) := by decide +kernel
theorem dX10_init_12 : decode cX10_init 12 = .ok (.aload_n 0, 1) := by decide +kernel
theorem dX10_init_13 : decode cX10_init 13 = .ok (.bipush 8, 2) := by decide +kernel
theorem dX10_init_15 : decode cX10_init 15 = .ok (.newarray .int, 2) := by decide +kernel
theorem dX10_init_17 : decode cX10_init 17 = .ok (.putfield 13, 3) := by decide +kernel
theorem dX10_init_20 : decode cX10_init 20 = .ok (.aload_n 0, 1) := by decide +kernel
theorem dX10_init_21 : decode cX10_init 21 = .ok (.bipush 8, 2) := by decide +kernel
theorem dX10_init_23 : decode cX10_init 23 = .ok (.newarray .int, 2) := by decide +kernel
theorem dX10_init_25 : decode cX10_init 25 = .ok (.putfield 16, 3) := by decide +kernel
theorem dX10_init_28 : decode cX10_init 28 = .ok (.aload_n 0, 1) := by decide +kernel
theorem dX10_init_29 : decode cX10_init 29 = .ok (.bipush 12, 2) := by decide +kernel
theorem dX10_init_31 : decode cX10_init 31 = .ok (.newarray .int, 2) := by decide +kernel
theorem dX10_init_33 : decode cX10_init 33 = .ok (.putfield 19, 3) := by decide +kernel
theorem dX10_init_36 : decode cX10_init 36 = .ok (.aload_n 0, 1) := by decide +kernel
theorem dX10_init_37 : decode cX10_init 37 = .ok (.bipush 12, 2) := by decide +kernel
theorem dX10_init_39 : decode cX10_init 39 = .ok (.newarray .int, 2) := by decide +kernel
theorem dX10_init_41 : decode cX10_init 41 = .ok (.putfield 22, 3) := by decide +kernel
theorem dX10_init_44 : decode cX10_init 44 = .ok (.aload_n 0, 1) := by decide +kernel
theorem dX10_init_45 : decode cX10_init 45 = .ok (.bipush 12, 2) := by decide +kernel
theorem dX10_init_47 : decode cX10_init 47 = .ok (.newarray .int, 2) := by decide +kernel
theorem dX10_init_49 : decode cX10_init 49 = .ok (.putfield 25, 3) := by decide +kernel
theorem dX10_init_52 : decode cX10_init 52 = .ok (.aload_n 0, 1) := by decide +kernel
theorem dX10_init_53 : decode cX10_init 53 = .ok (.bipush 12, 2) := by decide +kernel
theorem dX10_init_55 : decode cX10_init 55 = .ok (.newarray .int, 2) := by decide +kernel
theorem dX10_init_57 : decode cX10_init 57 = .ok (.putfield 28, 3) := by decide +kernel
theorem dX10_init_60 : decode cX10_init 60 = .ok (.aload_n 0, 1) := by decide +kernel
theorem dX10_init_61 : decode cX10_init 61 = .ok (.bipush 12, 2) := by decide +kernel
theorem dX10_init_63 : decode cX10_init 63 = .ok (.newarray .int, 2) := by decide +kernel
theorem dX10_init_65 : decode cX10_init 65 = .ok (.putfield 31, 3) := by decide +kernel
theorem dX10_init_68 : decode cX10_init 68 = .ok (.aload_n 0, 1) := by decide +kernel
theorem dX10_init_69 : decode cX10_init 69 = .ok (.iconst 4, 1) := by decide +kernel
theorem dX10_init_70 : decode cX10_init 70 = .ok (.newarray .int, 2) := by decide +kernel
theorem dX10_init_72 : decode cX10_init 72 = .ok (.putfield 34, 3) := by decide +kernel
theorem dX10_init_75 : decode cX10_init 75 = .ok (.aload_n 0, 1) := by decide +kernel
theorem dX10_init_76 : decode cX10_init 76 = .ok (.iconst 4, 1) := by decide +kernel
theorem dX10_init_77 : decode cX10_init 77 = .ok (.newarray .int, 2) := by decide +kernel
theorem dX10_init_79 : decode cX10_init 79 = .ok (.putfield 37, 3) := by decide +kernel
theorem dX10_init_82 : decode cX10_init 82 = .ok (.aload_n 0, 1) := by decide +kernel
theorem dX10_init_83 : decode cX10_init 83 = .ok (.bipush 12, 2) := by decide +kernel
theorem dX10_init_85 : decode cX10_init 85 = .ok (.newarray .int, 2) := by decide +kernel
theorem dX10_init_87 : decode cX10_init 87 = .ok (.putfield 40, 3) := by decide +kernel
theorem dX10_init_90 : decode cX10_init 90 = .ok (.aload_n 0, 1) := by decide +kernel
theorem dX10_init_91 : decode cX10_init 91 = .ok (.bipush 12, 2) := by decide +kernel
theorem dX10_init_93 : decode cX10_init 93 = .ok (.newarray .int, 2) := by decide +kernel
theorem dX10_init_95 : decode cX10_init 95 = .ok (.putfield 43, 3) := by decide +kernel
theorem dX10_init_98 : decode cX10_init 98 = .ok (.aload_n 0, 1) := by decide +kernel
theorem dX10_init_99 : decode cX10_init 99 = .ok (.bipush 12, 2) := by decide +kernel
theorem dX10_init_101 : decode cX10_init 101 = .ok (.newarray .int, 2) := by decide +kernel
theorem dX10_init_103 : decode cX10_init 103 = .ok (.putfield 46, 3) := by decide +kernel
theorem dX10_init_106 : decode cX10_init 106 = .ok (.aload_n 0, 1) := by decide +kernel
theorem dX10_init_107 : decode cX10_init 107 = .ok (.bipush 12, 2) := by decide +kernel
theorem dX10_init_109 : decode cX10_init 109 = .ok (.newarray .int, 2) := by decide +kernel
theorem dX10_init_111 : decode cX10_init 111 = .ok (.putfield 49, 3) := by decide +kernel
theorem dX10_init_114 : decode cX10_init 114 = .ok (.aload_n 0, 1) := by decide +kernel
theorem dX10_init_115 : decode cX10_init 115 = .ok (.iconst 5, 1) := by decide +kernel
theorem dX10_init_116 : decode cX10_init 116 = .ok (.newarray .int, 2) := by decide +kernel
theorem dX10_init_118 : decode cX10_init 118 = .ok (.putfield 52, 3) := by decide +kernel
theorem dX10_init_121 : decode cX10_init 121 = .ok (.aload_n 0, 1) := by decide +kernel
theorem dX10_init_122 : decode cX10_init 122 = .ok (.iconst 5, 1) := by decide +kernel
theorem dX10_init_123 : decode cX10_init 123 = .ok (.newarray .int, 2) := by decide +kernel
theorem dX10_init_125 : decode cX10_init 125 = .ok (.putfield 55, 3) := by decide +kernel
theorem dX10_init_128 : decode cX10_init 128 = .ok (.aload_n 0, 1) := by decide +kernel
theorem dX10_init_129 : decode cX10_init 129 = .ok (.iconst 5, 1) := by decide +kernel
theorem dX10_init_130 : decode cX10_init 130 = .ok (.newarray .int, 2) := by decide +kernel
theorem dX10_init_132 : decode cX10_init 132 = .ok (.putfield 58, 3) := by decide +kernel
theorem dX10_init_135 : decode cX10_init 135 = .ok (.aload_n 0, 1) := by decide +kernel
theorem dX10_init_136 : decode cX10_init 136 = .ok (.iconst 5, 1) := by decide +kernel
theorem dX10_init_137 : decode cX10_init 137 = .ok (.newarray .int, 2) := by decide +kernel
theorem dX10_init_139 : decode cX10_init 139 = .ok (.putfield 61, 3) := by decide +kernel
theorem dX10_init_142 : decode cX10_init 142 = .ok (.aload_n 0, 1) := by decide +kernel
theorem dX10_init_143 : decode cX10_init 143 = .ok (.iconst 5, 1) := by decide +kernel
theorem dX10_init_144 : decode cX10_init 144 = .ok (.newarray .int, 2) := by decide +kernel
theorem dX10_init_146 : decode cX10_init 146 = .ok (.putfield 64, 3) := by decide +kernel
theorem dX10_init_149 : decode cX10_init 149 = .ok (.aload_n 0, 1) := by decide +kernel
theorem dX10_init_150 : decode cX10_init 150 = .ok (.iconst 5, 1) := by decide +kernel
theorem dX10_init_151 : decode cX10_init 151 = .ok (.newarray .int, 2) := by decide +kernel
theorem dX10_init_153 : decode cX10_init 153 = .ok (.putfield 67, 3) := by decide +kernel
theorem dX10_init_156 : decode cX10_init 156 = .ok (.aload_n 0, 1) := by decide +kernel
theorem dX10_init_157 : decode cX10_init 157 = .ok (.bipush 8, 2) := by decide +kernel
theorem dX10_init_159 : decode cX10_init 159 = .ok (.newarray .int, 2) := by decide +kernel
theorem dX10_init_161 : decode cX10_init 161 = .ok (.putfield 70, 3) := by decide +kernel
theorem dX10_init_164 : decode cX10_init 164 = .ok (.aload_n 0, 1) := by decide +kernel
theorem dX10_init_165 : decode cX10_init 165 = .ok (.bipush 12, 2) := by decide +kernel
theorem dX10_init_167 : decode cX10_init 167 = .ok (.newarray .int, 2) := by decide +kernel
theorem dX10_init_169 : decode cX10_init 169 = .ok (.putfield 73, 3) := by decide +kernel
theorem dX10_init_172 : decode cX10_init 172 = .ok (.aload_n 0, 1) := by decide +kernel
theorem dX10_init_173 : decode cX10_init 173 = .ok (.bipush 12, 2) := by decide +kernel
theorem dX10_init_175 : decode cX10_init 175 = .ok (.newarray .int, 2) := by decide +kernel
theorem dX10_init_177 : decode cX10_init 177 = .ok (.putfield 76, 3) := by decide +kernel
theorem dX10_init_180 : decode cX10_init 180 = .ok (.aload_n 0, 1) := by decide +kernel
theorem dX10_init_181 : decode cX10_init 181 = .ok (.bipush 12, 2) := by decide +kernel
theorem dX10_init_183 : decode cX10_init 183 = .ok (.newarray .int, 2) := by decide +kernel
theorem dX10_init_185 : decode cX10_init 185 = .ok (.putfield 79, 3) := by decide +kernel
theorem dX10_init_188 : decode cX10_init 188 = .ok (.aload_n 0, 1) := by decide +kernel
theorem dX10_init_189 : decode cX10_init 189 = .ok (.bipush 48, 2) := by decide +kernel
theorem dX10_init_191 : decode cX10_init 191 = .ok (.newarray .int, 2) := by decide +kernel
theorem dX10_init_193 : decode cX10_init 193 = .ok (.putfield 82, 3) := by decide +kernel
theorem dX10_init_196 : decode cX10_init 196 = .ok (.aload_n 0, 1) := by decide +kernel
theorem dX10_init_197 : decode cX10_init 197 = .ok (.iconst 4, 1) := by decide +kernel
theorem dX10_init_198 : decode cX10_init 198 = .ok (.newarray .int, 2) := by decide +kernel
theorem dX10_init_200 : decode cX10_init 200 = .ok (.putfield 85, 3) := by decide +kernel
theorem dX10_init_203 : decode cX10_init 203 = .ok (.aload_n 0, 1) := by decide +kernel
theorem dX10_init_204 : decode cX10_init 204 = .ok (.sipush 768, 3) := by decide +kernel
theorem dX10_init_207 : decode cX10_init 207 = .ok (.newarray .int, 2) := by decide +kernel
theorem dX10_init_209 : decode cX10_init 209 = .ok (.putfield 88, 3) := by decide +kernel
theorem dX10_init_212 : decode cX10_init 212 = .ok (.iconst 0, 1) := by decide +kernel
theorem dX10_init_213 : decode cX10_init 213 = .ok (.istore_n 1, 1) := by decide +kernel
theorem dX10_init_214 : decode cX10_init 214 = .ok (.iload_n 1, 1) := by decide +kernel
theorem dX10_init_215 : decode cX10_init 215 = .ok (.bipush 12, 2) := by decide +kernel
theorem dX10_init_217 : decode cX10_init 217 = .ok (.if_icmp .ge 16, 3) := by decide +kernel
theorem dX10_init_220 : decode cX10_init 220 = .ok (.aload_n 0, 1) := by decide +kernel
theorem dX10_init_221 : decode cX10_init 221 = .ok (.getfield 40, 3) := by decide +kernel
theorem dX10_init_224 : decode cX10_init 224 = .ok (.iload_n 1, 1) := by decide +kernel
theorem dX10_init_225 : decode cX10_init 225 = .ok (.iconst (-1), 1) := by decide +kernel
theorem dX10_init_226 : decode cX10_init 226 = .ok (.iastore, 1) := by decide +kernel
theorem dX10_init_227 : decode cX10_init 227 = .ok (.iinc 1 1, 3) := by decide +kernel
theorem dX10_init_230 : decode cX10_init 230 = .ok (.goto (-16), 3) := by decide +kernel
theorem dX10_init_233 : decode cX10_init 233 = .ok (.iconst 0, 1) := by decide +kernel
theorem dX10_init_234 : decode cX10_init 234 = .ok (.istore_n 1, 1) := by decide +kernel
theorem dX10_init_235 : decode cX10_init 235 = .ok (.iload_n 1, 1) := by decide +kernel
theorem dX10_init_236 : decode cX10_init 236 = .ok (.iconst 5, 1) := by decide +kernel
theorem dX10_init_237 : decode cX10_init 237 = .ok (.if_icmp .ge 17, 3) := by decide +kernel
theorem dX10_init_240 : decode cX10_init 240 = .ok (.aload_n 0, 1) := by decide +kernel
theorem dX10_init_241 : decode cX10_init 241 = .ok (.getfield 61, 3) := by decide +kernel
theorem dX10_init_244 : decode cX10_init 244 = .ok (.iload_n 1, 1) := by decide +kernel
theorem dX10_init_245 : decode cX10_init 245 = .ok (.bipush (-4), 2) := by decide +kernel
theorem dX10_init_247 : decode cX10_init 247 = .ok (.iastore, 1) := by decide +kernel
theorem dX10_init_248 : decode cX10_init 248 = .ok (.iinc 1 1, 3) := by decide +kernel
theorem dX10_init_251 : decode cX10_init 251 = .ok (.goto (-16), 3) := by decide +kernel
theorem dX10_init_254 : decode cX10_init 254 = .ok (.return_, 1) := by decide +kernel
theorem dX10_in_0 : decode cX10_in 0 = .ok (.iload_n 0, 1) := by decide +kernel
theorem dX10_in_1 : decode cX10_in 1 = .ok (.iload_n 1, 1) := by decide +kernel
theorem dX10_in_2 : decode cX10_in 2 = .ok (.if_icmp .lt 12, 3) := by decide +kernel
theorem dX10_in_5 : decode cX10_in 5 = .ok (.iload_n 0, 1) := by decide +kernel
theorem dX10_in_6 : decode cX10_in 6 = .ok (.iload_n 2, 1) := by decide +kernel
theorem dX10_in_7 : decode cX10_in 7 = .ok (.if_icmp .gt 7, 3) := by decide +kernel
theorem dX10_in_10 : decode cX10_in 10 = .ok (.iconst 1, 1) := by decide +kernel
theorem dX10_in_11 : decode cX10_in 11 = .ok (.goto 4, 3) := by decide +kernel
theorem dX10_in_14 : decode cX10_in 14 = .ok (.iconst 0, 1) := by decide +kernel
theorem dX10_in_15 : decode cX10_in 15 = .ok (.ireturn, 1) := by decide +kernel
theorem dX10_size_0 : decode cX10_size 0 = .ok (.iload_n 0, 1) := by decide +kernel
theorem dX10_size_1 : decode cX10_size 1 = .ok (.ifCond .ge 8, 3) := by decide +kernel
theorem dX10_size_4 : decode cX10_size 4 = .ok (.iload_n 0, 1) := by decide +kernel
theorem dX10_size_5 : decode cX10_size 5 = .ok (.ineg, 1) := by decide +kernel
theorem dX10_size_6 : decode cX10_size 6 = .ok (.goto 4, 3) := by decide +kernel
theorem dX10_size_9 : decode cX10_size 9 = .ok (.iload_n 0, 1) := by decide +kernel
theorem dX10_size_10 : decode cX10_size 10 = .ok (.ireturn, 1) := by decide +kernel
theorem dX10_bits_0 : decode cX10_bits 0 = .ok (.iconst 0, 1) := by decide +kernel
theorem dX10_bits_1 : decode cX10_bits 1 = .ok (.istore_n 1, 1) := by decide +kernel
theorem dX10_bits_2 : decode cX10_bits 2 = .ok (.iconst 0, 1) := by decide +kernel
theorem dX10_bits_3 : decode cX10_bits 3 = .ok (.istore_n 2, 1) := by decide +kernel
theorem dX10_bits_4 : decode cX10_bits 4 = .ok (.iload_n 2, 1) := by decide +kernel
theorem dX10_bits_5 : decode cX10_bits 5 = .ok (.bipush 24, 2) := by decide +kernel
theorem dX10_bits_7 : decode cX10_bits 7 = .ok (.if_icmp .ge 17, 3) := by decide +kernel
theorem dX10_bits_10 : decode cX10_bits 10 = .ok (.iload_n 1, 1) := by decide +kernel
theorem dX10_bits_11 : decode cX10_bits 11 = .ok (.iload_n 0, 1) := by decide +kernel
theorem dX10_bits_12 : decode cX10_bits 12 = .ok (.iload_n 2, 1) := by decide +kernel
theorem dX10_bits_13 : decode cX10_bits 13 = .ok (.ishr, 1) := by decide +kernel
theorem dX10_bits_14 : decode cX10_bits 14 = .ok (.iconst 1, 1) := by decide +kernel
theorem dX10_bits_15 : decode cX10_bits 15 = .ok (.iand, 1) := by decide +kernel
theorem dX10_bits_16 : decode cX10_bits 16 = .ok (.iadd, 1) := by decide +kernel
theorem dX10_bits_17 : decode cX10_bits 17 = .ok (.istore_n 1, 1) := by decide +kernel
theorem dX10_bits_18 : decode cX10_bits 18 = .ok (.iinc 2 1, 3) := by decide +kernel
theorem dX10_bits_21 : decode cX10_bits 21 = .ok (.goto (-17), 3) := by decide +kernel
theorem dX10_bits_24 : decode cX10_bits 24 = .ok (.iload_n 1, 1) := by decide +kernel
theorem dX10_bits_25 : decode cX10_bits 25 = .ok (.ireturn, 1) := by decide +kernel
theorem dX10_isPull_0 : decode cX10_isPull 0 = .ok (.iload_n 1, 1) := by decide +kernel
theorem dX10_isPull_1 : decode cX10_isPull 1 = .ok (.iconst 0, 1) := by decide +kernel
theorem dX10_isPull_2 : decode cX10_isPull 2 = .ok (.aload_n 0, 1) := by decide +kernel
theorem dX10_isPull_3 : decode cX10_isPull 3 = .ok (.getfield 91, 3) := by decide +kernel
theorem dX10_isPull_6 : decode cX10_isPull 6 = .ok (.iconst 1, 1) := by decide +kernel
theorem dX10_isPull_7 : decode cX10_isPull 7 = .ok (.isub, 1) := by decide +kernel
theorem dX10_isPull_8 : decode cX10_isPull 8 = .ok (.invokestatic 95, 3) := by decide +kernel
theorem dX10_isPull_11 : decode cX10_isPull 11 = .ok (.ireturn, 1) := by decide +kernel
theorem dX10_crank_0 : decode cX10_crank 0 = .ok (.iload_n 1, 1) := by decide +kernel
theorem dX10_crank_1 : decode cX10_crank 1 = .ok (.iconst 0, 1) := by decide +kernel
theorem dX10_crank_2 : decode cX10_crank 2 = .ok (.bipush 15, 2) := by decide +kernel
theorem dX10_crank_4 : decode cX10_crank 4 = .ok (.invokestatic 95, 3) := by decide +kernel
theorem dX10_crank_7 : decode cX10_crank 7 = .ok (.ifCond .eq 13, 3) := by decide +kernel
theorem dX10_crank_10 : decode cX10_crank 10 = .ok (.iload_n 2, 1) := by decide +kernel
theorem dX10_crank_11 : decode cX10_crank 11 = .ok (.iconst 0, 1) := by decide +kernel
theorem dX10_crank_12 : decode cX10_crank 12 = .ok (.bipush 10, 2) := by decide +kernel
theorem dX10_crank_14 : decode cX10_crank 14 = .ok (.invokestatic 95, 3) := by decide +kernel
theorem dX10_crank_17 : decode cX10_crank 17 = .ok (.ifCond .ne 5, 3) := by decide +kernel
theorem dX10_crank_20 : decode cX10_crank 20 = .ok (.iconst (-1), 1) := by decide +kernel
theorem dX10_crank_21 : decode cX10_crank 21 = .ok (.ireturn, 1) := by decide +kernel
theorem dX10_crank_22 : decode cX10_crank 22 = .ok (.aload_n 0, 1) := by decide +kernel
theorem dX10_crank_23 : decode cX10_crank 23 = .ok (.getfield 7, 3) := by decide +kernel
theorem dX10_crank_26 : decode cX10_crank 26 = .ok (.iload_n 1, 1) := by decide +kernel
theorem dX10_crank_27 : decode cX10_crank 27 = .ok (.iaload, 1) := by decide +kernel
theorem dX10_crank_28 : decode cX10_crank 28 = .ok (.istore_n 3, 1) := by decide +kernel
theorem dX10_crank_29 : decode cX10_crank 29 = .ok (.aload_n 0, 1) := by decide +kernel
theorem dX10_crank_30 : decode cX10_crank 30 = .ok (.getfield 7, 3) := by decide +kernel
theorem dX10_crank_33 : decode cX10_crank 33 = .ok (.iload_n 1, 1) := by decide +kernel
theorem dX10_crank_34 : decode cX10_crank 34 = .ok (.iload_n 2, 1) := by decide +kernel
theorem dX10_crank_35 : decode cX10_crank 35 = .ok (.iastore, 1) := by decide +kernel
theorem dX10_crank_36 : decode cX10_crank 36 = .ok (.iload_n 3, 1) := by decide +kernel
theorem dX10_crank_37 : decode cX10_crank 37 = .ok (.ireturn, 1) := by decide +kernel
theorem dX10_bell_0 : decode cX10_bell 0 = .ok (.iload_n 1, 1) := by decide +kernel
theorem dX10_bell_1 : decode cX10_bell 1 = .ok (.iconst 0, 1) := by decide +kernel
theorem dX10_bell_2 : decode cX10_bell 2 = .ok (.bipush 7, 2) := by decide +kernel
theorem dX10_bell_4 : decode cX10_bell 4 = .ok (.invokestatic 95, 3) := by decide +kernel
theorem dX10_bell_7 : decode cX10_bell 7 = .ok (.ifCond .eq 29, 3) := by decide +kernel
theorem dX10_bell_10 : decode cX10_bell 10 = .ok (.iload_n 2, 1) := by decide +kernel
theorem dX10_bell_11 : decode cX10_bell 11 = .ok (.iconst 0, 1) := by decide +kernel
theorem dX10_bell_12 : decode cX10_bell 12 = .ok (.iconst 1, 1) := by decide +kernel
theorem dX10_bell_13 : decode cX10_bell 13 = .ok (.invokestatic 95, 3) := by decide +kernel
theorem dX10_bell_16 : decode cX10_bell 16 = .ok (.ifCond .eq 20, 3) := by decide +kernel
theorem dX10_bell_19 : decode cX10_bell 19 = .ok (.iload_n 3, 1) := by decide +kernel
theorem dX10_bell_20 : decode cX10_bell 20 = .ok (.iconst 0, 1) := by decide +kernel
theorem dX10_bell_21 : decode cX10_bell 21 = .ok (.iload_n 2, 1) := by decide +kernel
theorem dX10_bell_22 : decode cX10_bell 22 = .ok (.ifCond .ne 7, 3) := by decide +kernel
theorem dX10_bell_25 : decode cX10_bell 25 = .ok (.iconst 5, 1) := by decide +kernel
theorem dX10_bell_26 : decode cX10_bell 26 = .ok (.goto 4, 3) := by decide +kernel
theorem dX10_bell_29 : decode cX10_bell 29 = .ok (.iconst 1, 1) := by decide +kernel
theorem dX10_bell_30 : decode cX10_bell 30 = .ok (.invokestatic 95, 3) := by decide +kernel
theorem dX10_bell_33 : decode cX10_bell 33 = .ok (.ifCond .ne 5, 3) := by decide +kernel
theorem dX10_bell_36 : decode cX10_bell 36 = .ok (.iconst (-1), 1) := by decide +kernel
theorem dX10_bell_37 : decode cX10_bell 37 = .ok (.ireturn, 1) := by decide +kernel
theorem dX10_bell_38 : decode cX10_bell 38 = .ok (.iload_n 2, 1) := by decide +kernel
theorem dX10_bell_39 : decode cX10_bell 39 = .ok (.ifCond .ne 12, 3) := by decide +kernel
theorem dX10_bell_42 : decode cX10_bell 42 = .ok (.aload_n 0, 1) := by decide +kernel
theorem dX10_bell_43 : decode cX10_bell 43 = .ok (.getfield 13, 3) := by decide +kernel
theorem dX10_bell_46 : decode cX10_bell 46 = .ok (.iload_n 1, 1) := by decide +kernel
theorem dX10_bell_47 : decode cX10_bell 47 = .ok (.iaload, 1) := by decide +kernel
theorem dX10_bell_48 : decode cX10_bell 48 = .ok (.goto 9, 3) := by decide +kernel
theorem dX10_bell_51 : decode cX10_bell 51 = .ok (.aload_n 0, 1) := by decide +kernel
theorem dX10_bell_52 : decode cX10_bell 52 = .ok (.getfield 16, 3) := by decide +kernel
theorem dX10_bell_55 : decode cX10_bell 55 = .ok (.iload_n 1, 1) := by decide +kernel
theorem dX10_bell_56 : decode cX10_bell 56 = .ok (.iaload, 1) := by decide +kernel
theorem dX10_bell_57 : decode cX10_bell 57 = .ok (.istore 4, 2) := by decide +kernel
theorem dX10_bell_59 : decode cX10_bell 59 = .ok (.aload_n 0, 1) := by decide +kernel
theorem dX10_bell_60 : decode cX10_bell 60 = .ok (.getfield 13, 3) := by decide +kernel
theorem dX10_bell_63 : decode cX10_bell 63 = .ok (.iload_n 1, 1) := by decide +kernel
theorem dX10_bell_64 : decode cX10_bell 64 = .ok (.iload_n 2, 1) := by decide +kernel
theorem dX10_bell_65 : decode cX10_bell 65 = .ok (.ifCond .ne 7, 3) := by decide +kernel
theorem dX10_bell_68 : decode cX10_bell 68 = .ok (.iload_n 3, 1) := by decide +kernel
theorem dX10_bell_69 : decode cX10_bell 69 = .ok (.goto 9, 3) := by decide +kernel
theorem dX10_bell_72 : decode cX10_bell 72 = .ok (.aload_n 0, 1) := by decide +kernel
theorem dX10_bell_73 : decode cX10_bell 73 = .ok (.getfield 13, 3) := by decide +kernel
theorem dX10_bell_76 : decode cX10_bell 76 = .ok (.iload_n 1, 1) := by decide +kernel
theorem dX10_bell_77 : decode cX10_bell 77 = .ok (.iaload, 1) := by decide +kernel
theorem dX10_bell_78 : decode cX10_bell 78 = .ok (.iastore, 1) := by decide +kernel
theorem dX10_bell_79 : decode cX10_bell 79 = .ok (.aload_n 0, 1) := by decide +kernel
theorem dX10_bell_80 : decode cX10_bell 80 = .ok (.getfield 16, 3) := by decide +kernel
theorem dX10_bell_83 : decode cX10_bell 83 = .ok (.iload_n 1, 1) := by decide +kernel
theorem dX10_bell_84 : decode cX10_bell 84 = .ok (.iload_n 2, 1) := by decide +kernel
theorem dX10_bell_85 : decode cX10_bell 85 = .ok (.iconst 1, 1) := by decide +kernel
theorem dX10_bell_86 : decode cX10_bell 86 = .ok (.if_icmp .ne 7, 3) := by decide +kernel
theorem dX10_bell_89 : decode cX10_bell 89 = .ok (.iload_n 3, 1) := by decide +kernel
theorem dX10_bell_90 : decode cX10_bell 90 = .ok (.goto 9, 3) := by decide +kernel
theorem dX10_bell_93 : decode cX10_bell 93 = .ok (.aload_n 0, 1) := by decide +kernel
theorem dX10_bell_94 : decode cX10_bell 94 = .ok (.getfield 16, 3) := by decide +kernel
theorem dX10_bell_97 : decode cX10_bell 97 = .ok (.iload_n 1, 1) := by decide +kernel
theorem dX10_bell_98 : decode cX10_bell 98 = .ok (.iaload, 1) := by decide +kernel
theorem dX10_bell_99 : decode cX10_bell 99 = .ok (.iastore, 1) := by decide +kernel
theorem dX10_bell_100 : decode cX10_bell 100 = .ok (.iload 4, 2) := by decide +kernel
theorem dX10_bell_102 : decode cX10_bell 102 = .ok (.ireturn, 1) := by decide +kernel
theorem dX10_heat_0 : decode cX10_heat 0 = .ok (.iload_n 1, 1) := by decide +kernel
theorem dX10_heat_1 : decode cX10_heat 1 = .ok (.iconst 0, 1) := by decide +kernel
theorem dX10_heat_2 : decode cX10_heat 2 = .ok (.bipush 40, 2) := by decide +kernel
theorem dX10_heat_4 : decode cX10_heat 4 = .ok (.invokestatic 95, 3) := by decide +kernel
theorem dX10_heat_7 : decode cX10_heat 7 = .ok (.ifCond .ne 5, 3) := by decide +kernel
theorem dX10_heat_10 : decode cX10_heat 10 = .ok (.iconst (-1), 1) := by decide +kernel
theorem dX10_heat_11 : decode cX10_heat 11 = .ok (.ireturn, 1) := by decide +kernel
theorem dX10_heat_12 : decode cX10_heat 12 = .ok (.aload_n 0, 1) := by decide +kernel
theorem dX10_heat_13 : decode cX10_heat 13 = .ok (.getfield 99, 3) := by decide +kernel
theorem dX10_heat_16 : decode cX10_heat 16 = .ok (.istore_n 2, 1) := by decide +kernel
theorem dX10_heat_17 : decode cX10_heat 17 = .ok (.aload_n 0, 1) := by decide +kernel
theorem dX10_heat_18 : decode cX10_heat 18 = .ok (.iload_n 1, 1) := by decide +kernel
theorem dX10_heat_19 : decode cX10_heat 19 = .ok (.putfield 99, 3) := by decide +kernel
theorem dX10_heat_22 : decode cX10_heat 22 = .ok (.iload_n 2, 1) := by decide +kernel
theorem dX10_heat_23 : decode cX10_heat 23 = .ok (.ireturn, 1) := by decide +kernel
theorem dX10_pull_0 : decode cX10_pull 0 = .ok (.iload_n 1, 1) := by decide +kernel
theorem dX10_pull_1 : decode cX10_pull 1 = .ok (.iconst 0, 1) := by decide +kernel
theorem dX10_pull_2 : decode cX10_pull 2 = .ok (.iconst 3, 1) := by decide +kernel
theorem dX10_pull_3 : decode cX10_pull 3 = .ok (.invokestatic 95, 3) := by decide +kernel
theorem dX10_pull_6 : decode cX10_pull 6 = .ok (.ifCond .eq 53, 3) := by decide +kernel
theorem dX10_pull_9 : decode cX10_pull 9 = .ok (.iload_n 2, 1) := by decide +kernel
theorem dX10_pull_10 : decode cX10_pull 10 = .ok (.iconst 0, 1) := by decide +kernel
theorem dX10_pull_11 : decode cX10_pull 11 = .ok (.bipush 30, 2) := by decide +kernel
theorem dX10_pull_13 : decode cX10_pull 13 = .ok (.invokestatic 95, 3) := by decide +kernel
theorem dX10_pull_16 : decode cX10_pull 16 = .ok (.ifCond .eq 43, 3) := by decide +kernel
theorem dX10_pull_19 : decode cX10_pull 19 = .ok (.iload_n 3, 1) := by decide +kernel
theorem dX10_pull_20 : decode cX10_pull 20 = .ok (.iconst 0, 1) := by decide +kernel
theorem dX10_pull_21 : decode cX10_pull 21 = .ok (.iconst 4, 1) := by decide +kernel
theorem dX10_pull_22 : decode cX10_pull 22 = .ok (.invokestatic 95, 3) := by decide +kernel
theorem dX10_pull_25 : decode cX10_pull 25 = .ok (.ifCond .eq 34, 3) := by decide +kernel
theorem dX10_pull_28 : decode cX10_pull 28 = .ok (.iload 4, 2) := by decide +kernel
theorem dX10_pull_30 : decode cX10_pull 30 = .ok (.iconst 0, 1) := by decide +kernel
theorem dX10_pull_31 : decode cX10_pull 31 = .ok (.bipush 7, 2) := by decide +kernel
theorem dX10_pull_33 : decode cX10_pull 33 = .ok (.invokestatic 95, 3) := by decide +kernel
theorem dX10_pull_36 : decode cX10_pull 36 = .ok (.ifCond .eq 23, 3) := by decide +kernel
theorem dX10_pull_39 : decode cX10_pull 39 = .ok (.iload 5, 2) := by decide +kernel
theorem dX10_pull_41 : decode cX10_pull 41 = .ok (.iconst 1, 1) := by decide +kernel
theorem dX10_pull_42 : decode cX10_pull 42 = .ok (.ldc 102, 2) := by decide +kernel
theorem dX10_pull_44 : decode cX10_pull 44 = .ok (.invokestatic 95, 3) := by decide +kernel
theorem dX10_pull_47 : decode cX10_pull 47 = .ok (.ifCond .eq 12, 3) := by decide +kernel
theorem dX10_pull_50 : decode cX10_pull 50 = .ok (.iload 5, 2) := by decide +kernel
theorem dX10_pull_52 : decode cX10_pull 52 = .ok (.invokestatic 103, 3) := by decide +kernel
theorem dX10_pull_55 : decode cX10_pull 55 = .ok (.iconst 5, 1) := by decide +kernel
theorem dX10_pull_56 : decode cX10_pull 56 = .ok (.if_icmp .le 5, 3) := by decide +kernel
theorem dX10_pull_59 : decode cX10_pull 59 = .ok (.iconst (-1), 1) := by decide +kernel
theorem dX10_pull_60 : decode cX10_pull 60 = .ok (.ireturn, 1) := by decide +kernel
theorem dX10_pull_61 : decode cX10_pull 61 = .ok (.aload_n 0, 1) := by decide +kernel
theorem dX10_pull_62 : decode cX10_pull 62 = .ok (.getfield 91, 3) := by decide +kernel
theorem dX10_pull_65 : decode cX10_pull 65 = .ok (.bipush 12, 2) := by decide +kernel
theorem dX10_pull_67 : decode cX10_pull 67 = .ok (.if_icmp .ne 6, 3) := by decide +kernel
theorem dX10_pull_70 : decode cX10_pull 70 = .ok (.bipush (-3), 2) := by decide +kernel
theorem dX10_pull_72 : decode cX10_pull 72 = .ok (.ireturn, 1) := by decide +kernel
theorem dX10_pull_73 : decode cX10_pull 73 = .ok (.aload_n 0, 1) := by decide +kernel
theorem dX10_pull_74 : decode cX10_pull 74 = .ok (.getfield 19, 3) := by decide +kernel
theorem dX10_pull_77 : decode cX10_pull 77 = .ok (.aload_n 0, 1) := by decide +kernel
theorem dX10_pull_78 : decode cX10_pull 78 = .ok (.getfield 91, 3) := by decide +kernel
theorem dX10_pull_81 : decode cX10_pull 81 = .ok (.iload_n 1, 1) := by decide +kernel
theorem dX10_pull_82 : decode cX10_pull 82 = .ok (.iastore, 1) := by decide +kernel
theorem dX10_pull_83 : decode cX10_pull 83 = .ok (.aload_n 0, 1) := by decide +kernel
theorem dX10_pull_84 : decode cX10_pull 84 = .ok (.getfield 22, 3) := by decide +kernel
theorem dX10_pull_87 : decode cX10_pull 87 = .ok (.aload_n 0, 1) := by decide +kernel
theorem dX10_pull_88 : decode cX10_pull 88 = .ok (.getfield 91, 3) := by decide +kernel
theorem dX10_pull_91 : decode cX10_pull 91 = .ok (.iload_n 2, 1) := by decide +kernel
theorem dX10_pull_92 : decode cX10_pull 92 = .ok (.iastore, 1) := by decide +kernel
theorem dX10_pull_93 : decode cX10_pull 93 = .ok (.aload_n 0, 1) := by decide +kernel
theorem dX10_pull_94 : decode cX10_pull 94 = .ok (.getfield 25, 3) := by decide +kernel
theorem dX10_pull_97 : decode cX10_pull 97 = .ok (.aload_n 0, 1) := by decide +kernel
theorem dX10_pull_98 : decode cX10_pull 98 = .ok (.getfield 91, 3) := by decide +kernel
theorem dX10_pull_101 : decode cX10_pull 101 = .ok (.iload_n 3, 1) := by decide +kernel
theorem dX10_pull_102 : decode cX10_pull 102 = .ok (.iastore, 1) := by decide +kernel
theorem dX10_pull_103 : decode cX10_pull 103 = .ok (.aload_n 0, 1) := by decide +kernel
theorem dX10_pull_104 : decode cX10_pull 104 = .ok (.getfield 28, 3) := by decide +kernel
theorem dX10_pull_107 : decode cX10_pull 107 = .ok (.aload_n 0, 1) := by decide +kernel
theorem dX10_pull_108 : decode cX10_pull 108 = .ok (.getfield 91, 3) := by decide +kernel
theorem dX10_pull_111 : decode cX10_pull 111 = .ok (.iload 4, 2) := by decide +kernel
theorem dX10_pull_113 : decode cX10_pull 113 = .ok (.iastore, 1) := by decide +kernel
theorem dX10_pull_114 : decode cX10_pull 114 = .ok (.aload_n 0, 1) := by decide +kernel
theorem dX10_pull_115 : decode cX10_pull 115 = .ok (.getfield 31, 3) := by decide +kernel
theorem dX10_pull_118 : decode cX10_pull 118 = .ok (.aload_n 0, 1) := by decide +kernel
theorem dX10_pull_119 : decode cX10_pull 119 = .ok (.getfield 91, 3) := by decide +kernel
theorem dX10_pull_122 : decode cX10_pull 122 = .ok (.iload 5, 2) := by decide +kernel
theorem dX10_pull_124 : decode cX10_pull 124 = .ok (.iastore, 1) := by decide +kernel
theorem dX10_pull_125 : decode cX10_pull 125 = .ok (.aload_n 0, 1) := by decide +kernel
theorem dX10_pull_126 : decode cX10_pull 126 = .ok (.dup, 1) := by decide +kernel
theorem dX10_pull_127 : decode cX10_pull 127 = .ok (.getfield 91, 3) := by decide +kernel
theorem dX10_pull_130 : decode cX10_pull 130 = .ok (.iconst 1, 1) := by decide +kernel
theorem dX10_pull_131 : decode cX10_pull 131 = .ok (.iadd, 1) := by decide +kernel
theorem dX10_pull_132 : decode cX10_pull 132 = .ok (.putfield 91, 3) := by decide +kernel
theorem dX10_pull_135 : decode cX10_pull 135 = .ok (.aload_n 0, 1) := by decide +kernel
theorem dX10_pull_136 : decode cX10_pull 136 = .ok (.getfield 91, 3) := by decide +kernel
theorem dX10_pull_139 : decode cX10_pull 139 = .ok (.iconst 1, 1) := by decide +kernel
theorem dX10_pull_140 : decode cX10_pull 140 = .ok (.isub, 1) := by decide +kernel
theorem dX10_pull_141 : decode cX10_pull 141 = .ok (.ireturn, 1) := by decide +kernel
theorem dX10_areCrossed_0 : decode cX10_areCrossed 0 = .ok (.iconst 0, 1) := by decide +kernel
theorem dX10_areCrossed_1 : decode cX10_areCrossed 1 = .ok (.istore_n 3, 1) := by decide +kernel
theorem dX10_areCrossed_2 : decode cX10_areCrossed 2 = .ok (.iconst 0, 1) := by decide +kernel
theorem dX10_areCrossed_3 : decode cX10_areCrossed 3 = .ok (.istore 4, 2) := by decide +kernel
theorem dX10_areCrossed_5 : decode cX10_areCrossed 5 = .ok (.iload 4, 2) := by decide +kernel
theorem dX10_areCrossed_7 : decode cX10_areCrossed 7 = .ok (.aload_n 0, 1) := by decide +kernel
theorem dX10_areCrossed_8 : decode cX10_areCrossed 8 = .ok (.getfield 107, 3) := by decide +kernel
theorem dX10_areCrossed_11 : decode cX10_areCrossed 11 = .ok (.if_icmp .ge 63, 3) := by decide +kernel
theorem dX10_areCrossed_14 : decode cX10_areCrossed 14 = .ok (.iload_n 3, 1) := by decide +kernel
theorem dX10_areCrossed_15 : decode cX10_areCrossed 15 = .ok (.ifCond .ne 47, 3) := by decide +kernel
theorem dX10_areCrossed_18 : decode cX10_areCrossed 18 = .ok (.aload_n 0, 1) := by decide +kernel
theorem dX10_areCrossed_19 : decode cX10_areCrossed 19 = .ok (.getfield 34, 3) := by decide +kernel
theorem dX10_areCrossed_22 : decode cX10_areCrossed 22 = .ok (.iload 4, 2) := by decide +kernel
theorem dX10_areCrossed_24 : decode cX10_areCrossed 24 = .ok (.iaload, 1) := by decide +kernel
theorem dX10_areCrossed_25 : decode cX10_areCrossed 25 = .ok (.iload_n 1, 1) := by decide +kernel
theorem dX10_areCrossed_26 : decode cX10_areCrossed 26 = .ok (.if_icmp .ne 14, 3) := by decide +kernel
theorem dX10_areCrossed_29 : decode cX10_areCrossed 29 = .ok (.aload_n 0, 1) := by decide +kernel
theorem dX10_areCrossed_30 : decode cX10_areCrossed 30 = .ok (.getfield 37, 3) := by decide +kernel
theorem dX10_areCrossed_33 : decode cX10_areCrossed 33 = .ok (.iload 4, 2) := by decide +kernel
theorem dX10_areCrossed_35 : decode cX10_areCrossed 35 = .ok (.iaload, 1) := by decide +kernel
theorem dX10_areCrossed_36 : decode cX10_areCrossed 36 = .ok (.iload_n 2, 1) := by decide +kernel
theorem dX10_areCrossed_37 : decode cX10_areCrossed 37 = .ok (.if_icmp .eq 25, 3) := by decide +kernel
theorem dX10_areCrossed_40 : decode cX10_areCrossed 40 = .ok (.aload_n 0, 1) := by decide +kernel
theorem dX10_areCrossed_41 : decode cX10_areCrossed 41 = .ok (.getfield 34, 3) := by decide +kernel
theorem dX10_areCrossed_44 : decode cX10_areCrossed 44 = .ok (.iload 4, 2) := by decide +kernel
theorem dX10_areCrossed_46 : decode cX10_areCrossed 46 = .ok (.iaload, 1) := by decide +kernel
theorem dX10_areCrossed_47 : decode cX10_areCrossed 47 = .ok (.iload_n 2, 1) := by decide +kernel
theorem dX10_areCrossed_48 : decode cX10_areCrossed 48 = .ok (.if_icmp .ne 18, 3) := by decide +kernel
theorem dX10_areCrossed_51 : decode cX10_areCrossed 51 = .ok (.aload_n 0, 1) := by decide +kernel
theorem dX10_areCrossed_52 : decode cX10_areCrossed 52 = .ok (.getfield 37, 3) := by decide +kernel
theorem dX10_areCrossed_55 : decode cX10_areCrossed 55 = .ok (.iload 4, 2) := by decide +kernel
theorem dX10_areCrossed_57 : decode cX10_areCrossed 57 = .ok (.iaload, 1) := by decide +kernel
theorem dX10_areCrossed_58 : decode cX10_areCrossed 58 = .ok (.iload_n 1, 1) := by decide +kernel
theorem dX10_areCrossed_59 : decode cX10_areCrossed 59 = .ok (.if_icmp .ne 7, 3) := by decide +kernel
theorem dX10_areCrossed_62 : decode cX10_areCrossed 62 = .ok (.iconst 1, 1) := by decide +kernel
theorem dX10_areCrossed_63 : decode cX10_areCrossed 63 = .ok (.goto 4, 3) := by decide +kernel
theorem dX10_areCrossed_66 : decode cX10_areCrossed 66 = .ok (.iconst 0, 1) := by decide +kernel
theorem dX10_areCrossed_67 : decode cX10_areCrossed 67 = .ok (.istore_n 3, 1) := by decide +kernel
theorem dX10_areCrossed_68 : decode cX10_areCrossed 68 = .ok (.iinc 4 1, 3) := by decide +kernel
theorem dX10_areCrossed_71 : decode cX10_areCrossed 71 = .ok (.goto (-66), 3) := by decide +kernel
theorem dX10_areCrossed_74 : decode cX10_areCrossed 74 = .ok (.iload_n 3, 1) := by decide +kernel
theorem dX10_areCrossed_75 : decode cX10_areCrossed 75 = .ok (.ireturn, 1) := by decide +kernel
theorem dX10_cross_0 : decode cX10_cross 0 = .ok (.iload_n 1, 1) := by decide +kernel
theorem dX10_cross_1 : decode cX10_cross 1 = .ok (.iconst 0, 1) := by decide +kernel
theorem dX10_cross_2 : decode cX10_cross 2 = .ok (.bipush 15, 2) := by decide +kernel
theorem dX10_cross_4 : decode cX10_cross 4 = .ok (.invokestatic 95, 3) := by decide +kernel
theorem dX10_cross_7 : decode cX10_cross 7 = .ok (.ifCond .eq 18, 3) := by decide +kernel
theorem dX10_cross_10 : decode cX10_cross 10 = .ok (.iload_n 2, 1) := by decide +kernel
theorem dX10_cross_11 : decode cX10_cross 11 = .ok (.iconst 0, 1) := by decide +kernel
theorem dX10_cross_12 : decode cX10_cross 12 = .ok (.bipush 15, 2) := by decide +kernel
theorem dX10_cross_14 : decode cX10_cross 14 = .ok (.invokestatic 95, 3) := by decide +kernel
theorem dX10_cross_17 : decode cX10_cross 17 = .ok (.ifCond .eq 8, 3) := by decide +kernel
theorem dX10_cross_20 : decode cX10_cross 20 = .ok (.iload_n 1, 1) := by decide +kernel
theorem dX10_cross_21 : decode cX10_cross 21 = .ok (.iload_n 2, 1) := by decide +kernel
theorem dX10_cross_22 : decode cX10_cross 22 = .ok (.if_icmp .ne 5, 3) := by decide +kernel
theorem dX10_cross_25 : decode cX10_cross 25 = .ok (.iconst (-1), 1) := by decide +kernel
theorem dX10_cross_26 : decode cX10_cross 26 = .ok (.ireturn, 1) := by decide +kernel
theorem dX10_cross_27 : decode cX10_cross 27 = .ok (.aload_n 0, 1) := by decide +kernel
theorem dX10_cross_28 : decode cX10_cross 28 = .ok (.iload_n 1, 1) := by decide +kernel
theorem dX10_cross_29 : decode cX10_cross 29 = .ok (.iload_n 2, 1) := by decide +kernel
theorem dX10_cross_30 : decode cX10_cross 30 = .ok (.invokevirtual 110, 3) := by decide +kernel
theorem dX10_cross_33 : decode cX10_cross 33 = .ok (.ifCond .eq 6, 3) := by decide +kernel
theorem dX10_cross_36 : decode cX10_cross 36 = .ok (.bipush (-2), 2) := by decide +kernel
theorem dX10_cross_38 : decode cX10_cross 38 = .ok (.ireturn, 1) := by decide +kernel
theorem dX10_cross_39 : decode cX10_cross 39 = .ok (.aload_n 0, 1) := by decide +kernel
theorem dX10_cross_40 : decode cX10_cross 40 = .ok (.getfield 107, 3) := by decide +kernel
theorem dX10_cross_43 : decode cX10_cross 43 = .ok (.iconst 4, 1) := by decide +kernel
theorem dX10_cross_44 : decode cX10_cross 44 = .ok (.if_icmp .ne 6, 3) := by decide +kernel
theorem dX10_cross_47 : decode cX10_cross 47 = .ok (.bipush (-3), 2) := by decide +kernel
theorem dX10_cross_49 : decode cX10_cross 49 = .ok (.ireturn, 1) := by decide +kernel
theorem dX10_cross_50 : decode cX10_cross 50 = .ok (.aload_n 0, 1) := by decide +kernel
theorem dX10_cross_51 : decode cX10_cross 51 = .ok (.getfield 34, 3) := by decide +kernel
theorem dX10_cross_54 : decode cX10_cross 54 = .ok (.aload_n 0, 1) := by decide +kernel
theorem dX10_cross_55 : decode cX10_cross 55 = .ok (.getfield 107, 3) := by decide +kernel
theorem dX10_cross_58 : decode cX10_cross 58 = .ok (.iload_n 1, 1) := by decide +kernel
theorem dX10_cross_59 : decode cX10_cross 59 = .ok (.iastore, 1) := by decide +kernel
theorem dX10_cross_60 : decode cX10_cross 60 = .ok (.aload_n 0, 1) := by decide +kernel
theorem dX10_cross_61 : decode cX10_cross 61 = .ok (.getfield 37, 3) := by decide +kernel
theorem dX10_cross_64 : decode cX10_cross 64 = .ok (.aload_n 0, 1) := by decide +kernel
theorem dX10_cross_65 : decode cX10_cross 65 = .ok (.getfield 107, 3) := by decide +kernel
theorem dX10_cross_68 : decode cX10_cross 68 = .ok (.iload_n 2, 1) := by decide +kernel
theorem dX10_cross_69 : decode cX10_cross 69 = .ok (.iastore, 1) := by decide +kernel
theorem dX10_cross_70 : decode cX10_cross 70 = .ok (.aload_n 0, 1) := by decide +kernel
theorem dX10_cross_71 : decode cX10_cross 71 = .ok (.dup, 1) := by decide +kernel
theorem dX10_cross_72 : decode cX10_cross 72 = .ok (.getfield 107, 3) := by decide +kernel
theorem dX10_cross_75 : decode cX10_cross 75 = .ok (.iconst 1, 1) := by decide +kernel
theorem dX10_cross_76 : decode cX10_cross 76 = .ok (.iadd, 1) := by decide +kernel
theorem dX10_cross_77 : decode cX10_cross 77 = .ok (.putfield 107, 3) := by decide +kernel
theorem dX10_cross_80 : decode cX10_cross 80 = .ok (.aload_n 0, 1) := by decide +kernel
theorem dX10_cross_81 : decode cX10_cross 81 = .ok (.getfield 107, 3) := by decide +kernel
theorem dX10_cross_84 : decode cX10_cross 84 = .ok (.ireturn, 1) := by decide +kernel
theorem dX10_uncross_0 : decode cX10_uncross 0 = .ok (.aload_n 0, 1) := by decide +kernel
theorem dX10_uncross_1 : decode cX10_uncross 1 = .ok (.getfield 107, 3) := by decide +kernel
theorem dX10_uncross_4 : decode cX10_uncross 4 = .ok (.istore_n 1, 1) := by decide +kernel
theorem dX10_uncross_5 : decode cX10_uncross 5 = .ok (.aload_n 0, 1) := by decide +kernel
theorem dX10_uncross_6 : decode cX10_uncross 6 = .ok (.iconst 0, 1) := by decide +kernel
theorem dX10_uncross_7 : decode cX10_uncross 7 = .ok (.putfield 107, 3) := by decide +kernel
theorem dX10_uncross_10 : decode cX10_uncross 10 = .ok (.iload_n 1, 1) := by decide +kernel
theorem dX10_uncross_11 : decode cX10_uncross 11 = .ok (.ireturn, 1) := by decide +kernel
theorem dX10_crankBy_0 : decode cX10_crankBy 0 = .ok (.iload_n 2, 1) := by decide +kernel
theorem dX10_crankBy_1 : decode cX10_crankBy 1 = .ok (.ifCond .ge 10, 3) := by decide +kernel
theorem dX10_crankBy_4 : decode cX10_crankBy 4 = .ok (.aload_n 0, 1) := by decide +kernel
theorem dX10_crankBy_5 : decode cX10_crankBy 5 = .ok (.getfield 7, 3) := by decide +kernel
theorem dX10_crankBy_8 : decode cX10_crankBy 8 = .ok (.iload_n 1, 1) := by decide +kernel
theorem dX10_crankBy_9 : decode cX10_crankBy 9 = .ok (.iaload, 1) := by decide +kernel
theorem dX10_crankBy_10 : decode cX10_crankBy 10 = .ok (.ireturn, 1) := by decide +kernel
theorem dX10_crankBy_11 : decode cX10_crankBy 11 = .ok (.iload_n 2, 1) := by decide +kernel
theorem dX10_crankBy_12 : decode cX10_crankBy 12 = .ok (.bipush 16, 2) := by decide +kernel
theorem dX10_crankBy_14 : decode cX10_crankBy 14 = .ok (.if_icmp .ge 15, 3) := by decide +kernel
theorem dX10_crankBy_17 : decode cX10_crankBy 17 = .ok (.iload_n 2, 1) := by decide +kernel
theorem dX10_crankBy_18 : decode cX10_crankBy 18 = .ok (.iload_n 1, 1) := by decide +kernel
theorem dX10_crankBy_19 : decode cX10_crankBy 19 = .ok (.if_icmp .ne 8, 3) := by decide +kernel
theorem dX10_crankBy_22 : decode cX10_crankBy 22 = .ok (.bipush 10, 2) := by decide +kernel
theorem dX10_crankBy_24 : decode cX10_crankBy 24 = .ok (.goto 4, 3) := by decide +kernel
theorem dX10_crankBy_27 : decode cX10_crankBy 27 = .ok (.iconst 0, 1) := by decide +kernel
theorem dX10_crankBy_28 : decode cX10_crankBy 28 = .ok (.ireturn, 1) := by decide +kernel
theorem dX10_crankBy_29 : decode cX10_crankBy 29 = .ok (.iload_n 2, 1) := by decide +kernel
theorem dX10_crankBy_30 : decode cX10_crankBy 30 = .ok (.sipush 160, 3) := by decide +kernel
theorem dX10_crankBy_33 : decode cX10_crankBy 33 = .ok (.if_icmp .ge 26, 3) := by decide +kernel
theorem dX10_crankBy_36 : decode cX10_crankBy 36 = .ok (.iload_n 2, 1) := by decide +kernel
theorem dX10_crankBy_37 : decode cX10_crankBy 37 = .ok (.bipush 16, 2) := by decide +kernel
theorem dX10_crankBy_39 : decode cX10_crankBy 39 = .ok (.isub, 1) := by decide +kernel
theorem dX10_crankBy_40 : decode cX10_crankBy 40 = .ok (.bipush 9, 2) := by decide +kernel
theorem dX10_crankBy_42 : decode cX10_crankBy 42 = .ok (.idiv, 1) := by decide +kernel
theorem dX10_crankBy_43 : decode cX10_crankBy 43 = .ok (.iload_n 1, 1) := by decide +kernel
theorem dX10_crankBy_44 : decode cX10_crankBy 44 = .ok (.if_icmp .ne 15, 3) := by decide +kernel
theorem dX10_crankBy_47 : decode cX10_crankBy 47 = .ok (.iload_n 2, 1) := by decide +kernel
theorem dX10_crankBy_48 : decode cX10_crankBy 48 = .ok (.bipush 16, 2) := by decide +kernel
theorem dX10_crankBy_50 : decode cX10_crankBy 50 = .ok (.isub, 1) := by decide +kernel
theorem dX10_crankBy_51 : decode cX10_crankBy 51 = .ok (.bipush 9, 2) := by decide +kernel
theorem dX10_crankBy_53 : decode cX10_crankBy 53 = .ok (.irem, 1) := by decide +kernel
theorem dX10_crankBy_54 : decode cX10_crankBy 54 = .ok (.iconst 1, 1) := by decide +kernel
theorem dX10_crankBy_55 : decode cX10_crankBy 55 = .ok (.iadd, 1) := by decide +kernel
theorem dX10_crankBy_56 : decode cX10_crankBy 56 = .ok (.goto 4, 3) := by decide +kernel
theorem dX10_crankBy_59 : decode cX10_crankBy 59 = .ok (.iconst 0, 1) := by decide +kernel
theorem dX10_crankBy_60 : decode cX10_crankBy 60 = .ok (.ireturn, 1) := by decide +kernel
theorem dX10_isWell_0 : decode cX10_isWell 0 = .ok (.iload_n 2, 1) := by decide +kernel
theorem dX10_isWell_1 : decode cX10_isWell 1 = .ok (.ifCond .ge 20, 3) := by decide +kernel
theorem dX10_isWell_4 : decode cX10_isWell 4 = .ok (.aload_n 0, 1) := by decide +kernel
theorem dX10_isWell_5 : decode cX10_isWell 5 = .ok (.getfield 16, 3) := by decide +kernel
theorem dX10_isWell_8 : decode cX10_isWell 8 = .ok (.iload_n 1, 1) := by decide +kernel
theorem dX10_isWell_9 : decode cX10_isWell 9 = .ok (.iaload, 1) := by decide +kernel
theorem dX10_isWell_10 : decode cX10_isWell 10 = .ok (.ifCond .ne 7, 3) := by decide +kernel
theorem dX10_isWell_13 : decode cX10_isWell 13 = .ok (.iconst 1, 1) := by decide +kernel
theorem dX10_isWell_14 : decode cX10_isWell 14 = .ok (.goto 21, 3) := by decide +kernel
theorem dX10_isWell_17 : decode cX10_isWell 17 = .ok (.iconst 0, 1) := by decide +kernel
theorem dX10_isWell_18 : decode cX10_isWell 18 = .ok (.goto 17, 3) := by decide +kernel
theorem dX10_isWell_21 : decode cX10_isWell 21 = .ok (.iload_n 2, 1) := by decide +kernel
theorem dX10_isWell_22 : decode cX10_isWell 22 = .ok (.sipush 160, 3) := by decide +kernel
theorem dX10_isWell_25 : decode cX10_isWell 25 = .ok (.iload_n 1, 1) := by decide +kernel
theorem dX10_isWell_26 : decode cX10_isWell 26 = .ok (.iadd, 1) := by decide +kernel
theorem dX10_isWell_27 : decode cX10_isWell 27 = .ok (.if_icmp .eq 7, 3) := by decide +kernel
theorem dX10_isWell_30 : decode cX10_isWell 30 = .ok (.iconst 1, 1) := by decide +kernel
theorem dX10_isWell_31 : decode cX10_isWell 31 = .ok (.goto 4, 3) := by decide +kernel
theorem dX10_isWell_34 : decode cX10_isWell 34 = .ok (.iconst 0, 1) := by decide +kernel
theorem dX10_isWell_35 : decode cX10_isWell 35 = .ok (.ireturn, 1) := by decide +kernel
theorem dX10_isDead_0 : decode cX10_isDead 0 = .ok (.iconst 0, 1) := by decide +kernel
theorem dX10_isDead_1 : decode cX10_isDead 1 = .ok (.istore_n 3, 1) := by decide +kernel
theorem dX10_isDead_2 : decode cX10_isDead 2 = .ok (.iconst 0, 1) := by decide +kernel
theorem dX10_isDead_3 : decode cX10_isDead 3 = .ok (.istore 4, 2) := by decide +kernel
theorem dX10_isDead_5 : decode cX10_isDead 5 = .ok (.iload 4, 2) := by decide +kernel
theorem dX10_isDead_7 : decode cX10_isDead 7 = .ok (.bipush 16, 2) := by decide +kernel
theorem dX10_isDead_9 : decode cX10_isDead 9 = .ok (.if_icmp .ge 46, 3) := by decide +kernel
theorem dX10_isDead_12 : decode cX10_isDead 12 = .ok (.iload_n 3, 1) := by decide +kernel
theorem dX10_isDead_13 : decode cX10_isDead 13 = .ok (.ifCond .ne 30, 3) := by decide +kernel
theorem dX10_isDead_16 : decode cX10_isDead 16 = .ok (.aload_n 0, 1) := by decide +kernel
theorem dX10_isDead_17 : decode cX10_isDead 17 = .ok (.getfield 31, 3) := by decide +kernel
theorem dX10_isDead_20 : decode cX10_isDead 20 = .ok (.iload_n 1, 1) := by decide +kernel
theorem dX10_isDead_21 : decode cX10_isDead 21 = .ok (.iaload, 1) := by decide +kernel
theorem dX10_isDead_22 : decode cX10_isDead 22 = .ok (.iload 4, 2) := by decide +kernel
theorem dX10_isDead_24 : decode cX10_isDead 24 = .ok (.ishr, 1) := by decide +kernel
theorem dX10_isDead_25 : decode cX10_isDead 25 = .ok (.iconst 1, 1) := by decide +kernel
theorem dX10_isDead_26 : decode cX10_isDead 26 = .ok (.iand, 1) := by decide +kernel
theorem dX10_isDead_27 : decode cX10_isDead 27 = .ok (.iconst 1, 1) := by decide +kernel
theorem dX10_isDead_28 : decode cX10_isDead 28 = .ok (.if_icmp .ne 19, 3) := by decide +kernel
theorem dX10_isDead_31 : decode cX10_isDead 31 = .ok (.aload_n 0, 1) := by decide +kernel
theorem dX10_isDead_32 : decode cX10_isDead 32 = .ok (.iload 4, 2) := by decide +kernel
theorem dX10_isDead_34 : decode cX10_isDead 34 = .ok (.iload_n 2, 1) := by decide +kernel
theorem dX10_isDead_35 : decode cX10_isDead 35 = .ok (.invokevirtual 114, 3) := by decide +kernel
theorem dX10_isDead_38 : decode cX10_isDead 38 = .ok (.bipush 10, 2) := by decide +kernel
theorem dX10_isDead_40 : decode cX10_isDead 40 = .ok (.if_icmp .ne 7, 3) := by decide +kernel
theorem dX10_isDead_43 : decode cX10_isDead 43 = .ok (.iconst 1, 1) := by decide +kernel
theorem dX10_isDead_44 : decode cX10_isDead 44 = .ok (.goto 4, 3) := by decide +kernel
theorem dX10_isDead_47 : decode cX10_isDead 47 = .ok (.iconst 0, 1) := by decide +kernel
theorem dX10_isDead_48 : decode cX10_isDead 48 = .ok (.istore_n 3, 1) := by decide +kernel
theorem dX10_isDead_49 : decode cX10_isDead 49 = .ok (.iinc 4 1, 3) := by decide +kernel
theorem dX10_isDead_52 : decode cX10_isDead 52 = .ok (.goto (-47), 3) := by decide +kernel
theorem dX10_isDead_55 : decode cX10_isDead 55 = .ok (.iload_n 3, 1) := by decide +kernel
theorem dX10_isDead_56 : decode cX10_isDead 56 = .ok (.ireturn, 1) := by decide +kernel
theorem dX10_forceBy_0 : decode cX10_forceBy 0 = .ok (.bipush 10, 2) := by decide +kernel
theorem dX10_forceBy_2 : decode cX10_forceBy 2 = .ok (.iload_n 2, 1) := by decide +kernel
theorem dX10_forceBy_3 : decode cX10_forceBy 3 = .ok (.aload_n 0, 1) := by decide +kernel
theorem dX10_forceBy_4 : decode cX10_forceBy 4 = .ok (.getfield 31, 3) := by decide +kernel
theorem dX10_forceBy_7 : decode cX10_forceBy 7 = .ok (.iload_n 1, 1) := by decide +kernel
theorem dX10_forceBy_8 : decode cX10_forceBy 8 = .ok (.iaload, 1) := by decide +kernel
theorem dX10_forceBy_9 : decode cX10_forceBy 9 = .ok (.invokestatic 103, 3) := by decide +kernel
theorem dX10_forceBy_12 : decode cX10_forceBy 12 = .ok (.imul, 1) := by decide +kernel
theorem dX10_forceBy_13 : decode cX10_forceBy 13 = .ok (.bipush 20, 2) := by decide +kernel
theorem dX10_forceBy_15 : decode cX10_forceBy 15 = .ok (.idiv, 1) := by decide +kernel
theorem dX10_forceBy_16 : decode cX10_forceBy 16 = .ok (.isub, 1) := by decide +kernel
theorem dX10_forceBy_17 : decode cX10_forceBy 17 = .ok (.istore 4, 2) := by decide +kernel
theorem dX10_forceBy_19 : decode cX10_forceBy 19 = .ok (.iconst 0, 1) := by decide +kernel
theorem dX10_forceBy_20 : decode cX10_forceBy 20 = .ok (.istore 5, 2) := by decide +kernel
theorem dX10_forceBy_22 : decode cX10_forceBy 22 = .ok (.iload 5, 2) := by decide +kernel
theorem dX10_forceBy_24 : decode cX10_forceBy 24 = .ok (.bipush 16, 2) := by decide +kernel
theorem dX10_forceBy_26 : decode cX10_forceBy 26 = .ok (.if_icmp .ge 40, 3) := by decide +kernel
theorem dX10_forceBy_29 : decode cX10_forceBy 29 = .ok (.iload 4, 2) := by decide +kernel
theorem dX10_forceBy_31 : decode cX10_forceBy 31 = .ok (.aload_n 0, 1) := by decide +kernel
theorem dX10_forceBy_32 : decode cX10_forceBy 32 = .ok (.getfield 31, 3) := by decide +kernel
theorem dX10_forceBy_35 : decode cX10_forceBy 35 = .ok (.iload_n 1, 1) := by decide +kernel
theorem dX10_forceBy_36 : decode cX10_forceBy 36 = .ok (.iaload, 1) := by decide +kernel
theorem dX10_forceBy_37 : decode cX10_forceBy 37 = .ok (.iload 5, 2) := by decide +kernel
theorem dX10_forceBy_39 : decode cX10_forceBy 39 = .ok (.ishr, 1) := by decide +kernel
theorem dX10_forceBy_40 : decode cX10_forceBy 40 = .ok (.iconst 1, 1) := by decide +kernel
theorem dX10_forceBy_41 : decode cX10_forceBy 41 = .ok (.iand, 1) := by decide +kernel
theorem dX10_forceBy_42 : decode cX10_forceBy 42 = .ok (.iconst 1, 1) := by decide +kernel
theorem dX10_forceBy_43 : decode cX10_forceBy 43 = .ok (.if_icmp .ne 13, 3) := by decide +kernel
theorem dX10_forceBy_46 : decode cX10_forceBy 46 = .ok (.aload_n 0, 1) := by decide +kernel
theorem dX10_forceBy_47 : decode cX10_forceBy 47 = .ok (.iload 5, 2) := by decide +kernel
theorem dX10_forceBy_49 : decode cX10_forceBy 49 = .ok (.iload_n 3, 1) := by decide +kernel
theorem dX10_forceBy_50 : decode cX10_forceBy 50 = .ok (.invokevirtual 114, 3) := by decide +kernel
theorem dX10_forceBy_53 : decode cX10_forceBy 53 = .ok (.goto 4, 3) := by decide +kernel
theorem dX10_forceBy_56 : decode cX10_forceBy 56 = .ok (.iconst 0, 1) := by decide +kernel
theorem dX10_forceBy_57 : decode cX10_forceBy 57 = .ok (.isub, 1) := by decide +kernel
theorem dX10_forceBy_58 : decode cX10_forceBy 58 = .ok (.istore 4, 2) := by decide +kernel
theorem dX10_forceBy_60 : decode cX10_forceBy 60 = .ok (.iinc 5 1, 3) := by decide +kernel
theorem dX10_forceBy_63 : decode cX10_forceBy 63 = .ok (.goto (-41), 3) := by decide +kernel
theorem dX10_forceBy_66 : decode cX10_forceBy 66 = .ok (.iload 4, 2) := by decide +kernel
theorem dX10_forceBy_68 : decode cX10_forceBy 68 = .ok (.ifCond .lt 12, 3) := by decide +kernel
theorem dX10_forceBy_71 : decode cX10_forceBy 71 = .ok (.aload_n 0, 1) := by decide +kernel
theorem dX10_forceBy_72 : decode cX10_forceBy 72 = .ok (.iload_n 1, 1) := by decide +kernel
theorem dX10_forceBy_73 : decode cX10_forceBy 73 = .ok (.iload_n 3, 1) := by decide +kernel
theorem dX10_forceBy_74 : decode cX10_forceBy 74 = .ok (.invokevirtual 118, 3) := by decide +kernel
theorem dX10_forceBy_77 : decode cX10_forceBy 77 = .ok (.ifCond .eq 7, 3) := by decide +kernel
theorem dX10_forceBy_80 : decode cX10_forceBy 80 = .ok (.iconst 0, 1) := by decide +kernel
theorem dX10_forceBy_81 : decode cX10_forceBy 81 = .ok (.goto 5, 3) := by decide +kernel
theorem dX10_forceBy_84 : decode cX10_forceBy 84 = .ok (.iload 4, 2) := by decide +kernel
theorem dX10_forceBy_86 : decode cX10_forceBy 86 = .ok (.ireturn, 1) := by decide +kernel
theorem dX10_ownBy_0 : decode cX10_ownBy 0 = .ok (.aload_n 0, 1) := by decide +kernel
theorem dX10_ownBy_1 : decode cX10_ownBy 1 = .ok (.iload_n 1, 1) := by decide +kernel
theorem dX10_ownBy_2 : decode cX10_ownBy 2 = .ok (.iload_n 2, 1) := by decide +kernel
theorem dX10_ownBy_3 : decode cX10_ownBy 3 = .ok (.iload_n 3, 1) := by decide +kernel
theorem dX10_ownBy_4 : decode cX10_ownBy 4 = .ok (.invokevirtual 121, 3) := by decide +kernel
theorem dX10_ownBy_7 : decode cX10_ownBy 7 = .ok (.istore 4, 2) := by decide +kernel
theorem dX10_ownBy_9 : decode cX10_ownBy 9 = .ok (.aload_n 0, 1) := by decide +kernel
theorem dX10_ownBy_10 : decode cX10_ownBy 10 = .ok (.aload_n 0, 1) := by decide +kernel
theorem dX10_ownBy_11 : decode cX10_ownBy 11 = .ok (.getfield 28, 3) := by decide +kernel
theorem dX10_ownBy_14 : decode cX10_ownBy 14 = .ok (.iload_n 1, 1) := by decide +kernel
theorem dX10_ownBy_15 : decode cX10_ownBy 15 = .ok (.iaload, 1) := by decide +kernel
theorem dX10_ownBy_16 : decode cX10_ownBy 16 = .ok (.iload_n 3, 1) := by decide +kernel
theorem dX10_ownBy_17 : decode cX10_ownBy 17 = .ok (.invokevirtual 125, 3) := by decide +kernel
theorem dX10_ownBy_20 : decode cX10_ownBy 20 = .ok (.ifCond .eq 8, 3) := by decide +kernel
theorem dX10_ownBy_23 : decode cX10_ownBy 23 = .ok (.iload 4, 2) := by decide +kernel
theorem dX10_ownBy_25 : decode cX10_ownBy 25 = .ok (.ifCond .ne 7, 3) := by decide +kernel
theorem dX10_ownBy_28 : decode cX10_ownBy 28 = .ok (.iconst 0, 1) := by decide +kernel
theorem dX10_ownBy_29 : decode cX10_ownBy 29 = .ok (.goto 14, 3) := by decide +kernel
theorem dX10_ownBy_32 : decode cX10_ownBy 32 = .ok (.iload 4, 2) := by decide +kernel
theorem dX10_ownBy_34 : decode cX10_ownBy 34 = .ok (.iconst 5, 1) := by decide +kernel
theorem dX10_ownBy_35 : decode cX10_ownBy 35 = .ok (.if_icmp .le 7, 3) := by decide +kernel
theorem dX10_ownBy_38 : decode cX10_ownBy 38 = .ok (.iconst 2, 1) := by decide +kernel
theorem dX10_ownBy_39 : decode cX10_ownBy 39 = .ok (.goto 4, 3) := by decide +kernel
theorem dX10_ownBy_42 : decode cX10_ownBy 42 = .ok (.iconst 1, 1) := by decide +kernel
theorem dX10_ownBy_43 : decode cX10_ownBy 43 = .ok (.ireturn, 1) := by decide +kernel
theorem dX10_force_0 : decode cX10_force 0 = .ok (.aload_n 0, 1) := by decide +kernel
theorem dX10_force_1 : decode cX10_force 1 = .ok (.iload_n 1, 1) := by decide +kernel
theorem dX10_force_2 : decode cX10_force 2 = .ok (.invokevirtual 128, 3) := by decide +kernel
theorem dX10_force_5 : decode cX10_force 5 = .ok (.ifCond .eq 16, 3) := by decide +kernel
theorem dX10_force_8 : decode cX10_force 8 = .ok (.aload_n 0, 1) := by decide +kernel
theorem dX10_force_9 : decode cX10_force 9 = .ok (.iload_n 1, 1) := by decide +kernel
theorem dX10_force_10 : decode cX10_force 10 = .ok (.aload_n 0, 1) := by decide +kernel
theorem dX10_force_11 : decode cX10_force 11 = .ok (.getfield 99, 3) := by decide +kernel
theorem dX10_force_14 : decode cX10_force 14 = .ok (.iconst (-1), 1) := by decide +kernel
theorem dX10_force_15 : decode cX10_force 15 = .ok (.invokevirtual 121, 3) := by decide +kernel
theorem dX10_force_18 : decode cX10_force 18 = .ok (.goto 4, 3) := by decide +kernel
theorem dX10_force_21 : decode cX10_force 21 = .ok (.iconst (-1), 1) := by decide +kernel
theorem dX10_force_22 : decode cX10_force 22 = .ok (.ireturn, 1) := by decide +kernel
theorem dX10_areJoined_0 : decode cX10_areJoined 0 = .ok (.iconst 0, 1) := by decide +kernel
theorem dX10_areJoined_1 : decode cX10_areJoined 1 = .ok (.istore_n 3, 1) := by decide +kernel
theorem dX10_areJoined_2 : decode cX10_areJoined 2 = .ok (.iconst 0, 1) := by decide +kernel
theorem dX10_areJoined_3 : decode cX10_areJoined 3 = .ok (.istore 4, 2) := by decide +kernel
theorem dX10_areJoined_5 : decode cX10_areJoined 5 = .ok (.iload 4, 2) := by decide +kernel
theorem dX10_areJoined_7 : decode cX10_areJoined 7 = .ok (.aload_n 0, 1) := by decide +kernel
theorem dX10_areJoined_8 : decode cX10_areJoined 8 = .ok (.getfield 107, 3) := by decide +kernel
theorem dX10_areJoined_11 : decode cX10_areJoined 11 = .ok (.if_icmp .ge 123, 3) := by decide +kernel
theorem dX10_areJoined_14 : decode cX10_areJoined 14 = .ok (.aload_n 0, 1) := by decide +kernel
theorem dX10_areJoined_15 : decode cX10_areJoined 15 = .ok (.getfield 31, 3) := by decide +kernel
theorem dX10_areJoined_18 : decode cX10_areJoined 18 = .ok (.iload_n 1, 1) := by decide +kernel
theorem dX10_areJoined_19 : decode cX10_areJoined 19 = .ok (.iaload, 1) := by decide +kernel
theorem dX10_areJoined_20 : decode cX10_areJoined 20 = .ok (.aload_n 0, 1) := by decide +kernel
theorem dX10_areJoined_21 : decode cX10_areJoined 21 = .ok (.getfield 34, 3) := by decide +kernel
theorem dX10_areJoined_24 : decode cX10_areJoined 24 = .ok (.iload 4, 2) := by decide +kernel
theorem dX10_areJoined_26 : decode cX10_areJoined 26 = .ok (.iaload, 1) := by decide +kernel
theorem dX10_areJoined_27 : decode cX10_areJoined 27 = .ok (.ishr, 1) := by decide +kernel
theorem dX10_areJoined_28 : decode cX10_areJoined 28 = .ok (.iconst 1, 1) := by decide +kernel
theorem dX10_areJoined_29 : decode cX10_areJoined 29 = .ok (.iand, 1) := by decide +kernel
theorem dX10_areJoined_30 : decode cX10_areJoined 30 = .ok (.iconst 1, 1) := by decide +kernel
theorem dX10_areJoined_31 : decode cX10_areJoined 31 = .ok (.if_icmp .ne 27, 3) := by decide +kernel
theorem dX10_areJoined_34 : decode cX10_areJoined 34 = .ok (.aload_n 0, 1) := by decide +kernel
theorem dX10_areJoined_35 : decode cX10_areJoined 35 = .ok (.getfield 31, 3) := by decide +kernel
theorem dX10_areJoined_38 : decode cX10_areJoined 38 = .ok (.iload_n 2, 1) := by decide +kernel
theorem dX10_areJoined_39 : decode cX10_areJoined 39 = .ok (.iaload, 1) := by decide +kernel
theorem dX10_areJoined_40 : decode cX10_areJoined 40 = .ok (.aload_n 0, 1) := by decide +kernel
theorem dX10_areJoined_41 : decode cX10_areJoined 41 = .ok (.getfield 37, 3) := by decide +kernel
theorem dX10_areJoined_44 : decode cX10_areJoined 44 = .ok (.iload 4, 2) := by decide +kernel
theorem dX10_areJoined_46 : decode cX10_areJoined 46 = .ok (.iaload, 1) := by decide +kernel
theorem dX10_areJoined_47 : decode cX10_areJoined 47 = .ok (.ishr, 1) := by decide +kernel
theorem dX10_areJoined_48 : decode cX10_areJoined 48 = .ok (.iconst 1, 1) := by decide +kernel
theorem dX10_areJoined_49 : decode cX10_areJoined 49 = .ok (.iand, 1) := by decide +kernel
theorem dX10_areJoined_50 : decode cX10_areJoined 50 = .ok (.iconst 1, 1) := by decide +kernel
theorem dX10_areJoined_51 : decode cX10_areJoined 51 = .ok (.if_icmp .ne 7, 3) := by decide +kernel
theorem dX10_areJoined_54 : decode cX10_areJoined 54 = .ok (.iconst 1, 1) := by decide +kernel
theorem dX10_areJoined_55 : decode cX10_areJoined 55 = .ok (.goto 4, 3) := by decide +kernel
theorem dX10_areJoined_58 : decode cX10_areJoined 58 = .ok (.iconst 0, 1) := by decide +kernel
theorem dX10_areJoined_59 : decode cX10_areJoined 59 = .ok (.istore 5, 2) := by decide +kernel
theorem dX10_areJoined_61 : decode cX10_areJoined 61 = .ok (.aload_n 0, 1) := by decide +kernel
theorem dX10_areJoined_62 : decode cX10_areJoined 62 = .ok (.getfield 31, 3) := by decide +kernel
theorem dX10_areJoined_65 : decode cX10_areJoined 65 = .ok (.iload_n 1, 1) := by decide +kernel
theorem dX10_areJoined_66 : decode cX10_areJoined 66 = .ok (.iaload, 1) := by decide +kernel
theorem dX10_areJoined_67 : decode cX10_areJoined 67 = .ok (.aload_n 0, 1) := by decide +kernel
theorem dX10_areJoined_68 : decode cX10_areJoined 68 = .ok (.getfield 37, 3) := by decide +kernel
theorem dX10_areJoined_71 : decode cX10_areJoined 71 = .ok (.iload 4, 2) := by decide +kernel
theorem dX10_areJoined_73 : decode cX10_areJoined 73 = .ok (.iaload, 1) := by decide +kernel
theorem dX10_areJoined_74 : decode cX10_areJoined 74 = .ok (.ishr, 1) := by decide +kernel
theorem dX10_areJoined_75 : decode cX10_areJoined 75 = .ok (.iconst 1, 1) := by decide +kernel
theorem dX10_areJoined_76 : decode cX10_areJoined 76 = .ok (.iand, 1) := by decide +kernel
theorem dX10_areJoined_77 : decode cX10_areJoined 77 = .ok (.iconst 1, 1) := by decide +kernel
theorem dX10_areJoined_78 : decode cX10_areJoined 78 = .ok (.if_icmp .ne 27, 3) := by decide +kernel
theorem dX10_areJoined_81 : decode cX10_areJoined 81 = .ok (.aload_n 0, 1) := by decide +kernel
theorem dX10_areJoined_82 : decode cX10_areJoined 82 = .ok (.getfield 31, 3) := by decide +kernel
theorem dX10_areJoined_85 : decode cX10_areJoined 85 = .ok (.iload_n 2, 1) := by decide +kernel
theorem dX10_areJoined_86 : decode cX10_areJoined 86 = .ok (.iaload, 1) := by decide +kernel
theorem dX10_areJoined_87 : decode cX10_areJoined 87 = .ok (.aload_n 0, 1) := by decide +kernel
theorem dX10_areJoined_88 : decode cX10_areJoined 88 = .ok (.getfield 34, 3) := by decide +kernel
theorem dX10_areJoined_91 : decode cX10_areJoined 91 = .ok (.iload 4, 2) := by decide +kernel
theorem dX10_areJoined_93 : decode cX10_areJoined 93 = .ok (.iaload, 1) := by decide +kernel
theorem dX10_areJoined_94 : decode cX10_areJoined 94 = .ok (.ishr, 1) := by decide +kernel
theorem dX10_areJoined_95 : decode cX10_areJoined 95 = .ok (.iconst 1, 1) := by decide +kernel
theorem dX10_areJoined_96 : decode cX10_areJoined 96 = .ok (.iand, 1) := by decide +kernel
theorem dX10_areJoined_97 : decode cX10_areJoined 97 = .ok (.iconst 1, 1) := by decide +kernel
theorem dX10_areJoined_98 : decode cX10_areJoined 98 = .ok (.if_icmp .ne 7, 3) := by decide +kernel
theorem dX10_areJoined_101 : decode cX10_areJoined 101 = .ok (.iconst 1, 1) := by decide +kernel
theorem dX10_areJoined_102 : decode cX10_areJoined 102 = .ok (.goto 4, 3) := by decide +kernel
theorem dX10_areJoined_105 : decode cX10_areJoined 105 = .ok (.iconst 0, 1) := by decide +kernel
theorem dX10_areJoined_106 : decode cX10_areJoined 106 = .ok (.istore 6, 2) := by decide +kernel
theorem dX10_areJoined_108 : decode cX10_areJoined 108 = .ok (.iload_n 3, 1) := by decide +kernel
theorem dX10_areJoined_109 : decode cX10_areJoined 109 = .ok (.ifCond .ne 13, 3) := by decide +kernel
theorem dX10_areJoined_112 : decode cX10_areJoined 112 = .ok (.iload 5, 2) := by decide +kernel
theorem dX10_areJoined_114 : decode cX10_areJoined 114 = .ok (.ifCond .ne 8, 3) := by decide +kernel
theorem dX10_areJoined_117 : decode cX10_areJoined 117 = .ok (.iload 6, 2) := by decide +kernel
theorem dX10_areJoined_119 : decode cX10_areJoined 119 = .ok (.ifCond .eq 7, 3) := by decide +kernel
theorem dX10_areJoined_122 : decode cX10_areJoined 122 = .ok (.iconst 1, 1) := by decide +kernel
theorem dX10_areJoined_123 : decode cX10_areJoined 123 = .ok (.goto 4, 3) := by decide +kernel
theorem dX10_areJoined_126 : decode cX10_areJoined 126 = .ok (.iconst 0, 1) := by decide +kernel
theorem dX10_areJoined_127 : decode cX10_areJoined 127 = .ok (.istore_n 3, 1) := by decide +kernel
theorem dX10_areJoined_128 : decode cX10_areJoined 128 = .ok (.iinc 4 1, 3) := by decide +kernel
theorem dX10_areJoined_131 : decode cX10_areJoined 131 = .ok (.goto (-126), 3) := by decide +kernel
theorem dX10_areJoined_134 : decode cX10_areJoined 134 = .ok (.iload_n 3, 1) := by decide +kernel
theorem dX10_areJoined_135 : decode cX10_areJoined 135 = .ok (.ireturn, 1) := by decide +kernel
theorem dX10_rings_0 : decode cX10_rings 0 = .ok (.aload_n 0, 1) := by decide +kernel
theorem dX10_rings_1 : decode cX10_rings 1 = .ok (.getfield 28, 3) := by decide +kernel
theorem dX10_rings_4 : decode cX10_rings 4 = .ok (.iload_n 1, 1) := by decide +kernel
theorem dX10_rings_5 : decode cX10_rings 5 = .ok (.iaload, 1) := by decide +kernel
theorem dX10_rings_6 : decode cX10_rings 6 = .ok (.iload_n 2, 1) := by decide +kernel
theorem dX10_rings_7 : decode cX10_rings 7 = .ok (.if_icmp .ne 14, 3) := by decide +kernel
theorem dX10_rings_10 : decode cX10_rings 10 = .ok (.aload_n 0, 1) := by decide +kernel
theorem dX10_rings_11 : decode cX10_rings 11 = .ok (.iload_n 1, 1) := by decide +kernel
theorem dX10_rings_12 : decode cX10_rings 12 = .ok (.aload_n 0, 1) := by decide +kernel
theorem dX10_rings_13 : decode cX10_rings 13 = .ok (.getfield 99, 3) := by decide +kernel
theorem dX10_rings_16 : decode cX10_rings 16 = .ok (.iconst (-1), 1) := by decide +kernel
theorem dX10_rings_17 : decode cX10_rings 17 = .ok (.invokevirtual 132, 3) := by decide +kernel
theorem dX10_rings_20 : decode cX10_rings 20 = .ok (.ireturn, 1) := by decide +kernel
theorem dX10_rings_21 : decode cX10_rings 21 = .ok (.aload_n 0, 1) := by decide +kernel
theorem dX10_rings_22 : decode cX10_rings 22 = .ok (.iload_n 1, 1) := by decide +kernel
theorem dX10_rings_23 : decode cX10_rings 23 = .ok (.aload_n 0, 1) := by decide +kernel
theorem dX10_rings_24 : decode cX10_rings 24 = .ok (.getfield 99, 3) := by decide +kernel
theorem dX10_rings_27 : decode cX10_rings 27 = .ok (.iconst (-1), 1) := by decide +kernel
theorem dX10_rings_28 : decode cX10_rings 28 = .ok (.invokevirtual 121, 3) := by decide +kernel
theorem dX10_rings_31 : decode cX10_rings 31 = .ok (.bipush 6, 2) := by decide +kernel
theorem dX10_rings_33 : decode cX10_rings 33 = .ok (.if_icmp .lt 13, 3) := by decide +kernel
theorem dX10_rings_36 : decode cX10_rings 36 = .ok (.aload_n 0, 1) := by decide +kernel
theorem dX10_rings_37 : decode cX10_rings 37 = .ok (.getfield 16, 3) := by decide +kernel
theorem dX10_rings_40 : decode cX10_rings 40 = .ok (.iload_n 2, 1) := by decide +kernel
theorem dX10_rings_41 : decode cX10_rings 41 = .ok (.iaload, 1) := by decide +kernel
theorem dX10_rings_42 : decode cX10_rings 42 = .ok (.iconst 1, 1) := by decide +kernel
theorem dX10_rings_43 : decode cX10_rings 43 = .ok (.if_icmp .ne 5, 3) := by decide +kernel
theorem dX10_rings_46 : decode cX10_rings 46 = .ok (.iconst 0, 1) := by decide +kernel
theorem dX10_rings_47 : decode cX10_rings 47 = .ok (.ireturn, 1) := by decide +kernel
theorem dX10_rings_48 : decode cX10_rings 48 = .ok (.iconst 0, 1) := by decide +kernel
theorem dX10_rings_49 : decode cX10_rings 49 = .ok (.istore_n 3, 1) := by decide +kernel
theorem dX10_rings_50 : decode cX10_rings 50 = .ok (.iload_n 3, 1) := by decide +kernel
theorem dX10_rings_51 : decode cX10_rings 51 = .ok (.aload_n 0, 1) := by decide +kernel
theorem dX10_rings_52 : decode cX10_rings 52 = .ok (.getfield 91, 3) := by decide +kernel
theorem dX10_rings_55 : decode cX10_rings 55 = .ok (.if_icmp .ge 44, 3) := by decide +kernel
theorem dX10_rings_58 : decode cX10_rings 58 = .ok (.iload_n 3, 1) := by decide +kernel
theorem dX10_rings_59 : decode cX10_rings 59 = .ok (.iload_n 1, 1) := by decide +kernel
theorem dX10_rings_60 : decode cX10_rings 60 = .ok (.if_icmp .eq 33, 3) := by decide +kernel
theorem dX10_rings_63 : decode cX10_rings 63 = .ok (.aload_n 0, 1) := by decide +kernel
theorem dX10_rings_64 : decode cX10_rings 64 = .ok (.getfield 28, 3) := by decide +kernel
theorem dX10_rings_67 : decode cX10_rings 67 = .ok (.iload_n 3, 1) := by decide +kernel
theorem dX10_rings_68 : decode cX10_rings 68 = .ok (.iaload, 1) := by decide +kernel
theorem dX10_rings_69 : decode cX10_rings 69 = .ok (.iload_n 2, 1) := by decide +kernel
theorem dX10_rings_70 : decode cX10_rings 70 = .ok (.if_icmp .ne 23, 3) := by decide +kernel
theorem dX10_rings_73 : decode cX10_rings 73 = .ok (.aload_n 0, 1) := by decide +kernel
theorem dX10_rings_74 : decode cX10_rings 74 = .ok (.iload_n 1, 1) := by decide +kernel
theorem dX10_rings_75 : decode cX10_rings 75 = .ok (.iload_n 3, 1) := by decide +kernel
theorem dX10_rings_76 : decode cX10_rings 76 = .ok (.invokevirtual 135, 3) := by decide +kernel
theorem dX10_rings_79 : decode cX10_rings 79 = .ok (.ifCond .eq 14, 3) := by decide +kernel
theorem dX10_rings_82 : decode cX10_rings 82 = .ok (.aload_n 0, 1) := by decide +kernel
theorem dX10_rings_83 : decode cX10_rings 83 = .ok (.iload_n 3, 1) := by decide +kernel
theorem dX10_rings_84 : decode cX10_rings 84 = .ok (.iconst (-1), 1) := by decide +kernel
theorem dX10_rings_85 : decode cX10_rings 85 = .ok (.invokevirtual 118, 3) := by decide +kernel
theorem dX10_rings_88 : decode cX10_rings 88 = .ok (.ifCond .ne 5, 3) := by decide +kernel
theorem dX10_rings_91 : decode cX10_rings 91 = .ok (.iconst 1, 1) := by decide +kernel
theorem dX10_rings_92 : decode cX10_rings 92 = .ok (.ireturn, 1) := by decide +kernel
theorem dX10_rings_93 : decode cX10_rings 93 = .ok (.iinc 3 1, 3) := by decide +kernel
theorem dX10_rings_96 : decode cX10_rings 96 = .ok (.goto (-46), 3) := by decide +kernel
theorem dX10_rings_99 : decode cX10_rings 99 = .ok (.iconst 0, 1) := by decide +kernel
theorem dX10_rings_100 : decode cX10_rings 100 = .ok (.ireturn, 1) := by decide +kernel
theorem dX10_would_0 : decode cX10_would 0 = .ok (.aload_n 0, 1) := by decide +kernel
theorem dX10_would_1 : decode cX10_would 1 = .ok (.iload_n 1, 1) := by decide +kernel
theorem dX10_would_2 : decode cX10_would 2 = .ok (.invokevirtual 128, 3) := by decide +kernel
theorem dX10_would_5 : decode cX10_would 5 = .ok (.ifCond .eq 22, 3) := by decide +kernel
theorem dX10_would_8 : decode cX10_would 8 = .ok (.iload_n 2, 1) := by decide +kernel
theorem dX10_would_9 : decode cX10_would 9 = .ok (.iconst 0, 1) := by decide +kernel
theorem dX10_would_10 : decode cX10_would 10 = .ok (.bipush 7, 2) := by decide +kernel
theorem dX10_would_12 : decode cX10_would 12 = .ok (.invokestatic 95, 3) := by decide +kernel
theorem dX10_would_15 : decode cX10_would 15 = .ok (.ifCond .eq 12, 3) := by decide +kernel
theorem dX10_would_18 : decode cX10_would 18 = .ok (.aload_n 0, 1) := by decide +kernel
theorem dX10_would_19 : decode cX10_would 19 = .ok (.iload_n 1, 1) := by decide +kernel
theorem dX10_would_20 : decode cX10_would 20 = .ok (.iload_n 2, 1) := by decide +kernel
theorem dX10_would_21 : decode cX10_would 21 = .ok (.invokevirtual 138, 3) := by decide +kernel
theorem dX10_would_24 : decode cX10_would 24 = .ok (.goto 4, 3) := by decide +kernel
theorem dX10_would_27 : decode cX10_would 27 = .ok (.iconst (-1), 1) := by decide +kernel
theorem dX10_would_28 : decode cX10_would 28 = .ok (.ireturn, 1) := by decide +kernel
theorem dX10_means_0 : decode cX10_means 0 = .ok (.iload_n 1, 1) := by decide +kernel
theorem dX10_means_1 : decode cX10_means 1 = .ok (.iconst (-1), 1) := by decide +kernel
theorem dX10_means_2 : decode cX10_means 2 = .ok (.iconst 5, 1) := by decide +kernel
theorem dX10_means_3 : decode cX10_means 3 = .ok (.invokestatic 95, 3) := by decide +kernel
theorem dX10_means_6 : decode cX10_means 6 = .ok (.ifCond .eq 23, 3) := by decide +kernel
theorem dX10_means_9 : decode cX10_means 9 = .ok (.iload_n 2, 1) := by decide +kernel
theorem dX10_means_10 : decode cX10_means 10 = .ok (.iconst 0, 1) := by decide +kernel
theorem dX10_means_11 : decode cX10_means 11 = .ok (.iconst 2, 1) := by decide +kernel
theorem dX10_means_12 : decode cX10_means 12 = .ok (.invokestatic 95, 3) := by decide +kernel
theorem dX10_means_15 : decode cX10_means 15 = .ok (.ifCond .eq 14, 3) := by decide +kernel
theorem dX10_means_18 : decode cX10_means 18 = .ok (.iload_n 3, 1) := by decide +kernel
theorem dX10_means_19 : decode cX10_means 19 = .ok (.iconst (-1), 1) := by decide +kernel
theorem dX10_means_20 : decode cX10_means 20 = .ok (.sipush 255, 3) := by decide +kernel
theorem dX10_means_23 : decode cX10_means 23 = .ok (.invokestatic 95, 3) := by decide +kernel
theorem dX10_means_26 : decode cX10_means 26 = .ok (.ifCond .ne 5, 3) := by decide +kernel
theorem dX10_means_29 : decode cX10_means 29 = .ok (.iconst (-1), 1) := by decide +kernel
theorem dX10_means_30 : decode cX10_means 30 = .ok (.ireturn, 1) := by decide +kernel
theorem dX10_means_31 : decode cX10_means 31 = .ok (.iconst 0, 1) := by decide +kernel
theorem dX10_means_32 : decode cX10_means 32 = .ok (.istore 4, 2) := by decide +kernel
theorem dX10_means_34 : decode cX10_means 34 = .ok (.iconst 0, 1) := by decide +kernel
theorem dX10_means_35 : decode cX10_means 35 = .ok (.istore 5, 2) := by decide +kernel
theorem dX10_means_37 : decode cX10_means 37 = .ok (.iload 5, 2) := by decide +kernel
theorem dX10_means_39 : decode cX10_means 39 = .ok (.aload_n 0, 1) := by decide +kernel
theorem dX10_means_40 : decode cX10_means 40 = .ok (.getfield 91, 3) := by decide +kernel
theorem dX10_means_43 : decode cX10_means 43 = .ok (.if_icmp .ge 124, 3) := by decide +kernel
theorem dX10_means_46 : decode cX10_means 46 = .ok (.iconst 0, 1) := by decide +kernel
theorem dX10_means_47 : decode cX10_means 47 = .ok (.istore 6, 2) := by decide +kernel
theorem dX10_means_49 : decode cX10_means 49 = .ok (.iload 6, 2) := by decide +kernel
theorem dX10_means_51 : decode cX10_means 51 = .ok (.bipush 8, 2) := by decide +kernel
theorem dX10_means_53 : decode cX10_means 53 = .ok (.if_icmp .ge 108, 3) := by decide +kernel
theorem dX10_means_56 : decode cX10_means 56 = .ok (.aload_n 0, 1) := by decide +kernel
theorem dX10_means_57 : decode cX10_means 57 = .ok (.iload 5, 2) := by decide +kernel
theorem dX10_means_59 : decode cX10_means 59 = .ok (.iload 6, 2) := by decide +kernel
theorem dX10_means_61 : decode cX10_means 61 = .ok (.invokevirtual 138, 3) := by decide +kernel
theorem dX10_means_64 : decode cX10_means 64 = .ok (.istore 7, 2) := by decide +kernel
theorem dX10_means_66 : decode cX10_means 66 = .ok (.iload_n 2, 1) := by decide +kernel
theorem dX10_means_67 : decode cX10_means 67 = .ok (.ifCond .ne 16, 3) := by decide +kernel
theorem dX10_means_70 : decode cX10_means 70 = .ok (.iload 7, 2) := by decide +kernel
theorem dX10_means_72 : decode cX10_means 72 = .ok (.ifCond .le 7, 3) := by decide +kernel
theorem dX10_means_75 : decode cX10_means 75 = .ok (.iconst 1, 1) := by decide +kernel
theorem dX10_means_76 : decode cX10_means 76 = .ok (.goto 18, 3) := by decide +kernel
theorem dX10_means_79 : decode cX10_means 79 = .ok (.iconst 0, 1) := by decide +kernel
theorem dX10_means_80 : decode cX10_means 80 = .ok (.goto 14, 3) := by decide +kernel
theorem dX10_means_83 : decode cX10_means 83 = .ok (.iload 7, 2) := by decide +kernel
theorem dX10_means_85 : decode cX10_means 85 = .ok (.iload_n 2, 1) := by decide +kernel
theorem dX10_means_86 : decode cX10_means 86 = .ok (.if_icmp .ne 7, 3) := by decide +kernel
theorem dX10_means_89 : decode cX10_means 89 = .ok (.iconst 1, 1) := by decide +kernel
theorem dX10_means_90 : decode cX10_means 90 = .ok (.goto 4, 3) := by decide +kernel
theorem dX10_means_93 : decode cX10_means 93 = .ok (.iconst 0, 1) := by decide +kernel
theorem dX10_means_94 : decode cX10_means 94 = .ok (.istore 8, 2) := by decide +kernel
theorem dX10_means_96 : decode cX10_means 96 = .ok (.iload 8, 2) := by decide +kernel
theorem dX10_means_98 : decode cX10_means 98 = .ok (.ifCond .eq 36, 3) := by decide +kernel
theorem dX10_means_101 : decode cX10_means 101 = .ok (.iload_n 1, 1) := by decide +kernel
theorem dX10_means_102 : decode cX10_means 102 = .ok (.ifCond .lt 14, 3) := by decide +kernel
theorem dX10_means_105 : decode cX10_means 105 = .ok (.aload_n 0, 1) := by decide +kernel
theorem dX10_means_106 : decode cX10_means 106 = .ok (.getfield 13, 3) := by decide +kernel
theorem dX10_means_109 : decode cX10_means 109 = .ok (.iload 6, 2) := by decide +kernel
theorem dX10_means_111 : decode cX10_means 111 = .ok (.iaload, 1) := by decide +kernel
theorem dX10_means_112 : decode cX10_means 112 = .ok (.iload_n 1, 1) := by decide +kernel
theorem dX10_means_113 : decode cX10_means 113 = .ok (.if_icmp .ne 21, 3) := by decide +kernel
theorem dX10_means_116 : decode cX10_means 116 = .ok (.iload_n 3, 1) := by decide +kernel
theorem dX10_means_117 : decode cX10_means 117 = .ok (.ifCond .lt 13, 3) := by decide +kernel
theorem dX10_means_120 : decode cX10_means 120 = .ok (.iload_n 3, 1) := by decide +kernel
theorem dX10_means_121 : decode cX10_means 121 = .ok (.iload 6, 2) := by decide +kernel
theorem dX10_means_123 : decode cX10_means 123 = .ok (.ishr, 1) := by decide +kernel
theorem dX10_means_124 : decode cX10_means 124 = .ok (.iconst 1, 1) := by decide +kernel
theorem dX10_means_125 : decode cX10_means 125 = .ok (.iand, 1) := by decide +kernel
theorem dX10_means_126 : decode cX10_means 126 = .ok (.iconst 1, 1) := by decide +kernel
theorem dX10_means_127 : decode cX10_means 127 = .ok (.if_icmp .ne 7, 3) := by decide +kernel
theorem dX10_means_130 : decode cX10_means 130 = .ok (.iconst 1, 1) := by decide +kernel
theorem dX10_means_131 : decode cX10_means 131 = .ok (.goto 4, 3) := by decide +kernel
theorem dX10_means_134 : decode cX10_means 134 = .ok (.iconst 0, 1) := by decide +kernel
theorem dX10_means_135 : decode cX10_means 135 = .ok (.istore 8, 2) := by decide +kernel
theorem dX10_means_137 : decode cX10_means 137 = .ok (.iload 4, 2) := by decide +kernel
theorem dX10_means_139 : decode cX10_means 139 = .ok (.iload 8, 2) := by decide +kernel
theorem dX10_means_141 : decode cX10_means 141 = .ok (.ifCond .eq 10, 3) := by decide +kernel
theorem dX10_means_144 : decode cX10_means 144 = .ok (.iconst 1, 1) := by decide +kernel
theorem dX10_means_145 : decode cX10_means 145 = .ok (.iload 5, 2) := by decide +kernel
theorem dX10_means_147 : decode cX10_means 147 = .ok (.ishl, 1) := by decide +kernel
theorem dX10_means_148 : decode cX10_means 148 = .ok (.goto 4, 3) := by decide +kernel
theorem dX10_means_151 : decode cX10_means 151 = .ok (.iconst 0, 1) := by decide +kernel
theorem dX10_means_152 : decode cX10_means 152 = .ok (.ior, 1) := by decide +kernel
theorem dX10_means_153 : decode cX10_means 153 = .ok (.istore 4, 2) := by decide +kernel
theorem dX10_means_155 : decode cX10_means 155 = .ok (.iinc 6 1, 3) := by decide +kernel
theorem dX10_means_158 : decode cX10_means 158 = .ok (.goto (-109), 3) := by decide +kernel
theorem dX10_means_161 : decode cX10_means 161 = .ok (.iinc 5 1, 3) := by decide +kernel
theorem dX10_means_164 : decode cX10_means 164 = .ok (.goto (-127), 3) := by decide +kernel
theorem dX10_means_167 : decode cX10_means 167 = .ok (.iload 4, 2) := by decide +kernel
theorem dX10_means_169 : decode cX10_means 169 = .ok (.ireturn, 1) := by decide +kernel
theorem dX10_servant_0 : decode cX10_servant 0 = .ok (.iload_n 1, 1) := by decide +kernel
theorem dX10_servant_1 : decode cX10_servant 1 = .ok (.iconst 0, 1) := by decide +kernel
theorem dX10_servant_2 : decode cX10_servant 2 = .ok (.iconst 3, 1) := by decide +kernel
theorem dX10_servant_3 : decode cX10_servant 3 = .ok (.invokestatic 95, 3) := by decide +kernel
theorem dX10_servant_6 : decode cX10_servant 6 = .ok (.ifCond .eq 23, 3) := by decide +kernel
theorem dX10_servant_9 : decode cX10_servant 9 = .ok (.iload_n 2, 1) := by decide +kernel
theorem dX10_servant_10 : decode cX10_servant 10 = .ok (.iconst 0, 1) := by decide +kernel
theorem dX10_servant_11 : decode cX10_servant 11 = .ok (.bipush 30, 2) := by decide +kernel
theorem dX10_servant_13 : decode cX10_servant 13 = .ok (.invokestatic 95, 3) := by decide +kernel
theorem dX10_servant_16 : decode cX10_servant 16 = .ok (.ifCond .eq 13, 3) := by decide +kernel
theorem dX10_servant_19 : decode cX10_servant 19 = .ok (.iload_n 3, 1) := by decide +kernel
theorem dX10_servant_20 : decode cX10_servant 20 = .ok (.iconst 0, 1) := by decide +kernel
theorem dX10_servant_21 : decode cX10_servant 21 = .ok (.bipush 31, 2) := by decide +kernel
theorem dX10_servant_23 : decode cX10_servant 23 = .ok (.invokestatic 95, 3) := by decide +kernel
theorem dX10_servant_26 : decode cX10_servant 26 = .ok (.ifCond .ne 5, 3) := by decide +kernel
theorem dX10_servant_29 : decode cX10_servant 29 = .ok (.iconst (-1), 1) := by decide +kernel
theorem dX10_servant_30 : decode cX10_servant 30 = .ok (.ireturn, 1) := by decide +kernel
theorem dX10_servant_31 : decode cX10_servant 31 = .ok (.aload_n 0, 1) := by decide +kernel
theorem dX10_servant_32 : decode cX10_servant 32 = .ok (.getfield 141, 3) := by decide +kernel
theorem dX10_servant_35 : decode cX10_servant 35 = .ok (.iconst 5, 1) := by decide +kernel
theorem dX10_servant_36 : decode cX10_servant 36 = .ok (.if_icmp .ne 6, 3) := by decide +kernel
theorem dX10_servant_39 : decode cX10_servant 39 = .ok (.bipush (-3), 2) := by decide +kernel
theorem dX10_servant_41 : decode cX10_servant 41 = .ok (.ireturn, 1) := by decide +kernel
theorem dX10_servant_42 : decode cX10_servant 42 = .ok (.aload_n 0, 1) := by decide +kernel
theorem dX10_servant_43 : decode cX10_servant 43 = .ok (.getfield 52, 3) := by decide +kernel
theorem dX10_servant_46 : decode cX10_servant 46 = .ok (.aload_n 0, 1) := by decide +kernel
theorem dX10_servant_47 : decode cX10_servant 47 = .ok (.getfield 141, 3) := by decide +kernel
theorem dX10_servant_50 : decode cX10_servant 50 = .ok (.iload_n 1, 1) := by decide +kernel
theorem dX10_servant_51 : decode cX10_servant 51 = .ok (.iastore, 1) := by decide +kernel
theorem dX10_servant_52 : decode cX10_servant 52 = .ok (.aload_n 0, 1) := by decide +kernel
theorem dX10_servant_53 : decode cX10_servant 53 = .ok (.getfield 55, 3) := by decide +kernel
theorem dX10_servant_56 : decode cX10_servant 56 = .ok (.aload_n 0, 1) := by decide +kernel
theorem dX10_servant_57 : decode cX10_servant 57 = .ok (.getfield 141, 3) := by decide +kernel
theorem dX10_servant_60 : decode cX10_servant 60 = .ok (.iload_n 2, 1) := by decide +kernel
theorem dX10_servant_61 : decode cX10_servant 61 = .ok (.iastore, 1) := by decide +kernel
theorem dX10_servant_62 : decode cX10_servant 62 = .ok (.aload_n 0, 1) := by decide +kernel
theorem dX10_servant_63 : decode cX10_servant 63 = .ok (.getfield 58, 3) := by decide +kernel
theorem dX10_servant_66 : decode cX10_servant 66 = .ok (.aload_n 0, 1) := by decide +kernel
theorem dX10_servant_67 : decode cX10_servant 67 = .ok (.getfield 141, 3) := by decide +kernel
theorem dX10_servant_70 : decode cX10_servant 70 = .ok (.iload_n 3, 1) := by decide +kernel
theorem dX10_servant_71 : decode cX10_servant 71 = .ok (.iastore, 1) := by decide +kernel
theorem dX10_servant_72 : decode cX10_servant 72 = .ok (.aload_n 0, 1) := by decide +kernel
theorem dX10_servant_73 : decode cX10_servant 73 = .ok (.dup, 1) := by decide +kernel
theorem dX10_servant_74 : decode cX10_servant 74 = .ok (.getfield 141, 3) := by decide +kernel
theorem dX10_servant_77 : decode cX10_servant 77 = .ok (.iconst 1, 1) := by decide +kernel
theorem dX10_servant_78 : decode cX10_servant 78 = .ok (.iadd, 1) := by decide +kernel
theorem dX10_servant_79 : decode cX10_servant 79 = .ok (.putfield 141, 3) := by decide +kernel
theorem dX10_servant_82 : decode cX10_servant 82 = .ok (.aload_n 0, 1) := by decide +kernel
theorem dX10_servant_83 : decode cX10_servant 83 = .ok (.getfield 141, 3) := by decide +kernel
theorem dX10_servant_86 : decode cX10_servant 86 = .ok (.iconst 1, 1) := by decide +kernel
theorem dX10_servant_87 : decode cX10_servant 87 = .ok (.isub, 1) := by decide +kernel
theorem dX10_servant_88 : decode cX10_servant 88 = .ok (.ireturn, 1) := by decide +kernel
theorem dX10_isServant_0 : decode cX10_isServant 0 = .ok (.iload_n 1, 1) := by decide +kernel
theorem dX10_isServant_1 : decode cX10_isServant 1 = .ok (.iconst 0, 1) := by decide +kernel
theorem dX10_isServant_2 : decode cX10_isServant 2 = .ok (.aload_n 0, 1) := by decide +kernel
theorem dX10_isServant_3 : decode cX10_isServant 3 = .ok (.getfield 141, 3) := by decide +kernel
theorem dX10_isServant_6 : decode cX10_isServant 6 = .ok (.iconst 1, 1) := by decide +kernel
theorem dX10_isServant_7 : decode cX10_isServant 7 = .ok (.isub, 1) := by decide +kernel
theorem dX10_isServant_8 : decode cX10_isServant 8 = .ok (.invokestatic 95, 3) := by decide +kernel
theorem dX10_isServant_11 : decode cX10_isServant 11 = .ok (.ireturn, 1) := by decide +kernel
theorem dX10_isOnErrand_0 : decode cX10_isOnErrand 0 = .ok (.iconst 0, 1) := by decide +kernel
theorem dX10_isOnErrand_1 : decode cX10_isOnErrand 1 = .ok (.istore_n 2, 1) := by decide +kernel
theorem dX10_isOnErrand_2 : decode cX10_isOnErrand 2 = .ok (.iconst 0, 1) := by decide +kernel
theorem dX10_isOnErrand_3 : decode cX10_isOnErrand 3 = .ok (.istore_n 3, 1) := by decide +kernel
theorem dX10_isOnErrand_4 : decode cX10_isOnErrand 4 = .ok (.iload_n 3, 1) := by decide +kernel
theorem dX10_isOnErrand_5 : decode cX10_isOnErrand 5 = .ok (.aload_n 0, 1) := by decide +kernel
theorem dX10_isOnErrand_6 : decode cX10_isOnErrand 6 = .ok (.getfield 141, 3) := by decide +kernel
theorem dX10_isOnErrand_9 : decode cX10_isOnErrand 9 = .ok (.if_icmp .ge 29, 3) := by decide +kernel
theorem dX10_isOnErrand_12 : decode cX10_isOnErrand 12 = .ok (.iload_n 2, 1) := by decide +kernel
theorem dX10_isOnErrand_13 : decode cX10_isOnErrand 13 = .ok (.ifCond .ne 13, 3) := by decide +kernel
theorem dX10_isOnErrand_16 : decode cX10_isOnErrand 16 = .ok (.aload_n 0, 1) := by decide +kernel
theorem dX10_isOnErrand_17 : decode cX10_isOnErrand 17 = .ok (.getfield 61, 3) := by decide +kernel
theorem dX10_isOnErrand_20 : decode cX10_isOnErrand 20 = .ok (.iload_n 3, 1) := by decide +kernel
theorem dX10_isOnErrand_21 : decode cX10_isOnErrand 21 = .ok (.iaload, 1) := by decide +kernel
theorem dX10_isOnErrand_22 : decode cX10_isOnErrand 22 = .ok (.iload_n 1, 1) := by decide +kernel
theorem dX10_isOnErrand_23 : decode cX10_isOnErrand 23 = .ok (.if_icmp .ne 7, 3) := by decide +kernel
theorem dX10_isOnErrand_26 : decode cX10_isOnErrand 26 = .ok (.iconst 1, 1) := by decide +kernel
theorem dX10_isOnErrand_27 : decode cX10_isOnErrand 27 = .ok (.goto 4, 3) := by decide +kernel
theorem dX10_isOnErrand_30 : decode cX10_isOnErrand 30 = .ok (.iconst 0, 1) := by decide +kernel
theorem dX10_isOnErrand_31 : decode cX10_isOnErrand 31 = .ok (.istore_n 2, 1) := by decide +kernel
theorem dX10_isOnErrand_32 : decode cX10_isOnErrand 32 = .ok (.iinc 3 1, 3) := by decide +kernel
theorem dX10_isOnErrand_35 : decode cX10_isOnErrand 35 = .ok (.goto (-31), 3) := by decide +kernel
theorem dX10_isOnErrand_38 : decode cX10_isOnErrand 38 = .ok (.iload_n 2, 1) := by decide +kernel
theorem dX10_isOnErrand_39 : decode cX10_isOnErrand 39 = .ok (.ireturn, 1) := by decide +kernel
theorem dX10_frees_0 : decode cX10_frees 0 = .ok (.iconst 0, 1) := by decide +kernel
theorem dX10_frees_1 : decode cX10_frees 1 = .ok (.istore_n 1, 1) := by decide +kernel
theorem dX10_frees_2 : decode cX10_frees 2 = .ok (.iload_n 1, 1) := by decide +kernel
theorem dX10_frees_3 : decode cX10_frees 3 = .ok (.aload_n 0, 1) := by decide +kernel
theorem dX10_frees_4 : decode cX10_frees 4 = .ok (.getfield 141, 3) := by decide +kernel
theorem dX10_frees_7 : decode cX10_frees 7 = .ok (.if_icmp .ge 73, 3) := by decide +kernel
theorem dX10_frees_10 : decode cX10_frees 10 = .ok (.aload_n 0, 1) := by decide +kernel
theorem dX10_frees_11 : decode cX10_frees 11 = .ok (.getfield 61, 3) := by decide +kernel
theorem dX10_frees_14 : decode cX10_frees 14 = .ok (.iload_n 1, 1) := by decide +kernel
theorem dX10_frees_15 : decode cX10_frees 15 = .ok (.iaload, 1) := by decide +kernel
theorem dX10_frees_16 : decode cX10_frees 16 = .ok (.ifCond .lt 58, 3) := by decide +kernel
theorem dX10_frees_19 : decode cX10_frees 19 = .ok (.aload_n 0, 1) := by decide +kernel
theorem dX10_frees_20 : decode cX10_frees 20 = .ok (.getfield 144, 3) := by decide +kernel
theorem dX10_frees_23 : decode cX10_frees 23 = .ok (.aload_n 0, 1) := by decide +kernel
theorem dX10_frees_24 : decode cX10_frees 24 = .ok (.getfield 64, 3) := by decide +kernel
theorem dX10_frees_27 : decode cX10_frees 27 = .ok (.iload_n 1, 1) := by decide +kernel
theorem dX10_frees_28 : decode cX10_frees 28 = .ok (.iaload, 1) := by decide +kernel
theorem dX10_frees_29 : decode cX10_frees 29 = .ok (.if_icmp .lt 45, 3) := by decide +kernel
theorem dX10_frees_32 : decode cX10_frees 32 = .ok (.aload_n 0, 1) := by decide +kernel
theorem dX10_frees_33 : decode cX10_frees 33 = .ok (.getfield 52, 3) := by decide +kernel
theorem dX10_frees_36 : decode cX10_frees 36 = .ok (.iload_n 1, 1) := by decide +kernel
theorem dX10_frees_37 : decode cX10_frees 37 = .ok (.aload_n 0, 1) := by decide +kernel
theorem dX10_frees_38 : decode cX10_frees 38 = .ok (.getfield 19, 3) := by decide +kernel
theorem dX10_frees_41 : decode cX10_frees 41 = .ok (.aload_n 0, 1) := by decide +kernel
theorem dX10_frees_42 : decode cX10_frees 42 = .ok (.getfield 61, 3) := by decide +kernel
theorem dX10_frees_45 : decode cX10_frees 45 = .ok (.iload_n 1, 1) := by decide +kernel
theorem dX10_frees_46 : decode cX10_frees 46 = .ok (.iaload, 1) := by decide +kernel
theorem dX10_frees_47 : decode cX10_frees 47 = .ok (.iaload, 1) := by decide +kernel
theorem dX10_frees_48 : decode cX10_frees 48 = .ok (.iastore, 1) := by decide +kernel
theorem dX10_frees_49 : decode cX10_frees 49 = .ok (.aload_n 0, 1) := by decide +kernel
theorem dX10_frees_50 : decode cX10_frees 50 = .ok (.getfield 55, 3) := by decide +kernel
theorem dX10_frees_53 : decode cX10_frees 53 = .ok (.iload_n 1, 1) := by decide +kernel
theorem dX10_frees_54 : decode cX10_frees 54 = .ok (.aload_n 0, 1) := by decide +kernel
theorem dX10_frees_55 : decode cX10_frees 55 = .ok (.getfield 22, 3) := by decide +kernel
theorem dX10_frees_58 : decode cX10_frees 58 = .ok (.aload_n 0, 1) := by decide +kernel
theorem dX10_frees_59 : decode cX10_frees 59 = .ok (.getfield 61, 3) := by decide +kernel
theorem dX10_frees_62 : decode cX10_frees 62 = .ok (.iload_n 1, 1) := by decide +kernel
theorem dX10_frees_63 : decode cX10_frees 63 = .ok (.iaload, 1) := by decide +kernel
theorem dX10_frees_64 : decode cX10_frees 64 = .ok (.iaload, 1) := by decide +kernel
theorem dX10_frees_65 : decode cX10_frees 65 = .ok (.iastore, 1) := by decide +kernel
theorem dX10_frees_66 : decode cX10_frees 66 = .ok (.aload_n 0, 1) := by decide +kernel
theorem dX10_frees_67 : decode cX10_frees 67 = .ok (.getfield 61, 3) := by decide +kernel
theorem dX10_frees_70 : decode cX10_frees 70 = .ok (.iload_n 1, 1) := by decide +kernel
theorem dX10_frees_71 : decode cX10_frees 71 = .ok (.bipush (-4), 2) := by decide +kernel
theorem dX10_frees_73 : decode cX10_frees 73 = .ok (.iastore, 1) := by decide +kernel
theorem dX10_frees_74 : decode cX10_frees 74 = .ok (.iinc 1 1, 3) := by decide +kernel
theorem dX10_frees_77 : decode cX10_frees 77 = .ok (.goto (-75), 3) := by decide +kernel
theorem dX10_frees_80 : decode cX10_frees 80 = .ok (.return_, 1) := by decide +kernel
theorem dX10_wayOf_0 : decode cX10_wayOf 0 = .ok (.aload_n 0, 1) := by decide +kernel
theorem dX10_wayOf_1 : decode cX10_wayOf 1 = .ok (.getfield 52, 3) := by decide +kernel
theorem dX10_wayOf_4 : decode cX10_wayOf 4 = .ok (.iload_n 1, 1) := by decide +kernel
theorem dX10_wayOf_5 : decode cX10_wayOf 5 = .ok (.iaload, 1) := by decide +kernel
theorem dX10_wayOf_6 : decode cX10_wayOf 6 = .ok (.aload_n 0, 1) := by decide +kernel
theorem dX10_wayOf_7 : decode cX10_wayOf 7 = .ok (.getfield 19, 3) := by decide +kernel
theorem dX10_wayOf_10 : decode cX10_wayOf 10 = .ok (.iload_n 2, 1) := by decide +kernel
theorem dX10_wayOf_11 : decode cX10_wayOf 11 = .ok (.iaload, 1) := by decide +kernel
theorem dX10_wayOf_12 : decode cX10_wayOf 12 = .ok (.if_icmp .ne 20, 3) := by decide +kernel
theorem dX10_wayOf_15 : decode cX10_wayOf 15 = .ok (.aload_n 0, 1) := by decide +kernel
theorem dX10_wayOf_16 : decode cX10_wayOf 16 = .ok (.getfield 55, 3) := by decide +kernel
theorem dX10_wayOf_19 : decode cX10_wayOf 19 = .ok (.iload_n 1, 1) := by decide +kernel
theorem dX10_wayOf_20 : decode cX10_wayOf 20 = .ok (.iaload, 1) := by decide +kernel
theorem dX10_wayOf_21 : decode cX10_wayOf 21 = .ok (.aload_n 0, 1) := by decide +kernel
theorem dX10_wayOf_22 : decode cX10_wayOf 22 = .ok (.getfield 22, 3) := by decide +kernel
theorem dX10_wayOf_25 : decode cX10_wayOf 25 = .ok (.iload_n 2, 1) := by decide +kernel
theorem dX10_wayOf_26 : decode cX10_wayOf 26 = .ok (.iaload, 1) := by decide +kernel
theorem dX10_wayOf_27 : decode cX10_wayOf 27 = .ok (.isub, 1) := by decide +kernel
theorem dX10_wayOf_28 : decode cX10_wayOf 28 = .ok (.invokestatic 147, 3) := by decide +kernel
theorem dX10_wayOf_31 : decode cX10_wayOf 31 = .ok (.ireturn, 1) := by decide +kernel
theorem dX10_wayOf_32 : decode cX10_wayOf 32 = .ok (.aload_n 0, 1) := by decide +kernel
theorem dX10_wayOf_33 : decode cX10_wayOf 33 = .ok (.getfield 55, 3) := by decide +kernel
theorem dX10_wayOf_36 : decode cX10_wayOf 36 = .ok (.iload_n 1, 1) := by decide +kernel
theorem dX10_wayOf_37 : decode cX10_wayOf 37 = .ok (.iaload, 1) := by decide +kernel
theorem dX10_wayOf_38 : decode cX10_wayOf 38 = .ok (.bipush 15, 2) := by decide +kernel
theorem dX10_wayOf_40 : decode cX10_wayOf 40 = .ok (.isub, 1) := by decide +kernel
theorem dX10_wayOf_41 : decode cX10_wayOf 41 = .ok (.invokestatic 147, 3) := by decide +kernel
theorem dX10_wayOf_44 : decode cX10_wayOf 44 = .ok (.bipush 6, 2) := by decide +kernel
theorem dX10_wayOf_46 : decode cX10_wayOf 46 = .ok (.aload_n 0, 1) := by decide +kernel
theorem dX10_wayOf_47 : decode cX10_wayOf 47 = .ok (.getfield 52, 3) := by decide +kernel
theorem dX10_wayOf_50 : decode cX10_wayOf 50 = .ok (.iload_n 1, 1) := by decide +kernel
theorem dX10_wayOf_51 : decode cX10_wayOf 51 = .ok (.iaload, 1) := by decide +kernel
theorem dX10_wayOf_52 : decode cX10_wayOf 52 = .ok (.aload_n 0, 1) := by decide +kernel
theorem dX10_wayOf_53 : decode cX10_wayOf 53 = .ok (.getfield 19, 3) := by decide +kernel
theorem dX10_wayOf_56 : decode cX10_wayOf 56 = .ok (.iload_n 2, 1) := by decide +kernel
theorem dX10_wayOf_57 : decode cX10_wayOf 57 = .ok (.iaload, 1) := by decide +kernel
theorem dX10_wayOf_58 : decode cX10_wayOf 58 = .ok (.isub, 1) := by decide +kernel
theorem dX10_wayOf_59 : decode cX10_wayOf 59 = .ok (.invokestatic 147, 3) := by decide +kernel
theorem dX10_wayOf_62 : decode cX10_wayOf 62 = .ok (.imul, 1) := by decide +kernel
theorem dX10_wayOf_63 : decode cX10_wayOf 63 = .ok (.iadd, 1) := by decide +kernel
theorem dX10_wayOf_64 : decode cX10_wayOf 64 = .ok (.bipush 15, 2) := by decide +kernel
theorem dX10_wayOf_66 : decode cX10_wayOf 66 = .ok (.aload_n 0, 1) := by decide +kernel
theorem dX10_wayOf_67 : decode cX10_wayOf 67 = .ok (.getfield 22, 3) := by decide +kernel
theorem dX10_wayOf_70 : decode cX10_wayOf 70 = .ok (.iload_n 2, 1) := by decide +kernel
theorem dX10_wayOf_71 : decode cX10_wayOf 71 = .ok (.iaload, 1) := by decide +kernel
theorem dX10_wayOf_72 : decode cX10_wayOf 72 = .ok (.isub, 1) := by decide +kernel
theorem dX10_wayOf_73 : decode cX10_wayOf 73 = .ok (.invokestatic 147, 3) := by decide +kernel
theorem dX10_wayOf_76 : decode cX10_wayOf 76 = .ok (.iadd, 1) := by decide +kernel
theorem dX10_wayOf_77 : decode cX10_wayOf 77 = .ok (.ireturn, 1) := by decide +kernel
theorem dX10_may_0 : decode cX10_may 0 = .ok (.aload_n 0, 1) := by decide +kernel
theorem dX10_may_1 : decode cX10_may 1 = .ok (.getfield 61, 3) := by decide +kernel
theorem dX10_may_4 : decode cX10_may 4 = .ok (.iload_n 1, 1) := by decide +kernel
theorem dX10_may_5 : decode cX10_may 5 = .ok (.iaload, 1) := by decide +kernel
theorem dX10_may_6 : decode cX10_may 6 = .ok (.ifCond .ge 26, 3) := by decide +kernel
theorem dX10_may_9 : decode cX10_may 9 = .ok (.aload_n 0, 1) := by decide +kernel
theorem dX10_may_10 : decode cX10_may 10 = .ok (.getfield 58, 3) := by decide +kernel
theorem dX10_may_13 : decode cX10_may 13 = .ok (.iload_n 1, 1) := by decide +kernel
theorem dX10_may_14 : decode cX10_may 14 = .ok (.iaload, 1) := by decide +kernel
theorem dX10_may_15 : decode cX10_may 15 = .ok (.aload_n 0, 1) := by decide +kernel
theorem dX10_may_16 : decode cX10_may 16 = .ok (.getfield 25, 3) := by decide +kernel
theorem dX10_may_19 : decode cX10_may 19 = .ok (.iload_n 2, 1) := by decide +kernel
theorem dX10_may_20 : decode cX10_may 20 = .ok (.iaload, 1) := by decide +kernel
theorem dX10_may_21 : decode cX10_may 21 = .ok (.ishr, 1) := by decide +kernel
theorem dX10_may_22 : decode cX10_may 22 = .ok (.iconst 1, 1) := by decide +kernel
theorem dX10_may_23 : decode cX10_may 23 = .ok (.iand, 1) := by decide +kernel
theorem dX10_may_24 : decode cX10_may 24 = .ok (.iconst 1, 1) := by decide +kernel
theorem dX10_may_25 : decode cX10_may 25 = .ok (.if_icmp .ne 7, 3) := by decide +kernel
theorem dX10_may_28 : decode cX10_may 28 = .ok (.iconst 1, 1) := by decide +kernel
theorem dX10_may_29 : decode cX10_may 29 = .ok (.goto 4, 3) := by decide +kernel
theorem dX10_may_32 : decode cX10_may 32 = .ok (.iconst 0, 1) := by decide +kernel
theorem dX10_may_33 : decode cX10_may 33 = .ok (.ireturn, 1) := by decide +kernel
theorem dX10_goes_0 : decode cX10_goes 0 = .ok (.aload_n 0, 1) := by decide +kernel
theorem dX10_goes_1 : decode cX10_goes 1 = .ok (.iload_n 1, 1) := by decide +kernel
theorem dX10_goes_2 : decode cX10_goes 2 = .ok (.iload_n 2, 1) := by decide +kernel
theorem dX10_goes_3 : decode cX10_goes 3 = .ok (.invokevirtual 150, 3) := by decide +kernel
theorem dX10_goes_6 : decode cX10_goes 6 = .ok (.istore_n 3, 1) := by decide +kernel
theorem dX10_goes_7 : decode cX10_goes 7 = .ok (.aload_n 0, 1) := by decide +kernel
theorem dX10_goes_8 : decode cX10_goes 8 = .ok (.getfield 144, 3) := by decide +kernel
theorem dX10_goes_11 : decode cX10_goes 11 = .ok (.aload_n 0, 1) := by decide +kernel
theorem dX10_goes_12 : decode cX10_goes 12 = .ok (.getfield 40, 3) := by decide +kernel
theorem dX10_goes_15 : decode cX10_goes 15 = .ok (.iload_n 2, 1) := by decide +kernel
theorem dX10_goes_16 : decode cX10_goes 16 = .ok (.iaload, 1) := by decide +kernel
theorem dX10_goes_17 : decode cX10_goes 17 = .ok (.isub, 1) := by decide +kernel
theorem dX10_goes_18 : decode cX10_goes 18 = .ok (.iload_n 3, 1) := by decide +kernel
theorem dX10_goes_19 : decode cX10_goes 19 = .ok (.iadd, 1) := by decide +kernel
theorem dX10_goes_20 : decode cX10_goes 20 = .ok (.istore 4, 2) := by decide +kernel
theorem dX10_goes_22 : decode cX10_goes 22 = .ok (.aload_n 0, 1) := by decide +kernel
theorem dX10_goes_23 : decode cX10_goes 23 = .ok (.getfield 61, 3) := by decide +kernel
theorem dX10_goes_26 : decode cX10_goes 26 = .ok (.iload_n 1, 1) := by decide +kernel
theorem dX10_goes_27 : decode cX10_goes 27 = .ok (.iload_n 2, 1) := by decide +kernel
theorem dX10_goes_28 : decode cX10_goes 28 = .ok (.iastore, 1) := by decide +kernel
theorem dX10_goes_29 : decode cX10_goes 29 = .ok (.aload_n 0, 1) := by decide +kernel
theorem dX10_goes_30 : decode cX10_goes 30 = .ok (.getfield 64, 3) := by decide +kernel
theorem dX10_goes_33 : decode cX10_goes 33 = .ok (.iload_n 1, 1) := by decide +kernel
theorem dX10_goes_34 : decode cX10_goes 34 = .ok (.aload_n 0, 1) := by decide +kernel
theorem dX10_goes_35 : decode cX10_goes 35 = .ok (.getfield 144, 3) := by decide +kernel
theorem dX10_goes_38 : decode cX10_goes 38 = .ok (.iload_n 3, 1) := by decide +kernel
theorem dX10_goes_39 : decode cX10_goes 39 = .ok (.iadd, 1) := by decide +kernel
theorem dX10_goes_40 : decode cX10_goes 40 = .ok (.iconst 3, 1) := by decide +kernel
theorem dX10_goes_41 : decode cX10_goes 41 = .ok (.iadd, 1) := by decide +kernel
theorem dX10_goes_42 : decode cX10_goes 42 = .ok (.iastore, 1) := by decide +kernel
theorem dX10_goes_43 : decode cX10_goes 43 = .ok (.aload_n 0, 1) := by decide +kernel
theorem dX10_goes_44 : decode cX10_goes 44 = .ok (.getfield 67, 3) := by decide +kernel
theorem dX10_goes_47 : decode cX10_goes 47 = .ok (.iload_n 1, 1) := by decide +kernel
theorem dX10_goes_48 : decode cX10_goes 48 = .ok (.dup2, 1) := by decide +kernel
theorem dX10_goes_49 : decode cX10_goes 49 = .ok (.iaload, 1) := by decide +kernel
theorem dX10_goes_50 : decode cX10_goes 50 = .ok (.iconst 1, 1) := by decide +kernel
theorem dX10_goes_51 : decode cX10_goes 51 = .ok (.iadd, 1) := by decide +kernel
theorem dX10_goes_52 : decode cX10_goes 52 = .ok (.iastore, 1) := by decide +kernel
theorem dX10_goes_53 : decode cX10_goes 53 = .ok (.aload_n 0, 1) := by decide +kernel
theorem dX10_goes_54 : decode cX10_goes 54 = .ok (.getfield 40, 3) := by decide +kernel
theorem dX10_goes_57 : decode cX10_goes 57 = .ok (.iload_n 2, 1) := by decide +kernel
theorem dX10_goes_58 : decode cX10_goes 58 = .ok (.iconst (-1), 1) := by decide +kernel
theorem dX10_goes_59 : decode cX10_goes 59 = .ok (.iastore, 1) := by decide +kernel
theorem dX10_goes_60 : decode cX10_goes 60 = .ok (.aload_n 0, 1) := by decide +kernel
theorem dX10_goes_61 : decode cX10_goes 61 = .ok (.getfield 43, 3) := by decide +kernel
theorem dX10_goes_64 : decode cX10_goes 64 = .ok (.iload_n 2, 1) := by decide +kernel
theorem dX10_goes_65 : decode cX10_goes 65 = .ok (.dup2, 1) := by decide +kernel
theorem dX10_goes_66 : decode cX10_goes 66 = .ok (.iaload, 1) := by decide +kernel
theorem dX10_goes_67 : decode cX10_goes 67 = .ok (.iconst 1, 1) := by decide +kernel
theorem dX10_goes_68 : decode cX10_goes 68 = .ok (.iadd, 1) := by decide +kernel
theorem dX10_goes_69 : decode cX10_goes 69 = .ok (.iastore, 1) := by decide +kernel
theorem dX10_goes_70 : decode cX10_goes 70 = .ok (.aload_n 0, 1) := by decide +kernel
theorem dX10_goes_71 : decode cX10_goes 71 = .ok (.getfield 46, 3) := by decide +kernel
theorem dX10_goes_74 : decode cX10_goes 74 = .ok (.iload_n 2, 1) := by decide +kernel
theorem dX10_goes_75 : decode cX10_goes 75 = .ok (.dup2, 1) := by decide +kernel
theorem dX10_goes_76 : decode cX10_goes 76 = .ok (.iaload, 1) := by decide +kernel
theorem dX10_goes_77 : decode cX10_goes 77 = .ok (.iload 4, 2) := by decide +kernel
theorem dX10_goes_79 : decode cX10_goes 79 = .ok (.iadd, 1) := by decide +kernel
theorem dX10_goes_80 : decode cX10_goes 80 = .ok (.iastore, 1) := by decide +kernel
theorem dX10_goes_81 : decode cX10_goes 81 = .ok (.aload_n 0, 1) := by decide +kernel
theorem dX10_goes_82 : decode cX10_goes 82 = .ok (.getfield 49, 3) := by decide +kernel
theorem dX10_goes_85 : decode cX10_goes 85 = .ok (.iload_n 2, 1) := by decide +kernel
theorem dX10_goes_86 : decode cX10_goes 86 = .ok (.iload 4, 2) := by decide +kernel
theorem dX10_goes_88 : decode cX10_goes 88 = .ok (.aload_n 0, 1) := by decide +kernel
theorem dX10_goes_89 : decode cX10_goes 89 = .ok (.getfield 49, 3) := by decide +kernel
theorem dX10_goes_92 : decode cX10_goes 92 = .ok (.iload_n 2, 1) := by decide +kernel
theorem dX10_goes_93 : decode cX10_goes 93 = .ok (.iaload, 1) := by decide +kernel
theorem dX10_goes_94 : decode cX10_goes 94 = .ok (.if_icmp .le 8, 3) := by decide +kernel
theorem dX10_goes_97 : decode cX10_goes 97 = .ok (.iload 4, 2) := by decide +kernel
theorem dX10_goes_99 : decode cX10_goes 99 = .ok (.goto 9, 3) := by decide +kernel
theorem dX10_goes_102 : decode cX10_goes 102 = .ok (.aload_n 0, 1) := by decide +kernel
theorem dX10_goes_103 : decode cX10_goes 103 = .ok (.getfield 49, 3) := by decide +kernel
theorem dX10_goes_106 : decode cX10_goes 106 = .ok (.iload_n 2, 1) := by decide +kernel
theorem dX10_goes_107 : decode cX10_goes 107 = .ok (.iaload, 1) := by decide +kernel
theorem dX10_goes_108 : decode cX10_goes 108 = .ok (.iastore, 1) := by decide +kernel
theorem dX10_goes_109 : decode cX10_goes 109 = .ok (.return_, 1) := by decide +kernel
theorem dX10_ring_0 : decode cX10_ring 0 = .ok (.aload_n 0, 1) := by decide +kernel
theorem dX10_ring_1 : decode cX10_ring 1 = .ok (.iload_n 1, 1) := by decide +kernel
theorem dX10_ring_2 : decode cX10_ring 2 = .ok (.invokevirtual 128, 3) := by decide +kernel
theorem dX10_ring_5 : decode cX10_ring 5 = .ok (.ifCond .ne 5, 3) := by decide +kernel
theorem dX10_ring_8 : decode cX10_ring 8 = .ok (.iconst (-1), 1) := by decide +kernel
theorem dX10_ring_9 : decode cX10_ring 9 = .ok (.ireturn, 1) := by decide +kernel
theorem dX10_ring_10 : decode cX10_ring 10 = .ok (.iconst 0, 1) := by decide +kernel
theorem dX10_ring_11 : decode cX10_ring 11 = .ok (.istore_n 2, 1) := by decide +kernel
theorem dX10_ring_12 : decode cX10_ring 12 = .ok (.iconst 0, 1) := by decide +kernel
theorem dX10_ring_13 : decode cX10_ring 13 = .ok (.istore_n 3, 1) := by decide +kernel
theorem dX10_ring_14 : decode cX10_ring 14 = .ok (.iload_n 3, 1) := by decide +kernel
theorem dX10_ring_15 : decode cX10_ring 15 = .ok (.bipush 8, 2) := by decide +kernel
theorem dX10_ring_17 : decode cX10_ring 17 = .ok (.if_icmp .ge 84, 3) := by decide +kernel
theorem dX10_ring_20 : decode cX10_ring 20 = .ok (.aload_n 0, 1) := by decide +kernel
theorem dX10_ring_21 : decode cX10_ring 21 = .ok (.iload_n 1, 1) := by decide +kernel
theorem dX10_ring_22 : decode cX10_ring 22 = .ok (.iload_n 3, 1) := by decide +kernel
theorem dX10_ring_23 : decode cX10_ring 23 = .ok (.invokevirtual 138, 3) := by decide +kernel
theorem dX10_ring_26 : decode cX10_ring 26 = .ok (.istore 4, 2) := by decide +kernel
theorem dX10_ring_28 : decode cX10_ring 28 = .ok (.iload_n 2, 1) := by decide +kernel
theorem dX10_ring_29 : decode cX10_ring 29 = .ok (.iload 4, 2) := by decide +kernel
theorem dX10_ring_31 : decode cX10_ring 31 = .ok (.ifCond .le 9, 3) := by decide +kernel
theorem dX10_ring_34 : decode cX10_ring 34 = .ok (.iconst 1, 1) := by decide +kernel
theorem dX10_ring_35 : decode cX10_ring 35 = .ok (.iload_n 3, 1) := by decide +kernel
theorem dX10_ring_36 : decode cX10_ring 36 = .ok (.ishl, 1) := by decide +kernel
theorem dX10_ring_37 : decode cX10_ring 37 = .ok (.goto 4, 3) := by decide +kernel
theorem dX10_ring_40 : decode cX10_ring 40 = .ok (.iconst 0, 1) := by decide +kernel
theorem dX10_ring_41 : decode cX10_ring 41 = .ok (.ior, 1) := by decide +kernel
theorem dX10_ring_42 : decode cX10_ring 42 = .ok (.istore_n 2, 1) := by decide +kernel
theorem dX10_ring_43 : decode cX10_ring 43 = .ok (.iload 4, 2) := by decide +kernel
theorem dX10_ring_45 : decode cX10_ring 45 = .ok (.iconst 2, 1) := by decide +kernel
theorem dX10_ring_46 : decode cX10_ring 46 = .ok (.if_icmp .ne 8, 3) := by decide +kernel
theorem dX10_ring_49 : decode cX10_ring 49 = .ok (.bipush 8, 2) := by decide +kernel
theorem dX10_ring_51 : decode cX10_ring 51 = .ok (.goto 14, 3) := by decide +kernel
theorem dX10_ring_54 : decode cX10_ring 54 = .ok (.iload 4, 2) := by decide +kernel
theorem dX10_ring_56 : decode cX10_ring 56 = .ok (.iconst 1, 1) := by decide +kernel
theorem dX10_ring_57 : decode cX10_ring 57 = .ok (.if_icmp .ne 7, 3) := by decide +kernel
theorem dX10_ring_60 : decode cX10_ring 60 = .ok (.iconst 4, 1) := by decide +kernel
theorem dX10_ring_61 : decode cX10_ring 61 = .ok (.goto 4, 3) := by decide +kernel
theorem dX10_ring_64 : decode cX10_ring 64 = .ok (.iconst 0, 1) := by decide +kernel
theorem dX10_ring_65 : decode cX10_ring 65 = .ok (.istore 5, 2) := by decide +kernel
theorem dX10_ring_67 : decode cX10_ring 67 = .ok (.aload_n 0, 1) := by decide +kernel
theorem dX10_ring_68 : decode cX10_ring 68 = .ok (.getfield 70, 3) := by decide +kernel
theorem dX10_ring_71 : decode cX10_ring 71 = .ok (.iload_n 3, 1) := by decide +kernel
theorem dX10_ring_72 : decode cX10_ring 72 = .ok (.iload 5, 2) := by decide +kernel
theorem dX10_ring_74 : decode cX10_ring 74 = .ok (.aload_n 0, 1) := by decide +kernel
theorem dX10_ring_75 : decode cX10_ring 75 = .ok (.getfield 70, 3) := by decide +kernel
theorem dX10_ring_78 : decode cX10_ring 78 = .ok (.iload_n 3, 1) := by decide +kernel
theorem dX10_ring_79 : decode cX10_ring 79 = .ok (.iaload, 1) := by decide +kernel
theorem dX10_ring_80 : decode cX10_ring 80 = .ok (.if_icmp .le 8, 3) := by decide +kernel
theorem dX10_ring_83 : decode cX10_ring 83 = .ok (.iload 5, 2) := by decide +kernel
theorem dX10_ring_85 : decode cX10_ring 85 = .ok (.goto 9, 3) := by decide +kernel
theorem dX10_ring_88 : decode cX10_ring 88 = .ok (.aload_n 0, 1) := by decide +kernel
theorem dX10_ring_89 : decode cX10_ring 89 = .ok (.getfield 70, 3) := by decide +kernel
theorem dX10_ring_92 : decode cX10_ring 92 = .ok (.iload_n 3, 1) := by decide +kernel
theorem dX10_ring_93 : decode cX10_ring 93 = .ok (.iaload, 1) := by decide +kernel
theorem dX10_ring_94 : decode cX10_ring 94 = .ok (.iastore, 1) := by decide +kernel
theorem dX10_ring_95 : decode cX10_ring 95 = .ok (.iinc 3 1, 3) := by decide +kernel
theorem dX10_ring_98 : decode cX10_ring 98 = .ok (.goto (-84), 3) := by decide +kernel
theorem dX10_ring_101 : decode cX10_ring 101 = .ok (.iload_n 2, 1) := by decide +kernel
theorem dX10_ring_102 : decode cX10_ring 102 = .ok (.ifCond .eq 51, 3) := by decide +kernel
theorem dX10_ring_105 : decode cX10_ring 105 = .ok (.aload_n 0, 1) := by decide +kernel
theorem dX10_ring_106 : decode cX10_ring 106 = .ok (.dup, 1) := by decide +kernel
theorem dX10_ring_107 : decode cX10_ring 107 = .ok (.getfield 153, 3) := by decide +kernel
theorem dX10_ring_110 : decode cX10_ring 110 = .ok (.iconst 1, 1) := by decide +kernel
theorem dX10_ring_111 : decode cX10_ring 111 = .ok (.iload_n 1, 1) := by decide +kernel
theorem dX10_ring_112 : decode cX10_ring 112 = .ok (.ishl, 1) := by decide +kernel
theorem dX10_ring_113 : decode cX10_ring 113 = .ok (.ior, 1) := by decide +kernel
theorem dX10_ring_114 : decode cX10_ring 114 = .ok (.putfield 153, 3) := by decide +kernel
theorem dX10_ring_117 : decode cX10_ring 117 = .ok (.aload_n 0, 1) := by decide +kernel
theorem dX10_ring_118 : decode cX10_ring 118 = .ok (.getfield 40, 3) := by decide +kernel
theorem dX10_ring_121 : decode cX10_ring 121 = .ok (.iload_n 1, 1) := by decide +kernel
theorem dX10_ring_122 : decode cX10_ring 122 = .ok (.aload_n 0, 1) := by decide +kernel
theorem dX10_ring_123 : decode cX10_ring 123 = .ok (.getfield 40, 3) := by decide +kernel
theorem dX10_ring_126 : decode cX10_ring 126 = .ok (.iload_n 1, 1) := by decide +kernel
theorem dX10_ring_127 : decode cX10_ring 127 = .ok (.iaload, 1) := by decide +kernel
theorem dX10_ring_128 : decode cX10_ring 128 = .ok (.ifCond .ge 18, 3) := by decide +kernel
theorem dX10_ring_131 : decode cX10_ring 131 = .ok (.aload_n 0, 1) := by decide +kernel
theorem dX10_ring_132 : decode cX10_ring 132 = .ok (.iload_n 1, 1) := by decide +kernel
theorem dX10_ring_133 : decode cX10_ring 133 = .ok (.invokevirtual 156, 3) := by decide +kernel
theorem dX10_ring_136 : decode cX10_ring 136 = .ok (.ifCond .ne 10, 3) := by decide +kernel
theorem dX10_ring_139 : decode cX10_ring 139 = .ok (.aload_n 0, 1) := by decide +kernel
theorem dX10_ring_140 : decode cX10_ring 140 = .ok (.getfield 144, 3) := by decide +kernel
theorem dX10_ring_143 : decode cX10_ring 143 = .ok (.goto 9, 3) := by decide +kernel
theorem dX10_ring_146 : decode cX10_ring 146 = .ok (.aload_n 0, 1) := by decide +kernel
theorem dX10_ring_147 : decode cX10_ring 147 = .ok (.getfield 40, 3) := by decide +kernel
theorem dX10_ring_150 : decode cX10_ring 150 = .ok (.iload_n 1, 1) := by decide +kernel
theorem dX10_ring_151 : decode cX10_ring 151 = .ok (.iaload, 1) := by decide +kernel
theorem dX10_ring_152 : decode cX10_ring 152 = .ok (.iastore, 1) := by decide +kernel
theorem dX10_ring_153 : decode cX10_ring 153 = .ok (.iload_n 2, 1) := by decide +kernel
theorem dX10_ring_154 : decode cX10_ring 154 = .ok (.ireturn, 1) := by decide +kernel
theorem dX10_nearest_0 : decode cX10_nearest 0 = .ok (.iconst (-1), 1) := by decide +kernel
theorem dX10_nearest_1 : decode cX10_nearest 1 = .ok (.istore_n 2, 1) := by decide +kernel
theorem dX10_nearest_2 : decode cX10_nearest 2 = .ok (.iconst 0, 1) := by decide +kernel
theorem dX10_nearest_3 : decode cX10_nearest 3 = .ok (.istore_n 3, 1) := by decide +kernel
theorem dX10_nearest_4 : decode cX10_nearest 4 = .ok (.iload_n 3, 1) := by decide +kernel
theorem dX10_nearest_5 : decode cX10_nearest 5 = .ok (.aload_n 0, 1) := by decide +kernel
theorem dX10_nearest_6 : decode cX10_nearest 6 = .ok (.getfield 141, 3) := by decide +kernel
theorem dX10_nearest_9 : decode cX10_nearest 9 = .ok (.if_icmp .ge 43, 3) := by decide +kernel
theorem dX10_nearest_12 : decode cX10_nearest 12 = .ok (.aload_n 0, 1) := by decide +kernel
theorem dX10_nearest_13 : decode cX10_nearest 13 = .ok (.iload_n 3, 1) := by decide +kernel
theorem dX10_nearest_14 : decode cX10_nearest 14 = .ok (.iload_n 1, 1) := by decide +kernel
theorem dX10_nearest_15 : decode cX10_nearest 15 = .ok (.invokevirtual 159, 3) := by decide +kernel
theorem dX10_nearest_18 : decode cX10_nearest 18 = .ok (.ifCond .eq 26, 3) := by decide +kernel
theorem dX10_nearest_21 : decode cX10_nearest 21 = .ok (.iload_n 2, 1) := by decide +kernel
theorem dX10_nearest_22 : decode cX10_nearest 22 = .ok (.ifCond .lt 18, 3) := by decide +kernel
theorem dX10_nearest_25 : decode cX10_nearest 25 = .ok (.aload_n 0, 1) := by decide +kernel
theorem dX10_nearest_26 : decode cX10_nearest 26 = .ok (.iload_n 3, 1) := by decide +kernel
theorem dX10_nearest_27 : decode cX10_nearest 27 = .ok (.iload_n 1, 1) := by decide +kernel
theorem dX10_nearest_28 : decode cX10_nearest 28 = .ok (.invokevirtual 150, 3) := by decide +kernel
theorem dX10_nearest_31 : decode cX10_nearest 31 = .ok (.aload_n 0, 1) := by decide +kernel
theorem dX10_nearest_32 : decode cX10_nearest 32 = .ok (.iload_n 2, 1) := by decide +kernel
theorem dX10_nearest_33 : decode cX10_nearest 33 = .ok (.iload_n 1, 1) := by decide +kernel
theorem dX10_nearest_34 : decode cX10_nearest 34 = .ok (.invokevirtual 150, 3) := by decide +kernel
theorem dX10_nearest_37 : decode cX10_nearest 37 = .ok (.if_icmp .ge 7, 3) := by decide +kernel
theorem dX10_nearest_40 : decode cX10_nearest 40 = .ok (.iload_n 3, 1) := by decide +kernel
theorem dX10_nearest_41 : decode cX10_nearest 41 = .ok (.goto 4, 3) := by decide +kernel
theorem dX10_nearest_44 : decode cX10_nearest 44 = .ok (.iload_n 2, 1) := by decide +kernel
theorem dX10_nearest_45 : decode cX10_nearest 45 = .ok (.istore_n 2, 1) := by decide +kernel
theorem dX10_nearest_46 : decode cX10_nearest 46 = .ok (.iinc 3 1, 3) := by decide +kernel
theorem dX10_nearest_49 : decode cX10_nearest 49 = .ok (.goto (-45), 3) := by decide +kernel
theorem dX10_nearest_52 : decode cX10_nearest 52 = .ok (.iload_n 2, 1) := by decide +kernel
theorem dX10_nearest_53 : decode cX10_nearest 53 = .ok (.ireturn, 1) := by decide +kernel
theorem dX10_isAhead_0 : decode cX10_isAhead 0 = .ok (.aload_n 0, 1) := by decide +kernel
theorem dX10_isAhead_1 : decode cX10_isAhead 1 = .ok (.getfield 25, 3) := by decide +kernel
theorem dX10_isAhead_4 : decode cX10_isAhead 4 = .ok (.iload_n 1, 1) := by decide +kernel
theorem dX10_isAhead_5 : decode cX10_isAhead 5 = .ok (.iaload, 1) := by decide +kernel
theorem dX10_isAhead_6 : decode cX10_isAhead 6 = .ok (.aload_n 0, 1) := by decide +kernel
theorem dX10_isAhead_7 : decode cX10_isAhead 7 = .ok (.getfield 25, 3) := by decide +kernel
theorem dX10_isAhead_10 : decode cX10_isAhead 10 = .ok (.iload_n 2, 1) := by decide +kernel
theorem dX10_isAhead_11 : decode cX10_isAhead 11 = .ok (.iaload, 1) := by decide +kernel
theorem dX10_isAhead_12 : decode cX10_isAhead 12 = .ok (.if_icmp .eq 26, 3) := by decide +kernel
theorem dX10_isAhead_15 : decode cX10_isAhead 15 = .ok (.aload_n 0, 1) := by decide +kernel
theorem dX10_isAhead_16 : decode cX10_isAhead 16 = .ok (.getfield 25, 3) := by decide +kernel
theorem dX10_isAhead_19 : decode cX10_isAhead 19 = .ok (.iload_n 1, 1) := by decide +kernel
theorem dX10_isAhead_20 : decode cX10_isAhead 20 = .ok (.iaload, 1) := by decide +kernel
theorem dX10_isAhead_21 : decode cX10_isAhead 21 = .ok (.aload_n 0, 1) := by decide +kernel
theorem dX10_isAhead_22 : decode cX10_isAhead 22 = .ok (.getfield 25, 3) := by decide +kernel
theorem dX10_isAhead_25 : decode cX10_isAhead 25 = .ok (.iload_n 2, 1) := by decide +kernel
theorem dX10_isAhead_26 : decode cX10_isAhead 26 = .ok (.iaload, 1) := by decide +kernel
theorem dX10_isAhead_27 : decode cX10_isAhead 27 = .ok (.if_icmp .le 7, 3) := by decide +kernel
theorem dX10_isAhead_30 : decode cX10_isAhead 30 = .ok (.iconst 1, 1) := by decide +kernel
theorem dX10_isAhead_31 : decode cX10_isAhead 31 = .ok (.goto 27, 3) := by decide +kernel
theorem dX10_isAhead_34 : decode cX10_isAhead 34 = .ok (.iconst 0, 1) := by decide +kernel
theorem dX10_isAhead_35 : decode cX10_isAhead 35 = .ok (.goto 23, 3) := by decide +kernel
theorem dX10_isAhead_38 : decode cX10_isAhead 38 = .ok (.aload_n 0, 1) := by decide +kernel
theorem dX10_isAhead_39 : decode cX10_isAhead 39 = .ok (.getfield 40, 3) := by decide +kernel
theorem dX10_isAhead_42 : decode cX10_isAhead 42 = .ok (.iload_n 1, 1) := by decide +kernel
theorem dX10_isAhead_43 : decode cX10_isAhead 43 = .ok (.iaload, 1) := by decide +kernel
theorem dX10_isAhead_44 : decode cX10_isAhead 44 = .ok (.aload_n 0, 1) := by decide +kernel
theorem dX10_isAhead_45 : decode cX10_isAhead 45 = .ok (.getfield 40, 3) := by decide +kernel
theorem dX10_isAhead_48 : decode cX10_isAhead 48 = .ok (.iload_n 2, 1) := by decide +kernel
theorem dX10_isAhead_49 : decode cX10_isAhead 49 = .ok (.iaload, 1) := by decide +kernel
theorem dX10_isAhead_50 : decode cX10_isAhead 50 = .ok (.if_icmp .ge 7, 3) := by decide +kernel
theorem dX10_isAhead_53 : decode cX10_isAhead 53 = .ok (.iconst 1, 1) := by decide +kernel
theorem dX10_isAhead_54 : decode cX10_isAhead 54 = .ok (.goto 4, 3) := by decide +kernel
theorem dX10_isAhead_57 : decode cX10_isAhead 57 = .ok (.iconst 0, 1) := by decide +kernel
theorem dX10_isAhead_58 : decode cX10_isAhead 58 = .ok (.ireturn, 1) := by decide +kernel
theorem dX10_passes_0 : decode cX10_passes 0 = .ok (.iconst 1, 1) := by decide +kernel
theorem dX10_passes_1 : decode cX10_passes 1 = .ok (.istore_n 1, 1) := by decide +kernel
theorem dX10_passes_2 : decode cX10_passes 2 = .ok (.iload_n 1, 1) := by decide +kernel
theorem dX10_passes_3 : decode cX10_passes 3 = .ok (.ifCond .eq 84, 3) := by decide +kernel
theorem dX10_passes_6 : decode cX10_passes 6 = .ok (.iconst (-1), 1) := by decide +kernel
theorem dX10_passes_7 : decode cX10_passes 7 = .ok (.istore_n 2, 1) := by decide +kernel
theorem dX10_passes_8 : decode cX10_passes 8 = .ok (.iconst 0, 1) := by decide +kernel
theorem dX10_passes_9 : decode cX10_passes 9 = .ok (.istore_n 3, 1) := by decide +kernel
