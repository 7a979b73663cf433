theorem dX0_init_0 : decode cX0_init 0 = .ok (.aload_n 0, 1) := by decide +kernel
theorem dX0_init_1 : decode cX0_init 1 = .ok (.invokespecial 3, 3) := by decide +kernel
theorem dX0_init_4 : decode cX0_init 4 = .ok (.aload_n 0, 1) := by decide +kernel
theorem dX0_init_5 : decode cX0_init 5 = .ok (.bipush 8, 2) := by decide +kernel
theorem dX0_init_7 : decode cX0_init 7 = .ok (.newarray .int, 2) := by decide +kernel
theorem dX0_init_9 : decode cX0_init 9 = .ok (.putfield 9, 3) := by decide +kernel
theorem dX0_init_12 : decode cX0_init 12 = .ok (.aload_n 0, 1) := by decide +kernel
theorem dX0_init_13 : decode cX0_init 13 = .ok (.bipush 8, 2) := by decide +kernel
theorem dX0_init_15 : decode cX0_init 15 = .ok (.newarray .int, 2) := by decide +kernel
theorem dX0_init_17 : decode cX0_init 17 = .ok (.putfield 15, 3) := by decide +kernel
theorem dX0_init_20 : decode cX0_init 20 = .ok (.return_, 1) := by decide +kernel
theorem dX0_setTone_0 : decode cX0_setTone 0 = .ok (.aload_n 0, 1) := by decide +kernel
theorem dX0_setTone_1 : decode cX0_setTone 1 = .ok (.getfield 9, 3) := by decide +kernel
theorem dX0_setTone_4 : decode cX0_setTone 4 = .ok (.iload_n 1, 1) := by decide +kernel
theorem dX0_setTone_5 : decode cX0_setTone 5 = .ok (.iaload, 1) := by decide +kernel
theorem dX0_setTone_6 : decode cX0_setTone 6 = .ok (.istore_n 3, 1) := by decide +kernel
theorem dX0_setTone_7 : decode cX0_setTone 7 = .ok (.aload_n 0, 1) := by decide +kernel
theorem dX0_setTone_8 : decode cX0_setTone 8 = .ok (.getfield 9, 3) := by decide +kernel
theorem dX0_setTone_11 : decode cX0_setTone 11 = .ok (.iload_n 1, 1) := by decide +kernel
theorem dX0_setTone_12 : decode cX0_setTone 12 = .ok (.iload_n 2, 1) := by decide +kernel
theorem dX0_setTone_13 : decode cX0_setTone 13 = .ok (.iastore, 1) := by decide +kernel
theorem dX0_setTone_14 : decode cX0_setTone 14 = .ok (.iload_n 3, 1) := by decide +kernel
theorem dX0_setTone_15 : decode cX0_setTone 15 = .ok (.ireturn, 1) := by decide +kernel
theorem dX0_setMute_0 : decode cX0_setMute 0 = .ok (.aload_n 0, 1) := by decide +kernel
theorem dX0_setMute_1 : decode cX0_setMute 1 = .ok (.getfield 18, 3) := by decide +kernel
theorem dX0_setMute_4 : decode cX0_setMute 4 = .ok (.iload_n 1, 1) := by decide +kernel
theorem dX0_setMute_5 : decode cX0_setMute 5 = .ok (.ishr, 1) := by decide +kernel
theorem dX0_setMute_6 : decode cX0_setMute 6 = .ok (.iconst 1, 1) := by decide +kernel
theorem dX0_setMute_7 : decode cX0_setMute 7 = .ok (.iand, 1) := by decide +kernel
theorem dX0_setMute_8 : decode cX0_setMute 8 = .ok (.istore_n 3, 1) := by decide +kernel
theorem dX0_setMute_9 : decode cX0_setMute 9 = .ok (.aload_n 0, 1) := by decide +kernel
theorem dX0_setMute_10 : decode cX0_setMute 10 = .ok (.aload_n 0, 1) := by decide +kernel
theorem dX0_setMute_11 : decode cX0_setMute 11 = .ok (.getfield 18, 3) := by decide +kernel
theorem dX0_setMute_14 : decode cX0_setMute 14 = .ok (.iconst 1, 1) := by decide +kernel
theorem dX0_setMute_15 : decode cX0_setMute 15 = .ok (.iload_n 1, 1) := by decide +kernel
theorem dX0_setMute_16 : decode cX0_setMute 16 = .ok (.ishl, 1) := by decide +kernel
theorem dX0_setMute_17 : decode cX0_setMute 17 = .ok (.iconst (-1), 1) := by decide +kernel
theorem dX0_setMute_18 : decode cX0_setMute 18 = .ok (.ixor, 1) := by decide +kernel
theorem dX0_setMute_19 : decode cX0_setMute 19 = .ok (.iand, 1) := by decide +kernel
theorem dX0_setMute_20 : decode cX0_setMute 20 = .ok (.iload_n 2, 1) := by decide +kernel
theorem dX0_setMute_21 : decode cX0_setMute 21 = .ok (.iload_n 1, 1) := by decide +kernel
theorem dX0_setMute_22 : decode cX0_setMute 22 = .ok (.ishl, 1) := by decide +kernel
theorem dX0_setMute_23 : decode cX0_setMute 23 = .ok (.ior, 1) := by decide +kernel
theorem dX0_setMute_24 : decode cX0_setMute 24 = .ok (.putfield 18, 3) := by decide +kernel
theorem dX0_setMute_27 : decode cX0_setMute 27 = .ok (.iload_n 3, 1) := by decide +kernel
theorem dX0_setMute_28 : decode cX0_setMute 28 = .ok (.ireturn, 1) := by decide +kernel
theorem dX0_ofTone_0 : decode cX0_ofTone 0 = .ok (.iload_n 1, 1) := by decide +kernel
theorem dX0_ofTone_1 : decode cX0_ofTone 1 = .ok (.iconst (-1), 1) := by decide +kernel
theorem dX0_ofTone_2 : decode cX0_ofTone 2 = .ok (.if_icmp .ne 7, 3) := by decide +kernel
theorem dX0_ofTone_5 : decode cX0_ofTone 5 = .ok (.sipush 255, 3) := by decide +kernel
theorem dX0_ofTone_8 : decode cX0_ofTone 8 = .ok (.ireturn, 1) := by decide +kernel
theorem dX0_ofTone_9 : decode cX0_ofTone 9 = .ok (.iconst 0, 1) := by decide +kernel
theorem dX0_ofTone_10 : decode cX0_ofTone 10 = .ok (.istore_n 2, 1) := by decide +kernel
theorem dX0_ofTone_11 : decode cX0_ofTone 11 = .ok (.iconst 0, 1) := by decide +kernel
theorem dX0_ofTone_12 : decode cX0_ofTone 12 = .ok (.istore_n 3, 1) := by decide +kernel
theorem dX0_ofTone_13 : decode cX0_ofTone 13 = .ok (.iload_n 3, 1) := by decide +kernel
theorem dX0_ofTone_14 : decode cX0_ofTone 14 = .ok (.bipush 8, 2) := by decide +kernel
theorem dX0_ofTone_16 : decode cX0_ofTone 16 = .ok (.if_icmp .ge 25, 3) := by decide +kernel
theorem dX0_ofTone_19 : decode cX0_ofTone 19 = .ok (.aload_n 0, 1) := by decide +kernel
theorem dX0_ofTone_20 : decode cX0_ofTone 20 = .ok (.getfield 9, 3) := by decide +kernel
theorem dX0_ofTone_23 : decode cX0_ofTone 23 = .ok (.iload_n 3, 1) := by decide +kernel
theorem dX0_ofTone_24 : decode cX0_ofTone 24 = .ok (.iaload, 1) := by decide +kernel
theorem dX0_ofTone_25 : decode cX0_ofTone 25 = .ok (.iload_n 1, 1) := by decide +kernel
theorem dX0_ofTone_26 : decode cX0_ofTone 26 = .ok (.if_icmp .ne 9, 3) := by decide +kernel
theorem dX0_ofTone_29 : decode cX0_ofTone 29 = .ok (.iload_n 2, 1) := by decide +kernel
theorem dX0_ofTone_30 : decode cX0_ofTone 30 = .ok (.iconst 1, 1) := by decide +kernel
theorem dX0_ofTone_31 : decode cX0_ofTone 31 = .ok (.iload_n 3, 1) := by decide +kernel
theorem dX0_ofTone_32 : decode cX0_ofTone 32 = .ok (.ishl, 1) := by decide +kernel
theorem dX0_ofTone_33 : decode cX0_ofTone 33 = .ok (.ior, 1) := by decide +kernel
theorem dX0_ofTone_34 : decode cX0_ofTone 34 = .ok (.istore_n 2, 1) := by decide +kernel
theorem dX0_ofTone_35 : decode cX0_ofTone 35 = .ok (.iinc 3 1, 3) := by decide +kernel
theorem dX0_ofTone_38 : decode cX0_ofTone 38 = .ok (.goto (-25), 3) := by decide +kernel
theorem dX0_ofTone_41 : decode cX0_ofTone 41 = .ok (.iload_n 2, 1) := by decide +kernel
theorem dX0_ofTone_42 : decode cX0_ofTone 42 = .ok (.ireturn, 1) := by decide +kernel
theorem dX0_startSwinging_0 : decode cX0_startSwinging 0 = .ok (.iconst 0, 1) := by decide +kernel
theorem dX0_startSwinging_1 : decode cX0_startSwinging 1 = .ok (.istore_n 3, 1) := by decide +kernel
theorem dX0_startSwinging_2 : decode cX0_startSwinging 2 = .ok (.iload_n 3, 1) := by decide +kernel
theorem dX0_startSwinging_3 : decode cX0_startSwinging 3 = .ok (.bipush 8, 2) := by decide +kernel
theorem dX0_startSwinging_5 : decode cX0_startSwinging 5 = .ok (.if_icmp .ge 52, 3) := by decide +kernel
theorem dX0_startSwinging_8 : decode cX0_startSwinging 8 = .ok (.iload_n 1, 1) := by decide +kernel
theorem dX0_startSwinging_9 : decode cX0_startSwinging 9 = .ok (.iload_n 3, 1) := by decide +kernel
theorem dX0_startSwinging_10 : decode cX0_startSwinging 10 = .ok (.ishr, 1) := by decide +kernel
theorem dX0_startSwinging_11 : decode cX0_startSwinging 11 = .ok (.iconst 1, 1) := by decide +kernel
theorem dX0_startSwinging_12 : decode cX0_startSwinging 12 = .ok (.iand, 1) := by decide +kernel
theorem dX0_startSwinging_13 : decode cX0_startSwinging 13 = .ok (.ifCond .eq 14, 3) := by decide +kernel
theorem dX0_startSwinging_16 : decode cX0_startSwinging 16 = .ok (.aload_n 0, 1) := by decide +kernel
theorem dX0_startSwinging_17 : decode cX0_startSwinging 17 = .ok (.getfield 15, 3) := by decide +kernel
theorem dX0_startSwinging_20 : decode cX0_startSwinging 20 = .ok (.iload_n 3, 1) := by decide +kernel
theorem dX0_startSwinging_21 : decode cX0_startSwinging 21 = .ok (.bipush 8, 2) := by decide +kernel
theorem dX0_startSwinging_23 : decode cX0_startSwinging 23 = .ok (.iastore, 1) := by decide +kernel
theorem dX0_startSwinging_24 : decode cX0_startSwinging 24 = .ok (.goto 27, 3) := by decide +kernel
theorem dX0_startSwinging_27 : decode cX0_startSwinging 27 = .ok (.iload_n 2, 1) := by decide +kernel
theorem dX0_startSwinging_28 : decode cX0_startSwinging 28 = .ok (.iload_n 3, 1) := by decide +kernel
theorem dX0_startSwinging_29 : decode cX0_startSwinging 29 = .ok (.ishr, 1) := by decide +kernel
theorem dX0_startSwinging_30 : decode cX0_startSwinging 30 = .ok (.iconst 1, 1) := by decide +kernel
theorem dX0_startSwinging_31 : decode cX0_startSwinging 31 = .ok (.iand, 1) := by decide +kernel
theorem dX0_startSwinging_32 : decode cX0_startSwinging 32 = .ok (.ifCond .eq 19, 3) := by decide +kernel
theorem dX0_startSwinging_35 : decode cX0_startSwinging 35 = .ok (.aload_n 0, 1) := by decide +kernel
theorem dX0_startSwinging_36 : decode cX0_startSwinging 36 = .ok (.getfield 15, 3) := by decide +kernel
theorem dX0_startSwinging_39 : decode cX0_startSwinging 39 = .ok (.iload_n 3, 1) := by decide +kernel
theorem dX0_startSwinging_40 : decode cX0_startSwinging 40 = .ok (.aload_n 0, 1) := by decide +kernel
theorem dX0_startSwinging_41 : decode cX0_startSwinging 41 = .ok (.getfield 15, 3) := by decide +kernel
theorem dX0_startSwinging_44 : decode cX0_startSwinging 44 = .ok (.iload_n 3, 1) := by decide +kernel
theorem dX0_startSwinging_45 : decode cX0_startSwinging 45 = .ok (.iaload, 1) := by decide +kernel
theorem dX0_startSwinging_46 : decode cX0_startSwinging 46 = .ok (.iconst 4, 1) := by decide +kernel
theorem dX0_startSwinging_47 : decode cX0_startSwinging 47 = .ok (.invokestatic 22, 3) := by decide +kernel
theorem dX0_startSwinging_50 : decode cX0_startSwinging 50 = .ok (.iastore, 1) := by decide +kernel
theorem dX0_startSwinging_51 : decode cX0_startSwinging 51 = .ok (.iinc 3 1, 3) := by decide +kernel
theorem dX0_startSwinging_54 : decode cX0_startSwinging 54 = .ok (.goto (-52), 3) := by decide +kernel
theorem dX0_startSwinging_57 : decode cX0_startSwinging 57 = .ok (.return_, 1) := by decide +kernel
theorem dX0_swingLess_0 : decode cX0_swingLess 0 = .ok (.iconst 0, 1) := by decide +kernel
theorem dX0_swingLess_1 : decode cX0_swingLess 1 = .ok (.istore_n 1, 1) := by decide +kernel
theorem dX0_swingLess_2 : decode cX0_swingLess 2 = .ok (.iload_n 1, 1) := by decide +kernel
theorem dX0_swingLess_3 : decode cX0_swingLess 3 = .ok (.bipush 8, 2) := by decide +kernel
theorem dX0_swingLess_5 : decode cX0_swingLess 5 = .ok (.if_icmp .ge 28, 3) := by decide +kernel
theorem dX0_swingLess_8 : decode cX0_swingLess 8 = .ok (.aload_n 0, 1) := by decide +kernel
theorem dX0_swingLess_9 : decode cX0_swingLess 9 = .ok (.getfield 15, 3) := by decide +kernel
theorem dX0_swingLess_12 : decode cX0_swingLess 12 = .ok (.iload_n 1, 1) := by decide +kernel
theorem dX0_swingLess_13 : decode cX0_swingLess 13 = .ok (.iaload, 1) := by decide +kernel
theorem dX0_swingLess_14 : decode cX0_swingLess 14 = .ok (.ifCond .le 13, 3) := by decide +kernel
theorem dX0_swingLess_17 : decode cX0_swingLess 17 = .ok (.aload_n 0, 1) := by decide +kernel
theorem dX0_swingLess_18 : decode cX0_swingLess 18 = .ok (.getfield 15, 3) := by decide +kernel
theorem dX0_swingLess_21 : decode cX0_swingLess 21 = .ok (.iload_n 1, 1) := by decide +kernel
theorem dX0_swingLess_22 : decode cX0_swingLess 22 = .ok (.dup2, 1) := by decide +kernel
theorem dX0_swingLess_23 : decode cX0_swingLess 23 = .ok (.iaload, 1) := by decide +kernel
theorem dX0_swingLess_24 : decode cX0_swingLess 24 = .ok (.iconst 1, 1) := by decide +kernel
theorem dX0_swingLess_25 : decode cX0_swingLess 25 = .ok (.isub, 1) := by decide +kernel
theorem dX0_swingLess_26 : decode cX0_swingLess 26 = .ok (.iastore, 1) := by decide +kernel
theorem dX0_swingLess_27 : decode cX0_swingLess 27 = .ok (.iinc 1 1, 3) := by decide +kernel
theorem dX0_swingLess_30 : decode cX0_swingLess 30 = .ok (.goto (-28), 3) := by decide +kernel
theorem dX0_swingLess_33 : decode cX0_swingLess 33 = .ok (.return_, 1) := by decide +kernel
theorem dX0_swinging_0 : decode cX0_swinging 0 = .ok (.iconst 0, 1) := by decide +kernel
theorem dX0_swinging_1 : decode cX0_swinging 1 = .ok (.istore_n 1, 1) := by decide +kernel
theorem dX0_swinging_2 : decode cX0_swinging 2 = .ok (.iconst 0, 1) := by decide +kernel
theorem dX0_swinging_3 : decode cX0_swinging 3 = .ok (.istore_n 2, 1) := by decide +kernel
theorem dX0_swinging_4 : decode cX0_swinging 4 = .ok (.iload_n 2, 1) := by decide +kernel
theorem dX0_swinging_5 : decode cX0_swinging 5 = .ok (.bipush 8, 2) := by decide +kernel
theorem dX0_swinging_7 : decode cX0_swinging 7 = .ok (.if_icmp .ge 24, 3) := by decide +kernel
theorem dX0_swinging_10 : decode cX0_swinging 10 = .ok (.aload_n 0, 1) := by decide +kernel
theorem dX0_swinging_11 : decode cX0_swinging 11 = .ok (.getfield 15, 3) := by decide +kernel
theorem dX0_swinging_14 : decode cX0_swinging 14 = .ok (.iload_n 2, 1) := by decide +kernel
theorem dX0_swinging_15 : decode cX0_swinging 15 = .ok (.iaload, 1) := by decide +kernel
theorem dX0_swinging_16 : decode cX0_swinging 16 = .ok (.ifCond .le 9, 3) := by decide +kernel
theorem dX0_swinging_19 : decode cX0_swinging 19 = .ok (.iload_n 1, 1) := by decide +kernel
theorem dX0_swinging_20 : decode cX0_swinging 20 = .ok (.iconst 1, 1) := by decide +kernel
theorem dX0_swinging_21 : decode cX0_swinging 21 = .ok (.iload_n 2, 1) := by decide +kernel
theorem dX0_swinging_22 : decode cX0_swinging 22 = .ok (.ishl, 1) := by decide +kernel
theorem dX0_swinging_23 : decode cX0_swinging 23 = .ok (.ior, 1) := by decide +kernel
theorem dX0_swinging_24 : decode cX0_swinging 24 = .ok (.istore_n 1, 1) := by decide +kernel
theorem dX0_swinging_25 : decode cX0_swinging 25 = .ok (.iinc 2 1, 3) := by decide +kernel
theorem dX0_swinging_28 : decode cX0_swinging 28 = .ok (.goto (-24), 3) := by decide +kernel
theorem dX0_swinging_31 : decode cX0_swinging 31 = .ok (.iload_n 1, 1) := by decide +kernel
theorem dX0_swinging_32 : decode cX0_swinging 32 = .ok (.ireturn, 1) := by decide +kernel
theorem dX1_init_0 : decode cX1_init 0 = .ok (.aload_n 0, 1) := by decide +kernel
theorem dX1_init_1 : decode cX1_init 1 = .ok (.invokespecial 3, 3) := by decide +kernel
theorem dX1_init_4 : decode cX1_init 4 = .ok (.aload_n 0, 1) := by decide +kernel
theorem dX1_init_5 : decode cX1_init 5 = .ok (.bipush 12, 2) := by decide +kernel
theorem dX1_init_7 : decode cX1_init 7 = .ok (.newarray .int, 2) := by decide +kernel
theorem dX1_init_9 : decode cX1_init 9 = .ok (.putfield 9, 3) := by decide +kernel
theorem dX1_init_12 : decode cX1_init 12 = .ok (.aload_n 0, 1) := by decide +kernel
theorem dX1_init_13 : decode cX1_init 13 = .ok (.bipush 12, 2) := by decide +kernel
theorem dX1_init_15 : decode cX1_init 15 = .ok (.newarray .int, 2) := by decide +kernel
theorem dX1_init_17 : decode cX1_init 17 = .ok (.putfield 15, 3) := by decide +kernel
theorem dX1_init_20 : decode cX1_init 20 = .ok (.aload_n 0, 1) := by decide +kernel
theorem dX1_init_21 : decode cX1_init 21 = .ok (.bipush 12, 2) := by decide +kernel
theorem dX1_init_23 : decode cX1_init 23 = .ok (.newarray .int, 2) := by decide +kernel
theorem dX1_init_25 : decode cX1_init 25 = .ok (.putfield 18, 3) := by decide +kernel
theorem dX1_init_28 : decode cX1_init 28 = .ok (.aload_n 0, 1) := by decide +kernel
theorem dX1_init_29 : decode cX1_init 29 = .ok (.bipush 12, 2) := by decide +kernel
theorem dX1_init_31 : decode cX1_init 31 = .ok (.newarray .int, 2) := by decide +kernel
theorem dX1_init_33 : decode cX1_init 33 = .ok (.putfield 21, 3) := by decide +kernel
theorem dX1_init_36 : decode cX1_init 36 = .ok (.aload_n 0, 1) := by decide +kernel
theorem dX1_init_37 : decode cX1_init 37 = .ok (.bipush 12, 2) := by decide +kernel
theorem dX1_init_39 : decode cX1_init 39 = .ok (.newarray .int, 2) := by decide +kernel
theorem dX1_init_41 : decode cX1_init 41 = .ok (.putfield 24, 3) := by decide +kernel
theorem dX1_init_44 : decode cX1_init 44 = .ok (.return_, 1) := by decide +kernel
theorem dX1_isWaiting_0 : decode cX1_isWaiting 0 = .ok (.aload_n 0, 1) := by decide +kernel
theorem dX1_isWaiting_1 : decode cX1_isWaiting 1 = .ok (.getfield 9, 3) := by decide +kernel
theorem dX1_isWaiting_4 : decode cX1_isWaiting 4 = .ok (.iload_n 1, 1) := by decide +kernel
theorem dX1_isWaiting_5 : decode cX1_isWaiting 5 = .ok (.iaload, 1) := by decide +kernel
theorem dX1_isWaiting_6 : decode cX1_isWaiting 6 = .ok (.iconst 1, 1) := by decide +kernel
theorem dX1_isWaiting_7 : decode cX1_isWaiting 7 = .ok (.if_icmp .ne 7, 3) := by decide +kernel
theorem dX1_isWaiting_10 : decode cX1_isWaiting 10 = .ok (.iconst 1, 1) := by decide +kernel
theorem dX1_isWaiting_11 : decode cX1_isWaiting 11 = .ok (.goto 4, 3) := by decide +kernel
theorem dX1_isWaiting_14 : decode cX1_isWaiting 14 = .ok (.iconst 0, 1) := by decide +kernel
theorem dX1_isWaiting_15 : decode cX1_isWaiting 15 = .ok (.ireturn, 1) := by decide +kernel
theorem dX1_countIn_0 : decode cX1_countIn 0 = .ok (.iconst 0, 1) := by decide +kernel
theorem dX1_countIn_1 : decode cX1_countIn 1 = .ok (.istore_n 2, 1) := by decide +kernel
theorem dX1_countIn_2 : decode cX1_countIn 2 = .ok (.iconst 0, 1) := by decide +kernel
theorem dX1_countIn_3 : decode cX1_countIn 3 = .ok (.istore_n 3, 1) := by decide +kernel
theorem dX1_countIn_4 : decode cX1_countIn 4 = .ok (.iload_n 3, 1) := by decide +kernel
theorem dX1_countIn_5 : decode cX1_countIn 5 = .ok (.bipush 12, 2) := by decide +kernel
theorem dX1_countIn_7 : decode cX1_countIn 7 = .ok (.if_icmp .ge 22, 3) := by decide +kernel
theorem dX1_countIn_10 : decode cX1_countIn 10 = .ok (.aload_n 0, 1) := by decide +kernel
theorem dX1_countIn_11 : decode cX1_countIn 11 = .ok (.getfield 9, 3) := by decide +kernel
theorem dX1_countIn_14 : decode cX1_countIn 14 = .ok (.iload_n 3, 1) := by decide +kernel
theorem dX1_countIn_15 : decode cX1_countIn 15 = .ok (.iaload, 1) := by decide +kernel
theorem dX1_countIn_16 : decode cX1_countIn 16 = .ok (.iload_n 1, 1) := by decide +kernel
theorem dX1_countIn_17 : decode cX1_countIn 17 = .ok (.if_icmp .ne 6, 3) := by decide +kernel
theorem dX1_countIn_20 : decode cX1_countIn 20 = .ok (.iinc 2 1, 3) := by decide +kernel
theorem dX1_countIn_23 : decode cX1_countIn 23 = .ok (.iinc 3 1, 3) := by decide +kernel
theorem dX1_countIn_26 : decode cX1_countIn 26 = .ok (.goto (-22), 3) := by decide +kernel
theorem dX1_countIn_29 : decode cX1_countIn 29 = .ok (.iload_n 2, 1) := by decide +kernel
theorem dX1_countIn_30 : decode cX1_countIn 30 = .ok (.ireturn, 1) := by decide +kernel
theorem dX1_make_0 : decode cX1_make 0 = .ok (.aload_n 0, 1) := by decide +kernel
theorem dX1_make_1 : decode cX1_make 1 = .ok (.dup, 1) := by decide +kernel
theorem dX1_make_2 : decode cX1_make 2 = .ok (.getfield 27, 3) := by decide +kernel
theorem dX1_make_5 : decode cX1_make 5 = .ok (.iconst 1, 1) := by decide +kernel
theorem dX1_make_6 : decode cX1_make 6 = .ok (.iload_n 1, 1) := by decide +kernel
theorem dX1_make_7 : decode cX1_make 7 = .ok (.ishl, 1) := by decide +kernel
theorem dX1_make_8 : decode cX1_make 8 = .ok (.ior, 1) := by decide +kernel
theorem dX1_make_9 : decode cX1_make 9 = .ok (.putfield 27, 3) := by decide +kernel
theorem dX1_make_12 : decode cX1_make 12 = .ok (.aload_n 0, 1) := by decide +kernel
theorem dX1_make_13 : decode cX1_make 13 = .ok (.getfield 9, 3) := by decide +kernel
theorem dX1_make_16 : decode cX1_make 16 = .ok (.iload_n 1, 1) := by decide +kernel
theorem dX1_make_17 : decode cX1_make 17 = .ok (.iaload, 1) := by decide +kernel
theorem dX1_make_18 : decode cX1_make 18 = .ok (.ifCond .ne 17, 3) := by decide +kernel
theorem dX1_make_21 : decode cX1_make 21 = .ok (.aload_n 0, 1) := by decide +kernel
theorem dX1_make_22 : decode cX1_make 22 = .ok (.getfield 9, 3) := by decide +kernel
theorem dX1_make_25 : decode cX1_make 25 = .ok (.iload_n 1, 1) := by decide +kernel
theorem dX1_make_26 : decode cX1_make 26 = .ok (.iconst 1, 1) := by decide +kernel
theorem dX1_make_27 : decode cX1_make 27 = .ok (.iastore, 1) := by decide +kernel
theorem dX1_make_28 : decode cX1_make 28 = .ok (.aload_n 0, 1) := by decide +kernel
theorem dX1_make_29 : decode cX1_make 29 = .ok (.getfield 15, 3) := by decide +kernel
theorem dX1_make_32 : decode cX1_make 32 = .ok (.iload_n 1, 1) := by decide +kernel
theorem dX1_make_33 : decode cX1_make 33 = .ok (.iload_n 2, 1) := by decide +kernel
theorem dX1_make_34 : decode cX1_make 34 = .ok (.iastore, 1) := by decide +kernel
theorem dX1_make_35 : decode cX1_make 35 = .ok (.return_, 1) := by decide +kernel
theorem dX1_drop_0 : decode cX1_drop 0 = .ok (.aload_n 0, 1) := by decide +kernel
theorem dX1_drop_1 : decode cX1_drop 1 = .ok (.getfield 9, 3) := by decide +kernel
theorem dX1_drop_4 : decode cX1_drop 4 = .ok (.iload_n 1, 1) := by decide +kernel
theorem dX1_drop_5 : decode cX1_drop 5 = .ok (.iconst 0, 1) := by decide +kernel
theorem dX1_drop_6 : decode cX1_drop 6 = .ok (.iastore, 1) := by decide +kernel
theorem dX1_drop_7 : decode cX1_drop 7 = .ok (.aload_n 0, 1) := by decide +kernel
theorem dX1_drop_8 : decode cX1_drop 8 = .ok (.dup, 1) := by decide +kernel
theorem dX1_drop_9 : decode cX1_drop 9 = .ok (.getfield 31, 3) := by decide +kernel
theorem dX1_drop_12 : decode cX1_drop 12 = .ok (.iconst 1, 1) := by decide +kernel
theorem dX1_drop_13 : decode cX1_drop 13 = .ok (.iadd, 1) := by decide +kernel
theorem dX1_drop_14 : decode cX1_drop 14 = .ok (.putfield 31, 3) := by decide +kernel
theorem dX1_drop_17 : decode cX1_drop 17 = .ok (.return_, 1) := by decide +kernel
theorem dX1_startErrand_0 : decode cX1_startErrand 0 = .ok (.aload_n 0, 1) := by decide +kernel
theorem dX1_startErrand_1 : decode cX1_startErrand 1 = .ok (.getfield 9, 3) := by decide +kernel
theorem dX1_startErrand_4 : decode cX1_startErrand 4 = .ok (.iload_n 1, 1) := by decide +kernel
theorem dX1_startErrand_5 : decode cX1_startErrand 5 = .ok (.iconst 2, 1) := by decide +kernel
theorem dX1_startErrand_6 : decode cX1_startErrand 6 = .ok (.iastore, 1) := by decide +kernel
theorem dX1_startErrand_7 : decode cX1_startErrand 7 = .ok (.aload_n 0, 1) := by decide +kernel
theorem dX1_startErrand_8 : decode cX1_startErrand 8 = .ok (.getfield 18, 3) := by decide +kernel
theorem dX1_startErrand_11 : decode cX1_startErrand 11 = .ok (.iload_n 1, 1) := by decide +kernel
theorem dX1_startErrand_12 : decode cX1_startErrand 12 = .ok (.dup2, 1) := by decide +kernel
theorem dX1_startErrand_13 : decode cX1_startErrand 13 = .ok (.iaload, 1) := by decide +kernel
theorem dX1_startErrand_14 : decode cX1_startErrand 14 = .ok (.iconst 1, 1) := by decide +kernel
theorem dX1_startErrand_15 : decode cX1_startErrand 15 = .ok (.iadd, 1) := by decide +kernel
theorem dX1_startErrand_16 : decode cX1_startErrand 16 = .ok (.iastore, 1) := by decide +kernel
theorem dX1_startErrand_17 : decode cX1_startErrand 17 = .ok (.aload_n 0, 1) := by decide +kernel
theorem dX1_startErrand_18 : decode cX1_startErrand 18 = .ok (.getfield 21, 3) := by decide +kernel
theorem dX1_startErrand_21 : decode cX1_startErrand 21 = .ok (.iload_n 1, 1) := by decide +kernel
theorem dX1_startErrand_22 : decode cX1_startErrand 22 = .ok (.dup2, 1) := by decide +kernel
theorem dX1_startErrand_23 : decode cX1_startErrand 23 = .ok (.iaload, 1) := by decide +kernel
theorem dX1_startErrand_24 : decode cX1_startErrand 24 = .ok (.iload_n 2, 1) := by decide +kernel
theorem dX1_startErrand_25 : decode cX1_startErrand 25 = .ok (.iadd, 1) := by decide +kernel
theorem dX1_startErrand_26 : decode cX1_startErrand 26 = .ok (.iastore, 1) := by decide +kernel
theorem dX1_startErrand_27 : decode cX1_startErrand 27 = .ok (.aload_n 0, 1) := by decide +kernel
theorem dX1_startErrand_28 : decode cX1_startErrand 28 = .ok (.getfield 24, 3) := by decide +kernel
theorem dX1_startErrand_31 : decode cX1_startErrand 31 = .ok (.iload_n 1, 1) := by decide +kernel
theorem dX1_startErrand_32 : decode cX1_startErrand 32 = .ok (.aload_n 0, 1) := by decide +kernel
theorem dX1_startErrand_33 : decode cX1_startErrand 33 = .ok (.getfield 24, 3) := by decide +kernel
theorem dX1_startErrand_36 : decode cX1_startErrand 36 = .ok (.iload_n 1, 1) := by decide +kernel
theorem dX1_startErrand_37 : decode cX1_startErrand 37 = .ok (.iaload, 1) := by decide +kernel
theorem dX1_startErrand_38 : decode cX1_startErrand 38 = .ok (.iload_n 2, 1) := by decide +kernel
theorem dX1_startErrand_39 : decode cX1_startErrand 39 = .ok (.invokestatic 34, 3) := by decide +kernel
theorem dX1_startErrand_42 : decode cX1_startErrand 42 = .ok (.iastore, 1) := by decide +kernel
theorem dX1_startErrand_43 : decode cX1_startErrand 43 = .ok (.return_, 1) := by decide +kernel
theorem dX1_endErrand_0 : decode cX1_endErrand 0 = .ok (.aload_n 0, 1) := by decide +kernel
theorem dX1_endErrand_1 : decode cX1_endErrand 1 = .ok (.getfield 9, 3) := by decide +kernel
theorem dX1_endErrand_4 : decode cX1_endErrand 4 = .ok (.iload_n 1, 1) := by decide +kernel
theorem dX1_endErrand_5 : decode cX1_endErrand 5 = .ok (.iconst 0, 1) := by decide +kernel
theorem dX1_endErrand_6 : decode cX1_endErrand 6 = .ok (.iastore, 1) := by decide +kernel
theorem dX1_endErrand_7 : decode cX1_endErrand 7 = .ok (.return_, 1) := by decide +kernel
theorem dX2_init_0 : decode cX2_init 0 = .ok (.aload_n 0, 1) := by decide +kernel
theorem dX2_init_1 : decode cX2_init 1 = .ok (.invokespecial 3, 3) := by decide +kernel
theorem dX2_init_4 : decode cX2_init 4 = .ok (.aload_n 0, 1) := by decide +kernel
theorem dX2_init_5 : decode cX2_init 5 = .ok (.sipush 168, 3) := by decide +kernel
theorem dX2_init_8 : decode cX2_init 8 = .ok (.newarray .int, 2) := by decide +kernel
theorem dX2_init_10 : decode cX2_init 10 = .ok (.putfield 11, 3) := by decide +kernel
theorem dX2_init_13 : decode cX2_init 13 = .ok (.aload_n 0, 1) := by decide +kernel
theorem dX2_init_14 : decode cX2_init 14 = .ok (.iconst 3, 1) := by decide +kernel
theorem dX2_init_15 : decode cX2_init 15 = .ok (.newarray .int, 2) := by decide +kernel
theorem dX2_init_17 : decode cX2_init 17 = .ok (.putfield 15, 3) := by decide +kernel
theorem dX2_init_20 : decode cX2_init 20 = .ok (.aload_n 0, 1) := by decide +kernel
theorem dX2_init_21 : decode cX2_init 21 = .ok (.aload_n 1, 1) := by decide +kernel
theorem dX2_init_22 : decode cX2_init 22 = .ok (.putfield 18, 3) := by decide +kernel
theorem dX2_init_25 : decode cX2_init 25 = .ok (.aload_n 0, 1) := by decide +kernel
theorem dX2_init_26 : decode cX2_init 26 = .ok (.invokevirtual 22, 3) := by decide +kernel
theorem dX2_init_29 : decode cX2_init 29 = .ok (.return_, 1) := by decide +kernel
theorem dX2_addTest_0 : decode cX2_addTest 0 = .ok (.aload_n 0, 1) := by decide +kernel
theorem dX2_addTest_1 : decode cX2_addTest 1 = .ok (.dup, 1) := by decide +kernel
theorem dX2_addTest_2 : decode cX2_addTest 2 = .ok (.getfield 25, 3) := by decide +kernel
theorem dX2_addTest_5 : decode cX2_addTest 5 = .ok (.iconst 1, 1) := by decide +kernel
theorem dX2_addTest_6 : decode cX2_addTest 6 = .ok (.iadd, 1) := by decide +kernel
theorem dX2_addTest_7 : decode cX2_addTest 7 = .ok (.putfield 25, 3) := by decide +kernel
theorem dX2_addTest_10 : decode cX2_addTest 10 = .ok (.iload_n 3, 1) := by decide +kernel
theorem dX2_addTest_11 : decode cX2_addTest 11 = .ok (.iconst (-1), 1) := by decide +kernel
theorem dX2_addTest_12 : decode cX2_addTest 12 = .ok (.if_icmp .eq 10, 3) := by decide +kernel
theorem dX2_addTest_15 : decode cX2_addTest 15 = .ok (.aload_n 0, 1) := by decide +kernel
theorem dX2_addTest_16 : decode cX2_addTest 16 = .ok (.iload_n 1, 1) := by decide +kernel
theorem dX2_addTest_17 : decode cX2_addTest 17 = .ok (.iload_n 2, 1) := by decide +kernel
theorem dX2_addTest_18 : decode cX2_addTest 18 = .ok (.iload_n 3, 1) := by decide +kernel
theorem dX2_addTest_19 : decode cX2_addTest 19 = .ok (.invokevirtual 29, 3) := by decide +kernel
theorem dX2_addTest_22 : decode cX2_addTest 22 = .ok (.aload_n 0, 1) := by decide +kernel
theorem dX2_addTest_23 : decode cX2_addTest 23 = .ok (.getfield 25, 3) := by decide +kernel
theorem dX2_addTest_26 : decode cX2_addTest 26 = .ok (.ireturn, 1) := by decide +kernel
theorem dX2_dropTests_0 : decode cX2_dropTests 0 = .ok (.aload_n 0, 1) := by decide +kernel
theorem dX2_dropTests_1 : decode cX2_dropTests 1 = .ok (.getfield 25, 3) := by decide +kernel
theorem dX2_dropTests_4 : decode cX2_dropTests 4 = .ok (.istore_n 1, 1) := by decide +kernel
theorem dX2_dropTests_5 : decode cX2_dropTests 5 = .ok (.aload_n 0, 1) := by decide +kernel
theorem dX2_dropTests_6 : decode cX2_dropTests 6 = .ok (.iconst 0, 1) := by decide +kernel
theorem dX2_dropTests_7 : decode cX2_dropTests 7 = .ok (.putfield 25, 3) := by decide +kernel
theorem dX2_dropTests_10 : decode cX2_dropTests 10 = .ok (.aload_n 0, 1) := by decide +kernel
theorem dX2_dropTests_11 : decode cX2_dropTests 11 = .ok (.invokevirtual 22, 3) := by decide +kernel
theorem dX2_dropTests_14 : decode cX2_dropTests 14 = .ok (.iload_n 1, 1) := by decide +kernel
theorem dX2_dropTests_15 : decode cX2_dropTests 15 = .ok (.ireturn, 1) := by decide +kernel
theorem dX2_testThatPartsMost_0 : decode cX2_testThatPartsMost 0 = .ok (.aload_n 0, 1) := by decide +kernel
theorem dX2_testThatPartsMost_1 : decode cX2_testThatPartsMost 1 = .ok (.getfield 33, 3) := by decide +kernel
theorem dX2_testThatPartsMost_4 : decode cX2_testThatPartsMost 4 = .ok (.iconst 2, 1) := by decide +kernel
theorem dX2_testThatPartsMost_5 : decode cX2_testThatPartsMost 5 = .ok (.if_icmp .ge 6, 3) := by decide +kernel
theorem dX2_testThatPartsMost_8 : decode cX2_testThatPartsMost 8 = .ok (.bipush (-4), 2) := by decide +kernel
theorem dX2_testThatPartsMost_10 : decode cX2_testThatPartsMost 10 = .ok (.ireturn, 1) := by decide +kernel
theorem dX2_testThatPartsMost_11 : decode cX2_testThatPartsMost 11 = .ok (.bipush (-4), 2) := by decide +kernel
theorem dX2_testThatPartsMost_13 : decode cX2_testThatPartsMost 13 = .ok (.istore_n 2, 1) := by decide +kernel
theorem dX2_testThatPartsMost_14 : decode cX2_testThatPartsMost 14 = .ok (.iconst 0, 1) := by decide +kernel
theorem dX2_testThatPartsMost_15 : decode cX2_testThatPartsMost 15 = .ok (.istore_n 3, 1) := by decide +kernel
theorem dX2_testThatPartsMost_16 : decode cX2_testThatPartsMost 16 = .ok (.iconst 0, 1) := by decide +kernel
theorem dX2_testThatPartsMost_17 : decode cX2_testThatPartsMost 17 = .ok (.istore 4, 2) := by decide +kernel
theorem dX2_testThatPartsMost_19 : decode cX2_testThatPartsMost 19 = .ok (.iload 4, 2) := by decide +kernel
theorem dX2_testThatPartsMost_21 : decode cX2_testThatPartsMost 21 = .ok (.aload_n 0, 1) := by decide +kernel
theorem dX2_testThatPartsMost_22 : decode cX2_testThatPartsMost 22 = .ok (.getfield 18, 3) := by decide +kernel
theorem dX2_testThatPartsMost_25 : decode cX2_testThatPartsMost 25 = .ok (.getfield 36, 3) := by decide +kernel
theorem dX2_testThatPartsMost_28 : decode cX2_testThatPartsMost 28 = .ok (.if_icmp .ge 36, 3) := by decide +kernel
theorem dX2_testThatPartsMost_31 : decode cX2_testThatPartsMost 31 = .ok (.aload_n 0, 1) := by decide +kernel
theorem dX2_testThatPartsMost_32 : decode cX2_testThatPartsMost 32 = .ok (.iload 4, 2) := by decide +kernel
theorem dX2_testThatPartsMost_34 : decode cX2_testThatPartsMost 34 = .ok (.iload_n 1, 1) := by decide +kernel
theorem dX2_testThatPartsMost_35 : decode cX2_testThatPartsMost 35 = .ok (.invokevirtual 39, 3) := by decide +kernel
theorem dX2_testThatPartsMost_38 : decode cX2_testThatPartsMost 38 = .ok (.istore 5, 2) := by decide +kernel
theorem dX2_testThatPartsMost_40 : decode cX2_testThatPartsMost 40 = .ok (.iload_n 2, 1) := by decide +kernel
theorem dX2_testThatPartsMost_41 : decode cX2_testThatPartsMost 41 = .ok (.bipush (-4), 2) := by decide +kernel
theorem dX2_testThatPartsMost_43 : decode cX2_testThatPartsMost 43 = .ok (.if_icmp .eq 9, 3) := by decide +kernel
theorem dX2_testThatPartsMost_46 : decode cX2_testThatPartsMost 46 = .ok (.iload 5, 2) := by decide +kernel
theorem dX2_testThatPartsMost_48 : decode cX2_testThatPartsMost 48 = .ok (.iload_n 3, 1) := by decide +kernel
theorem dX2_testThatPartsMost_49 : decode cX2_testThatPartsMost 49 = .ok (.if_icmp .ge 9, 3) := by decide +kernel
theorem dX2_testThatPartsMost_52 : decode cX2_testThatPartsMost 52 = .ok (.iload 4, 2) := by decide +kernel
theorem dX2_testThatPartsMost_54 : decode cX2_testThatPartsMost 54 = .ok (.istore_n 2, 1) := by decide +kernel
theorem dX2_testThatPartsMost_55 : decode cX2_testThatPartsMost 55 = .ok (.iload 5, 2) := by decide +kernel
theorem dX2_testThatPartsMost_57 : decode cX2_testThatPartsMost 57 = .ok (.istore_n 3, 1) := by decide +kernel
theorem dX2_testThatPartsMost_58 : decode cX2_testThatPartsMost 58 = .ok (.iinc 4 1, 3) := by decide +kernel
theorem dX2_testThatPartsMost_61 : decode cX2_testThatPartsMost 61 = .ok (.goto (-42), 3) := by decide +kernel
theorem dX2_testThatPartsMost_64 : decode cX2_testThatPartsMost 64 = .ok (.iload_n 2, 1) := by decide +kernel
theorem dX2_testThatPartsMost_65 : decode cX2_testThatPartsMost 65 = .ok (.ireturn, 1) := by decide +kernel
theorem dX2_takeAll_0 : decode cX2_takeAll 0 = .ok (.iconst 0, 1) := by decide +kernel
theorem dX2_takeAll_1 : decode cX2_takeAll 1 = .ok (.istore_n 1, 1) := by decide +kernel
theorem dX2_takeAll_2 : decode cX2_takeAll 2 = .ok (.iload_n 1, 1) := by decide +kernel
theorem dX2_takeAll_3 : decode cX2_takeAll 3 = .ok (.sipush 168, 3) := by decide +kernel
theorem dX2_takeAll_6 : decode cX2_takeAll 6 = .ok (.if_icmp .ge 16, 3) := by decide +kernel
theorem dX2_takeAll_9 : decode cX2_takeAll 9 = .ok (.aload_n 0, 1) := by decide +kernel
theorem dX2_takeAll_10 : decode cX2_takeAll 10 = .ok (.getfield 11, 3) := by decide +kernel
theorem dX2_takeAll_13 : decode cX2_takeAll 13 = .ok (.iload_n 1, 1) := by decide +kernel
theorem dX2_takeAll_14 : decode cX2_takeAll 14 = .ok (.iload_n 1, 1) := by decide +kernel
theorem dX2_takeAll_15 : decode cX2_takeAll 15 = .ok (.iastore, 1) := by decide +kernel
theorem dX2_takeAll_16 : decode cX2_takeAll 16 = .ok (.iinc 1 1, 3) := by decide +kernel
theorem dX2_takeAll_19 : decode cX2_takeAll 19 = .ok (.goto (-17), 3) := by decide +kernel
theorem dX2_takeAll_22 : decode cX2_takeAll 22 = .ok (.aload_n 0, 1) := by decide +kernel
theorem dX2_takeAll_23 : decode cX2_takeAll 23 = .ok (.sipush 168, 3) := by decide +kernel
theorem dX2_takeAll_26 : decode cX2_takeAll 26 = .ok (.putfield 33, 3) := by decide +kernel
theorem dX2_takeAll_29 : decode cX2_takeAll 29 = .ok (.return_, 1) := by decide +kernel
theorem dX2_keepThoseThatCome_0 : decode cX2_keepThoseThatCome 0 = .ok (.iconst 0, 1) := by decide +kernel
theorem dX2_keepThoseThatCome_1 : decode cX2_keepThoseThatCome 1 = .ok (.istore 4, 2) := by decide +kernel
theorem dX2_keepThoseThatCome_3 : decode cX2_keepThoseThatCome 3 = .ok (.iconst 0, 1) := by decide +kernel
theorem dX2_keepThoseThatCome_4 : decode cX2_keepThoseThatCome 4 = .ok (.istore 5, 2) := by decide +kernel
theorem dX2_keepThoseThatCome_6 : decode cX2_keepThoseThatCome 6 = .ok (.iload 5, 2) := by decide +kernel
theorem dX2_keepThoseThatCome_8 : decode cX2_keepThoseThatCome 8 = .ok (.aload_n 0, 1) := by decide +kernel
theorem dX2_keepThoseThatCome_9 : decode cX2_keepThoseThatCome 9 = .ok (.getfield 33, 3) := by decide +kernel
theorem dX2_keepThoseThatCome_12 : decode cX2_keepThoseThatCome 12 = .ok (.if_icmp .ge 43, 3) := by decide +kernel
theorem dX2_keepThoseThatCome_15 : decode cX2_keepThoseThatCome 15 = .ok (.aload_n 0, 1) := by decide +kernel
theorem dX2_keepThoseThatCome_16 : decode cX2_keepThoseThatCome 16 = .ok (.aload_n 0, 1) := by decide +kernel
theorem dX2_keepThoseThatCome_17 : decode cX2_keepThoseThatCome 17 = .ok (.getfield 11, 3) := by decide +kernel
theorem dX2_keepThoseThatCome_20 : decode cX2_keepThoseThatCome 20 = .ok (.iload 5, 2) := by decide +kernel
theorem dX2_keepThoseThatCome_22 : decode cX2_keepThoseThatCome 22 = .ok (.iaload, 1) := by decide +kernel
theorem dX2_keepThoseThatCome_23 : decode cX2_keepThoseThatCome 23 = .ok (.iload_n 1, 1) := by decide +kernel
theorem dX2_keepThoseThatCome_24 : decode cX2_keepThoseThatCome 24 = .ok (.iload_n 2, 1) := by decide +kernel
theorem dX2_keepThoseThatCome_25 : decode cX2_keepThoseThatCome 25 = .ok (.invokevirtual 43, 3) := by decide +kernel
theorem dX2_keepThoseThatCome_28 : decode cX2_keepThoseThatCome 28 = .ok (.iload_n 3, 1) := by decide +kernel
theorem dX2_keepThoseThatCome_29 : decode cX2_keepThoseThatCome 29 = .ok (.if_icmp .ne 20, 3) := by decide +kernel
theorem dX2_keepThoseThatCome_32 : decode cX2_keepThoseThatCome 32 = .ok (.aload_n 0, 1) := by decide +kernel
theorem dX2_keepThoseThatCome_33 : decode cX2_keepThoseThatCome 33 = .ok (.getfield 11, 3) := by decide +kernel
theorem dX2_keepThoseThatCome_36 : decode cX2_keepThoseThatCome 36 = .ok (.iload 4, 2) := by decide +kernel
theorem dX2_keepThoseThatCome_38 : decode cX2_keepThoseThatCome 38 = .ok (.aload_n 0, 1) := by decide +kernel
theorem dX2_keepThoseThatCome_39 : decode cX2_keepThoseThatCome 39 = .ok (.getfield 11, 3) := by decide +kernel
theorem dX2_keepThoseThatCome_42 : decode cX2_keepThoseThatCome 42 = .ok (.iload 5, 2) := by decide +kernel
theorem dX2_keepThoseThatCome_44 : decode cX2_keepThoseThatCome 44 = .ok (.iaload, 1) := by decide +kernel
theorem dX2_keepThoseThatCome_45 : decode cX2_keepThoseThatCome 45 = .ok (.iastore, 1) := by decide +kernel
theorem dX2_keepThoseThatCome_46 : decode cX2_keepThoseThatCome 46 = .ok (.iinc 4 1, 3) := by decide +kernel
theorem dX2_keepThoseThatCome_49 : decode cX2_keepThoseThatCome 49 = .ok (.iinc 5 1, 3) := by decide +kernel
theorem dX2_keepThoseThatCome_52 : decode cX2_keepThoseThatCome 52 = .ok (.goto (-46), 3) := by decide +kernel
theorem dX2_keepThoseThatCome_55 : decode cX2_keepThoseThatCome 55 = .ok (.aload_n 0, 1) := by decide +kernel
theorem dX2_keepThoseThatCome_56 : decode cX2_keepThoseThatCome 56 = .ok (.iload 4, 2) := by decide +kernel
theorem dX2_keepThoseThatCome_58 : decode cX2_keepThoseThatCome 58 = .ok (.putfield 33, 3) := by decide +kernel
theorem dX2_keepThoseThatCome_61 : decode cX2_keepThoseThatCome 61 = .ok (.return_, 1) := by decide +kernel
theorem dX2_mostAlike_0 : decode cX2_mostAlike 0 = .ok (.aload_n 0, 1) := by decide +kernel
theorem dX2_mostAlike_1 : decode cX2_mostAlike 1 = .ok (.getfield 15, 3) := by decide +kernel
theorem dX2_mostAlike_4 : decode cX2_mostAlike 4 = .ok (.iconst 0, 1) := by decide +kernel
theorem dX2_mostAlike_5 : decode cX2_mostAlike 5 = .ok (.iconst 0, 1) := by decide +kernel
theorem dX2_mostAlike_6 : decode cX2_mostAlike 6 = .ok (.iastore, 1) := by decide +kernel
theorem dX2_mostAlike_7 : decode cX2_mostAlike 7 = .ok (.aload_n 0, 1) := by decide +kernel
theorem dX2_mostAlike_8 : decode cX2_mostAlike 8 = .ok (.getfield 15, 3) := by decide +kernel
theorem dX2_mostAlike_11 : decode cX2_mostAlike 11 = .ok (.iconst 1, 1) := by decide +kernel
theorem dX2_mostAlike_12 : decode cX2_mostAlike 12 = .ok (.iconst 0, 1) := by decide +kernel
theorem dX2_mostAlike_13 : decode cX2_mostAlike 13 = .ok (.iastore, 1) := by decide +kernel
theorem dX2_mostAlike_14 : decode cX2_mostAlike 14 = .ok (.aload_n 0, 1) := by decide +kernel
theorem dX2_mostAlike_15 : decode cX2_mostAlike 15 = .ok (.getfield 15, 3) := by decide +kernel
theorem dX2_mostAlike_18 : decode cX2_mostAlike 18 = .ok (.iconst 2, 1) := by decide +kernel
theorem dX2_mostAlike_19 : decode cX2_mostAlike 19 = .ok (.iconst 0, 1) := by decide +kernel
theorem dX2_mostAlike_20 : decode cX2_mostAlike 20 = .ok (.iastore, 1) := by decide +kernel
theorem dX2_mostAlike_21 : decode cX2_mostAlike 21 = .ok (.iconst 0, 1) := by decide +kernel
theorem dX2_mostAlike_22 : decode cX2_mostAlike 22 = .ok (.istore_n 3, 1) := by decide +kernel
theorem dX2_mostAlike_23 : decode cX2_mostAlike 23 = .ok (.iload_n 3, 1) := by decide +kernel
theorem dX2_mostAlike_24 : decode cX2_mostAlike 24 = .ok (.aload_n 0, 1) := by decide +kernel
theorem dX2_mostAlike_25 : decode cX2_mostAlike 25 = .ok (.getfield 33, 3) := by decide +kernel
theorem dX2_mostAlike_28 : decode cX2_mostAlike 28 = .ok (.if_icmp .ge 30, 3) := by decide +kernel
theorem dX2_mostAlike_31 : decode cX2_mostAlike 31 = .ok (.aload_n 0, 1) := by decide +kernel
theorem dX2_mostAlike_32 : decode cX2_mostAlike 32 = .ok (.getfield 15, 3) := by decide +kernel
theorem dX2_mostAlike_35 : decode cX2_mostAlike 35 = .ok (.aload_n 0, 1) := by decide +kernel
theorem dX2_mostAlike_36 : decode cX2_mostAlike 36 = .ok (.aload_n 0, 1) := by decide +kernel
theorem dX2_mostAlike_37 : decode cX2_mostAlike 37 = .ok (.getfield 11, 3) := by decide +kernel
theorem dX2_mostAlike_40 : decode cX2_mostAlike 40 = .ok (.iload_n 3, 1) := by decide +kernel
theorem dX2_mostAlike_41 : decode cX2_mostAlike 41 = .ok (.iaload, 1) := by decide +kernel
theorem dX2_mostAlike_42 : decode cX2_mostAlike 42 = .ok (.iload_n 1, 1) := by decide +kernel
theorem dX2_mostAlike_43 : decode cX2_mostAlike 43 = .ok (.iload_n 2, 1) := by decide +kernel
theorem dX2_mostAlike_44 : decode cX2_mostAlike 44 = .ok (.invokevirtual 43, 3) := by decide +kernel
theorem dX2_mostAlike_47 : decode cX2_mostAlike 47 = .ok (.dup2, 1) := by decide +kernel
theorem dX2_mostAlike_48 : decode cX2_mostAlike 48 = .ok (.iaload, 1) := by decide +kernel
theorem dX2_mostAlike_49 : decode cX2_mostAlike 49 = .ok (.iconst 1, 1) := by decide +kernel
theorem dX2_mostAlike_50 : decode cX2_mostAlike 50 = .ok (.iadd, 1) := by decide +kernel
theorem dX2_mostAlike_51 : decode cX2_mostAlike 51 = .ok (.iastore, 1) := by decide +kernel
theorem dX2_mostAlike_52 : decode cX2_mostAlike 52 = .ok (.iinc 3 1, 3) := by decide +kernel
theorem dX2_mostAlike_55 : decode cX2_mostAlike 55 = .ok (.goto (-32), 3) := by decide +kernel
theorem dX2_mostAlike_58 : decode cX2_mostAlike 58 = .ok (.aload_n 0, 1) := by decide +kernel
theorem dX2_mostAlike_59 : decode cX2_mostAlike 59 = .ok (.getfield 15, 3) := by decide +kernel
theorem dX2_mostAlike_62 : decode cX2_mostAlike 62 = .ok (.iconst 0, 1) := by decide +kernel
theorem dX2_mostAlike_63 : decode cX2_mostAlike 63 = .ok (.iaload, 1) := by decide +kernel
theorem dX2_mostAlike_64 : decode cX2_mostAlike 64 = .ok (.aload_n 0, 1) := by decide +kernel
theorem dX2_mostAlike_65 : decode cX2_mostAlike 65 = .ok (.getfield 15, 3) := by decide +kernel
theorem dX2_mostAlike_68 : decode cX2_mostAlike 68 = .ok (.iconst 1, 1) := by decide +kernel
theorem dX2_mostAlike_69 : decode cX2_mostAlike 69 = .ok (.iaload, 1) := by decide +kernel
theorem dX2_mostAlike_70 : decode cX2_mostAlike 70 = .ok (.aload_n 0, 1) := by decide +kernel
theorem dX2_mostAlike_71 : decode cX2_mostAlike 71 = .ok (.getfield 15, 3) := by decide +kernel
theorem dX2_mostAlike_74 : decode cX2_mostAlike 74 = .ok (.iconst 2, 1) := by decide +kernel
theorem dX2_mostAlike_75 : decode cX2_mostAlike 75 = .ok (.iaload, 1) := by decide +kernel
theorem dX2_mostAlike_76 : decode cX2_mostAlike 76 = .ok (.invokestatic 47, 3) := by decide +kernel
theorem dX2_mostAlike_79 : decode cX2_mostAlike 79 = .ok (.invokestatic 47, 3) := by decide +kernel
theorem dX2_mostAlike_82 : decode cX2_mostAlike 82 = .ok (.ireturn, 1) := by decide +kernel
theorem dX2_outcomeWith_0 : decode cX2_outcomeWith 0 = .ok (.aload_n 0, 1) := by decide +kernel
theorem dX2_outcomeWith_1 : decode cX2_outcomeWith 1 = .ok (.getfield 18, 3) := by decide +kernel
theorem dX2_outcomeWith_4 : decode cX2_outcomeWith 4 = .ok (.iload_n 2, 1) := by decide +kernel
theorem dX2_outcomeWith_5 : decode cX2_outcomeWith 5 = .ok (.iload_n 3, 1) := by decide +kernel
theorem dX2_outcomeWith_6 : decode cX2_outcomeWith 6 = .ok (.invokevirtual 52, 3) := by decide +kernel
theorem dX2_outcomeWith_9 : decode cX2_outcomeWith 9 = .ok (.istore 4, 2) := by decide +kernel
theorem dX2_outcomeWith_11 : decode cX2_outcomeWith 11 = .ok (.aload_n 0, 1) := by decide +kernel
theorem dX2_outcomeWith_12 : decode cX2_outcomeWith 12 = .ok (.getfield 18, 3) := by decide +kernel
theorem dX2_outcomeWith_15 : decode cX2_outcomeWith 15 = .ok (.getfield 55, 3) := by decide +kernel
theorem dX2_outcomeWith_18 : decode cX2_outcomeWith 18 = .ok (.iload_n 2, 1) := by decide +kernel
theorem dX2_outcomeWith_19 : decode cX2_outcomeWith 19 = .ok (.iaload, 1) := by decide +kernel
theorem dX2_outcomeWith_20 : decode cX2_outcomeWith 20 = .ok (.istore 5, 2) := by decide +kernel
theorem dX2_outcomeWith_22 : decode cX2_outcomeWith 22 = .ok (.iload_n 1, 1) := by decide +kernel
theorem dX2_outcomeWith_23 : decode cX2_outcomeWith 23 = .ok (.bipush 16, 2) := by decide +kernel
theorem dX2_outcomeWith_25 : decode cX2_outcomeWith 25 = .ok (.if_icmp .ge 23, 3) := by decide +kernel
theorem dX2_outcomeWith_28 : decode cX2_outcomeWith 28 = .ok (.iload 5, 2) := by decide +kernel
theorem dX2_outcomeWith_30 : decode cX2_outcomeWith 30 = .ok (.iload_n 1, 1) := by decide +kernel
theorem dX2_outcomeWith_31 : decode cX2_outcomeWith 31 = .ok (.ishr, 1) := by decide +kernel
theorem dX2_outcomeWith_32 : decode cX2_outcomeWith 32 = .ok (.iconst 1, 1) := by decide +kernel
theorem dX2_outcomeWith_33 : decode cX2_outcomeWith 33 = .ok (.iand, 1) := by decide +kernel
theorem dX2_outcomeWith_34 : decode cX2_outcomeWith 34 = .ok (.ifCond .eq 7, 3) := by decide +kernel
theorem dX2_outcomeWith_37 : decode cX2_outcomeWith 37 = .ok (.iconst 0, 1) := by decide +kernel
theorem dX2_outcomeWith_38 : decode cX2_outcomeWith 38 = .ok (.goto 5, 3) := by decide +kernel
theorem dX2_outcomeWith_41 : decode cX2_outcomeWith 41 = .ok (.iload 4, 2) := by decide +kernel
theorem dX2_outcomeWith_43 : decode cX2_outcomeWith 43 = .ok (.istore 4, 2) := by decide +kernel
theorem dX2_outcomeWith_45 : decode cX2_outcomeWith 45 = .ok (.goto 74, 3) := by decide +kernel
theorem dX2_outcomeWith_48 : decode cX2_outcomeWith 48 = .ok (.iload_n 1, 1) := by decide +kernel
theorem dX2_outcomeWith_49 : decode cX2_outcomeWith 49 = .ok (.sipush 160, 3) := by decide +kernel
theorem dX2_outcomeWith_52 : decode cX2_outcomeWith 52 = .ok (.if_icmp .ge 48, 3) := by decide +kernel
theorem dX2_outcomeWith_55 : decode cX2_outcomeWith 55 = .ok (.iload_n 1, 1) := by decide +kernel
theorem dX2_outcomeWith_56 : decode cX2_outcomeWith 56 = .ok (.bipush 16, 2) := by decide +kernel
theorem dX2_outcomeWith_58 : decode cX2_outcomeWith 58 = .ok (.isub, 1) := by decide +kernel
theorem dX2_outcomeWith_59 : decode cX2_outcomeWith 59 = .ok (.bipush 9, 2) := by decide +kernel
theorem dX2_outcomeWith_61 : decode cX2_outcomeWith 61 = .ok (.idiv, 1) := by decide +kernel
theorem dX2_outcomeWith_62 : decode cX2_outcomeWith 62 = .ok (.istore 6, 2) := by decide +kernel
theorem dX2_outcomeWith_64 : decode cX2_outcomeWith 64 = .ok (.iload_n 1, 1) := by decide +kernel
theorem dX2_outcomeWith_65 : decode cX2_outcomeWith 65 = .ok (.bipush 16, 2) := by decide +kernel
theorem dX2_outcomeWith_67 : decode cX2_outcomeWith 67 = .ok (.isub, 1) := by decide +kernel
theorem dX2_outcomeWith_68 : decode cX2_outcomeWith 68 = .ok (.bipush 9, 2) := by decide +kernel
theorem dX2_outcomeWith_70 : decode cX2_outcomeWith 70 = .ok (.irem, 1) := by decide +kernel
theorem dX2_outcomeWith_71 : decode cX2_outcomeWith 71 = .ok (.iconst 1, 1) := by decide +kernel
theorem dX2_outcomeWith_72 : decode cX2_outcomeWith 72 = .ok (.iadd, 1) := by decide +kernel
theorem dX2_outcomeWith_73 : decode cX2_outcomeWith 73 = .ok (.istore 7, 2) := by decide +kernel
theorem dX2_outcomeWith_75 : decode cX2_outcomeWith 75 = .ok (.iload 5, 2) := by decide +kernel
theorem dX2_outcomeWith_77 : decode cX2_outcomeWith 77 = .ok (.iload 6, 2) := by decide +kernel
theorem dX2_outcomeWith_79 : decode cX2_outcomeWith 79 = .ok (.ishr, 1) := by decide +kernel
theorem dX2_outcomeWith_80 : decode cX2_outcomeWith 80 = .ok (.iconst 1, 1) := by decide +kernel
theorem dX2_outcomeWith_81 : decode cX2_outcomeWith 81 = .ok (.iand, 1) := by decide +kernel
theorem dX2_outcomeWith_82 : decode cX2_outcomeWith 82 = .ok (.ifCond .eq 11, 3) := by decide +kernel
theorem dX2_outcomeWith_85 : decode cX2_outcomeWith 85 = .ok (.iload 4, 2) := by decide +kernel
theorem dX2_outcomeWith_87 : decode cX2_outcomeWith 87 = .ok (.iload 7, 2) := by decide +kernel
theorem dX2_outcomeWith_89 : decode cX2_outcomeWith 89 = .ok (.isub, 1) := by decide +kernel
theorem dX2_outcomeWith_90 : decode cX2_outcomeWith 90 = .ok (.goto 5, 3) := by decide +kernel
theorem dX2_outcomeWith_93 : decode cX2_outcomeWith 93 = .ok (.iload 4, 2) := by decide +kernel
theorem dX2_outcomeWith_95 : decode cX2_outcomeWith 95 = .ok (.istore 4, 2) := by decide +kernel
theorem dX2_outcomeWith_97 : decode cX2_outcomeWith 97 = .ok (.goto 22, 3) := by decide +kernel
theorem dX2_outcomeWith_100 : decode cX2_outcomeWith 100 = .ok (.aload_n 0, 1) := by decide +kernel
theorem dX2_outcomeWith_101 : decode cX2_outcomeWith 101 = .ok (.getfield 18, 3) := by decide +kernel
theorem dX2_outcomeWith_104 : decode cX2_outcomeWith 104 = .ok (.getfield 58, 3) := by decide +kernel
theorem dX2_outcomeWith_107 : decode cX2_outcomeWith 107 = .ok (.iload_n 2, 1) := by decide +kernel
theorem dX2_outcomeWith_108 : decode cX2_outcomeWith 108 = .ok (.iaload, 1) := by decide +kernel
theorem dX2_outcomeWith_109 : decode cX2_outcomeWith 109 = .ok (.iload_n 1, 1) := by decide +kernel
theorem dX2_outcomeWith_110 : decode cX2_outcomeWith 110 = .ok (.sipush 160, 3) := by decide +kernel
theorem dX2_outcomeWith_113 : decode cX2_outcomeWith 113 = .ok (.isub, 1) := by decide +kernel
theorem dX2_outcomeWith_114 : decode cX2_outcomeWith 114 = .ok (.if_icmp .ne 5, 3) := by decide +kernel
theorem dX2_outcomeWith_117 : decode cX2_outcomeWith 117 = .ok (.iconst 0, 1) := by decide +kernel
theorem dX2_outcomeWith_118 : decode cX2_outcomeWith 118 = .ok (.ireturn, 1) := by decide +kernel
theorem dX2_outcomeWith_119 : decode cX2_outcomeWith 119 = .ok (.iload 4, 2) := by decide +kernel
theorem dX2_outcomeWith_121 : decode cX2_outcomeWith 121 = .ok (.bipush 6, 2) := by decide +kernel
theorem dX2_outcomeWith_123 : decode cX2_outcomeWith 123 = .ok (.if_icmp .lt 5, 3) := by decide +kernel
theorem dX2_outcomeWith_126 : decode cX2_outcomeWith 126 = .ok (.iconst 2, 1) := by decide +kernel
theorem dX2_outcomeWith_127 : decode cX2_outcomeWith 127 = .ok (.ireturn, 1) := by decide +kernel
theorem dX2_outcomeWith_128 : decode cX2_outcomeWith 128 = .ok (.iload 4, 2) := by decide +kernel
theorem dX2_outcomeWith_130 : decode cX2_outcomeWith 130 = .ok (.ifCond .le 7, 3) := by decide +kernel
theorem dX2_outcomeWith_133 : decode cX2_outcomeWith 133 = .ok (.iconst 1, 1) := by decide +kernel
theorem dX2_outcomeWith_134 : decode cX2_outcomeWith 134 = .ok (.goto 4, 3) := by decide +kernel
theorem dX2_outcomeWith_137 : decode cX2_outcomeWith 137 = .ok (.iconst 0, 1) := by decide +kernel
theorem dX2_outcomeWith_138 : decode cX2_outcomeWith 138 = .ok (.ireturn, 1) := by decide +kernel
theorem dX3_init_0 : decode cX3_init 0 = .ok (.aload_n 0, 1) := by decide +kernel
theorem dX3_init_1 : decode cX3_init 1 = .ok (.invokespecial 3, 3) := by decide +kernel
theorem dX3_init_4 : decode cX3_init 4 = .ok (.aload_n 0, 1) := by decide +kernel
theorem dX3_init_5 : decode cX3_init 5 = .ok (.bipush 24, 2) := by decide +kernel
theorem dX3_init_7 : decode cX3_init 7 = .ok (.newarray .int, 2) := by decide +kernel
theorem dX3_init_9 : decode cX3_init 9 = .ok (.putfield 9, 3) := by decide +kernel
theorem dX3_init_12 : decode cX3_init 12 = .ok (.aload_n 0, 1) := by decide +kernel
theorem dX3_init_13 : decode cX3_init 13 = .ok (.bipush 24, 2) := by decide +kernel
theorem dX3_init_15 : decode cX3_init 15 = .ok (.newarray .int, 2) := by decide +kernel
theorem dX3_init_17 : decode cX3_init 17 = .ok (.putfield 15, 3) := by decide +kernel
theorem dX3_init_20 : decode cX3_init 20 = .ok (.aload_n 0, 1) := by decide +kernel
theorem dX3_init_21 : decode cX3_init 21 = .ok (.iconst 5, 1) := by decide +kernel
theorem dX3_init_22 : decode cX3_init 22 = .ok (.newarray .int, 2) := by decide +kernel
theorem dX3_init_24 : decode cX3_init 24 = .ok (.putfield 18, 3) := by decide +kernel
theorem dX3_init_27 : decode cX3_init 27 = .ok (.aload_n 0, 1) := by decide +kernel
theorem dX3_init_28 : decode cX3_init 28 = .ok (.sipush 384, 3) := by decide +kernel
theorem dX3_init_31 : decode cX3_init 31 = .ok (.newarray .int, 2) := by decide +kernel
theorem dX3_init_33 : decode cX3_init 33 = .ok (.putfield 21, 3) := by decide +kernel
theorem dX3_init_36 : decode cX3_init 36 = .ok (.return_, 1) := by decide +kernel
theorem dX3_areSideBySide_0 : decode cX3_areSideBySide 0 = .ok (.iload_n 1, 1) := by decide +kernel
theorem dX3_areSideBySide_1 : decode cX3_areSideBySide 1 = .ok (.iload_n 2, 1) := by decide +kernel
theorem dX3_areSideBySide_2 : decode cX3_areSideBySide 2 = .ok (.invokestatic 24, 3) := by decide +kernel
theorem dX3_areSideBySide_5 : decode cX3_areSideBySide 5 = .ok (.istore_n 3, 1) := by decide +kernel
theorem dX3_areSideBySide_6 : decode cX3_areSideBySide 6 = .ok (.iload_n 1, 1) := by decide +kernel
theorem dX3_areSideBySide_7 : decode cX3_areSideBySide 7 = .ok (.iload_n 2, 1) := by decide +kernel
theorem dX3_areSideBySide_8 : decode cX3_areSideBySide 8 = .ok (.invokestatic 30, 3) := by decide +kernel
theorem dX3_areSideBySide_11 : decode cX3_areSideBySide 11 = .ok (.istore 4, 2) := by decide +kernel
theorem dX3_areSideBySide_13 : decode cX3_areSideBySide 13 = .ok (.iload 4, 2) := by decide +kernel
theorem dX3_areSideBySide_15 : decode cX3_areSideBySide 15 = .ok (.iload_n 3, 1) := by decide +kernel
theorem dX3_areSideBySide_16 : decode cX3_areSideBySide 16 = .ok (.isub, 1) := by decide +kernel
theorem dX3_areSideBySide_17 : decode cX3_areSideBySide 17 = .ok (.bipush 6, 2) := by decide +kernel
theorem dX3_areSideBySide_19 : decode cX3_areSideBySide 19 = .ok (.if_icmp .eq 13, 3) := by decide +kernel
theorem dX3_areSideBySide_22 : decode cX3_areSideBySide 22 = .ok (.aload_n 0, 1) := by decide +kernel
theorem dX3_areSideBySide_23 : decode cX3_areSideBySide 23 = .ok (.iload_n 3, 1) := by decide +kernel
theorem dX3_areSideBySide_24 : decode cX3_areSideBySide 24 = .ok (.iload 4, 2) := by decide +kernel
theorem dX3_areSideBySide_26 : decode cX3_areSideBySide 26 = .ok (.invokevirtual 33, 3) := by decide +kernel
theorem dX3_areSideBySide_29 : decode cX3_areSideBySide 29 = .ok (.ifCond .eq 7, 3) := by decide +kernel
theorem dX3_areSideBySide_32 : decode cX3_areSideBySide 32 = .ok (.iconst 1, 1) := by decide +kernel
theorem dX3_areSideBySide_33 : decode cX3_areSideBySide 33 = .ok (.goto 4, 3) := by decide +kernel
theorem dX3_areSideBySide_36 : decode cX3_areSideBySide 36 = .ok (.iconst 0, 1) := by decide +kernel
theorem dX3_areSideBySide_37 : decode cX3_areSideBySide 37 = .ok (.ireturn, 1) := by decide +kernel
theorem dX3_setBetween_0 : decode cX3_setBetween 0 = .ok (.iload_n 1, 1) := by decide +kernel
theorem dX3_setBetween_1 : decode cX3_setBetween 1 = .ok (.iload_n 2, 1) := by decide +kernel
theorem dX3_setBetween_2 : decode cX3_setBetween 2 = .ok (.invokestatic 24, 3) := by decide +kernel
theorem dX3_setBetween_5 : decode cX3_setBetween 5 = .ok (.istore 4, 2) := by decide +kernel
theorem dX3_setBetween_7 : decode cX3_setBetween 7 = .ok (.aload_n 0, 1) := by decide +kernel
theorem dX3_setBetween_8 : decode cX3_setBetween 8 = .ok (.iload 4, 2) := by decide +kernel
theorem dX3_setBetween_10 : decode cX3_setBetween 10 = .ok (.iload_n 1, 1) := by decide +kernel
theorem dX3_setBetween_11 : decode cX3_setBetween 11 = .ok (.iload_n 2, 1) := by decide +kernel
theorem dX3_setBetween_12 : decode cX3_setBetween 12 = .ok (.invokestatic 30, 3) := by decide +kernel
theorem dX3_setBetween_15 : decode cX3_setBetween 15 = .ok (.invokevirtual 33, 3) := by decide +kernel
theorem dX3_setBetween_18 : decode cX3_setBetween 18 = .ok (.ifCond .eq 10, 3) := by decide +kernel
theorem dX3_setBetween_21 : decode cX3_setBetween 21 = .ok (.aload_n 0, 1) := by decide +kernel
theorem dX3_setBetween_22 : decode cX3_setBetween 22 = .ok (.getfield 9, 3) := by decide +kernel
theorem dX3_setBetween_25 : decode cX3_setBetween 25 = .ok (.goto 7, 3) := by decide +kernel
theorem dX3_setBetween_28 : decode cX3_setBetween 28 = .ok (.aload_n 0, 1) := by decide +kernel
theorem dX3_setBetween_29 : decode cX3_setBetween 29 = .ok (.getfield 15, 3) := by decide +kernel
theorem dX3_setBetween_32 : decode cX3_setBetween 32 = .ok (.astore 5, 2) := by decide +kernel
theorem dX3_setBetween_34 : decode cX3_setBetween 34 = .ok (.aload 5, 2) := by decide +kernel
theorem dX3_setBetween_36 : decode cX3_setBetween 36 = .ok (.iload 4, 2) := by decide +kernel
theorem dX3_setBetween_38 : decode cX3_setBetween 38 = .ok (.iaload, 1) := by decide +kernel
theorem dX3_setBetween_39 : decode cX3_setBetween 39 = .ok (.istore 6, 2) := by decide +kernel
theorem dX3_setBetween_41 : decode cX3_setBetween 41 = .ok (.aload 5, 2) := by decide +kernel
theorem dX3_setBetween_43 : decode cX3_setBetween 43 = .ok (.iload 4, 2) := by decide +kernel
theorem dX3_setBetween_45 : decode cX3_setBetween 45 = .ok (.iload_n 3, 1) := by decide +kernel
theorem dX3_setBetween_46 : decode cX3_setBetween 46 = .ok (.iastore, 1) := by decide +kernel
theorem dX3_setBetween_47 : decode cX3_setBetween 47 = .ok (.iload 6, 2) := by decide +kernel
theorem dX3_setBetween_49 : decode cX3_setBetween 49 = .ok (.ireturn, 1) := by decide +kernel
theorem dX3_countWires_0 : decode cX3_countWires 0 = .ok (.iconst 0, 1) := by decide +kernel
theorem dX3_countWires_1 : decode cX3_countWires 1 = .ok (.istore_n 1, 1) := by decide +kernel
theorem dX3_countWires_2 : decode cX3_countWires 2 = .ok (.iconst 0, 1) := by decide +kernel
theorem dX3_countWires_3 : decode cX3_countWires 3 = .ok (.istore_n 2, 1) := by decide +kernel
theorem dX3_countWires_4 : decode cX3_countWires 4 = .ok (.iload_n 2, 1) := by decide +kernel
theorem dX3_countWires_5 : decode cX3_countWires 5 = .ok (.bipush 24, 2) := by decide +kernel
theorem dX3_countWires_7 : decode cX3_countWires 7 = .ok (.if_icmp .ge 35, 3) := by decide +kernel
theorem dX3_countWires_10 : decode cX3_countWires 10 = .ok (.aload_n 0, 1) := by decide +kernel
theorem dX3_countWires_11 : decode cX3_countWires 11 = .ok (.getfield 9, 3) := by decide +kernel
theorem dX3_countWires_14 : decode cX3_countWires 14 = .ok (.iload_n 2, 1) := by decide +kernel
theorem dX3_countWires_15 : decode cX3_countWires 15 = .ok (.iaload, 1) := by decide +kernel
theorem dX3_countWires_16 : decode cX3_countWires 16 = .ok (.iconst 2, 1) := by decide +kernel
theorem dX3_countWires_17 : decode cX3_countWires 17 = .ok (.if_icmp .ne 6, 3) := by decide +kernel
theorem dX3_countWires_20 : decode cX3_countWires 20 = .ok (.iinc 1 1, 3) := by decide +kernel
theorem dX3_countWires_23 : decode cX3_countWires 23 = .ok (.aload_n 0, 1) := by decide +kernel
theorem dX3_countWires_24 : decode cX3_countWires 24 = .ok (.getfield 15, 3) := by decide +kernel
theorem dX3_countWires_27 : decode cX3_countWires 27 = .ok (.iload_n 2, 1) := by decide +kernel
theorem dX3_countWires_28 : decode cX3_countWires 28 = .ok (.iaload, 1) := by decide +kernel
theorem dX3_countWires_29 : decode cX3_countWires 29 = .ok (.iconst 2, 1) := by decide +kernel
theorem dX3_countWires_30 : decode cX3_countWires 30 = .ok (.if_icmp .ne 6, 3) := by decide +kernel
theorem dX3_countWires_33 : decode cX3_countWires 33 = .ok (.iinc 1 1, 3) := by decide +kernel
theorem dX3_countWires_36 : decode cX3_countWires 36 = .ok (.iinc 2 1, 3) := by decide +kernel
theorem dX3_countWires_39 : decode cX3_countWires 39 = .ok (.goto (-35), 3) := by decide +kernel
theorem dX3_countWires_42 : decode cX3_countWires 42 = .ok (.iload_n 1, 1) := by decide +kernel
theorem dX3_countWires_43 : decode cX3_countWires 43 = .ok (.ireturn, 1) := by decide +kernel
theorem dX3_fewestNew_0 : decode cX3_fewestNew 0 = .ok (.aload_n 0, 1) := by decide +kernel
theorem dX3_fewestNew_1 : decode cX3_fewestNew 1 = .ok (.iload_n 1, 1) := by decide +kernel
theorem dX3_fewestNew_2 : decode cX3_fewestNew 2 = .ok (.invokevirtual 37, 3) := by decide +kernel
theorem dX3_fewestNew_5 : decode cX3_fewestNew 5 = .ok (.iconst 1, 1) := by decide +kernel
theorem dX3_fewestNew_6 : decode cX3_fewestNew 6 = .ok (.isub, 1) := by decide +kernel
theorem dX3_fewestNew_7 : decode cX3_fewestNew 7 = .ok (.istore_n 2, 1) := by decide +kernel
theorem dX3_fewestNew_8 : decode cX3_fewestNew 8 = .ok (.iload_n 2, 1) := by decide +kernel
theorem dX3_fewestNew_9 : decode cX3_fewestNew 9 = .ok (.iconst 1, 1) := by decide +kernel
theorem dX3_fewestNew_10 : decode cX3_fewestNew 10 = .ok (.if_icmp .ge 5, 3) := by decide +kernel
theorem dX3_fewestNew_13 : decode cX3_fewestNew 13 = .ok (.iconst 0, 1) := by decide +kernel
theorem dX3_fewestNew_14 : decode cX3_fewestNew 14 = .ok (.ireturn, 1) := by decide +kernel
theorem dX3_fewestNew_15 : decode cX3_fewestNew 15 = .ok (.iconst 1, 1) := by decide +kernel
theorem dX3_fewestNew_16 : decode cX3_fewestNew 16 = .ok (.iload_n 2, 1) := by decide +kernel
theorem dX3_fewestNew_17 : decode cX3_fewestNew 17 = .ok (.ishl, 1) := by decide +kernel
theorem dX3_fewestNew_18 : decode cX3_fewestNew 18 = .ok (.iconst 1, 1) := by decide +kernel
theorem dX3_fewestNew_19 : decode cX3_fewestNew 19 = .ok (.isub, 1) := by decide +kernel
theorem dX3_fewestNew_20 : decode cX3_fewestNew 20 = .ok (.istore_n 3, 1) := by decide +kernel
theorem dX3_fewestNew_21 : decode cX3_fewestNew 21 = .ok (.iconst 1, 1) := by decide +kernel
theorem dX3_fewestNew_22 : decode cX3_fewestNew 22 = .ok (.istore 4, 2) := by decide +kernel
theorem dX3_fewestNew_24 : decode cX3_fewestNew 24 = .ok (.iload 4, 2) := by decide +kernel
theorem dX3_fewestNew_26 : decode cX3_fewestNew 26 = .ok (.iload_n 3, 1) := by decide +kernel
theorem dX3_fewestNew_27 : decode cX3_fewestNew 27 = .ok (.if_icmp .gt 31, 3) := by decide +kernel
theorem dX3_fewestNew_30 : decode cX3_fewestNew 30 = .ok (.aload_n 0, 1) := by decide +kernel
theorem dX3_fewestNew_31 : decode cX3_fewestNew 31 = .ok (.iload 4, 2) := by decide +kernel
theorem dX3_fewestNew_33 : decode cX3_fewestNew 33 = .ok (.iload_n 2, 1) := by decide +kernel
theorem dX3_fewestNew_34 : decode cX3_fewestNew 34 = .ok (.invokevirtual 41, 3) := by decide +kernel
theorem dX3_fewestNew_37 : decode cX3_fewestNew 37 = .ok (.aload_n 0, 1) := by decide +kernel
theorem dX3_fewestNew_38 : decode cX3_fewestNew 38 = .ok (.iload 4, 2) := by decide +kernel
theorem dX3_fewestNew_40 : decode cX3_fewestNew 40 = .ok (.invokevirtual 45, 3) := by decide +kernel
theorem dX3_fewestNew_43 : decode cX3_fewestNew 43 = .ok (.aload_n 0, 1) := by decide +kernel
theorem dX3_fewestNew_44 : decode cX3_fewestNew 44 = .ok (.iload 4, 2) := by decide +kernel
theorem dX3_fewestNew_46 : decode cX3_fewestNew 46 = .ok (.bipush 24, 2) := by decide +kernel
theorem dX3_fewestNew_48 : decode cX3_fewestNew 48 = .ok (.imul, 1) := by decide +kernel
theorem dX3_fewestNew_49 : decode cX3_fewestNew 49 = .ok (.invokevirtual 49, 3) := by decide +kernel
theorem dX3_fewestNew_52 : decode cX3_fewestNew 52 = .ok (.iinc 4 1, 3) := by decide +kernel
theorem dX3_fewestNew_55 : decode cX3_fewestNew 55 = .ok (.goto (-31), 3) := by decide +kernel
theorem dX3_fewestNew_58 : decode cX3_fewestNew 58 = .ok (.aload_n 0, 1) := by decide +kernel
theorem dX3_fewestNew_59 : decode cX3_fewestNew 59 = .ok (.getfield 21, 3) := by decide +kernel
theorem dX3_fewestNew_62 : decode cX3_fewestNew 62 = .ok (.iload_n 3, 1) := by decide +kernel
theorem dX3_fewestNew_63 : decode cX3_fewestNew 63 = .ok (.bipush 24, 2) := by decide +kernel
theorem dX3_fewestNew_65 : decode cX3_fewestNew 65 = .ok (.imul, 1) := by decide +kernel
theorem dX3_fewestNew_66 : decode cX3_fewestNew 66 = .ok (.aload_n 0, 1) := by decide +kernel
theorem dX3_fewestNew_67 : decode cX3_fewestNew 67 = .ok (.getfield 18, 3) := by decide +kernel
theorem dX3_fewestNew_70 : decode cX3_fewestNew 70 = .ok (.iload_n 2, 1) := by decide +kernel
theorem dX3_fewestNew_71 : decode cX3_fewestNew 71 = .ok (.iaload, 1) := by decide +kernel
theorem dX3_fewestNew_72 : decode cX3_fewestNew 72 = .ok (.iadd, 1) := by decide +kernel
theorem dX3_fewestNew_73 : decode cX3_fewestNew 73 = .ok (.iaload, 1) := by decide +kernel
theorem dX3_fewestNew_74 : decode cX3_fewestNew 74 = .ok (.istore 4, 2) := by decide +kernel
theorem dX3_fewestNew_76 : decode cX3_fewestNew 76 = .ok (.iload 4, 2) := by decide +kernel
theorem dX3_fewestNew_78 : decode cX3_fewestNew 78 = .ok (.sipush 1000, 3) := by decide +kernel
theorem dX3_fewestNew_81 : decode cX3_fewestNew 81 = .ok (.if_icmp .ge 8, 3) := by decide +kernel
theorem dX3_fewestNew_84 : decode cX3_fewestNew 84 = .ok (.iload 4, 2) := by decide +kernel
theorem dX3_fewestNew_86 : decode cX3_fewestNew 86 = .ok (.goto 5, 3) := by decide +kernel
theorem dX3_fewestNew_89 : decode cX3_fewestNew 89 = .ok (.bipush (-4), 2) := by decide +kernel
theorem dX3_fewestNew_91 : decode cX3_fewestNew 91 = .ok (.ireturn, 1) := by decide +kernel
theorem dX3_isNextOnFloor_0 : decode cX3_isNextOnFloor 0 = .ok (.iload_n 2, 1) := by decide +kernel
theorem dX3_isNextOnFloor_1 : decode cX3_isNextOnFloor 1 = .ok (.iload_n 1, 1) := by decide +kernel
theorem dX3_isNextOnFloor_2 : decode cX3_isNextOnFloor 2 = .ok (.isub, 1) := by decide +kernel
theorem dX3_isNextOnFloor_3 : decode cX3_isNextOnFloor 3 = .ok (.iconst 1, 1) := by decide +kernel
theorem dX3_isNextOnFloor_4 : decode cX3_isNextOnFloor 4 = .ok (.if_icmp .ne 14, 3) := by decide +kernel
theorem dX3_isNextOnFloor_7 : decode cX3_isNextOnFloor 7 = .ok (.iload_n 2, 1) := by decide +kernel
theorem dX3_isNextOnFloor_8 : decode cX3_isNextOnFloor 8 = .ok (.bipush 6, 2) := by decide +kernel
theorem dX3_isNextOnFloor_10 : decode cX3_isNextOnFloor 10 = .ok (.irem, 1) := by decide +kernel
theorem dX3_isNextOnFloor_11 : decode cX3_isNextOnFloor 11 = .ok (.ifCond .eq 7, 3) := by decide +kernel
theorem dX3_isNextOnFloor_14 : decode cX3_isNextOnFloor 14 = .ok (.iconst 1, 1) := by decide +kernel
theorem dX3_isNextOnFloor_15 : decode cX3_isNextOnFloor 15 = .ok (.goto 4, 3) := by decide +kernel
theorem dX3_isNextOnFloor_18 : decode cX3_isNextOnFloor 18 = .ok (.iconst 0, 1) := by decide +kernel
theorem dX3_isNextOnFloor_19 : decode cX3_isNextOnFloor 19 = .ok (.ireturn, 1) := by decide +kernel
theorem dX3_gatherEnds_0 : decode cX3_gatherEnds 0 = .ok (.iconst 0, 1) := by decide +kernel
theorem dX3_gatherEnds_1 : decode cX3_gatherEnds 1 = .ok (.istore_n 2, 1) := by decide +kernel
theorem dX3_gatherEnds_2 : decode cX3_gatherEnds 2 = .ok (.iconst 0, 1) := by decide +kernel
theorem dX3_gatherEnds_3 : decode cX3_gatherEnds 3 = .ok (.istore_n 3, 1) := by decide +kernel
theorem dX3_gatherEnds_4 : decode cX3_gatherEnds 4 = .ok (.iload_n 3, 1) := by decide +kernel
theorem dX3_gatherEnds_5 : decode cX3_gatherEnds 5 = .ok (.bipush 24, 2) := by decide +kernel
theorem dX3_gatherEnds_7 : decode cX3_gatherEnds 7 = .ok (.if_icmp .ge 32, 3) := by decide +kernel
theorem dX3_gatherEnds_10 : decode cX3_gatherEnds 10 = .ok (.iload_n 1, 1) := by decide +kernel
theorem dX3_gatherEnds_11 : decode cX3_gatherEnds 11 = .ok (.iload_n 3, 1) := by decide +kernel
theorem dX3_gatherEnds_12 : decode cX3_gatherEnds 12 = .ok (.ishr, 1) := by decide +kernel
theorem dX3_gatherEnds_13 : decode cX3_gatherEnds 13 = .ok (.iconst 1, 1) := by decide +kernel
theorem dX3_gatherEnds_14 : decode cX3_gatherEnds 14 = .ok (.iand, 1) := by decide +kernel
theorem dX3_gatherEnds_15 : decode cX3_gatherEnds 15 = .ok (.ifCond .eq 18, 3) := by decide +kernel
theorem dX3_gatherEnds_18 : decode cX3_gatherEnds 18 = .ok (.iload_n 2, 1) := by decide +kernel
theorem dX3_gatherEnds_19 : decode cX3_gatherEnds 19 = .ok (.iconst 5, 1) := by decide +kernel
theorem dX3_gatherEnds_20 : decode cX3_gatherEnds 20 = .ok (.if_icmp .ge 13, 3) := by decide +kernel
theorem dX3_gatherEnds_23 : decode cX3_gatherEnds 23 = .ok (.aload_n 0, 1) := by decide +kernel
theorem dX3_gatherEnds_24 : decode cX3_gatherEnds 24 = .ok (.getfield 18, 3) := by decide +kernel
theorem dX3_gatherEnds_27 : decode cX3_gatherEnds 27 = .ok (.iload_n 2, 1) := by decide +kernel
theorem dX3_gatherEnds_28 : decode cX3_gatherEnds 28 = .ok (.iload_n 3, 1) := by decide +kernel
theorem dX3_gatherEnds_29 : decode cX3_gatherEnds 29 = .ok (.iastore, 1) := by decide +kernel
theorem dX3_gatherEnds_30 : decode cX3_gatherEnds 30 = .ok (.iinc 2 1, 3) := by decide +kernel
theorem dX3_gatherEnds_33 : decode cX3_gatherEnds 33 = .ok (.iinc 3 1, 3) := by decide +kernel
theorem dX3_gatherEnds_36 : decode cX3_gatherEnds 36 = .ok (.goto (-32), 3) := by decide +kernel
theorem dX3_gatherEnds_39 : decode cX3_gatherEnds 39 = .ok (.iload_n 2, 1) := by decide +kernel
theorem dX3_gatherEnds_40 : decode cX3_gatherEnds 40 = .ok (.ireturn, 1) := by decide +kernel
theorem dX3_startTrees_0 : decode cX3_startTrees 0 = .ok (.iload_n 1, 1) := by decide +kernel
theorem dX3_startTrees_1 : decode cX3_startTrees 1 = .ok (.bipush 24, 2) := by decide +kernel
theorem dX3_startTrees_3 : decode cX3_startTrees 3 = .ok (.imul, 1) := by decide +kernel
theorem dX3_startTrees_4 : decode cX3_startTrees 4 = .ok (.istore_n 3, 1) := by decide +kernel
theorem dX3_startTrees_5 : decode cX3_startTrees 5 = .ok (.iconst 0, 1) := by decide +kernel
theorem dX3_startTrees_6 : decode cX3_startTrees 6 = .ok (.istore 4, 2) := by decide +kernel
theorem dX3_startTrees_8 : decode cX3_startTrees 8 = .ok (.iload 4, 2) := by decide +kernel
theorem dX3_startTrees_10 : decode cX3_startTrees 10 = .ok (.bipush 24, 2) := by decide +kernel
theorem dX3_startTrees_12 : decode cX3_startTrees 12 = .ok (.if_icmp .ge 21, 3) := by decide +kernel
theorem dX3_startTrees_15 : decode cX3_startTrees 15 = .ok (.aload_n 0, 1) := by decide +kernel
theorem dX3_startTrees_16 : decode cX3_startTrees 16 = .ok (.getfield 21, 3) := by decide +kernel
theorem dX3_startTrees_19 : decode cX3_startTrees 19 = .ok (.iload_n 3, 1) := by decide +kernel
theorem dX3_startTrees_20 : decode cX3_startTrees 20 = .ok (.iload 4, 2) := by decide +kernel
theorem dX3_startTrees_22 : decode cX3_startTrees 22 = .ok (.iadd, 1) := by decide +kernel
theorem dX3_startTrees_23 : decode cX3_startTrees 23 = .ok (.sipush 1000, 3) := by decide +kernel
theorem dX3_startTrees_26 : decode cX3_startTrees 26 = .ok (.iastore, 1) := by decide +kernel
theorem dX3_startTrees_27 : decode cX3_startTrees 27 = .ok (.iinc 4 1, 3) := by decide +kernel
theorem dX3_startTrees_30 : decode cX3_startTrees 30 = .ok (.goto (-22), 3) := by decide +kernel
theorem dX3_startTrees_33 : decode cX3_startTrees 33 = .ok (.iconst 0, 1) := by decide +kernel
theorem dX3_startTrees_34 : decode cX3_startTrees 34 = .ok (.istore 4, 2) := by decide +kernel
theorem dX3_startTrees_36 : decode cX3_startTrees 36 = .ok (.iload 4, 2) := by decide +kernel
theorem dX3_startTrees_38 : decode cX3_startTrees 38 = .ok (.iload_n 2, 1) := by decide +kernel
theorem dX3_startTrees_39 : decode cX3_startTrees 39 = .ok (.if_icmp .ge 32, 3) := by decide +kernel
theorem dX3_startTrees_42 : decode cX3_startTrees 42 = .ok (.iload_n 1, 1) := by decide +kernel
theorem dX3_startTrees_43 : decode cX3_startTrees 43 = .ok (.iconst 1, 1) := by decide +kernel
theorem dX3_startTrees_44 : decode cX3_startTrees 44 = .ok (.iload 4, 2) := by decide +kernel
theorem dX3_startTrees_46 : decode cX3_startTrees 46 = .ok (.ishl, 1) := by decide +kernel
theorem dX3_startTrees_47 : decode cX3_startTrees 47 = .ok (.if_icmp .ne 18, 3) := by decide +kernel
theorem dX3_startTrees_50 : decode cX3_startTrees 50 = .ok (.aload_n 0, 1) := by decide +kernel
theorem dX3_startTrees_51 : decode cX3_startTrees 51 = .ok (.getfield 21, 3) := by decide +kernel
theorem dX3_startTrees_54 : decode cX3_startTrees 54 = .ok (.iload_n 3, 1) := by decide +kernel
theorem dX3_startTrees_55 : decode cX3_startTrees 55 = .ok (.aload_n 0, 1) := by decide +kernel
theorem dX3_startTrees_56 : decode cX3_startTrees 56 = .ok (.getfield 18, 3) := by decide +kernel
theorem dX3_startTrees_59 : decode cX3_startTrees 59 = .ok (.iload 4, 2) := by decide +kernel
theorem dX3_startTrees_61 : decode cX3_startTrees 61 = .ok (.iaload, 1) := by decide +kernel
theorem dX3_startTrees_62 : decode cX3_startTrees 62 = .ok (.iadd, 1) := by decide +kernel
theorem dX3_startTrees_63 : decode cX3_startTrees 63 = .ok (.iconst 0, 1) := by decide +kernel
theorem dX3_startTrees_64 : decode cX3_startTrees 64 = .ok (.iastore, 1) := by decide +kernel
theorem dX3_startTrees_65 : decode cX3_startTrees 65 = .ok (.iinc 4 1, 3) := by decide +kernel
theorem dX3_startTrees_68 : decode cX3_startTrees 68 = .ok (.goto (-32), 3) := by decide +kernel
theorem dX3_startTrees_71 : decode cX3_startTrees 71 = .ok (.return_, 1) := by decide +kernel
theorem dX3_joinTrees_0 : decode cX3_joinTrees 0 = .ok (.iconst 1, 1) := by decide +kernel
theorem dX3_joinTrees_1 : decode cX3_joinTrees 1 = .ok (.istore_n 2, 1) := by decide +kernel
theorem dX3_joinTrees_2 : decode cX3_joinTrees 2 = .ok (.iload_n 2, 1) := by decide +kernel
theorem dX3_joinTrees_3 : decode cX3_joinTrees 3 = .ok (.iload_n 1, 1) := by decide +kernel
theorem dX3_joinTrees_4 : decode cX3_joinTrees 4 = .ok (.if_icmp .ge 43, 3) := by decide +kernel
theorem dX3_joinTrees_7 : decode cX3_joinTrees 7 = .ok (.iload_n 1, 1) := by decide +kernel
theorem dX3_joinTrees_8 : decode cX3_joinTrees 8 = .ok (.iload_n 2, 1) := by decide +kernel
theorem dX3_joinTrees_9 : decode cX3_joinTrees 9 = .ok (.iconst (-1), 1) := by decide +kernel
theorem dX3_joinTrees_10 : decode cX3_joinTrees 10 = .ok (.ixor, 1) := by decide +kernel
theorem dX3_joinTrees_11 : decode cX3_joinTrees 11 = .ok (.iand, 1) := by decide +kernel
theorem dX3_joinTrees_12 : decode cX3_joinTrees 12 = .ok (.istore_n 3, 1) := by decide +kernel
theorem dX3_joinTrees_13 : decode cX3_joinTrees 13 = .ok (.iload_n 2, 1) := by decide +kernel
theorem dX3_joinTrees_14 : decode cX3_joinTrees 14 = .ok (.iload_n 1, 1) := by decide +kernel
theorem dX3_joinTrees_15 : decode cX3_joinTrees 15 = .ok (.iand, 1) := by decide +kernel
theorem dX3_joinTrees_16 : decode cX3_joinTrees 16 = .ok (.iload_n 2, 1) := by decide +kernel
theorem dX3_joinTrees_17 : decode cX3_joinTrees 17 = .ok (.if_icmp .ne 24, 3) := by decide +kernel
theorem dX3_joinTrees_20 : decode cX3_joinTrees 20 = .ok (.iload_n 2, 1) := by decide +kernel
theorem dX3_joinTrees_21 : decode cX3_joinTrees 21 = .ok (.iload_n 3, 1) := by decide +kernel
theorem dX3_joinTrees_22 : decode cX3_joinTrees 22 = .ok (.if_icmp .ge 19, 3) := by decide +kernel
theorem dX3_joinTrees_25 : decode cX3_joinTrees 25 = .ok (.aload_n 0, 1) := by decide +kernel
theorem dX3_joinTrees_26 : decode cX3_joinTrees 26 = .ok (.iload_n 1, 1) := by decide +kernel
theorem dX3_joinTrees_27 : decode cX3_joinTrees 27 = .ok (.bipush 24, 2) := by decide +kernel
theorem dX3_joinTrees_29 : decode cX3_joinTrees 29 = .ok (.imul, 1) := by decide +kernel
theorem dX3_joinTrees_30 : decode cX3_joinTrees 30 = .ok (.iload_n 2, 1) := by decide +kernel
theorem dX3_joinTrees_31 : decode cX3_joinTrees 31 = .ok (.bipush 24, 2) := by decide +kernel
theorem dX3_joinTrees_33 : decode cX3_joinTrees 33 = .ok (.imul, 1) := by decide +kernel
theorem dX3_joinTrees_34 : decode cX3_joinTrees 34 = .ok (.iload_n 3, 1) := by decide +kernel
theorem dX3_joinTrees_35 : decode cX3_joinTrees 35 = .ok (.bipush 24, 2) := by decide +kernel
theorem dX3_joinTrees_37 : decode cX3_joinTrees 37 = .ok (.imul, 1) := by decide +kernel
theorem dX3_joinTrees_38 : decode cX3_joinTrees 38 = .ok (.invokevirtual 52, 3) := by decide +kernel
theorem dX3_joinTrees_41 : decode cX3_joinTrees 41 = .ok (.iinc 2 1, 3) := by decide +kernel
theorem dX3_joinTrees_44 : decode cX3_joinTrees 44 = .ok (.goto (-42), 3) := by decide +kernel
theorem dX3_joinTrees_47 : decode cX3_joinTrees 47 = .ok (.return_, 1) := by decide +kernel
theorem dX3_joinTwo_0 : decode cX3_joinTwo 0 = .ok (.iconst 0, 1) := by decide +kernel
theorem dX3_joinTwo_1 : decode cX3_joinTwo 1 = .ok (.istore 4, 2) := by decide +kernel
theorem dX3_joinTwo_3 : decode cX3_joinTwo 3 = .ok (.iload 4, 2) := by decide +kernel
theorem dX3_joinTwo_5 : decode cX3_joinTwo 5 = .ok (.bipush 24, 2) := by decide +kernel
theorem dX3_joinTwo_7 : decode cX3_joinTwo 7 = .ok (.if_icmp .ge 53, 3) := by decide +kernel
theorem dX3_joinTwo_10 : decode cX3_joinTwo 10 = .ok (.aload_n 0, 1) := by decide +kernel
theorem dX3_joinTwo_11 : decode cX3_joinTwo 11 = .ok (.getfield 21, 3) := by decide +kernel
theorem dX3_joinTwo_14 : decode cX3_joinTwo 14 = .ok (.iload_n 2, 1) := by decide +kernel
theorem dX3_joinTwo_15 : decode cX3_joinTwo 15 = .ok (.iload 4, 2) := by decide +kernel
theorem dX3_joinTwo_17 : decode cX3_joinTwo 17 = .ok (.iadd, 1) := by decide +kernel
theorem dX3_joinTwo_18 : decode cX3_joinTwo 18 = .ok (.iaload, 1) := by decide +kernel
theorem dX3_joinTwo_19 : decode cX3_joinTwo 19 = .ok (.aload_n 0, 1) := by decide +kernel
theorem dX3_joinTwo_20 : decode cX3_joinTwo 20 = .ok (.getfield 21, 3) := by decide +kernel
theorem dX3_joinTwo_23 : decode cX3_joinTwo 23 = .ok (.iload_n 3, 1) := by decide +kernel
theorem dX3_joinTwo_24 : decode cX3_joinTwo 24 = .ok (.iload 4, 2) := by decide +kernel
theorem dX3_joinTwo_26 : decode cX3_joinTwo 26 = .ok (.iadd, 1) := by decide +kernel
theorem dX3_joinTwo_27 : decode cX3_joinTwo 27 = .ok (.iaload, 1) := by decide +kernel
theorem dX3_joinTwo_28 : decode cX3_joinTwo 28 = .ok (.iadd, 1) := by decide +kernel
theorem dX3_joinTwo_29 : decode cX3_joinTwo 29 = .ok (.istore 5, 2) := by decide +kernel
theorem dX3_joinTwo_31 : decode cX3_joinTwo 31 = .ok (.aload_n 0, 1) := by decide +kernel
theorem dX3_joinTwo_32 : decode cX3_joinTwo 32 = .ok (.getfield 21, 3) := by decide +kernel
theorem dX3_joinTwo_35 : decode cX3_joinTwo 35 = .ok (.iload_n 1, 1) := by decide +kernel
theorem dX3_joinTwo_36 : decode cX3_joinTwo 36 = .ok (.iload 4, 2) := by decide +kernel
theorem dX3_joinTwo_38 : decode cX3_joinTwo 38 = .ok (.iadd, 1) := by decide +kernel
theorem dX3_joinTwo_39 : decode cX3_joinTwo 39 = .ok (.aload_n 0, 1) := by decide +kernel
theorem dX3_joinTwo_40 : decode cX3_joinTwo 40 = .ok (.getfield 21, 3) := by decide +kernel
theorem dX3_joinTwo_43 : decode cX3_joinTwo 43 = .ok (.iload_n 1, 1) := by decide +kernel
theorem dX3_joinTwo_44 : decode cX3_joinTwo 44 = .ok (.iload 4, 2) := by decide +kernel
theorem dX3_joinTwo_46 : decode cX3_joinTwo 46 = .ok (.iadd, 1) := by decide +kernel
theorem dX3_joinTwo_47 : decode cX3_joinTwo 47 = .ok (.iaload, 1) := by decide +kernel
theorem dX3_joinTwo_48 : decode cX3_joinTwo 48 = .ok (.iload 5, 2) := by decide +kernel
theorem dX3_joinTwo_50 : decode cX3_joinTwo 50 = .ok (.invokestatic 24, 3) := by decide +kernel
theorem dX3_joinTwo_53 : decode cX3_joinTwo 53 = .ok (.iastore, 1) := by decide +kernel
theorem dX3_joinTwo_54 : decode cX3_joinTwo 54 = .ok (.iinc 4 1, 3) := by decide +kernel
theorem dX3_joinTwo_57 : decode cX3_joinTwo 57 = .ok (.goto (-54), 3) := by decide +kernel
theorem dX3_joinTwo_60 : decode cX3_joinTwo 60 = .ok (.return_, 1) := by decide +kernel
theorem dX3_spread_0 : decode cX3_spread 0 = .ok (.iconst 1, 1) := by decide +kernel
theorem dX3_spread_1 : decode cX3_spread 1 = .ok (.istore_n 2, 1) := by decide +kernel
theorem dX3_spread_2 : decode cX3_spread 2 = .ok (.iconst 0, 1) := by decide +kernel
theorem dX3_spread_3 : decode cX3_spread 3 = .ok (.istore_n 3, 1) := by decide +kernel
theorem dX3_spread_4 : decode cX3_spread 4 = .ok (.iload_n 3, 1) := by decide +kernel
theorem dX3_spread_5 : decode cX3_spread 5 = .ok (.bipush 24, 2) := by decide +kernel
theorem dX3_spread_7 : decode cX3_spread 7 = .ok (.if_icmp .ge 103, 3) := by decide +kernel
theorem dX3_spread_10 : decode cX3_spread 10 = .ok (.iload_n 2, 1) := by decide +kernel
theorem dX3_spread_11 : decode cX3_spread 11 = .ok (.ifCond .eq 99, 3) := by decide +kernel
theorem dX3_spread_14 : decode cX3_spread 14 = .ok (.iconst 0, 1) := by decide +kernel
theorem dX3_spread_15 : decode cX3_spread 15 = .ok (.istore_n 2, 1) := by decide +kernel
theorem dX3_spread_16 : decode cX3_spread 16 = .ok (.iconst 0, 1) := by decide +kernel
theorem dX3_spread_17 : decode cX3_spread 17 = .ok (.istore 4, 2) := by decide +kernel
theorem dX3_spread_19 : decode cX3_spread 19 = .ok (.iload 4, 2) := by decide +kernel
theorem dX3_spread_21 : decode cX3_spread 21 = .ok (.bipush 24, 2) := by decide +kernel
theorem dX3_spread_23 : decode cX3_spread 23 = .ok (.if_icmp .ge 81, 3) := by decide +kernel
theorem dX3_spread_26 : decode cX3_spread 26 = .ok (.iload 4, 2) := by decide +kernel
theorem dX3_spread_28 : decode cX3_spread 28 = .ok (.bipush 6, 2) := by decide +kernel
theorem dX3_spread_30 : decode cX3_spread 30 = .ok (.irem, 1) := by decide +kernel
theorem dX3_spread_31 : decode cX3_spread 31 = .ok (.iconst 5, 1) := by decide +kernel
theorem dX3_spread_32 : decode cX3_spread 32 = .ok (.if_icmp .eq 29, 3) := by decide +kernel
theorem dX3_spread_35 : decode cX3_spread 35 = .ok (.aload_n 0, 1) := by decide +kernel
theorem dX3_spread_36 : decode cX3_spread 36 = .ok (.iload_n 1, 1) := by decide +kernel
theorem dX3_spread_37 : decode cX3_spread 37 = .ok (.iload 4, 2) := by decide +kernel
theorem dX3_spread_39 : decode cX3_spread 39 = .ok (.iadd, 1) := by decide +kernel
theorem dX3_spread_40 : decode cX3_spread 40 = .ok (.iload_n 1, 1) := by decide +kernel
theorem dX3_spread_41 : decode cX3_spread 41 = .ok (.iload 4, 2) := by decide +kernel
theorem dX3_spread_43 : decode cX3_spread 43 = .ok (.iadd, 1) := by decide +kernel
theorem dX3_spread_44 : decode cX3_spread 44 = .ok (.iconst 1, 1) := by decide +kernel
theorem dX3_spread_45 : decode cX3_spread 45 = .ok (.iadd, 1) := by decide +kernel
theorem dX3_spread_46 : decode cX3_spread 46 = .ok (.aload_n 0, 1) := by decide +kernel
theorem dX3_spread_47 : decode cX3_spread 47 = .ok (.getfield 9, 3) := by decide +kernel
theorem dX3_spread_50 : decode cX3_spread 50 = .ok (.iload 4, 2) := by decide +kernel
theorem dX3_spread_52 : decode cX3_spread 52 = .ok (.iaload, 1) := by decide +kernel
theorem dX3_spread_53 : decode cX3_spread 53 = .ok (.invokevirtual 56, 3) := by decide +kernel
theorem dX3_spread_56 : decode cX3_spread 56 = .ok (.ifCond .eq 5, 3) := by decide +kernel
theorem dX3_spread_59 : decode cX3_spread 59 = .ok (.iconst 1, 1) := by decide +kernel
theorem dX3_spread_60 : decode cX3_spread 60 = .ok (.istore_n 2, 1) := by decide +kernel
theorem dX3_spread_61 : decode cX3_spread 61 = .ok (.iload 4, 2) := by decide +kernel
theorem dX3_spread_63 : decode cX3_spread 63 = .ok (.bipush 6, 2) := by decide +kernel
theorem dX3_spread_65 : decode cX3_spread 65 = .ok (.iadd, 1) := by decide +kernel
theorem dX3_spread_66 : decode cX3_spread 66 = .ok (.bipush 24, 2) := by decide +kernel
theorem dX3_spread_68 : decode cX3_spread 68 = .ok (.if_icmp .ge 30, 3) := by decide +kernel
theorem dX3_spread_71 : decode cX3_spread 71 = .ok (.aload_n 0, 1) := by decide +kernel
theorem dX3_spread_72 : decode cX3_spread 72 = .ok (.iload_n 1, 1) := by decide +kernel
theorem dX3_spread_73 : decode cX3_spread 73 = .ok (.iload 4, 2) := by decide +kernel
theorem dX3_spread_75 : decode cX3_spread 75 = .ok (.iadd, 1) := by decide +kernel
theorem dX3_spread_76 : decode cX3_spread 76 = .ok (.iload_n 1, 1) := by decide +kernel
theorem dX3_spread_77 : decode cX3_spread 77 = .ok (.iload 4, 2) := by decide +kernel
theorem dX3_spread_79 : decode cX3_spread 79 = .ok (.iadd, 1) := by decide +kernel
theorem dX3_spread_80 : decode cX3_spread 80 = .ok (.bipush 6, 2) := by decide +kernel
theorem dX3_spread_82 : decode cX3_spread 82 = .ok (.iadd, 1) := by decide +kernel
theorem dX3_spread_83 : decode cX3_spread 83 = .ok (.aload_n 0, 1) := by decide +kernel
theorem dX3_spread_84 : decode cX3_spread 84 = .ok (.getfield 15, 3) := by decide +kernel
theorem dX3_spread_87 : decode cX3_spread 87 = .ok (.iload 4, 2) := by decide +kernel
theorem dX3_spread_89 : decode cX3_spread 89 = .ok (.iaload, 1) := by decide +kernel
theorem dX3_spread_90 : decode cX3_spread 90 = .ok (.invokevirtual 56, 3) := by decide +kernel
theorem dX3_spread_93 : decode cX3_spread 93 = .ok (.ifCond .eq 5, 3) := by decide +kernel
theorem dX3_spread_96 : decode cX3_spread 96 = .ok (.iconst 1, 1) := by decide +kernel
theorem dX3_spread_97 : decode cX3_spread 97 = .ok (.istore_n 2, 1) := by decide +kernel
theorem dX3_spread_98 : decode cX3_spread 98 = .ok (.iinc 4 1, 3) := by decide +kernel
theorem dX3_spread_101 : decode cX3_spread 101 = .ok (.goto (-82), 3) := by decide +kernel
theorem dX3_spread_104 : decode cX3_spread 104 = .ok (.iinc 3 1, 3) := by decide +kernel
theorem dX3_spread_107 : decode cX3_spread 107 = .ok (.goto (-103), 3) := by decide +kernel
theorem dX3_spread_110 : decode cX3_spread 110 = .ok (.return_, 1) := by decide +kernel
theorem dX3_even_0 : decode cX3_even 0 = .ok (.iload_n 3, 1) := by decide +kernel
theorem dX3_even_1 : decode cX3_even 1 = .ok (.iconst 1, 1) := by decide +kernel
theorem dX3_even_2 : decode cX3_even 2 = .ok (.if_icmp .ne 5, 3) := by decide +kernel
theorem dX3_even_5 : decode cX3_even 5 = .ok (.iconst 0, 1) := by decide +kernel
theorem dX3_even_6 : decode cX3_even 6 = .ok (.ireturn, 1) := by decide +kernel
theorem dX3_even_7 : decode cX3_even 7 = .ok (.iload_n 3, 1) := by decide +kernel
theorem dX3_even_8 : decode cX3_even 8 = .ok (.iconst 2, 1) := by decide +kernel
theorem dX3_even_9 : decode cX3_even 9 = .ok (.if_icmp .ne 7, 3) := by decide +kernel
theorem dX3_even_12 : decode cX3_even 12 = .ok (.iconst 0, 1) := by decide +kernel
theorem dX3_even_13 : decode cX3_even 13 = .ok (.goto 4, 3) := by decide +kernel
theorem dX3_even_16 : decode cX3_even 16 = .ok (.iconst 1, 1) := by decide +kernel
theorem dX3_even_17 : decode cX3_even 17 = .ok (.istore 4, 2) := by decide +kernel
theorem dX3_even_19 : decode cX3_even 19 = .ok (.aload_n 0, 1) := by decide +kernel
theorem dX3_even_20 : decode cX3_even 20 = .ok (.getfield 21, 3) := by decide +kernel
theorem dX3_even_23 : decode cX3_even 23 = .ok (.iload_n 1, 1) := by decide +kernel
theorem dX3_even_24 : decode cX3_even 24 = .ok (.iaload, 1) := by decide +kernel
theorem dX3_even_25 : decode cX3_even 25 = .ok (.iload 4, 2) := by decide +kernel
theorem dX3_even_27 : decode cX3_even 27 = .ok (.iadd, 1) := by decide +kernel
theorem dX3_even_28 : decode cX3_even 28 = .ok (.aload_n 0, 1) := by decide +kernel
theorem dX3_even_29 : decode cX3_even 29 = .ok (.getfield 21, 3) := by decide +kernel
theorem dX3_even_32 : decode cX3_even 32 = .ok (.iload_n 2, 1) := by decide +kernel
theorem dX3_even_33 : decode cX3_even 33 = .ok (.iaload, 1) := by decide +kernel
theorem dX3_even_34 : decode cX3_even 34 = .ok (.if_icmp .ge 20, 3) := by decide +kernel
theorem dX3_even_37 : decode cX3_even 37 = .ok (.aload_n 0, 1) := by decide +kernel
theorem dX3_even_38 : decode cX3_even 38 = .ok (.getfield 21, 3) := by decide +kernel
theorem dX3_even_41 : decode cX3_even 41 = .ok (.iload_n 2, 1) := by decide +kernel
theorem dX3_even_42 : decode cX3_even 42 = .ok (.aload_n 0, 1) := by decide +kernel
theorem dX3_even_43 : decode cX3_even 43 = .ok (.getfield 21, 3) := by decide +kernel
theorem dX3_even_46 : decode cX3_even 46 = .ok (.iload_n 1, 1) := by decide +kernel
theorem dX3_even_47 : decode cX3_even 47 = .ok (.iaload, 1) := by decide +kernel
theorem dX3_even_48 : decode cX3_even 48 = .ok (.iload 4, 2) := by decide +kernel
theorem dX3_even_50 : decode cX3_even 50 = .ok (.iadd, 1) := by decide +kernel
theorem dX3_even_51 : decode cX3_even 51 = .ok (.iastore, 1) := by decide +kernel
theorem dX3_even_52 : decode cX3_even 52 = .ok (.iconst 1, 1) := by decide +kernel
theorem dX3_even_53 : decode cX3_even 53 = .ok (.ireturn, 1) := by decide +kernel
theorem dX3_even_54 : decode cX3_even 54 = .ok (.aload_n 0, 1) := by decide +kernel
theorem dX3_even_55 : decode cX3_even 55 = .ok (.getfield 21, 3) := by decide +kernel
theorem dX3_even_58 : decode cX3_even 58 = .ok (.iload_n 2, 1) := by decide +kernel
theorem dX3_even_59 : decode cX3_even 59 = .ok (.iaload, 1) := by decide +kernel
theorem dX3_even_60 : decode cX3_even 60 = .ok (.iload 4, 2) := by decide +kernel
theorem dX3_even_62 : decode cX3_even 62 = .ok (.iadd, 1) := by decide +kernel
theorem dX3_even_63 : decode cX3_even 63 = .ok (.aload_n 0, 1) := by decide +kernel
theorem dX3_even_64 : decode cX3_even 64 = .ok (.getfield 21, 3) := by decide +kernel
theorem dX3_even_67 : decode cX3_even 67 = .ok (.iload_n 1, 1) := by decide +kernel
theorem dX3_even_68 : decode cX3_even 68 = .ok (.iaload, 1) := by decide +kernel
theorem dX3_even_69 : decode cX3_even 69 = .ok (.if_icmp .ge 20, 3) := by decide +kernel
theorem dX3_even_72 : decode cX3_even 72 = .ok (.aload_n 0, 1) := by decide +kernel
theorem dX3_even_73 : decode cX3_even 73 = .ok (.getfield 21, 3) := by decide +kernel
theorem dX3_even_76 : decode cX3_even 76 = .ok (.iload_n 1, 1) := by decide +kernel
theorem dX3_even_77 : decode cX3_even 77 = .ok (.aload_n 0, 1) := by decide +kernel
theorem dX3_even_78 : decode cX3_even 78 = .ok (.getfield 21, 3) := by decide +kernel
theorem dX3_even_81 : decode cX3_even 81 = .ok (.iload_n 2, 1) := by decide +kernel
theorem dX3_even_82 : decode cX3_even 82 = .ok (.iaload, 1) := by decide +kernel
theorem dX3_even_83 : decode cX3_even 83 = .ok (.iload 4, 2) := by decide +kernel
theorem dX3_even_85 : decode cX3_even 85 = .ok (.iadd, 1) := by decide +kernel
theorem dX3_even_86 : decode cX3_even 86 = .ok (.iastore, 1) := by decide +kernel
theorem dX3_even_87 : decode cX3_even 87 = .ok (.iconst 1, 1) := by decide +kernel
theorem dX3_even_88 : decode cX3_even 88 = .ok (.ireturn, 1) := by decide +kernel
theorem dX3_even_89 : decode cX3_even 89 = .ok (.iconst 0, 1) := by decide +kernel
theorem dX3_even_90 : decode cX3_even 90 = .ok (.ireturn, 1) := by decide +kernel
theorem dX4_init_0 : decode cX4_init 0 = .ok (.aload_n 0, 1) := by decide +kernel
theorem dX4_init_1 : decode cX4_init 1 = .ok (.invokespecial 3, 3) := by decide +kernel
theorem dX4_init_4 : decode cX4_init 4 = .ok (.aload_n 0, 1) := by decide +kernel
theorem dX4_init_5 : decode cX4_init 5 = .ok (.bipush 12, 2) := by decide +kernel
theorem dX4_init_7 : decode cX4_init 7 = .ok (.newarray .int, 2) := by decide +kernel
theorem dX4_init_9 : decode cX4_init 9 = .ok (.putfield 9, 3) := by decide +kernel
theorem dX4_init_12 : decode cX4_init 12 = .ok (.aload_n 0, 1) := by decide +kernel
theorem dX4_init_13 : decode cX4_init 13 = .ok (.bipush 12, 2) := by decide +kernel
theorem dX4_init_15 : decode cX4_init 15 = .ok (.newarray .int, 2) := by decide +kernel
theorem dX4_init_17 : decode cX4_init 17 = .ok (.putfield 15, 3) := by decide +kernel
theorem dX4_init_20 : decode cX4_init 20 = .ok (.aload_n 0, 1) := by decide +kernel
theorem dX4_init_21 : decode cX4_init 21 = .ok (.bipush 12, 2) := by decide +kernel
theorem dX4_init_23 : decode cX4_init 23 = .ok (.newarray .int, 2) := by decide +kernel
theorem dX4_init_25 : decode cX4_init 25 = .ok (.putfield 18, 3) := by decide +kernel
theorem dX4_init_28 : decode cX4_init 28 = .ok (.aload_n 0, 1) := by decide +kernel
theorem dX4_init_29 : decode cX4_init 29 = .ok (.bipush 12, 2) := by decide +kernel
theorem dX4_init_31 : decode cX4_init 31 = .ok (.newarray .int, 2) := by decide +kernel
theorem dX4_init_33 : decode cX4_init 33 = .ok (.putfield 21, 3) := by decide +kernel
theorem dX4_init_36 : decode cX4_init 36 = .ok (.aload_n 0, 1) := by decide +kernel
theorem dX4_init_37 : decode cX4_init 37 = .ok (.bipush 12, 2) := by decide +kernel
theorem dX4_init_39 : decode cX4_init 39 = .ok (.newarray .int, 2) := by decide +kernel
theorem dX4_init_41 : decode cX4_init 41 = .ok (.putfield 24, 3) := by decide +kernel
theorem dX4_init_44 : decode cX4_init 44 = .ok (.return_, 1) := by decide +kernel
theorem dX4_has_0 : decode cX4_has 0 = .ok (.iload_n 1, 1) := by decide +kernel
theorem dX4_has_1 : decode cX4_has 1 = .ok (.aload_n 0, 1) := by decide +kernel
theorem dX4_has_2 : decode cX4_has 2 = .ok (.getfield 27, 3) := by decide +kernel
theorem dX4_has_5 : decode cX4_has 5 = .ok (.invokestatic 31, 3) := by decide +kernel
theorem dX4_has_8 : decode cX4_has 8 = .ok (.ireturn, 1) := by decide +kernel
theorem dX4_add_0 : decode cX4_add 0 = .ok (.aload_n 0, 1) := by decide +kernel
theorem dX4_add_1 : decode cX4_add 1 = .ok (.getfield 27, 3) := by decide +kernel
theorem dX4_add_4 : decode cX4_add 4 = .ok (.istore 6, 2) := by decide +kernel
theorem dX4_add_6 : decode cX4_add 6 = .ok (.aload_n 0, 1) := by decide +kernel
theorem dX4_add_7 : decode cX4_add 7 = .ok (.getfield 9, 3) := by decide +kernel
theorem dX4_add_10 : decode cX4_add 10 = .ok (.iload 6, 2) := by decide +kernel
theorem dX4_add_12 : decode cX4_add 12 = .ok (.iload_n 1, 1) := by decide +kernel
theorem dX4_add_13 : decode cX4_add 13 = .ok (.iastore, 1) := by decide +kernel
theorem dX4_add_14 : decode cX4_add 14 = .ok (.aload_n 0, 1) := by decide +kernel
theorem dX4_add_15 : decode cX4_add 15 = .ok (.getfield 15, 3) := by decide +kernel
theorem dX4_add_18 : decode cX4_add 18 = .ok (.iload 6, 2) := by decide +kernel
theorem dX4_add_20 : decode cX4_add 20 = .ok (.iload_n 2, 1) := by decide +kernel
theorem dX4_add_21 : decode cX4_add 21 = .ok (.iastore, 1) := by decide +kernel
theorem dX4_add_22 : decode cX4_add 22 = .ok (.aload_n 0, 1) := by decide +kernel
theorem dX4_add_23 : decode cX4_add 23 = .ok (.getfield 18, 3) := by decide +kernel
theorem dX4_add_26 : decode cX4_add 26 = .ok (.iload 6, 2) := by decide +kernel
theorem dX4_add_28 : decode cX4_add 28 = .ok (.iload_n 3, 1) := by decide +kernel
theorem dX4_add_29 : decode cX4_add 29 = .ok (.iastore, 1) := by decide +kernel
theorem dX4_add_30 : decode cX4_add 30 = .ok (.aload_n 0, 1) := by decide +kernel
theorem dX4_add_31 : decode cX4_add 31 = .ok (.getfield 21, 3) := by decide +kernel
theorem dX4_add_34 : decode cX4_add 34 = .ok (.iload 6, 2) := by decide +kernel
theorem dX4_add_36 : decode cX4_add 36 = .ok (.iload 4, 2) := by decide +kernel
theorem dX4_add_38 : decode cX4_add 38 = .ok (.iastore, 1) := by decide +kernel
theorem dX4_add_39 : decode cX4_add 39 = .ok (.aload_n 0, 1) := by decide +kernel
theorem dX4_add_40 : decode cX4_add 40 = .ok (.getfield 24, 3) := by decide +kernel
theorem dX4_add_43 : decode cX4_add 43 = .ok (.iload 6, 2) := by decide +kernel
theorem dX4_add_45 : decode cX4_add 45 = .ok (.iload 5, 2) := by decide +kernel
theorem dX4_add_47 : decode cX4_add 47 = .ok (.iastore, 1) := by decide +kernel
theorem dX4_add_48 : decode cX4_add 48 = .ok (.aload_n 0, 1) := by decide +kernel
theorem dX4_add_49 : decode cX4_add 49 = .ok (.dup, 1) := by decide +kernel
theorem dX4_add_50 : decode cX4_add 50 = .ok (.getfield 27, 3) := by decide +kernel
theorem dX4_add_53 : decode cX4_add 53 = .ok (.iconst 1, 1) := by decide +kernel
theorem dX4_add_54 : decode cX4_add 54 = .ok (.iadd, 1) := by decide +kernel
theorem dX4_add_55 : decode cX4_add 55 = .ok (.putfield 27, 3) := by decide +kernel
theorem dX4_add_58 : decode cX4_add 58 = .ok (.iload 6, 2) := by decide +kernel
theorem dX4_add_60 : decode cX4_add 60 = .ok (.ireturn, 1) := by decide +kernel
theorem dX4_forceInHeat_0 : decode cX4_forceInHeat 0 = .ok (.bipush 10, 2) := by decide +kernel
theorem dX4_forceInHeat_2 : decode cX4_forceInHeat 2 = .ok (.iload_n 2, 1) := by decide +kernel
theorem dX4_forceInHeat_3 : decode cX4_forceInHeat 3 = .ok (.aload_n 0, 1) := by decide +kernel
theorem dX4_forceInHeat_4 : decode cX4_forceInHeat 4 = .ok (.getfield 24, 3) := by decide +kernel
theorem dX4_forceInHeat_7 : decode cX4_forceInHeat 7 = .ok (.iload_n 1, 1) := by decide +kernel
theorem dX4_forceInHeat_8 : decode cX4_forceInHeat 8 = .ok (.iaload, 1) := by decide +kernel
theorem dX4_forceInHeat_9 : decode cX4_forceInHeat 9 = .ok (.invokestatic 35, 3) := by decide +kernel
theorem dX4_forceInHeat_12 : decode cX4_forceInHeat 12 = .ok (.imul, 1) := by decide +kernel
theorem dX4_forceInHeat_13 : decode cX4_forceInHeat 13 = .ok (.bipush 20, 2) := by decide +kernel
theorem dX4_forceInHeat_15 : decode cX4_forceInHeat 15 = .ok (.idiv, 1) := by decide +kernel
theorem dX4_forceInHeat_16 : decode cX4_forceInHeat 16 = .ok (.isub, 1) := by decide +kernel
theorem dX4_forceInHeat_17 : decode cX4_forceInHeat 17 = .ok (.ireturn, 1) := by decide +kernel
theorem dX5_init_0 : decode cX5_init 0 = .ok (.aload_n 0, 1) := by decide +kernel
theorem dX5_init_1 : decode cX5_init 1 = .ok (.invokespecial 3, 3) := by decide +kernel
theorem dX5_init_4 : decode cX5_init 4 = .ok (.aload_n 0, 1) := by decide +kernel
theorem dX5_init_5 : decode cX5_init 5 = .ok (.iconst 5, 1) := by decide +kernel
theorem dX5_init_6 : decode cX5_init 6 = .ok (.newarray .int, 2) := by decide +kernel
theorem dX5_init_8 : decode cX5_init 8 = .ok (.putfield 9, 3) := by decide +kernel
theorem dX5_init_11 : decode cX5_init 11 = .ok (.aload_n 0, 1) := by decide +kernel
theorem dX5_init_12 : decode cX5_init 12 = .ok (.iconst 5, 1) := by decide +kernel
theorem dX5_init_13 : decode cX5_init 13 = .ok (.newarray .int, 2) := by decide +kernel
theorem dX5_init_15 : decode cX5_init 15 = .ok (.putfield 15, 3) := by decide +kernel
theorem dX5_init_18 : decode cX5_init 18 = .ok (.aload_n 0, 1) := by decide +kernel
theorem dX5_init_19 : decode cX5_init 19 = .ok (.iconst 5, 1) := by decide +kernel
theorem dX5_init_20 : decode cX5_init 20 = .ok (.newarray .int, 2) := by decide +kernel
theorem dX5_init_22 : decode cX5_init 22 = .ok (.putfield 18, 3) := by decide +kernel
theorem dX5_init_25 : decode cX5_init 25 = .ok (.aload_n 0, 1) := by decide +kernel
theorem dX5_init_26 : decode cX5_init 26 = .ok (.iconst 5, 1) := by decide +kernel
theorem dX5_init_27 : decode cX5_init 27 = .ok (.newarray .int, 2) := by decide +kernel
theorem dX5_init_29 : decode cX5_init 29 = .ok (.putfield 21, 3) := by decide +kernel
theorem dX5_init_32 : decode cX5_init 32 = .ok (.aload_n 0, 1) := by decide +kernel
theorem dX5_init_33 : decode cX5_init 33 = .ok (.iconst 5, 1) := by decide +kernel
theorem dX5_init_34 : decode cX5_init 34 = .ok (.newarray .int, 2) := by decide +kernel
theorem dX5_init_36 : decode cX5_init 36 = .ok (.putfield 24, 3) := by decide +kernel
theorem dX5_init_39 : decode cX5_init 39 = .ok (.aload_n 0, 1) := by decide +kernel
theorem dX5_init_40 : decode cX5_init 40 = .ok (.iconst 5, 1) := by decide +kernel
theorem dX5_init_41 : decode cX5_init 41 = .ok (.newarray .int, 2) := by decide +kernel
theorem dX5_init_43 : decode cX5_init 43 = .ok (.putfield 27, 3) := by decide +kernel
theorem dX5_init_46 : decode cX5_init 46 = .ok (.return_, 1) := by decide +kernel
theorem dX5_add_0 : decode cX5_add 0 = .ok (.aload_n 0, 1) := by decide +kernel
theorem dX5_add_1 : decode cX5_add 1 = .ok (.getfield 30, 3) := by decide +kernel
theorem dX5_add_4 : decode cX5_add 4 = .ok (.istore 4, 2) := by decide +kernel
theorem dX5_add_6 : decode cX5_add 6 = .ok (.aload_n 0, 1) := by decide +kernel
theorem dX5_add_7 : decode cX5_add 7 = .ok (.getfield 9, 3) := by decide +kernel
theorem dX5_add_10 : decode cX5_add 10 = .ok (.iload 4, 2) := by decide +kernel
theorem dX5_add_12 : decode cX5_add 12 = .ok (.iload_n 1, 1) := by decide +kernel
theorem dX5_add_13 : decode cX5_add 13 = .ok (.iastore, 1) := by decide +kernel
theorem dX5_add_14 : decode cX5_add 14 = .ok (.aload_n 0, 1) := by decide +kernel
theorem dX5_add_15 : decode cX5_add 15 = .ok (.getfield 15, 3) := by decide +kernel
theorem dX5_add_18 : decode cX5_add 18 = .ok (.iload 4, 2) := by decide +kernel
theorem dX5_add_20 : decode cX5_add 20 = .ok (.iload_n 2, 1) := by decide +kernel
theorem dX5_add_21 : decode cX5_add 21 = .ok (.iastore, 1) := by decide +kernel
theorem dX5_add_22 : decode cX5_add 22 = .ok (.aload_n 0, 1) := by decide +kernel
theorem dX5_add_23 : decode cX5_add 23 = .ok (.getfield 18, 3) := by decide +kernel
theorem dX5_add_26 : decode cX5_add 26 = .ok (.iload 4, 2) := by decide +kernel
theorem dX5_add_28 : decode cX5_add 28 = .ok (.iload_n 3, 1) := by decide +kernel
theorem dX5_add_29 : decode cX5_add 29 = .ok (.iastore, 1) := by decide +kernel
theorem dX5_add_30 : decode cX5_add 30 = .ok (.aload_n 0, 1) := by decide +kernel
theorem dX5_add_31 : decode cX5_add 31 = .ok (.getfield 21, 3) := by decide +kernel
theorem dX5_add_34 : decode cX5_add 34 = .ok (.iload 4, 2) := by decide +kernel
theorem dX5_add_36 : decode cX5_add 36 = .ok (.bipush (-4), 2) := by decide +kernel
theorem dX5_add_38 : decode cX5_add 38 = .ok (.iastore, 1) := by decide +kernel
theorem dX5_add_39 : decode cX5_add 39 = .ok (.aload_n 0, 1) := by decide +kernel
theorem dX5_add_40 : decode cX5_add 40 = .ok (.dup, 1) := by decide +kernel
theorem dX5_add_41 : decode cX5_add 41 = .ok (.getfield 30, 3) := by decide +kernel
theorem dX5_add_44 : decode cX5_add 44 = .ok (.iconst 1, 1) := by decide +kernel
theorem dX5_add_45 : decode cX5_add 45 = .ok (.iadd, 1) := by decide +kernel
theorem dX5_add_46 : decode cX5_add 46 = .ok (.putfield 30, 3) := by decide +kernel
theorem dX5_add_49 : decode cX5_add 49 = .ok (.iload 4, 2) := by decide +kernel
theorem dX5_add_51 : decode cX5_add 51 = .ok (.ireturn, 1) := by decide +kernel
theorem dX5_isFree_0 : decode cX5_isFree 0 = .ok (.aload_n 0, 1) := by decide +kernel
theorem dX5_isFree_1 : decode cX5_isFree 1 = .ok (.getfield 21, 3) := by decide +kernel
theorem dX5_isFree_4 : decode cX5_isFree 4 = .ok (.iload_n 1, 1) := by decide +kernel
theorem dX5_isFree_5 : decode cX5_isFree 5 = .ok (.iaload, 1) := by decide +kernel
theorem dX5_isFree_6 : decode cX5_isFree 6 = .ok (.bipush (-4), 2) := by decide +kernel
theorem dX5_isFree_8 : decode cX5_isFree 8 = .ok (.if_icmp .ne 7, 3) := by decide +kernel
theorem dX5_isFree_11 : decode cX5_isFree 11 = .ok (.iconst 1, 1) := by decide +kernel
theorem dX5_isFree_12 : decode cX5_isFree 12 = .ok (.goto 4, 3) := by decide +kernel
theorem dX5_isFree_15 : decode cX5_isFree 15 = .ok (.iconst 0, 1) := by decide +kernel
theorem dX5_isFree_16 : decode cX5_isFree 16 = .ok (.ireturn, 1) := by decide +kernel
theorem dX5_mayGo_0 : decode cX5_mayGo 0 = .ok (.aload_n 0, 1) := by decide +kernel
theorem dX5_mayGo_1 : decode cX5_mayGo 1 = .ok (.iload_n 1, 1) := by decide +kernel
theorem dX5_mayGo_2 : decode cX5_mayGo 2 = .ok (.invokevirtual 34, 3) := by decide +kernel
theorem dX5_mayGo_5 : decode cX5_mayGo 5 = .ok (.ifCond .eq 20, 3) := by decide +kernel
theorem dX5_mayGo_8 : decode cX5_mayGo 8 = .ok (.aload_n 0, 1) := by decide +kernel
theorem dX5_mayGo_9 : decode cX5_mayGo 9 = .ok (.getfield 18, 3) := by decide +kernel
theorem dX5_mayGo_12 : decode cX5_mayGo 12 = .ok (.iload_n 1, 1) := by decide +kernel
theorem dX5_mayGo_13 : decode cX5_mayGo 13 = .ok (.iaload, 1) := by decide +kernel
theorem dX5_mayGo_14 : decode cX5_mayGo 14 = .ok (.iload_n 2, 1) := by decide +kernel
theorem dX5_mayGo_15 : decode cX5_mayGo 15 = .ok (.ishr, 1) := by decide +kernel
theorem dX5_mayGo_16 : decode cX5_mayGo 16 = .ok (.iconst 1, 1) := by decide +kernel
theorem dX5_mayGo_17 : decode cX5_mayGo 17 = .ok (.iand, 1) := by decide +kernel
theorem dX5_mayGo_18 : decode cX5_mayGo 18 = .ok (.ifCond .eq 7, 3) := by decide +kernel
theorem dX5_mayGo_21 : decode cX5_mayGo 21 = .ok (.iconst 1, 1) := by decide +kernel
theorem dX5_mayGo_22 : decode cX5_mayGo 22 = .ok (.goto 4, 3) := by decide +kernel
theorem dX5_mayGo_25 : decode cX5_mayGo 25 = .ok (.iconst 0, 1) := by decide +kernel
theorem dX5_mayGo_26 : decode cX5_mayGo 26 = .ok (.ireturn, 1) := by decide +kernel
theorem dX5_wayTo_0 : decode cX5_wayTo 0 = .ok (.aload_n 0, 1) := by decide +kernel
theorem dX5_wayTo_1 : decode cX5_wayTo 1 = .ok (.getfield 9, 3) := by decide +kernel
theorem dX5_wayTo_4 : decode cX5_wayTo 4 = .ok (.iload_n 1, 1) := by decide +kernel
theorem dX5_wayTo_5 : decode cX5_wayTo 5 = .ok (.iaload, 1) := by decide +kernel
theorem dX5_wayTo_6 : decode cX5_wayTo 6 = .ok (.iload_n 2, 1) := by decide +kernel
theorem dX5_wayTo_7 : decode cX5_wayTo 7 = .ok (.isub, 1) := by decide +kernel
theorem dX5_wayTo_8 : decode cX5_wayTo 8 = .ok (.invokestatic 38, 3) := by decide +kernel
theorem dX5_wayTo_11 : decode cX5_wayTo 11 = .ok (.istore 4, 2) := by decide +kernel
theorem dX5_wayTo_13 : decode cX5_wayTo 13 = .ok (.iload 4, 2) := by decide +kernel
theorem dX5_wayTo_15 : decode cX5_wayTo 15 = .ok (.ifCond .ne 15, 3) := by decide +kernel
theorem dX5_wayTo_18 : decode cX5_wayTo 18 = .ok (.aload_n 0, 1) := by decide +kernel
theorem dX5_wayTo_19 : decode cX5_wayTo 19 = .ok (.getfield 15, 3) := by decide +kernel
theorem dX5_wayTo_22 : decode cX5_wayTo 22 = .ok (.iload_n 1, 1) := by decide +kernel
theorem dX5_wayTo_23 : decode cX5_wayTo 23 = .ok (.iaload, 1) := by decide +kernel
theorem dX5_wayTo_24 : decode cX5_wayTo 24 = .ok (.iload_n 3, 1) := by decide +kernel
theorem dX5_wayTo_25 : decode cX5_wayTo 25 = .ok (.isub, 1) := by decide +kernel
theorem dX5_wayTo_26 : decode cX5_wayTo 26 = .ok (.invokestatic 38, 3) := by decide +kernel
theorem dX5_wayTo_29 : decode cX5_wayTo 29 = .ok (.ireturn, 1) := by decide +kernel
theorem dX5_wayTo_30 : decode cX5_wayTo 30 = .ok (.aload_n 0, 1) := by decide +kernel
theorem dX5_wayTo_31 : decode cX5_wayTo 31 = .ok (.getfield 15, 3) := by decide +kernel
theorem dX5_wayTo_34 : decode cX5_wayTo 34 = .ok (.iload_n 1, 1) := by decide +kernel
theorem dX5_wayTo_35 : decode cX5_wayTo 35 = .ok (.iaload, 1) := by decide +kernel
theorem dX5_wayTo_36 : decode cX5_wayTo 36 = .ok (.bipush 15, 2) := by decide +kernel
theorem dX5_wayTo_38 : decode cX5_wayTo 38 = .ok (.isub, 1) := by decide +kernel
theorem dX5_wayTo_39 : decode cX5_wayTo 39 = .ok (.invokestatic 38, 3) := by decide +kernel
theorem dX5_wayTo_42 : decode cX5_wayTo 42 = .ok (.bipush 6, 2) := by decide +kernel
theorem dX5_wayTo_44 : decode cX5_wayTo 44 = .ok (.iload 4, 2) := by decide +kernel
theorem dX5_wayTo_46 : decode cX5_wayTo 46 = .ok (.imul, 1) := by decide +kernel
theorem dX5_wayTo_47 : decode cX5_wayTo 47 = .ok (.iadd, 1) := by decide +kernel
theorem dX5_wayTo_48 : decode cX5_wayTo 48 = .ok (.bipush 15, 2) := by decide +kernel
theorem dX5_wayTo_50 : decode cX5_wayTo 50 = .ok (.iload_n 3, 1) := by decide +kernel
theorem dX5_wayTo_51 : decode cX5_wayTo 51 = .ok (.isub, 1) := by decide +kernel
theorem dX5_wayTo_52 : decode cX5_wayTo 52 = .ok (.invokestatic 38, 3) := by decide +kernel
theorem dX5_wayTo_55 : decode cX5_wayTo 55 = .ok (.iadd, 1) := by decide +kernel
theorem dX5_wayTo_56 : decode cX5_wayTo 56 = .ok (.ireturn, 1) := by decide +kernel
theorem dX6_init_0 : decode cX6_init 0 = .ok (.aload_n 0, 1) := by decide +kernel
theorem dX6_init_1 : decode cX6_init 1 = .ok (.invokespecial 3, 3) := by decide +kernel
theorem dX6_init_4 : decode cX6_init 4 = .ok (.aload_n 0, 1) := by decide +kernel
theorem dX6_init_5 : decode cX6_init 5 = .ok (.aload_n 1, 1) := by decide +kernel
theorem dX6_init_6 : decode cX6_init 6 = .ok (.putfield 9, 3) := by decide +kernel
theorem dX6_init_9 : decode cX6_init 9 = .ok (.aload_n 0, 1) := by decide +kernel
theorem dX6_init_10 : decode cX6_init 10 = .ok (.aload_n 2, 1) := by decide +kernel
theorem dX6_init_11 : decode cX6_init 11 = .ok (.putfield 15, 3) := by decide +kernel
theorem dX6_init_14 : decode cX6_init 14 = .ok (.aload_n 0, 1) := by decide +kernel
theorem dX6_init_15 : decode cX6_init 15 = .ok (.aload_n 3, 1) := by decide +kernel
theorem dX6_init_16 : decode cX6_init 16 = .ok (.putfield 19, 3) := by decide +kernel
theorem dX6_init_19 : decode cX6_init 19 = .ok (.return_, 1) := by decide +kernel
theorem dX6_sendWhileAnyCan_0 : decode cX6_sendWhileAnyCan 0 = .ok (.iconst 0, 1) := by decide +kernel
theorem dX6_sendWhileAnyCan_1 : decode cX6_sendWhileAnyCan 1 = .ok (.istore_n 1, 1) := by decide +kernel
theorem dX6_sendWhileAnyCan_2 : decode cX6_sendWhileAnyCan 2 = .ok (.iload_n 1, 1) := by decide +kernel
theorem dX6_sendWhileAnyCan_3 : decode cX6_sendWhileAnyCan 3 = .ok (.aload_n 0, 1) := by decide +kernel
theorem dX6_sendWhileAnyCan_4 : decode cX6_sendWhileAnyCan 4 = .ok (.getfield 15, 3) := by decide +kernel
theorem dX6_sendWhileAnyCan_7 : decode cX6_sendWhileAnyCan 7 = .ok (.getfield 23, 3) := by decide +kernel
theorem dX6_sendWhileAnyCan_10 : decode cX6_sendWhileAnyCan 10 = .ok (.if_icmp .ge 30, 3) := by decide +kernel
theorem dX6_sendWhileAnyCan_13 : decode cX6_sendWhileAnyCan 13 = .ok (.aload_n 0, 1) := by decide +kernel
theorem dX6_sendWhileAnyCan_14 : decode cX6_sendWhileAnyCan 14 = .ok (.invokevirtual 29, 3) := by decide +kernel
theorem dX6_sendWhileAnyCan_17 : decode cX6_sendWhileAnyCan 17 = .ok (.istore_n 2, 1) := by decide +kernel
theorem dX6_sendWhileAnyCan_18 : decode cX6_sendWhileAnyCan 18 = .ok (.iload_n 2, 1) := by decide +kernel
theorem dX6_sendWhileAnyCan_19 : decode cX6_sendWhileAnyCan 19 = .ok (.iconst (-1), 1) := by decide +kernel
theorem dX6_sendWhileAnyCan_20 : decode cX6_sendWhileAnyCan 20 = .ok (.if_icmp .ne 4, 3) := by decide +kernel
theorem dX6_sendWhileAnyCan_23 : decode cX6_sendWhileAnyCan 23 = .ok (.return_, 1) := by decide +kernel
theorem dX6_sendWhileAnyCan_24 : decode cX6_sendWhileAnyCan 24 = .ok (.aload_n 0, 1) := by decide +kernel
theorem dX6_sendWhileAnyCan_25 : decode cX6_sendWhileAnyCan 25 = .ok (.aload_n 0, 1) := by decide +kernel
theorem dX6_sendWhileAnyCan_26 : decode cX6_sendWhileAnyCan 26 = .ok (.iload_n 2, 1) := by decide +kernel
theorem dX6_sendWhileAnyCan_27 : decode cX6_sendWhileAnyCan 27 = .ok (.invokevirtual 33, 3) := by decide +kernel
theorem dX6_sendWhileAnyCan_30 : decode cX6_sendWhileAnyCan 30 = .ok (.iload_n 2, 1) := by decide +kernel
theorem dX6_sendWhileAnyCan_31 : decode cX6_sendWhileAnyCan 31 = .ok (.invokevirtual 37, 3) := by decide +kernel
theorem dX6_sendWhileAnyCan_34 : decode cX6_sendWhileAnyCan 34 = .ok (.iinc 1 1, 3) := by decide +kernel
theorem dX6_sendWhileAnyCan_37 : decode cX6_sendWhileAnyCan 37 = .ok (.goto (-35), 3) := by decide +kernel
theorem dX6_sendWhileAnyCan_40 : decode cX6_sendWhileAnyCan 40 = .ok (.return_, 1) := by decide +kernel
theorem dX6_sendOne_0 : decode cX6_sendOne 0 = .ok (.iload_n 1, 1) := by decide +kernel
theorem dX6_sendOne_1 : decode cX6_sendOne 1 = .ok (.aload_n 0, 1) := by decide +kernel
theorem dX6_sendOne_2 : decode cX6_sendOne 2 = .ok (.getfield 15, 3) := by decide +kernel
theorem dX6_sendOne_5 : decode cX6_sendOne 5 = .ok (.getfield 23, 3) := by decide +kernel
theorem dX6_sendOne_8 : decode cX6_sendOne 8 = .ok (.invokestatic 41, 3) := by decide +kernel
theorem dX6_sendOne_11 : decode cX6_sendOne 11 = .ok (.ifCond .eq 14, 3) := by decide +kernel
theorem dX6_sendOne_14 : decode cX6_sendOne 14 = .ok (.aload_n 0, 1) := by decide +kernel
theorem dX6_sendOne_15 : decode cX6_sendOne 15 = .ok (.getfield 9, 3) := by decide +kernel
theorem dX6_sendOne_18 : decode cX6_sendOne 18 = .ok (.iload_n 2, 1) := by decide +kernel
theorem dX6_sendOne_19 : decode cX6_sendOne 19 = .ok (.invokevirtual 45, 3) := by decide +kernel
theorem dX6_sendOne_22 : decode cX6_sendOne 22 = .ok (.ifCond .ne 4, 3) := by decide +kernel
theorem dX6_sendOne_25 : decode cX6_sendOne 25 = .ok (.return_, 1) := by decide +kernel
theorem dX6_sendOne_26 : decode cX6_sendOne 26 = .ok (.aload_n 0, 1) := by decide +kernel
theorem dX6_sendOne_27 : decode cX6_sendOne 27 = .ok (.getfield 15, 3) := by decide +kernel
theorem dX6_sendOne_30 : decode cX6_sendOne 30 = .ok (.iload_n 1, 1) := by decide +kernel
theorem dX6_sendOne_31 : decode cX6_sendOne 31 = .ok (.aload_n 0, 1) := by decide +kernel
theorem dX6_sendOne_32 : decode cX6_sendOne 32 = .ok (.getfield 9, 3) := by decide +kernel
theorem dX6_sendOne_35 : decode cX6_sendOne 35 = .ok (.getfield 51, 3) := by decide +kernel
theorem dX6_sendOne_38 : decode cX6_sendOne 38 = .ok (.iload_n 2, 1) := by decide +kernel
theorem dX6_sendOne_39 : decode cX6_sendOne 39 = .ok (.iaload, 1) := by decide +kernel
theorem dX6_sendOne_40 : decode cX6_sendOne 40 = .ok (.aload_n 0, 1) := by decide +kernel
theorem dX6_sendOne_41 : decode cX6_sendOne 41 = .ok (.getfield 9, 3) := by decide +kernel
theorem dX6_sendOne_44 : decode cX6_sendOne 44 = .ok (.getfield 55, 3) := by decide +kernel
theorem dX6_sendOne_47 : decode cX6_sendOne 47 = .ok (.iload_n 2, 1) := by decide +kernel
theorem dX6_sendOne_48 : decode cX6_sendOne 48 = .ok (.iaload, 1) := by decide +kernel
theorem dX6_sendOne_49 : decode cX6_sendOne 49 = .ok (.invokevirtual 58, 3) := by decide +kernel
theorem dX6_sendOne_52 : decode cX6_sendOne 52 = .ok (.istore_n 3, 1) := by decide +kernel
theorem dX6_sendOne_53 : decode cX6_sendOne 53 = .ok (.aload_n 0, 1) := by decide +kernel
theorem dX6_sendOne_54 : decode cX6_sendOne 54 = .ok (.getfield 15, 3) := by decide +kernel
theorem dX6_sendOne_57 : decode cX6_sendOne 57 = .ok (.getfield 62, 3) := by decide +kernel
theorem dX6_sendOne_60 : decode cX6_sendOne 60 = .ok (.iload_n 1, 1) := by decide +kernel
theorem dX6_sendOne_61 : decode cX6_sendOne 61 = .ok (.iload_n 2, 1) := by decide +kernel
theorem dX6_sendOne_62 : decode cX6_sendOne 62 = .ok (.iastore, 1) := by decide +kernel
theorem dX6_sendOne_63 : decode cX6_sendOne 63 = .ok (.aload_n 0, 1) := by decide +kernel
theorem dX6_sendOne_64 : decode cX6_sendOne 64 = .ok (.getfield 15, 3) := by decide +kernel
theorem dX6_sendOne_67 : decode cX6_sendOne 67 = .ok (.getfield 65, 3) := by decide +kernel
theorem dX6_sendOne_70 : decode cX6_sendOne 70 = .ok (.iload_n 1, 1) := by decide +kernel
theorem dX6_sendOne_71 : decode cX6_sendOne 71 = .ok (.aload_n 0, 1) := by decide +kernel
theorem dX6_sendOne_72 : decode cX6_sendOne 72 = .ok (.getfield 68, 3) := by decide +kernel
theorem dX6_sendOne_75 : decode cX6_sendOne 75 = .ok (.iload_n 3, 1) := by decide +kernel
theorem dX6_sendOne_76 : decode cX6_sendOne 76 = .ok (.iadd, 1) := by decide +kernel
theorem dX6_sendOne_77 : decode cX6_sendOne 77 = .ok (.iconst 3, 1) := by decide +kernel
theorem dX6_sendOne_78 : decode cX6_sendOne 78 = .ok (.iadd, 1) := by decide +kernel
theorem dX6_sendOne_79 : decode cX6_sendOne 79 = .ok (.iastore, 1) := by decide +kernel
theorem dX6_sendOne_80 : decode cX6_sendOne 80 = .ok (.aload_n 0, 1) := by decide +kernel
theorem dX6_sendOne_81 : decode cX6_sendOne 81 = .ok (.getfield 15, 3) := by decide +kernel
theorem dX6_sendOne_84 : decode cX6_sendOne 84 = .ok (.getfield 71, 3) := by decide +kernel
theorem dX6_sendOne_87 : decode cX6_sendOne 87 = .ok (.iload_n 1, 1) := by decide +kernel
theorem dX6_sendOne_88 : decode cX6_sendOne 88 = .ok (.dup2, 1) := by decide +kernel
theorem dX6_sendOne_89 : decode cX6_sendOne 89 = .ok (.iaload, 1) := by decide +kernel
theorem dX6_sendOne_90 : decode cX6_sendOne 90 = .ok (.iconst 1, 1) := by decide +kernel
theorem dX6_sendOne_91 : decode cX6_sendOne 91 = .ok (.iadd, 1) := by decide +kernel
theorem dX6_sendOne_92 : decode cX6_sendOne 92 = .ok (.iastore, 1) := by decide +kernel
theorem dX6_sendOne_93 : decode cX6_sendOne 93 = .ok (.aload_n 0, 1) := by decide +kernel
theorem dX6_sendOne_94 : decode cX6_sendOne 94 = .ok (.getfield 19, 3) := by decide +kernel
theorem dX6_sendOne_97 : decode cX6_sendOne 97 = .ok (.iload_n 2, 1) := by decide +kernel
theorem dX6_sendOne_98 : decode cX6_sendOne 98 = .ok (.aload_n 0, 1) := by decide +kernel
theorem dX6_sendOne_99 : decode cX6_sendOne 99 = .ok (.getfield 68, 3) := by decide +kernel
theorem dX6_sendOne_102 : decode cX6_sendOne 102 = .ok (.aload_n 0, 1) := by decide +kernel
theorem dX6_sendOne_103 : decode cX6_sendOne 103 = .ok (.getfield 19, 3) := by decide +kernel
theorem dX6_sendOne_106 : decode cX6_sendOne 106 = .ok (.getfield 74, 3) := by decide +kernel
theorem dX6_sendOne_109 : decode cX6_sendOne 109 = .ok (.iload_n 2, 1) := by decide +kernel
theorem dX6_sendOne_110 : decode cX6_sendOne 110 = .ok (.iaload, 1) := by decide +kernel
theorem dX6_sendOne_111 : decode cX6_sendOne 111 = .ok (.isub, 1) := by decide +kernel
theorem dX6_sendOne_112 : decode cX6_sendOne 112 = .ok (.iload_n 3, 1) := by decide +kernel
theorem dX6_sendOne_113 : decode cX6_sendOne 113 = .ok (.iadd, 1) := by decide +kernel
theorem dX6_sendOne_114 : decode cX6_sendOne 114 = .ok (.invokevirtual 79, 3) := by decide +kernel
theorem dX6_sendOne_117 : decode cX6_sendOne 117 = .ok (.return_, 1) := by decide +kernel
theorem dX6_nextTick_0 : decode cX6_nextTick 0 = .ok (.aload_n 0, 1) := by decide +kernel
theorem dX6_nextTick_1 : decode cX6_nextTick 1 = .ok (.dup, 1) := by decide +kernel
theorem dX6_nextTick_2 : decode cX6_nextTick 2 = .ok (.getfield 68, 3) := by decide +kernel
theorem dX6_nextTick_5 : decode cX6_nextTick 5 = .ok (.iconst 1, 1) := by decide +kernel
theorem dX6_nextTick_6 : decode cX6_nextTick 6 = .ok (.iadd, 1) := by decide +kernel
theorem dX6_nextTick_7 : decode cX6_nextTick 7 = .ok (.putfield 68, 3) := by decide +kernel
theorem dX6_nextTick_10 : decode cX6_nextTick 10 = .ok (.iconst 0, 1) := by decide +kernel
theorem dX6_nextTick_11 : decode cX6_nextTick 11 = .ok (.istore_n 1, 1) := by decide +kernel
theorem dX6_nextTick_12 : decode cX6_nextTick 12 = .ok (.iload_n 1, 1) := by decide +kernel
theorem dX6_nextTick_13 : decode cX6_nextTick 13 = .ok (.aload_n 0, 1) := by decide +kernel
theorem dX6_nextTick_14 : decode cX6_nextTick 14 = .ok (.getfield 15, 3) := by decide +kernel
theorem dX6_nextTick_17 : decode cX6_nextTick 17 = .ok (.getfield 23, 3) := by decide +kernel
theorem dX6_nextTick_20 : decode cX6_nextTick 20 = .ok (.if_icmp .ge 41, 3) := by decide +kernel
theorem dX6_nextTick_23 : decode cX6_nextTick 23 = .ok (.aload_n 0, 1) := by decide +kernel
theorem dX6_nextTick_24 : decode cX6_nextTick 24 = .ok (.getfield 15, 3) := by decide +kernel
theorem dX6_nextTick_27 : decode cX6_nextTick 27 = .ok (.iload_n 1, 1) := by decide +kernel
theorem dX6_nextTick_28 : decode cX6_nextTick 28 = .ok (.invokevirtual 82, 3) := by decide +kernel
theorem dX6_nextTick_31 : decode cX6_nextTick 31 = .ok (.ifCond .ne 24, 3) := by decide +kernel
theorem dX6_nextTick_34 : decode cX6_nextTick 34 = .ok (.aload_n 0, 1) := by decide +kernel
theorem dX6_nextTick_35 : decode cX6_nextTick 35 = .ok (.getfield 15, 3) := by decide +kernel
theorem dX6_nextTick_38 : decode cX6_nextTick 38 = .ok (.getfield 65, 3) := by decide +kernel
theorem dX6_nextTick_41 : decode cX6_nextTick 41 = .ok (.iload_n 1, 1) := by decide +kernel
theorem dX6_nextTick_42 : decode cX6_nextTick 42 = .ok (.iaload, 1) := by decide +kernel
theorem dX6_nextTick_43 : decode cX6_nextTick 43 = .ok (.aload_n 0, 1) := by decide +kernel
theorem dX6_nextTick_44 : decode cX6_nextTick 44 = .ok (.getfield 68, 3) := by decide +kernel
theorem dX6_nextTick_47 : decode cX6_nextTick 47 = .ok (.if_icmp .gt 8, 3) := by decide +kernel
theorem dX6_nextTick_50 : decode cX6_nextTick 50 = .ok (.aload_n 0, 1) := by decide +kernel
theorem dX6_nextTick_51 : decode cX6_nextTick 51 = .ok (.iload_n 1, 1) := by decide +kernel
theorem dX6_nextTick_52 : decode cX6_nextTick 52 = .ok (.invokevirtual 85, 3) := by decide +kernel
theorem dX6_nextTick_55 : decode cX6_nextTick 55 = .ok (.iinc 1 1, 3) := by decide +kernel
theorem dX6_nextTick_58 : decode cX6_nextTick 58 = .ok (.goto (-46), 3) := by decide +kernel
theorem dX6_nextTick_61 : decode cX6_nextTick 61 = .ok (.return_, 1) := by decide +kernel
theorem dX6_endErrand_0 : decode cX6_endErrand 0 = .ok (.aload_n 0, 1) := by decide +kernel
theorem dX6_endErrand_1 : decode cX6_endErrand 1 = .ok (.getfield 15, 3) := by decide +kernel
theorem dX6_endErrand_4 : decode cX6_endErrand 4 = .ok (.getfield 62, 3) := by decide +kernel
theorem dX6_endErrand_7 : decode cX6_endErrand 7 = .ok (.iload_n 1, 1) := by decide +kernel
theorem dX6_endErrand_8 : decode cX6_endErrand 8 = .ok (.iaload, 1) := by decide +kernel
theorem dX6_endErrand_9 : decode cX6_endErrand 9 = .ok (.istore_n 2, 1) := by decide +kernel
theorem dX6_endErrand_10 : decode cX6_endErrand 10 = .ok (.aload_n 0, 1) := by decide +kernel
theorem dX6_endErrand_11 : decode cX6_endErrand 11 = .ok (.getfield 9, 3) := by decide +kernel
theorem dX6_endErrand_14 : decode cX6_endErrand 14 = .ok (.iload_n 2, 1) := by decide +kernel
theorem dX6_endErrand_15 : decode cX6_endErrand 15 = .ok (.invokevirtual 45, 3) := by decide +kernel
theorem dX6_endErrand_18 : decode cX6_endErrand 18 = .ok (.ifCond .ne 4, 3) := by decide +kernel
theorem dX6_endErrand_21 : decode cX6_endErrand 21 = .ok (.return_, 1) := by decide +kernel
theorem dX6_endErrand_22 : decode cX6_endErrand 22 = .ok (.aload_n 0, 1) := by decide +kernel
theorem dX6_endErrand_23 : decode cX6_endErrand 23 = .ok (.getfield 15, 3) := by decide +kernel
theorem dX6_endErrand_26 : decode cX6_endErrand 26 = .ok (.getfield 62, 3) := by decide +kernel
theorem dX6_endErrand_29 : decode cX6_endErrand 29 = .ok (.iload_n 1, 1) := by decide +kernel
theorem dX6_endErrand_30 : decode cX6_endErrand 30 = .ok (.bipush (-4), 2) := by decide +kernel
theorem dX6_endErrand_32 : decode cX6_endErrand 32 = .ok (.iastore, 1) := by decide +kernel
theorem dX6_endErrand_33 : decode cX6_endErrand 33 = .ok (.aload_n 0, 1) := by decide +kernel
theorem dX6_endErrand_34 : decode cX6_endErrand 34 = .ok (.getfield 15, 3) := by decide +kernel
theorem dX6_endErrand_37 : decode cX6_endErrand 37 = .ok (.getfield 89, 3) := by decide +kernel
theorem dX6_endErrand_40 : decode cX6_endErrand 40 = .ok (.iload_n 1, 1) := by decide +kernel
theorem dX6_endErrand_41 : decode cX6_endErrand 41 = .ok (.aload_n 0, 1) := by decide +kernel
theorem dX6_endErrand_42 : decode cX6_endErrand 42 = .ok (.getfield 9, 3) := by decide +kernel
theorem dX6_endErrand_45 : decode cX6_endErrand 45 = .ok (.getfield 51, 3) := by decide +kernel
theorem dX6_endErrand_48 : decode cX6_endErrand 48 = .ok (.iload_n 2, 1) := by decide +kernel
theorem dX6_endErrand_49 : decode cX6_endErrand 49 = .ok (.iaload, 1) := by decide +kernel
theorem dX6_endErrand_50 : decode cX6_endErrand 50 = .ok (.iastore, 1) := by decide +kernel
theorem dX6_endErrand_51 : decode cX6_endErrand 51 = .ok (.aload_n 0, 1) := by decide +kernel
theorem dX6_endErrand_52 : decode cX6_endErrand 52 = .ok (.getfield 15, 3) := by decide +kernel
theorem dX6_endErrand_55 : decode cX6_endErrand 55 = .ok (.getfield 90, 3) := by decide +kernel
theorem dX6_endErrand_58 : decode cX6_endErrand 58 = .ok (.iload_n 1, 1) := by decide +kernel
theorem dX6_endErrand_59 : decode cX6_endErrand 59 = .ok (.aload_n 0, 1) := by decide +kernel
theorem dX6_endErrand_60 : decode cX6_endErrand 60 = .ok (.getfield 9, 3) := by decide +kernel
theorem dX6_endErrand_63 : decode cX6_endErrand 63 = .ok (.getfield 55, 3) := by decide +kernel
theorem dX6_endErrand_66 : decode cX6_endErrand 66 = .ok (.iload_n 2, 1) := by decide +kernel
theorem dX6_endErrand_67 : decode cX6_endErrand 67 = .ok (.iaload, 1) := by decide +kernel
theorem dX6_endErrand_68 : decode cX6_endErrand 68 = .ok (.iastore, 1) := by decide +kernel
theorem dX6_endErrand_69 : decode cX6_endErrand 69 = .ok (.aload_n 0, 1) := by decide +kernel
theorem dX6_endErrand_70 : decode cX6_endErrand 70 = .ok (.getfield 19, 3) := by decide +kernel
theorem dX6_endErrand_73 : decode cX6_endErrand 73 = .ok (.iload_n 2, 1) := by decide +kernel
theorem dX6_endErrand_74 : decode cX6_endErrand 74 = .ok (.invokevirtual 91, 3) := by decide +kernel
theorem dX6_endErrand_77 : decode cX6_endErrand 77 = .ok (.return_, 1) := by decide +kernel
theorem dX6_firstThatCanBeServed_0 : decode cX6_firstThatCanBeServed 0 = .ok (.iconst (-1), 1) := by decide +kernel
theorem dX6_firstThatCanBeServed_1 : decode cX6_firstThatCanBeServed 1 = .ok (.istore_n 1, 1) := by decide +kernel
theorem dX6_firstThatCanBeServed_2 : decode cX6_firstThatCanBeServed 2 = .ok (.iconst 0, 1) := by decide +kernel
theorem dX6_firstThatCanBeServed_3 : decode cX6_firstThatCanBeServed 3 = .ok (.istore_n 2, 1) := by decide +kernel
theorem dX6_firstThatCanBeServed_4 : decode cX6_firstThatCanBeServed 4 = .ok (.iload_n 2, 1) := by decide +kernel
theorem dX6_firstThatCanBeServed_5 : decode cX6_firstThatCanBeServed 5 = .ok (.aload_n 0, 1) := by decide +kernel
theorem dX6_firstThatCanBeServed_6 : decode cX6_firstThatCanBeServed 6 = .ok (.getfield 9, 3) := by decide +kernel
theorem dX6_firstThatCanBeServed_9 : decode cX6_firstThatCanBeServed 9 = .ok (.getfield 92, 3) := by decide +kernel
theorem dX6_firstThatCanBeServed_12 : decode cX6_firstThatCanBeServed 12 = .ok (.if_icmp .ge 45, 3) := by decide +kernel
theorem dX6_firstThatCanBeServed_15 : decode cX6_firstThatCanBeServed 15 = .ok (.aload_n 0, 1) := by decide +kernel
theorem dX6_firstThatCanBeServed_16 : decode cX6_firstThatCanBeServed 16 = .ok (.getfield 19, 3) := by decide +kernel
theorem dX6_firstThatCanBeServed_19 : decode cX6_firstThatCanBeServed 19 = .ok (.iload_n 2, 1) := by decide +kernel
theorem dX6_firstThatCanBeServed_20 : decode cX6_firstThatCanBeServed 20 = .ok (.invokevirtual 93, 3) := by decide +kernel
theorem dX6_firstThatCanBeServed_23 : decode cX6_firstThatCanBeServed 23 = .ok (.ifCond .eq 28, 3) := by decide +kernel
theorem dX6_firstThatCanBeServed_26 : decode cX6_firstThatCanBeServed 26 = .ok (.iload_n 1, 1) := by decide +kernel
theorem dX6_firstThatCanBeServed_27 : decode cX6_firstThatCanBeServed 27 = .ok (.iconst (-1), 1) := by decide +kernel
theorem dX6_firstThatCanBeServed_28 : decode cX6_firstThatCanBeServed 28 = .ok (.if_icmp .eq 12, 3) := by decide +kernel
theorem dX6_firstThatCanBeServed_31 : decode cX6_firstThatCanBeServed 31 = .ok (.aload_n 0, 1) := by decide +kernel
theorem dX6_firstThatCanBeServed_32 : decode cX6_firstThatCanBeServed 32 = .ok (.iload_n 2, 1) := by decide +kernel
theorem dX6_firstThatCanBeServed_33 : decode cX6_firstThatCanBeServed 33 = .ok (.iload_n 1, 1) := by decide +kernel
theorem dX6_firstThatCanBeServed_34 : decode cX6_firstThatCanBeServed 34 = .ok (.invokevirtual 96, 3) := by decide +kernel
theorem dX6_firstThatCanBeServed_37 : decode cX6_firstThatCanBeServed 37 = .ok (.ifCond .eq 14, 3) := by decide +kernel
theorem dX6_firstThatCanBeServed_40 : decode cX6_firstThatCanBeServed 40 = .ok (.aload_n 0, 1) := by decide +kernel
theorem dX6_firstThatCanBeServed_41 : decode cX6_firstThatCanBeServed 41 = .ok (.iload_n 2, 1) := by decide +kernel
theorem dX6_firstThatCanBeServed_42 : decode cX6_firstThatCanBeServed 42 = .ok (.invokevirtual 33, 3) := by decide +kernel
theorem dX6_firstThatCanBeServed_45 : decode cX6_firstThatCanBeServed 45 = .ok (.iconst (-1), 1) := by decide +kernel
theorem dX6_firstThatCanBeServed_46 : decode cX6_firstThatCanBeServed 46 = .ok (.if_icmp .eq 5, 3) := by decide +kernel
theorem dX6_firstThatCanBeServed_49 : decode cX6_firstThatCanBeServed 49 = .ok (.iload_n 2, 1) := by decide +kernel
theorem dX6_firstThatCanBeServed_50 : decode cX6_firstThatCanBeServed 50 = .ok (.istore_n 1, 1) := by decide +kernel
theorem dX6_firstThatCanBeServed_51 : decode cX6_firstThatCanBeServed 51 = .ok (.iinc 2 1, 3) := by decide +kernel
theorem dX6_firstThatCanBeServed_54 : decode cX6_firstThatCanBeServed 54 = .ok (.goto (-50), 3) := by decide +kernel
theorem dX6_firstThatCanBeServed_57 : decode cX6_firstThatCanBeServed 57 = .ok (.iload_n 1, 1) := by decide +kernel
theorem dX6_firstThatCanBeServed_58 : decode cX6_firstThatCanBeServed 58 = .ok (.ireturn, 1) := by decide +kernel
theorem dX6_goesBefore_0 : decode cX6_goesBefore 0 = .ok (.aload_n 0, 1) := by decide +kernel
theorem dX6_goesBefore_1 : decode cX6_goesBefore 1 = .ok (.getfield 9, 3) := by decide +kernel
theorem dX6_goesBefore_4 : decode cX6_goesBefore 4 = .ok (.getfield 99, 3) := by decide +kernel
theorem dX6_goesBefore_7 : decode cX6_goesBefore 7 = .ok (.iload_n 1, 1) := by decide +kernel
theorem dX6_goesBefore_8 : decode cX6_goesBefore 8 = .ok (.iaload, 1) := by decide +kernel
theorem dX6_goesBefore_9 : decode cX6_goesBefore 9 = .ok (.aload_n 0, 1) := by decide +kernel
theorem dX6_goesBefore_10 : decode cX6_goesBefore 10 = .ok (.getfield 9, 3) := by decide +kernel
theorem dX6_goesBefore_13 : decode cX6_goesBefore 13 = .ok (.getfield 99, 3) := by decide +kernel
theorem dX6_goesBefore_16 : decode cX6_goesBefore 16 = .ok (.iload_n 2, 1) := by decide +kernel
theorem dX6_goesBefore_17 : decode cX6_goesBefore 17 = .ok (.iaload, 1) := by decide +kernel
theorem dX6_goesBefore_18 : decode cX6_goesBefore 18 = .ok (.if_icmp .eq 30, 3) := by decide +kernel
theorem dX6_goesBefore_21 : decode cX6_goesBefore 21 = .ok (.aload_n 0, 1) := by decide +kernel
theorem dX6_goesBefore_22 : decode cX6_goesBefore 22 = .ok (.getfield 9, 3) := by decide +kernel
theorem dX6_goesBefore_25 : decode cX6_goesBefore 25 = .ok (.getfield 99, 3) := by decide +kernel
theorem dX6_goesBefore_28 : decode cX6_goesBefore 28 = .ok (.iload_n 1, 1) := by decide +kernel
theorem dX6_goesBefore_29 : decode cX6_goesBefore 29 = .ok (.iaload, 1) := by decide +kernel
theorem dX6_goesBefore_30 : decode cX6_goesBefore 30 = .ok (.aload_n 0, 1) := by decide +kernel
theorem dX6_goesBefore_31 : decode cX6_goesBefore 31 = .ok (.getfield 9, 3) := by decide +kernel
theorem dX6_goesBefore_34 : decode cX6_goesBefore 34 = .ok (.getfield 99, 3) := by decide +kernel
theorem dX6_goesBefore_37 : decode cX6_goesBefore 37 = .ok (.iload_n 2, 1) := by decide +kernel
theorem dX6_goesBefore_38 : decode cX6_goesBefore 38 = .ok (.iaload, 1) := by decide +kernel
theorem dX6_goesBefore_39 : decode cX6_goesBefore 39 = .ok (.if_icmp .le 7, 3) := by decide +kernel
theorem dX6_goesBefore_42 : decode cX6_goesBefore 42 = .ok (.iconst 1, 1) := by decide +kernel
theorem dX6_goesBefore_43 : decode cX6_goesBefore 43 = .ok (.goto 4, 3) := by decide +kernel
theorem dX6_goesBefore_46 : decode cX6_goesBefore 46 = .ok (.iconst 0, 1) := by decide +kernel
theorem dX6_goesBefore_47 : decode cX6_goesBefore 47 = .ok (.ireturn, 1) := by decide +kernel
theorem dX6_goesBefore_48 : decode cX6_goesBefore 48 = .ok (.aload_n 0, 1) := by decide +kernel
theorem dX6_goesBefore_49 : decode cX6_goesBefore 49 = .ok (.getfield 19, 3) := by decide +kernel
theorem dX6_goesBefore_52 : decode cX6_goesBefore 52 = .ok (.getfield 74, 3) := by decide +kernel
theorem dX6_goesBefore_55 : decode cX6_goesBefore 55 = .ok (.iload_n 1, 1) := by decide +kernel
theorem dX6_goesBefore_56 : decode cX6_goesBefore 56 = .ok (.iaload, 1) := by decide +kernel
theorem dX6_goesBefore_57 : decode cX6_goesBefore 57 = .ok (.aload_n 0, 1) := by decide +kernel
theorem dX6_goesBefore_58 : decode cX6_goesBefore 58 = .ok (.getfield 19, 3) := by decide +kernel
theorem dX6_goesBefore_61 : decode cX6_goesBefore 61 = .ok (.getfield 74, 3) := by decide +kernel
theorem dX6_goesBefore_64 : decode cX6_goesBefore 64 = .ok (.iload_n 2, 1) := by decide +kernel
theorem dX6_goesBefore_65 : decode cX6_goesBefore 65 = .ok (.iaload, 1) := by decide +kernel
theorem dX6_goesBefore_66 : decode cX6_goesBefore 66 = .ok (.if_icmp .ge 7, 3) := by decide +kernel
theorem dX6_goesBefore_69 : decode cX6_goesBefore 69 = .ok (.iconst 1, 1) := by decide +kernel
theorem dX6_goesBefore_70 : decode cX6_goesBefore 70 = .ok (.goto 4, 3) := by decide +kernel
theorem dX6_goesBefore_73 : decode cX6_goesBefore 73 = .ok (.iconst 0, 1) := by decide +kernel
theorem dX6_goesBefore_74 : decode cX6_goesBefore 74 = .ok (.ireturn, 1) := by decide +kernel
theorem dX6_nearestServant_0 : decode cX6_nearestServant 0 = .ok (.iconst (-1), 1) := by decide +kernel
theorem dX6_nearestServant_1 : decode cX6_nearestServant 1 = .ok (.istore_n 2, 1) := by decide +kernel
theorem dX6_nearestServant_2 : decode cX6_nearestServant 2 = .ok (.iconst 0, 1) := by decide +kernel
theorem dX6_nearestServant_3 : decode cX6_nearestServant 3 = .ok (.istore_n 3, 1) := by decide +kernel
theorem dX6_nearestServant_4 : decode cX6_nearestServant 4 = .ok (.iconst 0, 1) := by decide +kernel
theorem dX6_nearestServant_5 : decode cX6_nearestServant 5 = .ok (.istore 4, 2) := by decide +kernel
theorem dX6_nearestServant_7 : decode cX6_nearestServant 7 = .ok (.iload 4, 2) := by decide +kernel
theorem dX6_nearestServant_9 : decode cX6_nearestServant 9 = .ok (.aload_n 0, 1) := by decide +kernel
theorem dX6_nearestServant_10 : decode cX6_nearestServant 10 = .ok (.getfield 15, 3) := by decide +kernel
theorem dX6_nearestServant_13 : decode cX6_nearestServant 13 = .ok (.getfield 23, 3) := by decide +kernel
theorem dX6_nearestServant_16 : decode cX6_nearestServant 16 = .ok (.if_icmp .ge 76, 3) := by decide +kernel
theorem dX6_nearestServant_19 : decode cX6_nearestServant 19 = .ok (.aload_n 0, 1) := by decide +kernel
theorem dX6_nearestServant_20 : decode cX6_nearestServant 20 = .ok (.getfield 15, 3) := by decide +kernel
theorem dX6_nearestServant_23 : decode cX6_nearestServant 23 = .ok (.iload 4, 2) := by decide +kernel
theorem dX6_nearestServant_25 : decode cX6_nearestServant 25 = .ok (.aload_n 0, 1) := by decide +kernel
theorem dX6_nearestServant_26 : decode cX6_nearestServant 26 = .ok (.getfield 9, 3) := by decide +kernel
theorem dX6_nearestServant_29 : decode cX6_nearestServant 29 = .ok (.getfield 99, 3) := by decide +kernel
theorem dX6_nearestServant_32 : decode cX6_nearestServant 32 = .ok (.iload_n 1, 1) := by decide +kernel
theorem dX6_nearestServant_33 : decode cX6_nearestServant 33 = .ok (.iaload, 1) := by decide +kernel
theorem dX6_nearestServant_34 : decode cX6_nearestServant 34 = .ok (.invokevirtual 102, 3) := by decide +kernel
theorem dX6_nearestServant_37 : decode cX6_nearestServant 37 = .ok (.ifCond .eq 49, 3) := by decide +kernel
theorem dX6_nearestServant_40 : decode cX6_nearestServant 40 = .ok (.aload_n 0, 1) := by decide +kernel
theorem dX6_nearestServant_41 : decode cX6_nearestServant 41 = .ok (.getfield 15, 3) := by decide +kernel
theorem dX6_nearestServant_44 : decode cX6_nearestServant 44 = .ok (.iload 4, 2) := by decide +kernel
theorem dX6_nearestServant_46 : decode cX6_nearestServant 46 = .ok (.aload_n 0, 1) := by decide +kernel
theorem dX6_nearestServant_47 : decode cX6_nearestServant 47 = .ok (.getfield 9, 3) := by decide +kernel
theorem dX6_nearestServant_50 : decode cX6_nearestServant 50 = .ok (.getfield 51, 3) := by decide +kernel
theorem dX6_nearestServant_53 : decode cX6_nearestServant 53 = .ok (.iload_n 1, 1) := by decide +kernel
theorem dX6_nearestServant_54 : decode cX6_nearestServant 54 = .ok (.iaload, 1) := by decide +kernel
theorem dX6_nearestServant_55 : decode cX6_nearestServant 55 = .ok (.aload_n 0, 1) := by decide +kernel
theorem dX6_nearestServant_56 : decode cX6_nearestServant 56 = .ok (.getfield 9, 3) := by decide +kernel
theorem dX6_nearestServant_59 : decode cX6_nearestServant 59 = .ok (.getfield 55, 3) := by decide +kernel
theorem dX6_nearestServant_62 : decode cX6_nearestServant 62 = .ok (.iload_n 1, 1) := by decide +kernel
theorem dX6_nearestServant_63 : decode cX6_nearestServant 63 = .ok (.iaload, 1) := by decide +kernel
theorem dX6_nearestServant_64 : decode cX6_nearestServant 64 = .ok (.invokevirtual 58, 3) := by decide +kernel
theorem dX6_nearestServant_67 : decode cX6_nearestServant 67 = .ok (.istore 5, 2) := by decide +kernel
theorem dX6_nearestServant_69 : decode cX6_nearestServant 69 = .ok (.iload_n 2, 1) := by decide +kernel
theorem dX6_nearestServant_70 : decode cX6_nearestServant 70 = .ok (.iconst (-1), 1) := by decide +kernel
theorem dX6_nearestServant_71 : decode cX6_nearestServant 71 = .ok (.if_icmp .eq 9, 3) := by decide +kernel
theorem dX6_nearestServant_74 : decode cX6_nearestServant 74 = .ok (.iload 5, 2) := by decide +kernel
theorem dX6_nearestServant_76 : decode cX6_nearestServant 76 = .ok (.iload_n 3, 1) := by decide +kernel
theorem dX6_nearestServant_77 : decode cX6_nearestServant 77 = .ok (.if_icmp .ge 9, 3) := by decide +kernel
theorem dX6_nearestServant_80 : decode cX6_nearestServant 80 = .ok (.iload 4, 2) := by decide +kernel
theorem dX6_nearestServant_82 : decode cX6_nearestServant 82 = .ok (.istore_n 2, 1) := by decide +kernel
theorem dX6_nearestServant_83 : decode cX6_nearestServant 83 = .ok (.iload 5, 2) := by decide +kernel
theorem dX6_nearestServant_85 : decode cX6_nearestServant 85 = .ok (.istore_n 3, 1) := by decide +kernel
theorem dX6_nearestServant_86 : decode cX6_nearestServant 86 = .ok (.iinc 4 1, 3) := by decide +kernel
theorem dX6_nearestServant_89 : decode cX6_nearestServant 89 = .ok (.goto (-82), 3) := by decide +kernel
theorem dX6_nearestServant_92 : decode cX6_nearestServant 92 = .ok (.iload_n 2, 1) := by decide +kernel
theorem dX6_nearestServant_93 : decode cX6_nearestServant 93 = .ok (.ireturn, 1) := by decide +kernel
theorem dX7_init_0 : decode cX7_init 0 = .ok (.aload_n 0, 1) := by decide +kernel
theorem dX7_init_1 : decode cX7_init 1 = .ok (.invokespecial 3, 3) := by decide +kernel
theorem dX7_init_4 : decode cX7_init 4 = .ok (.aload_n 0, 1) := by decide +kernel
theorem dX7_init_5 : decode cX7_init 5 = .ok (.iconst 4, 1) := by decide +kernel
theorem dX7_init_6 : decode cX7_init 6 = .ok (.newarray .int, 2) := by decide +kernel
theorem dX7_init_8 : decode cX7_init 8 = .ok (.putfield 9, 3) := by decide +kernel
theorem dX7_init_11 : decode cX7_init 11 = .ok (.aload_n 0, 1) := by decide +kernel
theorem dX7_init_12 : decode cX7_init 12 = .ok (.iconst 4, 1) := by decide +kernel
theorem dX7_init_13 : decode cX7_init 13 = .ok (.newarray .int, 2) := by decide +kernel
theorem dX7_init_15 : decode cX7_init 15 = .ok (.putfield 15, 3) := by decide +kernel
theorem dX7_init_18 : decode cX7_init 18 = .ok (.aload_n 0, 1) := by decide +kernel
theorem dX7_init_19 : decode cX7_init 19 = .ok (.iconst 4, 1) := by decide +kernel
theorem dX7_init_20 : decode cX7_init 20 = .ok (.newarray .int, 2) := by decide +kernel
theorem dX7_init_22 : decode cX7_init 22 = .ok (.putfield 18, 3) := by decide +kernel
theorem dX7_init_25 : decode cX7_init 25 = .ok (.aload_n 0, 1) := by decide +kernel
theorem dX7_init_26 : decode cX7_init 26 = .ok (.aload_n 1, 1) := by decide +kernel
theorem dX7_init_27 : decode cX7_init 27 = .ok (.putfield 21, 3) := by decide +kernel
theorem dX7_init_30 : decode cX7_init 30 = .ok (.aload_n 0, 1) := by decide +kernel
theorem dX7_init_31 : decode cX7_init 31 = .ok (.aload_n 2, 1) := by decide +kernel
theorem dX7_init_32 : decode cX7_init 32 = .ok (.putfield 25, 3) := by decide +kernel
theorem dX7_init_35 : decode cX7_init 35 = .ok (.aload_n 0, 1) := by decide +kernel
theorem dX7_init_36 : decode cX7_init 36 = .ok (.aload_n 3, 1) := by decide +kernel
theorem dX7_init_37 : decode cX7_init 37 = .ok (.putfield 29, 3) := by decide +kernel
theorem dX7_init_40 : decode cX7_init 40 = .ok (.return_, 1) := by decide +kernel
theorem dX7_findBest_0 : decode cX7_findBest 0 = .ok (.aload_n 0, 1) := by decide +kernel
theorem dX7_findBest_1 : decode cX7_findBest 1 = .ok (.iconst 0, 1) := by decide +kernel
theorem dX7_findBest_2 : decode cX7_findBest 2 = .ok (.putfield 33, 3) := by decide +kernel
theorem dX7_findBest_5 : decode cX7_findBest 5 = .ok (.iconst 0, 1) := by decide +kernel
theorem dX7_findBest_6 : decode cX7_findBest 6 = .ok (.istore_n 1, 1) := by decide +kernel
theorem dX7_findBest_7 : decode cX7_findBest 7 = .ok (.iload_n 1, 1) := by decide +kernel
theorem dX7_findBest_8 : decode cX7_findBest 8 = .ok (.aload_n 0, 1) := by decide +kernel
theorem dX7_findBest_9 : decode cX7_findBest 9 = .ok (.getfield 21, 3) := by decide +kernel
theorem dX7_findBest_12 : decode cX7_findBest 12 = .ok (.getfield 37, 3) := by decide +kernel
theorem dX7_findBest_15 : decode cX7_findBest 15 = .ok (.if_icmp .ge 48, 3) := by decide +kernel
theorem dX7_findBest_18 : decode cX7_findBest 18 = .ok (.aload_n 0, 1) := by decide +kernel
theorem dX7_findBest_19 : decode cX7_findBest 19 = .ok (.getfield 29, 3) := by decide +kernel
theorem dX7_findBest_22 : decode cX7_findBest 22 = .ok (.iload_n 1, 1) := by decide +kernel
theorem dX7_findBest_23 : decode cX7_findBest 23 = .ok (.invokevirtual 40, 3) := by decide +kernel
theorem dX7_findBest_26 : decode cX7_findBest 26 = .ok (.ifCond .eq 31, 3) := by decide +kernel
theorem dX7_findBest_29 : decode cX7_findBest 29 = .ok (.aload_n 0, 1) := by decide +kernel
theorem dX7_findBest_30 : decode cX7_findBest 30 = .ok (.getfield 33, 3) := by decide +kernel
theorem dX7_findBest_33 : decode cX7_findBest 33 = .ok (.iconst 4, 1) := by decide +kernel
theorem dX7_findBest_34 : decode cX7_findBest 34 = .ok (.if_icmp .ge 23, 3) := by decide +kernel
theorem dX7_findBest_37 : decode cX7_findBest 37 = .ok (.aload_n 0, 1) := by decide +kernel
theorem dX7_findBest_38 : decode cX7_findBest 38 = .ok (.getfield 9, 3) := by decide +kernel
theorem dX7_findBest_41 : decode cX7_findBest 41 = .ok (.aload_n 0, 1) := by decide +kernel
theorem dX7_findBest_42 : decode cX7_findBest 42 = .ok (.getfield 33, 3) := by decide +kernel
theorem dX7_findBest_45 : decode cX7_findBest 45 = .ok (.iload_n 1, 1) := by decide +kernel
theorem dX7_findBest_46 : decode cX7_findBest 46 = .ok (.iastore, 1) := by decide +kernel
theorem dX7_findBest_47 : decode cX7_findBest 47 = .ok (.aload_n 0, 1) := by decide +kernel
theorem dX7_findBest_48 : decode cX7_findBest 48 = .ok (.dup, 1) := by decide +kernel
theorem dX7_findBest_49 : decode cX7_findBest 49 = .ok (.getfield 33, 3) := by decide +kernel
theorem dX7_findBest_52 : decode cX7_findBest 52 = .ok (.iconst 1, 1) := by decide +kernel
theorem dX7_findBest_53 : decode cX7_findBest 53 = .ok (.iadd, 1) := by decide +kernel
theorem dX7_findBest_54 : decode cX7_findBest 54 = .ok (.putfield 33, 3) := by decide +kernel
theorem dX7_findBest_57 : decode cX7_findBest 57 = .ok (.iinc 1 1, 3) := by decide +kernel
theorem dX7_findBest_60 : decode cX7_findBest 60 = .ok (.goto (-53), 3) := by decide +kernel
theorem dX7_findBest_63 : decode cX7_findBest 63 = .ok (.aload_n 0, 1) := by decide +kernel
theorem dX7_findBest_64 : decode cX7_findBest 64 = .ok (.ldc 46, 2) := by decide +kernel
theorem dX7_findBest_66 : decode cX7_findBest 66 = .ok (.putfield 47, 3) := by decide +kernel
theorem dX7_findBest_69 : decode cX7_findBest 69 = .ok (.aload_n 0, 1) := by decide +kernel
theorem dX7_findBest_70 : decode cX7_findBest 70 = .ok (.iconst 0, 1) := by decide +kernel
theorem dX7_findBest_71 : decode cX7_findBest 71 = .ok (.iconst 0, 1) := by decide +kernel
theorem dX7_findBest_72 : decode cX7_findBest 72 = .ok (.iconst 0, 1) := by decide +kernel
theorem dX7_findBest_73 : decode cX7_findBest 73 = .ok (.invokestatic 50, 3) := by decide +kernel
theorem dX7_findBest_76 : decode cX7_findBest 76 = .ok (.return_, 1) := by decide +kernel
theorem dX7_servantFor_0 : decode cX7_servantFor 0 = .ok (.iconst 0, 1) := by decide +kernel
theorem dX7_servantFor_1 : decode cX7_servantFor 1 = .ok (.istore_n 2, 1) := by decide +kernel
theorem dX7_servantFor_2 : decode cX7_servantFor 2 = .ok (.iload_n 2, 1) := by decide +kernel
theorem dX7_servantFor_3 : decode cX7_servantFor 3 = .ok (.aload_n 0, 1) := by decide +kernel
theorem dX7_servantFor_4 : decode cX7_servantFor 4 = .ok (.getfield 33, 3) := by decide +kernel
theorem dX7_servantFor_7 : decode cX7_servantFor 7 = .ok (.if_icmp .ge 36, 3) := by decide +kernel
theorem dX7_servantFor_10 : decode cX7_servantFor 10 = .ok (.aload_n 0, 1) := by decide +kernel
theorem dX7_servantFor_11 : decode cX7_servantFor 11 = .ok (.getfield 9, 3) := by decide +kernel
theorem dX7_servantFor_14 : decode cX7_servantFor 14 = .ok (.iload_n 2, 1) := by decide +kernel
theorem dX7_servantFor_15 : decode cX7_servantFor 15 = .ok (.iaload, 1) := by decide +kernel
theorem dX7_servantFor_16 : decode cX7_servantFor 16 = .ok (.iload_n 1, 1) := by decide +kernel
theorem dX7_servantFor_17 : decode cX7_servantFor 17 = .ok (.if_icmp .ne 20, 3) := by decide +kernel
theorem dX7_servantFor_20 : decode cX7_servantFor 20 = .ok (.aload_n 0, 1) := by decide +kernel
theorem dX7_servantFor_21 : decode cX7_servantFor 21 = .ok (.getfield 15, 3) := by decide +kernel
theorem dX7_servantFor_24 : decode cX7_servantFor 24 = .ok (.iload_n 2, 1) := by decide +kernel
theorem dX7_servantFor_25 : decode cX7_servantFor 25 = .ok (.iaload, 1) := by decide +kernel
theorem dX7_servantFor_26 : decode cX7_servantFor 26 = .ok (.iconst 5, 1) := by decide +kernel
theorem dX7_servantFor_27 : decode cX7_servantFor 27 = .ok (.if_icmp .eq 10, 3) := by decide +kernel
theorem dX7_servantFor_30 : decode cX7_servantFor 30 = .ok (.aload_n 0, 1) := by decide +kernel
theorem dX7_servantFor_31 : decode cX7_servantFor 31 = .ok (.getfield 15, 3) := by decide +kernel
theorem dX7_servantFor_34 : decode cX7_servantFor 34 = .ok (.iload_n 2, 1) := by decide +kernel
theorem dX7_servantFor_35 : decode cX7_servantFor 35 = .ok (.iaload, 1) := by decide +kernel
theorem dX7_servantFor_36 : decode cX7_servantFor 36 = .ok (.ireturn, 1) := by decide +kernel
theorem dX7_servantFor_37 : decode cX7_servantFor 37 = .ok (.iinc 2 1, 3) := by decide +kernel
theorem dX7_servantFor_40 : decode cX7_servantFor 40 = .ok (.goto (-38), 3) := by decide +kernel
theorem dX7_servantFor_43 : decode cX7_servantFor 43 = .ok (.bipush (-4), 2) := by decide +kernel
theorem dX7_servantFor_45 : decode cX7_servantFor 45 = .ok (.ireturn, 1) := by decide +kernel
theorem dX7_tryFrom_0 : decode cX7_tryFrom 0 = .ok (.iload_n 3, 1) := by decide +kernel
theorem dX7_tryFrom_1 : decode cX7_tryFrom 1 = .ok (.aload_n 0, 1) := by decide +kernel
theorem dX7_tryFrom_2 : decode cX7_tryFrom 2 = .ok (.getfield 47, 3) := by decide +kernel
theorem dX7_tryFrom_5 : decode cX7_tryFrom 5 = .ok (.if_icmp .lt 4, 3) := by decide +kernel
theorem dX7_tryFrom_8 : decode cX7_tryFrom 8 = .ok (.return_, 1) := by decide +kernel
theorem dX7_tryFrom_9 : decode cX7_tryFrom 9 = .ok (.iload_n 1, 1) := by decide +kernel
theorem dX7_tryFrom_10 : decode cX7_tryFrom 10 = .ok (.aload_n 0, 1) := by decide +kernel
theorem dX7_tryFrom_11 : decode cX7_tryFrom 11 = .ok (.getfield 33, 3) := by decide +kernel
theorem dX7_tryFrom_14 : decode cX7_tryFrom 14 = .ok (.if_icmp .ge 8, 3) := by decide +kernel
theorem dX7_tryFrom_17 : decode cX7_tryFrom 17 = .ok (.iload_n 1, 1) := by decide +kernel
theorem dX7_tryFrom_18 : decode cX7_tryFrom 18 = .ok (.iconst 4, 1) := by decide +kernel
theorem dX7_tryFrom_19 : decode cX7_tryFrom 19 = .ok (.if_icmp .lt 9, 3) := by decide +kernel
theorem dX7_tryFrom_22 : decode cX7_tryFrom 22 = .ok (.aload_n 0, 1) := by decide +kernel
theorem dX7_tryFrom_23 : decode cX7_tryFrom 23 = .ok (.iload_n 3, 1) := by decide +kernel
theorem dX7_tryFrom_24 : decode cX7_tryFrom 24 = .ok (.invokevirtual 54, 3) := by decide +kernel
theorem dX7_tryFrom_27 : decode cX7_tryFrom 27 = .ok (.return_, 1) := by decide +kernel
theorem dX7_tryFrom_28 : decode cX7_tryFrom 28 = .ok (.aload_n 0, 1) := by decide +kernel
theorem dX7_tryFrom_29 : decode cX7_tryFrom 29 = .ok (.getfield 9, 3) := by decide +kernel
theorem dX7_tryFrom_32 : decode cX7_tryFrom 32 = .ok (.iload_n 1, 1) := by decide +kernel
theorem dX7_tryFrom_33 : decode cX7_tryFrom 33 = .ok (.iaload, 1) := by decide +kernel
theorem dX7_tryFrom_34 : decode cX7_tryFrom 34 = .ok (.istore 4, 2) := by decide +kernel
theorem dX7_tryFrom_36 : decode cX7_tryFrom 36 = .ok (.aload_n 0, 1) := by decide +kernel
theorem dX7_tryFrom_37 : decode cX7_tryFrom 37 = .ok (.getfield 21, 3) := by decide +kernel
theorem dX7_tryFrom_40 : decode cX7_tryFrom 40 = .ok (.getfield 58, 3) := by decide +kernel
theorem dX7_tryFrom_43 : decode cX7_tryFrom 43 = .ok (.iload 4, 2) := by decide +kernel
theorem dX7_tryFrom_45 : decode cX7_tryFrom 45 = .ok (.iaload, 1) := by decide +kernel
theorem dX7_tryFrom_46 : decode cX7_tryFrom 46 = .ok (.iconst 1, 1) := by decide +kernel
theorem dX7_tryFrom_47 : decode cX7_tryFrom 47 = .ok (.iadd, 1) := by decide +kernel
theorem dX7_tryFrom_48 : decode cX7_tryFrom 48 = .ok (.istore 5, 2) := by decide +kernel
theorem dX7_tryFrom_50 : decode cX7_tryFrom 50 = .ok (.iconst 0, 1) := by decide +kernel
theorem dX7_tryFrom_51 : decode cX7_tryFrom 51 = .ok (.istore 6, 2) := by decide +kernel
theorem dX7_tryFrom_53 : decode cX7_tryFrom 53 = .ok (.iload 6, 2) := by decide +kernel
theorem dX7_tryFrom_55 : decode cX7_tryFrom 55 = .ok (.aload_n 0, 1) := by decide +kernel
theorem dX7_tryFrom_56 : decode cX7_tryFrom 56 = .ok (.getfield 25, 3) := by decide +kernel
theorem dX7_tryFrom_59 : decode cX7_tryFrom 59 = .ok (.getfield 61, 3) := by decide +kernel
theorem dX7_tryFrom_62 : decode cX7_tryFrom 62 = .ok (.if_icmp .ge 67, 3) := by decide +kernel
theorem dX7_tryFrom_65 : decode cX7_tryFrom 65 = .ok (.iload_n 2, 1) := by decide +kernel
theorem dX7_tryFrom_66 : decode cX7_tryFrom 66 = .ok (.iload 6, 2) := by decide +kernel
theorem dX7_tryFrom_68 : decode cX7_tryFrom 68 = .ok (.ishr, 1) := by decide +kernel
theorem dX7_tryFrom_69 : decode cX7_tryFrom 69 = .ok (.iconst 1, 1) := by decide +kernel
theorem dX7_tryFrom_70 : decode cX7_tryFrom 70 = .ok (.iand, 1) := by decide +kernel
theorem dX7_tryFrom_71 : decode cX7_tryFrom 71 = .ok (.ifCond .ne 52, 3) := by decide +kernel
theorem dX7_tryFrom_74 : decode cX7_tryFrom 74 = .ok (.aload_n 0, 1) := by decide +kernel
theorem dX7_tryFrom_75 : decode cX7_tryFrom 75 = .ok (.iload 6, 2) := by decide +kernel
theorem dX7_tryFrom_77 : decode cX7_tryFrom 77 = .ok (.iload 4, 2) := by decide +kernel
theorem dX7_tryFrom_79 : decode cX7_tryFrom 79 = .ok (.invokevirtual 64, 3) := by decide +kernel
theorem dX7_tryFrom_82 : decode cX7_tryFrom 82 = .ok (.ifCond .eq 41, 3) := by decide +kernel
theorem dX7_tryFrom_85 : decode cX7_tryFrom 85 = .ok (.aload_n 0, 1) := by decide +kernel
theorem dX7_tryFrom_86 : decode cX7_tryFrom 86 = .ok (.getfield 18, 3) := by decide +kernel
theorem dX7_tryFrom_89 : decode cX7_tryFrom 89 = .ok (.iload_n 1, 1) := by decide +kernel
theorem dX7_tryFrom_90 : decode cX7_tryFrom 90 = .ok (.iload 6, 2) := by decide +kernel
theorem dX7_tryFrom_92 : decode cX7_tryFrom 92 = .ok (.iastore, 1) := by decide +kernel
theorem dX7_tryFrom_93 : decode cX7_tryFrom 93 = .ok (.iload 5, 2) := by decide +kernel
theorem dX7_tryFrom_95 : decode cX7_tryFrom 95 = .ok (.aload_n 0, 1) := by decide +kernel
theorem dX7_tryFrom_96 : decode cX7_tryFrom 96 = .ok (.iload 6, 2) := by decide +kernel
theorem dX7_tryFrom_98 : decode cX7_tryFrom 98 = .ok (.iload 4, 2) := by decide +kernel
theorem dX7_tryFrom_100 : decode cX7_tryFrom 100 = .ok (.invokevirtual 68, 3) := by decide +kernel
theorem dX7_tryFrom_103 : decode cX7_tryFrom 103 = .ok (.imul, 1) := by decide +kernel
theorem dX7_tryFrom_104 : decode cX7_tryFrom 104 = .ok (.istore 7, 2) := by decide +kernel
theorem dX7_tryFrom_106 : decode cX7_tryFrom 106 = .ok (.aload_n 0, 1) := by decide +kernel
theorem dX7_tryFrom_107 : decode cX7_tryFrom 107 = .ok (.iload_n 1, 1) := by decide +kernel
theorem dX7_tryFrom_108 : decode cX7_tryFrom 108 = .ok (.iconst 1, 1) := by decide +kernel
theorem dX7_tryFrom_109 : decode cX7_tryFrom 109 = .ok (.iadd, 1) := by decide +kernel
theorem dX7_tryFrom_110 : decode cX7_tryFrom 110 = .ok (.iload_n 2, 1) := by decide +kernel
theorem dX7_tryFrom_111 : decode cX7_tryFrom 111 = .ok (.iconst 1, 1) := by decide +kernel
theorem dX7_tryFrom_112 : decode cX7_tryFrom 112 = .ok (.iload 6, 2) := by decide +kernel
theorem dX7_tryFrom_114 : decode cX7_tryFrom 114 = .ok (.ishl, 1) := by decide +kernel
theorem dX7_tryFrom_115 : decode cX7_tryFrom 115 = .ok (.ior, 1) := by decide +kernel
theorem dX7_tryFrom_116 : decode cX7_tryFrom 116 = .ok (.iload_n 3, 1) := by decide +kernel
theorem dX7_tryFrom_117 : decode cX7_tryFrom 117 = .ok (.iload 7, 2) := by decide +kernel
theorem dX7_tryFrom_119 : decode cX7_tryFrom 119 = .ok (.iadd, 1) := by decide +kernel
theorem dX7_tryFrom_120 : decode cX7_tryFrom 120 = .ok (.invokestatic 50, 3) := by decide +kernel
theorem dX7_tryFrom_123 : decode cX7_tryFrom 123 = .ok (.iinc 6 1, 3) := by decide +kernel
theorem dX7_tryFrom_126 : decode cX7_tryFrom 126 = .ok (.goto (-73), 3) := by decide +kernel
theorem dX7_tryFrom_129 : decode cX7_tryFrom 129 = .ok (.aload_n 0, 1) := by decide +kernel
theorem dX7_tryFrom_130 : decode cX7_tryFrom 130 = .ok (.getfield 18, 3) := by decide +kernel
theorem dX7_tryFrom_133 : decode cX7_tryFrom 133 = .ok (.iload_n 1, 1) := by decide +kernel
theorem dX7_tryFrom_134 : decode cX7_tryFrom 134 = .ok (.iconst 5, 1) := by decide +kernel
theorem dX7_tryFrom_135 : decode cX7_tryFrom 135 = .ok (.iastore, 1) := by decide +kernel
theorem dX7_tryFrom_136 : decode cX7_tryFrom 136 = .ok (.aload_n 0, 1) := by decide +kernel
theorem dX7_tryFrom_137 : decode cX7_tryFrom 137 = .ok (.iload_n 1, 1) := by decide +kernel
theorem dX7_tryFrom_138 : decode cX7_tryFrom 138 = .ok (.iconst 1, 1) := by decide +kernel
theorem dX7_tryFrom_139 : decode cX7_tryFrom 139 = .ok (.iadd, 1) := by decide +kernel
theorem dX7_tryFrom_140 : decode cX7_tryFrom 140 = .ok (.iload_n 2, 1) := by decide +kernel
theorem dX7_tryFrom_141 : decode cX7_tryFrom 141 = .ok (.iload_n 3, 1) := by decide +kernel
theorem dX7_tryFrom_142 : decode cX7_tryFrom 142 = .ok (.iload 5, 2) := by decide +kernel
theorem dX7_tryFrom_144 : decode cX7_tryFrom 144 = .ok (.bipush 100, 2) := by decide +kernel
theorem dX7_tryFrom_146 : decode cX7_tryFrom 146 = .ok (.imul, 1) := by decide +kernel
theorem dX7_tryFrom_147 : decode cX7_tryFrom 147 = .ok (.iadd, 1) := by decide +kernel
theorem dX7_tryFrom_148 : decode cX7_tryFrom 148 = .ok (.invokestatic 50, 3) := by decide +kernel
theorem dX7_tryFrom_151 : decode cX7_tryFrom 151 = .ok (.return_, 1) := by decide +kernel
theorem dX7_mayTake_0 : decode cX7_mayTake 0 = .ok (.aload_n 0, 1) := by decide +kernel
theorem dX7_mayTake_1 : decode cX7_mayTake 1 = .ok (.getfield 25, 3) := by decide +kernel
theorem dX7_mayTake_4 : decode cX7_mayTake 4 = .ok (.iload_n 1, 1) := by decide +kernel
theorem dX7_mayTake_5 : decode cX7_mayTake 5 = .ok (.aload_n 0, 1) := by decide +kernel
theorem dX7_mayTake_6 : decode cX7_mayTake 6 = .ok (.getfield 21, 3) := by decide +kernel
theorem dX7_mayTake_9 : decode cX7_mayTake 9 = .ok (.getfield 58, 3) := by decide +kernel
theorem dX7_mayTake_12 : decode cX7_mayTake 12 = .ok (.iload_n 2, 1) := by decide +kernel
theorem dX7_mayTake_13 : decode cX7_mayTake 13 = .ok (.iaload, 1) := by decide +kernel
theorem dX7_mayTake_14 : decode cX7_mayTake 14 = .ok (.invokevirtual 72, 3) := by decide +kernel
theorem dX7_mayTake_17 : decode cX7_mayTake 17 = .ok (.ireturn, 1) := by decide +kernel
theorem dX7_far_0 : decode cX7_far 0 = .ok (.aload_n 0, 1) := by decide +kernel
theorem dX7_far_1 : decode cX7_far 1 = .ok (.getfield 25, 3) := by decide +kernel
theorem dX7_far_4 : decode cX7_far 4 = .ok (.iload_n 1, 1) := by decide +kernel
theorem dX7_far_5 : decode cX7_far 5 = .ok (.aload_n 0, 1) := by decide +kernel
theorem dX7_far_6 : decode cX7_far 6 = .ok (.getfield 21, 3) := by decide +kernel
theorem dX7_far_9 : decode cX7_far 9 = .ok (.getfield 75, 3) := by decide +kernel
theorem dX7_far_12 : decode cX7_far 12 = .ok (.iload_n 2, 1) := by decide +kernel
theorem dX7_far_13 : decode cX7_far 13 = .ok (.iaload, 1) := by decide +kernel
theorem dX7_far_14 : decode cX7_far 14 = .ok (.aload_n 0, 1) := by decide +kernel
theorem dX7_far_15 : decode cX7_far 15 = .ok (.getfield 21, 3) := by decide +kernel
theorem dX7_far_18 : decode cX7_far 18 = .ok (.getfield 78, 3) := by decide +kernel
theorem dX7_far_21 : decode cX7_far 21 = .ok (.iload_n 2, 1) := by decide +kernel
theorem dX7_far_22 : decode cX7_far 22 = .ok (.iaload, 1) := by decide +kernel
theorem dX7_far_23 : decode cX7_far 23 = .ok (.invokevirtual 81, 3) := by decide +kernel
theorem dX7_far_26 : decode cX7_far 26 = .ok (.ireturn, 1) := by decide +kernel
theorem dX7_keep_0 : decode cX7_keep 0 = .ok (.aload_n 0, 1) := by decide +kernel
theorem dX7_keep_1 : decode cX7_keep 1 = .ok (.iload_n 1, 1) := by decide +kernel
theorem dX7_keep_2 : decode cX7_keep 2 = .ok (.putfield 47, 3) := by decide +kernel
theorem dX7_keep_5 : decode cX7_keep 5 = .ok (.iconst 0, 1) := by decide +kernel
theorem dX7_keep_6 : decode cX7_keep 6 = .ok (.istore_n 2, 1) := by decide +kernel
theorem dX7_keep_7 : decode cX7_keep 7 = .ok (.iload_n 2, 1) := by decide +kernel
theorem dX7_keep_8 : decode cX7_keep 8 = .ok (.aload_n 0, 1) := by decide +kernel
theorem dX7_keep_9 : decode cX7_keep 9 = .ok (.getfield 33, 3) := by decide +kernel
theorem dX7_keep_12 : decode cX7_keep 12 = .ok (.if_icmp .ge 21, 3) := by decide +kernel
theorem dX7_keep_15 : decode cX7_keep 15 = .ok (.aload_n 0, 1) := by decide +kernel
theorem dX7_keep_16 : decode cX7_keep 16 = .ok (.getfield 15, 3) := by decide +kernel
theorem dX7_keep_19 : decode cX7_keep 19 = .ok (.iload_n 2, 1) := by decide +kernel
theorem dX7_keep_20 : decode cX7_keep 20 = .ok (.aload_n 0, 1) := by decide +kernel
theorem dX7_keep_21 : decode cX7_keep 21 = .ok (.getfield 18, 3) := by decide +kernel
theorem dX7_keep_24 : decode cX7_keep 24 = .ok (.iload_n 2, 1) := by decide +kernel
theorem dX7_keep_25 : decode cX7_keep 25 = .ok (.iaload, 1) := by decide +kernel
theorem dX7_keep_26 : decode cX7_keep 26 = .ok (.iastore, 1) := by decide +kernel
theorem dX7_keep_27 : decode cX7_keep 27 = .ok (.iinc 2 1, 3) := by decide +kernel
theorem dX7_keep_30 : decode cX7_keep 30 = .ok (.goto (-23), 3) := by decide +kernel
theorem dX7_keep_33 : decode cX7_keep 33 = .ok (.return_, 1) := by decide +kernel
theorem dX8_init_0 : decode cX8_init 0 = .ok (.aload_n 0, 1) := by decide +kernel
theorem dX8_init_1 : decode cX8_init 1 = .ok (.invokespecial 3, 3) := by decide +kernel
theorem dX8_init_4 : decode cX8_init 4 = .ok (.aload_n 0, 1) := by decide +kernel
theorem dX8_init_5 : decode cX8_init 5 = .ok (.bipush 16, 2) := by decide +kernel
theorem dX8_init_7 : decode cX8_init 7 = .ok (.newarray .int, 2) := by decide +kernel
theorem dX8_init_9 : decode cX8_init 9 = .ok (.putfield 9, 3) := by decide +kernel
theorem dX8_init_12 : decode cX8_init 12 = .ok (.aload_n 0, 1) := by decide +kernel
theorem dX8_init_13 : decode cX8_init 13 = .ok (.bipush 16, 2) := by decide +kernel
theorem dX8_init_15 : decode cX8_init 15 = .ok (.newarray .int, 2) := by decide +kernel
theorem dX8_init_17 : decode cX8_init 17 = .ok (.putfield 15, 3) := by decide +kernel
theorem dX8_init_20 : decode cX8_init 20 = .ok (.aload_n 0, 1) := by decide +kernel
theorem dX8_init_21 : decode cX8_init 21 = .ok (.aload_n 1, 1) := by decide +kernel
theorem dX8_init_22 : decode cX8_init 22 = .ok (.putfield 18, 3) := by decide +kernel
theorem dX8_init_25 : decode cX8_init 25 = .ok (.aload_n 0, 1) := by decide +kernel
theorem dX8_init_26 : decode cX8_init 26 = .ok (.aload_n 2, 1) := by decide +kernel
theorem dX8_init_27 : decode cX8_init 27 = .ok (.putfield 22, 3) := by decide +kernel
theorem dX8_init_30 : decode cX8_init 30 = .ok (.return_, 1) := by decide +kernel
theorem dX8_setCrank_0 : decode cX8_setCrank 0 = .ok (.aload_n 0, 1) := by decide +kernel
theorem dX8_setCrank_1 : decode cX8_setCrank 1 = .ok (.getfield 9, 3) := by decide +kernel
theorem dX8_setCrank_4 : decode cX8_setCrank 4 = .ok (.iload_n 1, 1) := by decide +kernel
theorem dX8_setCrank_5 : decode cX8_setCrank 5 = .ok (.iaload, 1) := by decide +kernel
theorem dX8_setCrank_6 : decode cX8_setCrank 6 = .ok (.istore_n 3, 1) := by decide +kernel
theorem dX8_setCrank_7 : decode cX8_setCrank 7 = .ok (.aload_n 0, 1) := by decide +kernel
theorem dX8_setCrank_8 : decode cX8_setCrank 8 = .ok (.getfield 9, 3) := by decide +kernel
theorem dX8_setCrank_11 : decode cX8_setCrank 11 = .ok (.iload_n 1, 1) := by decide +kernel
theorem dX8_setCrank_12 : decode cX8_setCrank 12 = .ok (.iload_n 2, 1) := by decide +kernel
theorem dX8_setCrank_13 : decode cX8_setCrank 13 = .ok (.iastore, 1) := by decide +kernel
theorem dX8_setCrank_14 : decode cX8_setCrank 14 = .ok (.iconst 1, 1) := by decide +kernel
theorem dX8_setCrank_15 : decode cX8_setCrank 15 = .ok (.iload_n 1, 1) := by decide +kernel
theorem dX8_setCrank_16 : decode cX8_setCrank 16 = .ok (.ishl, 1) := by decide +kernel
theorem dX8_setCrank_17 : decode cX8_setCrank 17 = .ok (.istore 4, 2) := by decide +kernel
theorem dX8_setCrank_19 : decode cX8_setCrank 19 = .ok (.aload_n 0, 1) := by decide +kernel
theorem dX8_setCrank_20 : decode cX8_setCrank 20 = .ok (.iload_n 2, 1) := by decide +kernel
theorem dX8_setCrank_21 : decode cX8_setCrank 21 = .ok (.bipush 10, 2) := by decide +kernel
theorem dX8_setCrank_23 : decode cX8_setCrank 23 = .ok (.if_icmp .ne 13, 3) := by decide +kernel
theorem dX8_setCrank_26 : decode cX8_setCrank 26 = .ok (.aload_n 0, 1) := by decide +kernel
theorem dX8_setCrank_27 : decode cX8_setCrank 27 = .ok (.getfield 26, 3) := by decide +kernel
theorem dX8_setCrank_30 : decode cX8_setCrank 30 = .ok (.iload 4, 2) := by decide +kernel
theorem dX8_setCrank_32 : decode cX8_setCrank 32 = .ok (.ior, 1) := by decide +kernel
theorem dX8_setCrank_33 : decode cX8_setCrank 33 = .ok (.goto 12, 3) := by decide +kernel
theorem dX8_setCrank_36 : decode cX8_setCrank 36 = .ok (.aload_n 0, 1) := by decide +kernel
theorem dX8_setCrank_37 : decode cX8_setCrank 37 = .ok (.getfield 26, 3) := by decide +kernel
theorem dX8_setCrank_40 : decode cX8_setCrank 40 = .ok (.iload 4, 2) := by decide +kernel
theorem dX8_setCrank_42 : decode cX8_setCrank 42 = .ok (.iconst (-1), 1) := by decide +kernel
theorem dX8_setCrank_43 : decode cX8_setCrank 43 = .ok (.ixor, 1) := by decide +kernel
theorem dX8_setCrank_44 : decode cX8_setCrank 44 = .ok (.iand, 1) := by decide +kernel
theorem dX8_setCrank_45 : decode cX8_setCrank 45 = .ok (.putfield 26, 3) := by decide +kernel
theorem dX8_setCrank_48 : decode cX8_setCrank 48 = .ok (.iload_n 3, 1) := by decide +kernel
theorem dX8_setCrank_49 : decode cX8_setCrank 49 = .ok (.ireturn, 1) := by decide +kernel
theorem dX8_areCrossed_0 : decode cX8_areCrossed 0 = .ok (.aload_n 0, 1) := by decide +kernel
theorem dX8_areCrossed_1 : decode cX8_areCrossed 1 = .ok (.getfield 15, 3) := by decide +kernel
theorem dX8_areCrossed_4 : decode cX8_areCrossed 4 = .ok (.iload_n 1, 1) := by decide +kernel
theorem dX8_areCrossed_5 : decode cX8_areCrossed 5 = .ok (.iaload, 1) := by decide +kernel
theorem dX8_areCrossed_6 : decode cX8_areCrossed 6 = .ok (.iload_n 2, 1) := by decide +kernel
theorem dX8_areCrossed_7 : decode cX8_areCrossed 7 = .ok (.ishr, 1) := by decide +kernel
theorem dX8_areCrossed_8 : decode cX8_areCrossed 8 = .ok (.iconst 1, 1) := by decide +kernel
theorem dX8_areCrossed_9 : decode cX8_areCrossed 9 = .ok (.iand, 1) := by decide +kernel
theorem dX8_areCrossed_10 : decode cX8_areCrossed 10 = .ok (.ifCond .eq 7, 3) := by decide +kernel
theorem dX8_areCrossed_13 : decode cX8_areCrossed 13 = .ok (.iconst 1, 1) := by decide +kernel
theorem dX8_areCrossed_14 : decode cX8_areCrossed 14 = .ok (.goto 4, 3) := by decide +kernel
theorem dX8_areCrossed_17 : decode cX8_areCrossed 17 = .ok (.iconst 0, 1) := by decide +kernel
theorem dX8_areCrossed_18 : decode cX8_areCrossed 18 = .ok (.ireturn, 1) := by decide +kernel
theorem dX8_addPair_0 : decode cX8_addPair 0 = .ok (.aload_n 0, 1) := by decide +kernel
theorem dX8_addPair_1 : decode cX8_addPair 1 = .ok (.getfield 15, 3) := by decide +kernel
theorem dX8_addPair_4 : decode cX8_addPair 4 = .ok (.iload_n 1, 1) := by decide +kernel
theorem dX8_addPair_5 : decode cX8_addPair 5 = .ok (.dup2, 1) := by decide +kernel
theorem dX8_addPair_6 : decode cX8_addPair 6 = .ok (.iaload, 1) := by decide +kernel
theorem dX8_addPair_7 : decode cX8_addPair 7 = .ok (.iconst 1, 1) := by decide +kernel
theorem dX8_addPair_8 : decode cX8_addPair 8 = .ok (.iload_n 2, 1) := by decide +kernel
theorem dX8_addPair_9 : decode cX8_addPair 9 = .ok (.ishl, 1) := by decide +kernel
theorem dX8_addPair_10 : decode cX8_addPair 10 = .ok (.ior, 1) := by decide +kernel
theorem dX8_addPair_11 : decode cX8_addPair 11 = .ok (.iastore, 1) := by decide +kernel
theorem dX8_addPair_12 : decode cX8_addPair 12 = .ok (.aload_n 0, 1) := by decide +kernel
theorem dX8_addPair_13 : decode cX8_addPair 13 = .ok (.getfield 15, 3) := by decide +kernel
theorem dX8_addPair_16 : decode cX8_addPair 16 = .ok (.iload_n 2, 1) := by decide +kernel
theorem dX8_addPair_17 : decode cX8_addPair 17 = .ok (.dup2, 1) := by decide +kernel
theorem dX8_addPair_18 : decode cX8_addPair 18 = .ok (.iaload, 1) := by decide +kernel
theorem dX8_addPair_19 : decode cX8_addPair 19 = .ok (.iconst 1, 1) := by decide +kernel
theorem dX8_addPair_20 : decode cX8_addPair 20 = .ok (.iload_n 1, 1) := by decide +kernel
theorem dX8_addPair_21 : decode cX8_addPair 21 = .ok (.ishl, 1) := by decide +kernel
theorem dX8_addPair_22 : decode cX8_addPair 22 = .ok (.ior, 1) := by decide +kernel
theorem dX8_addPair_23 : decode cX8_addPair 23 = .ok (.iastore, 1) := by decide +kernel
theorem dX8_addPair_24 : decode cX8_addPair 24 = .ok (.aload_n 0, 1) := by decide +kernel
theorem dX8_addPair_25 : decode cX8_addPair 25 = .ok (.dup, 1) := by decide +kernel
theorem dX8_addPair_26 : decode cX8_addPair 26 = .ok (.getfield 30, 3) := by decide +kernel
theorem dX8_addPair_29 : decode cX8_addPair 29 = .ok (.iconst 1, 1) := by decide +kernel
theorem dX8_addPair_30 : decode cX8_addPair 30 = .ok (.iadd, 1) := by decide +kernel
theorem dX8_addPair_31 : decode cX8_addPair 31 = .ok (.putfield 30, 3) := by decide +kernel
theorem dX8_addPair_34 : decode cX8_addPair 34 = .ok (.aload_n 0, 1) := by decide +kernel
theorem dX8_addPair_35 : decode cX8_addPair 35 = .ok (.getfield 30, 3) := by decide +kernel
theorem dX8_addPair_38 : decode cX8_addPair 38 = .ok (.ireturn, 1) := by decide +kernel
theorem dX8_dropPairs_0 : decode cX8_dropPairs 0 = .ok (.aload_n 0, 1) := by decide +kernel
theorem dX8_dropPairs_1 : decode cX8_dropPairs 1 = .ok (.getfield 30, 3) := by decide +kernel
theorem dX8_dropPairs_4 : decode cX8_dropPairs 4 = .ok (.istore_n 1, 1) := by decide +kernel
theorem dX8_dropPairs_5 : decode cX8_dropPairs 5 = .ok (.iconst 0, 1) := by decide +kernel
theorem dX8_dropPairs_6 : decode cX8_dropPairs 6 = .ok (.istore_n 2, 1) := by decide +kernel
theorem dX8_dropPairs_7 : decode cX8_dropPairs 7 = .ok (.iload_n 2, 1) := by decide +kernel
theorem dX8_dropPairs_8 : decode cX8_dropPairs 8 = .ok (.bipush 16, 2) := by decide +kernel
theorem dX8_dropPairs_10 : decode cX8_dropPairs 10 = .ok (.if_icmp .ge 16, 3) := by decide +kernel
theorem dX8_dropPairs_13 : decode cX8_dropPairs 13 = .ok (.aload_n 0, 1) := by decide +kernel
theorem dX8_dropPairs_14 : decode cX8_dropPairs 14 = .ok (.getfield 15, 3) := by decide +kernel
theorem dX8_dropPairs_17 : decode cX8_dropPairs 17 = .ok (.iload_n 2, 1) := by decide +kernel
theorem dX8_dropPairs_18 : decode cX8_dropPairs 18 = .ok (.iconst 0, 1) := by decide +kernel
theorem dX8_dropPairs_19 : decode cX8_dropPairs 19 = .ok (.iastore, 1) := by decide +kernel
theorem dX8_dropPairs_20 : decode cX8_dropPairs 20 = .ok (.iinc 2 1, 3) := by decide +kernel
theorem dX8_dropPairs_23 : decode cX8_dropPairs 23 = .ok (.goto (-16), 3) := by decide +kernel
theorem dX8_dropPairs_26 : decode cX8_dropPairs 26 = .ok (.aload_n 0, 1) := by decide +kernel
theorem dX8_dropPairs_27 : decode cX8_dropPairs 27 = .ok (.iconst 0, 1) := by decide +kernel
theorem dX8_dropPairs_28 : decode cX8_dropPairs 28 = .ok (.putfield 30, 3) := by decide +kernel
theorem dX8_dropPairs_31 : decode cX8_dropPairs 31 = .ok (.iload_n 1, 1) := by decide +kernel
theorem dX8_dropPairs_32 : decode cX8_dropPairs 32 = .ok (.ireturn, 1) := by decide +kernel
theorem dX8_forceOf_0 : decode cX8_forceOf 0 = .ok (.aload_n 0, 1) := by decide +kernel
theorem dX8_forceOf_1 : decode cX8_forceOf 1 = .ok (.iload_n 1, 1) := by decide +kernel
theorem dX8_forceOf_2 : decode cX8_forceOf 2 = .ok (.invokevirtual 33, 3) := by decide +kernel
theorem dX8_forceOf_5 : decode cX8_forceOf 5 = .ok (.ifCond .eq 5, 3) := by decide +kernel
theorem dX8_forceOf_8 : decode cX8_forceOf 8 = .ok (.iconst 0, 1) := by decide +kernel
theorem dX8_forceOf_9 : decode cX8_forceOf 9 = .ok (.ireturn, 1) := by decide +kernel
theorem dX8_forceOf_10 : decode cX8_forceOf 10 = .ok (.aload_n 0, 1) := by decide +kernel
theorem dX8_forceOf_11 : decode cX8_forceOf 11 = .ok (.getfield 18, 3) := by decide +kernel
theorem dX8_forceOf_14 : decode cX8_forceOf 14 = .ok (.iload_n 1, 1) := by decide +kernel
theorem dX8_forceOf_15 : decode cX8_forceOf 15 = .ok (.aload_n 0, 1) := by decide +kernel
theorem dX8_forceOf_16 : decode cX8_forceOf 16 = .ok (.getfield 37, 3) := by decide +kernel
theorem dX8_forceOf_19 : decode cX8_forceOf 19 = .ok (.invokevirtual 40, 3) := by decide +kernel
theorem dX8_forceOf_22 : decode cX8_forceOf 22 = .ok (.istore_n 2, 1) := by decide +kernel
theorem dX8_forceOf_23 : decode cX8_forceOf 23 = .ok (.aload_n 0, 1) := by decide +kernel
theorem dX8_forceOf_24 : decode cX8_forceOf 24 = .ok (.getfield 18, 3) := by decide +kernel
theorem dX8_forceOf_27 : decode cX8_forceOf 27 = .ok (.getfield 46, 3) := by decide +kernel
theorem dX8_forceOf_30 : decode cX8_forceOf 30 = .ok (.iload_n 1, 1) := by decide +kernel
theorem dX8_forceOf_31 : decode cX8_forceOf 31 = .ok (.iaload, 1) := by decide +kernel
theorem dX8_forceOf_32 : decode cX8_forceOf 32 = .ok (.istore_n 3, 1) := by decide +kernel
theorem dX8_forceOf_33 : decode cX8_forceOf 33 = .ok (.iconst 0, 1) := by decide +kernel
theorem dX8_forceOf_34 : decode cX8_forceOf 34 = .ok (.istore 4, 2) := by decide +kernel
theorem dX8_forceOf_36 : decode cX8_forceOf 36 = .ok (.iload 4, 2) := by decide +kernel
theorem dX8_forceOf_38 : decode cX8_forceOf 38 = .ok (.bipush 16, 2) := by decide +kernel
theorem dX8_forceOf_40 : decode cX8_forceOf 40 = .ok (.if_icmp .ge 28, 3) := by decide +kernel
theorem dX8_forceOf_43 : decode cX8_forceOf 43 = .ok (.iload_n 3, 1) := by decide +kernel
theorem dX8_forceOf_44 : decode cX8_forceOf 44 = .ok (.iload 4, 2) := by decide +kernel
theorem dX8_forceOf_46 : decode cX8_forceOf 46 = .ok (.ishr, 1) := by decide +kernel
theorem dX8_forceOf_47 : decode cX8_forceOf 47 = .ok (.iconst 1, 1) := by decide +kernel
theorem dX8_forceOf_48 : decode cX8_forceOf 48 = .ok (.iand, 1) := by decide +kernel
theorem dX8_forceOf_49 : decode cX8_forceOf 49 = .ok (.ifCond .eq 13, 3) := by decide +kernel
theorem dX8_forceOf_52 : decode cX8_forceOf 52 = .ok (.iload_n 2, 1) := by decide +kernel
theorem dX8_forceOf_53 : decode cX8_forceOf 53 = .ok (.aload_n 0, 1) := by decide +kernel
theorem dX8_forceOf_54 : decode cX8_forceOf 54 = .ok (.getfield 9, 3) := by decide +kernel
theorem dX8_forceOf_57 : decode cX8_forceOf 57 = .ok (.iload 4, 2) := by decide +kernel
theorem dX8_forceOf_59 : decode cX8_forceOf 59 = .ok (.iaload, 1) := by decide +kernel
theorem dX8_forceOf_60 : decode cX8_forceOf 60 = .ok (.isub, 1) := by decide +kernel
theorem dX8_forceOf_61 : decode cX8_forceOf 61 = .ok (.istore_n 2, 1) := by decide +kernel
theorem dX8_forceOf_62 : decode cX8_forceOf 62 = .ok (.iinc 4 1, 3) := by decide +kernel
theorem dX8_forceOf_65 : decode cX8_forceOf 65 = .ok (.goto (-29), 3) := by decide +kernel
theorem dX8_forceOf_68 : decode cX8_forceOf 68 = .ok (.iload_n 2, 1) := by decide +kernel
theorem dX8_forceOf_69 : decode cX8_forceOf 69 = .ok (.iconst 0, 1) := by decide +kernel
theorem dX8_forceOf_70 : decode cX8_forceOf 70 = .ok (.invokestatic 49, 3) := by decide +kernel
theorem dX8_forceOf_73 : decode cX8_forceOf 73 = .ok (.ireturn, 1) := by decide +kernel
theorem dX8_loudBells_0 : decode cX8_loudBells 0 = .ok (.aload_n 0, 1) := by decide +kernel
theorem dX8_loudBells_1 : decode cX8_loudBells 1 = .ok (.iload_n 1, 1) := by decide +kernel
theorem dX8_loudBells_2 : decode cX8_loudBells 2 = .ok (.invokevirtual 54, 3) := by decide +kernel
theorem dX8_loudBells_5 : decode cX8_loudBells 5 = .ok (.bipush 6, 2) := by decide +kernel
theorem dX8_loudBells_7 : decode cX8_loudBells 7 = .ok (.if_icmp .lt 11, 3) := by decide +kernel
theorem dX8_loudBells_10 : decode cX8_loudBells 10 = .ok (.aload_n 0, 1) := by decide +kernel
theorem dX8_loudBells_11 : decode cX8_loudBells 11 = .ok (.iload_n 1, 1) := by decide +kernel
theorem dX8_loudBells_12 : decode cX8_loudBells 12 = .ok (.invokevirtual 58, 3) := by decide +kernel
theorem dX8_loudBells_15 : decode cX8_loudBells 15 = .ok (.goto 4, 3) := by decide +kernel
theorem dX8_loudBells_18 : decode cX8_loudBells 18 = .ok (.iconst 0, 1) := by decide +kernel
theorem dX8_loudBells_19 : decode cX8_loudBells 19 = .ok (.ireturn, 1) := by decide +kernel
theorem dX8_weakBells_0 : decode cX8_weakBells 0 = .ok (.aload_n 0, 1) := by decide +kernel
theorem dX8_weakBells_1 : decode cX8_weakBells 1 = .ok (.iload_n 1, 1) := by decide +kernel
theorem dX8_weakBells_2 : decode cX8_weakBells 2 = .ok (.invokevirtual 54, 3) := by decide +kernel
theorem dX8_weakBells_5 : decode cX8_weakBells 5 = .ok (.istore_n 2, 1) := by decide +kernel
theorem dX8_weakBells_6 : decode cX8_weakBells 6 = .ok (.iload_n 2, 1) := by decide +kernel
theorem dX8_weakBells_7 : decode cX8_weakBells 7 = .ok (.bipush 6, 2) := by decide +kernel
theorem dX8_weakBells_9 : decode cX8_weakBells 9 = .ok (.if_icmp .lt 9, 3) := by decide +kernel
theorem dX8_weakBells_12 : decode cX8_weakBells 12 = .ok (.aload_n 0, 1) := by decide +kernel
theorem dX8_weakBells_13 : decode cX8_weakBells 13 = .ok (.iload_n 1, 1) := by decide +kernel
theorem dX8_weakBells_14 : decode cX8_weakBells 14 = .ok (.invokevirtual 61, 3) := by decide +kernel
theorem dX8_weakBells_17 : decode cX8_weakBells 17 = .ok (.ireturn, 1) := by decide +kernel
theorem dX8_weakBells_18 : decode cX8_weakBells 18 = .ok (.iload_n 2, 1) := by decide +kernel
theorem dX8_weakBells_19 : decode cX8_weakBells 19 = .ok (.ifCond .le 11, 3) := by decide +kernel
theorem dX8_weakBells_22 : decode cX8_weakBells 22 = .ok (.aload_n 0, 1) := by decide +kernel
theorem dX8_weakBells_23 : decode cX8_weakBells 23 = .ok (.iload_n 1, 1) := by decide +kernel
theorem dX8_weakBells_24 : decode cX8_weakBells 24 = .ok (.invokevirtual 58, 3) := by decide +kernel
theorem dX8_weakBells_27 : decode cX8_weakBells 27 = .ok (.goto 4, 3) := by decide +kernel
theorem dX8_weakBells_30 : decode cX8_weakBells 30 = .ok (.iconst 0, 1) := by decide +kernel
theorem dX8_weakBells_31 : decode cX8_weakBells 31 = .ok (.ireturn, 1) := by decide +kernel
theorem dX8_pullsThatRing_0 : decode cX8_pullsThatRing 0 = .ok (.iconst 0, 1) := by decide +kernel
theorem dX8_pullsThatRing_1 : decode cX8_pullsThatRing 1 = .ok (.istore_n 3, 1) := by decide +kernel
theorem dX8_pullsThatRing_2 : decode cX8_pullsThatRing 2 = .ok (.iconst 0, 1) := by decide +kernel
theorem dX8_pullsThatRing_3 : decode cX8_pullsThatRing 3 = .ok (.istore 4, 2) := by decide +kernel
theorem dX8_pullsThatRing_5 : decode cX8_pullsThatRing 5 = .ok (.iload 4, 2) := by decide +kernel
theorem dX8_pullsThatRing_7 : decode cX8_pullsThatRing 7 = .ok (.aload_n 0, 1) := by decide +kernel
theorem dX8_pullsThatRing_8 : decode cX8_pullsThatRing 8 = .ok (.getfield 18, 3) := by decide +kernel
theorem dX8_pullsThatRing_11 : decode cX8_pullsThatRing 11 = .ok (.getfield 64, 3) := by decide +kernel
theorem dX8_pullsThatRing_14 : decode cX8_pullsThatRing 14 = .ok (.if_icmp .ge 58, 3) := by decide +kernel
theorem dX8_pullsThatRing_17 : decode cX8_pullsThatRing 17 = .ok (.iconst 0, 1) := by decide +kernel
theorem dX8_pullsThatRing_18 : decode cX8_pullsThatRing 18 = .ok (.istore 5, 2) := by decide +kernel
theorem dX8_pullsThatRing_20 : decode cX8_pullsThatRing 20 = .ok (.iload_n 2, 1) := by decide +kernel
theorem dX8_pullsThatRing_21 : decode cX8_pullsThatRing 21 = .ok (.iconst 1, 1) := by decide +kernel
theorem dX8_pullsThatRing_22 : decode cX8_pullsThatRing 22 = .ok (.if_icmp .eq 14, 3) := by decide +kernel
theorem dX8_pullsThatRing_25 : decode cX8_pullsThatRing 25 = .ok (.iload 5, 2) := by decide +kernel
theorem dX8_pullsThatRing_27 : decode cX8_pullsThatRing 27 = .ok (.aload_n 0, 1) := by decide +kernel
theorem dX8_pullsThatRing_28 : decode cX8_pullsThatRing 28 = .ok (.iload 4, 2) := by decide +kernel
theorem dX8_pullsThatRing_30 : decode cX8_pullsThatRing 30 = .ok (.invokevirtual 67, 3) := by decide +kernel
theorem dX8_pullsThatRing_33 : decode cX8_pullsThatRing 33 = .ok (.ior, 1) := by decide +kernel
theorem dX8_pullsThatRing_34 : decode cX8_pullsThatRing 34 = .ok (.istore 5, 2) := by decide +kernel
theorem dX8_pullsThatRing_36 : decode cX8_pullsThatRing 36 = .ok (.iload_n 2, 1) := by decide +kernel
theorem dX8_pullsThatRing_37 : decode cX8_pullsThatRing 37 = .ok (.iconst 2, 1) := by decide +kernel
theorem dX8_pullsThatRing_38 : decode cX8_pullsThatRing 38 = .ok (.if_icmp .eq 14, 3) := by decide +kernel
theorem dX8_pullsThatRing_41 : decode cX8_pullsThatRing 41 = .ok (.iload 5, 2) := by decide +kernel
theorem dX8_pullsThatRing_43 : decode cX8_pullsThatRing 43 = .ok (.aload_n 0, 1) := by decide +kernel
theorem dX8_pullsThatRing_44 : decode cX8_pullsThatRing 44 = .ok (.iload 4, 2) := by decide +kernel
theorem dX8_pullsThatRing_46 : decode cX8_pullsThatRing 46 = .ok (.invokevirtual 70, 3) := by decide +kernel
theorem dX8_pullsThatRing_49 : decode cX8_pullsThatRing 49 = .ok (.ior, 1) := by decide +kernel
theorem dX8_pullsThatRing_50 : decode cX8_pullsThatRing 50 = .ok (.istore 5, 2) := by decide +kernel
theorem dX8_pullsThatRing_52 : decode cX8_pullsThatRing 52 = .ok (.iload 5, 2) := by decide +kernel
theorem dX8_pullsThatRing_54 : decode cX8_pullsThatRing 54 = .ok (.iload_n 1, 1) := by decide +kernel
theorem dX8_pullsThatRing_55 : decode cX8_pullsThatRing 55 = .ok (.iand, 1) := by decide +kernel
theorem dX8_pullsThatRing_56 : decode cX8_pullsThatRing 56 = .ok (.ifCond .eq 10, 3) := by decide +kernel
theorem dX8_pullsThatRing_59 : decode cX8_pullsThatRing 59 = .ok (.iload_n 3, 1) := by decide +kernel
theorem dX8_pullsThatRing_60 : decode cX8_pullsThatRing 60 = .ok (.iconst 1, 1) := by decide +kernel
theorem dX8_pullsThatRing_61 : decode cX8_pullsThatRing 61 = .ok (.iload 4, 2) := by decide +kernel
theorem dX8_pullsThatRing_63 : decode cX8_pullsThatRing 63 = .ok (.ishl, 1) := by decide +kernel
theorem dX8_pullsThatRing_64 : decode cX8_pullsThatRing 64 = .ok (.ior, 1) := by decide +kernel
theorem dX8_pullsThatRing_65 : decode cX8_pullsThatRing 65 = .ok (.istore_n 3, 1) := by decide +kernel
theorem dX8_pullsThatRing_66 : decode cX8_pullsThatRing 66 = .ok (.iinc 4 1, 3) := by decide +kernel
theorem dX8_pullsThatRing_69 : decode cX8_pullsThatRing 69 = .ok (.goto (-64), 3) := by decide +kernel
theorem dX8_pullsThatRing_72 : decode cX8_pullsThatRing 72 = .ok (.iload_n 3, 1) := by decide +kernel
theorem dX8_pullsThatRing_73 : decode cX8_pullsThatRing 73 = .ok (.ireturn, 1) := by decide +kernel
theorem dX8_hasDead_0 : decode cX8_hasDead 0 = .ok (.aload_n 0, 1) := by decide +kernel
theorem dX8_hasDead_1 : decode cX8_hasDead 1 = .ok (.getfield 18, 3) := by decide +kernel
theorem dX8_hasDead_4 : decode cX8_hasDead 4 = .ok (.getfield 46, 3) := by decide +kernel
theorem dX8_hasDead_7 : decode cX8_hasDead 7 = .ok (.iload_n 1, 1) := by decide +kernel
theorem dX8_hasDead_8 : decode cX8_hasDead 8 = .ok (.iaload, 1) := by decide +kernel
theorem dX8_hasDead_9 : decode cX8_hasDead 9 = .ok (.aload_n 0, 1) := by decide +kernel
theorem dX8_hasDead_10 : decode cX8_hasDead 10 = .ok (.getfield 26, 3) := by decide +kernel
theorem dX8_hasDead_13 : decode cX8_hasDead 13 = .ok (.iand, 1) := by decide +kernel
theorem dX8_hasDead_14 : decode cX8_hasDead 14 = .ok (.ifCond .eq 7, 3) := by decide +kernel
theorem dX8_hasDead_17 : decode cX8_hasDead 17 = .ok (.iconst 1, 1) := by decide +kernel
theorem dX8_hasDead_18 : decode cX8_hasDead 18 = .ok (.goto 4, 3) := by decide +kernel
theorem dX8_hasDead_21 : decode cX8_hasDead 21 = .ok (.iconst 0, 1) := by decide +kernel
theorem dX8_hasDead_22 : decode cX8_hasDead 22 = .ok (.ireturn, 1) := by decide +kernel
theorem dX8_soundingBell_0 : decode cX8_soundingBell 0 = .ok (.iconst 1, 1) := by decide +kernel
theorem dX8_soundingBell_1 : decode cX8_soundingBell 1 = .ok (.aload_n 0, 1) := by decide +kernel
theorem dX8_soundingBell_2 : decode cX8_soundingBell 2 = .ok (.getfield 18, 3) := by decide +kernel
theorem dX8_soundingBell_5 : decode cX8_soundingBell 5 = .ok (.getfield 73, 3) := by decide +kernel
theorem dX8_soundingBell_8 : decode cX8_soundingBell 8 = .ok (.iload_n 1, 1) := by decide +kernel
theorem dX8_soundingBell_9 : decode cX8_soundingBell 9 = .ok (.iaload, 1) := by decide +kernel
theorem dX8_soundingBell_10 : decode cX8_soundingBell 10 = .ok (.ishl, 1) := by decide +kernel
theorem dX8_soundingBell_11 : decode cX8_soundingBell 11 = .ok (.aload_n 0, 1) := by decide +kernel
theorem dX8_soundingBell_12 : decode cX8_soundingBell 12 = .ok (.getfield 22, 3) := by decide +kernel
theorem dX8_soundingBell_15 : decode cX8_soundingBell 15 = .ok (.getfield 76, 3) := by decide +kernel
theorem dX8_soundingBell_18 : decode cX8_soundingBell 18 = .ok (.iconst (-1), 1) := by decide +kernel
theorem dX8_soundingBell_19 : decode cX8_soundingBell 19 = .ok (.ixor, 1) := by decide +kernel
theorem dX8_soundingBell_20 : decode cX8_soundingBell 20 = .ok (.iand, 1) := by decide +kernel
theorem dX8_soundingBell_21 : decode cX8_soundingBell 21 = .ok (.ireturn, 1) := by decide +kernel
theorem dX8_bellsPulledAlong_0 : decode cX8_bellsPulledAlong 0 = .ok (.aload_n 0, 1) := by decide +kernel
theorem dX8_bellsPulledAlong_1 : decode cX8_bellsPulledAlong 1 = .ok (.aload_n 0, 1) := by decide +kernel
theorem dX8_bellsPulledAlong_2 : decode cX8_bellsPulledAlong 2 = .ok (.getfield 18, 3) := by decide +kernel
theorem dX8_bellsPulledAlong_5 : decode cX8_bellsPulledAlong 5 = .ok (.getfield 46, 3) := by decide +kernel
theorem dX8_bellsPulledAlong_8 : decode cX8_bellsPulledAlong 8 = .ok (.iload_n 1, 1) := by decide +kernel
theorem dX8_bellsPulledAlong_9 : decode cX8_bellsPulledAlong 9 = .ok (.iaload, 1) := by decide +kernel
theorem dX8_bellsPulledAlong_10 : decode cX8_bellsPulledAlong 10 = .ok (.invokevirtual 81, 3) := by decide +kernel
theorem dX8_bellsPulledAlong_13 : decode cX8_bellsPulledAlong 13 = .ok (.istore_n 2, 1) := by decide +kernel
theorem dX8_bellsPulledAlong_14 : decode cX8_bellsPulledAlong 14 = .ok (.iload_n 2, 1) := by decide +kernel
theorem dX8_bellsPulledAlong_15 : decode cX8_bellsPulledAlong 15 = .ok (.ifCond .ne 5, 3) := by decide +kernel
theorem dX8_bellsPulledAlong_18 : decode cX8_bellsPulledAlong 18 = .ok (.iconst 0, 1) := by decide +kernel
theorem dX8_bellsPulledAlong_19 : decode cX8_bellsPulledAlong 19 = .ok (.ireturn, 1) := by decide +kernel
theorem dX8_bellsPulledAlong_20 : decode cX8_bellsPulledAlong 20 = .ok (.iconst 0, 1) := by decide +kernel
theorem dX8_bellsPulledAlong_21 : decode cX8_bellsPulledAlong 21 = .ok (.istore_n 3, 1) := by decide +kernel
theorem dX8_bellsPulledAlong_22 : decode cX8_bellsPulledAlong 22 = .ok (.iconst 0, 1) := by decide +kernel
theorem dX8_bellsPulledAlong_23 : decode cX8_bellsPulledAlong 23 = .ok (.istore 4, 2) := by decide +kernel
theorem dX8_bellsPulledAlong_25 : decode cX8_bellsPulledAlong 25 = .ok (.iload 4, 2) := by decide +kernel
theorem dX8_bellsPulledAlong_27 : decode cX8_bellsPulledAlong 27 = .ok (.aload_n 0, 1) := by decide +kernel
theorem dX8_bellsPulledAlong_28 : decode cX8_bellsPulledAlong 28 = .ok (.getfield 18, 3) := by decide +kernel
theorem dX8_bellsPulledAlong_31 : decode cX8_bellsPulledAlong 31 = .ok (.getfield 64, 3) := by decide +kernel
theorem dX8_bellsPulledAlong_34 : decode cX8_bellsPulledAlong 34 = .ok (.if_icmp .ge 48, 3) := by decide +kernel
theorem dX8_bellsPulledAlong_37 : decode cX8_bellsPulledAlong 37 = .ok (.iload 4, 2) := by decide +kernel
theorem dX8_bellsPulledAlong_39 : decode cX8_bellsPulledAlong 39 = .ok (.iload_n 1, 1) := by decide +kernel
theorem dX8_bellsPulledAlong_40 : decode cX8_bellsPulledAlong 40 = .ok (.if_icmp .eq 36, 3) := by decide +kernel
theorem dX8_bellsPulledAlong_43 : decode cX8_bellsPulledAlong 43 = .ok (.aload_n 0, 1) := by decide +kernel
theorem dX8_bellsPulledAlong_44 : decode cX8_bellsPulledAlong 44 = .ok (.getfield 18, 3) := by decide +kernel
theorem dX8_bellsPulledAlong_47 : decode cX8_bellsPulledAlong 47 = .ok (.getfield 46, 3) := by decide +kernel
theorem dX8_bellsPulledAlong_50 : decode cX8_bellsPulledAlong 50 = .ok (.iload 4, 2) := by decide +kernel
theorem dX8_bellsPulledAlong_52 : decode cX8_bellsPulledAlong 52 = .ok (.iaload, 1) := by decide +kernel
theorem dX8_bellsPulledAlong_53 : decode cX8_bellsPulledAlong 53 = .ok (.iload_n 2, 1) := by decide +kernel
theorem dX8_bellsPulledAlong_54 : decode cX8_bellsPulledAlong 54 = .ok (.iand, 1) := by decide +kernel
theorem dX8_bellsPulledAlong_55 : decode cX8_bellsPulledAlong 55 = .ok (.ifCond .eq 21, 3) := by decide +kernel
theorem dX8_bellsPulledAlong_58 : decode cX8_bellsPulledAlong 58 = .ok (.aload_n 0, 1) := by decide +kernel
theorem dX8_bellsPulledAlong_59 : decode cX8_bellsPulledAlong 59 = .ok (.iload 4, 2) := by decide +kernel
theorem dX8_bellsPulledAlong_61 : decode cX8_bellsPulledAlong 61 = .ok (.invokevirtual 33, 3) := by decide +kernel
theorem dX8_bellsPulledAlong_64 : decode cX8_bellsPulledAlong 64 = .ok (.ifCond .ne 12, 3) := by decide +kernel
theorem dX8_bellsPulledAlong_67 : decode cX8_bellsPulledAlong 67 = .ok (.iload_n 3, 1) := by decide +kernel
theorem dX8_bellsPulledAlong_68 : decode cX8_bellsPulledAlong 68 = .ok (.aload_n 0, 1) := by decide +kernel
theorem dX8_bellsPulledAlong_69 : decode cX8_bellsPulledAlong 69 = .ok (.iload 4, 2) := by decide +kernel
theorem dX8_bellsPulledAlong_71 : decode cX8_bellsPulledAlong 71 = .ok (.invokevirtual 58, 3) := by decide +kernel
theorem dX8_bellsPulledAlong_74 : decode cX8_bellsPulledAlong 74 = .ok (.ior, 1) := by decide +kernel
theorem dX8_bellsPulledAlong_75 : decode cX8_bellsPulledAlong 75 = .ok (.istore_n 3, 1) := by decide +kernel
theorem dX8_bellsPulledAlong_76 : decode cX8_bellsPulledAlong 76 = .ok (.iinc 4 1, 3) := by decide +kernel
theorem dX8_bellsPulledAlong_79 : decode cX8_bellsPulledAlong 79 = .ok (.goto (-54), 3) := by decide +kernel
theorem dX8_bellsPulledAlong_82 : decode cX8_bellsPulledAlong 82 = .ok (.iload_n 3, 1) := by decide +kernel
theorem dX8_bellsPulledAlong_83 : decode cX8_bellsPulledAlong 83 = .ok (.iconst 1, 1) := by decide +kernel
theorem dX8_bellsPulledAlong_84 : decode cX8_bellsPulledAlong 84 = .ok (.aload_n 0, 1) := by decide +kernel
theorem dX8_bellsPulledAlong_85 : decode cX8_bellsPulledAlong 85 = .ok (.getfield 18, 3) := by decide +kernel
theorem dX8_bellsPulledAlong_88 : decode cX8_bellsPulledAlong 88 = .ok (.getfield 73, 3) := by decide +kernel
theorem dX8_bellsPulledAlong_91 : decode cX8_bellsPulledAlong 91 = .ok (.iload_n 1, 1) := by decide +kernel
theorem dX8_bellsPulledAlong_92 : decode cX8_bellsPulledAlong 92 = .ok (.iaload, 1) := by decide +kernel
theorem dX8_bellsPulledAlong_93 : decode cX8_bellsPulledAlong 93 = .ok (.ishl, 1) := by decide +kernel
theorem dX8_bellsPulledAlong_94 : decode cX8_bellsPulledAlong 94 = .ok (.iconst (-1), 1) := by decide +kernel
theorem dX8_bellsPulledAlong_95 : decode cX8_bellsPulledAlong 95 = .ok (.ixor, 1) := by decide +kernel
theorem dX8_bellsPulledAlong_96 : decode cX8_bellsPulledAlong 96 = .ok (.iand, 1) := by decide +kernel
theorem dX8_bellsPulledAlong_97 : decode cX8_bellsPulledAlong 97 = .ok (.ireturn, 1) := by decide +kernel
theorem dX8_cranksCrossedWith_0 : decode cX8_cranksCrossedWith 0 = .ok (.iconst 0, 1) := by decide +kernel
theorem dX8_cranksCrossedWith_1 : decode cX8_cranksCrossedWith 1 = .ok (.istore_n 2, 1) := by decide +kernel
theorem dX8_cranksCrossedWith_2 : decode cX8_cranksCrossedWith 2 = .ok (.iconst 0, 1) := by decide +kernel
theorem dX8_cranksCrossedWith_3 : decode cX8_cranksCrossedWith 3 = .ok (.istore_n 3, 1) := by decide +kernel
theorem dX8_cranksCrossedWith_4 : decode cX8_cranksCrossedWith 4 = .ok (.iload_n 3, 1) := by decide +kernel
theorem dX8_cranksCrossedWith_5 : decode cX8_cranksCrossedWith 5 = .ok (.bipush 16, 2) := by decide +kernel
theorem dX8_cranksCrossedWith_7 : decode cX8_cranksCrossedWith 7 = .ok (.if_icmp .ge 26, 3) := by decide +kernel
theorem dX8_cranksCrossedWith_10 : decode cX8_cranksCrossedWith 10 = .ok (.iload_n 1, 1) := by decide +kernel
theorem dX8_cranksCrossedWith_11 : decode cX8_cranksCrossedWith 11 = .ok (.iload_n 3, 1) := by decide +kernel
theorem dX8_cranksCrossedWith_12 : decode cX8_cranksCrossedWith 12 = .ok (.ishr, 1) := by decide +kernel
theorem dX8_cranksCrossedWith_13 : decode cX8_cranksCrossedWith 13 = .ok (.iconst 1, 1) := by decide +kernel
theorem dX8_cranksCrossedWith_14 : decode cX8_cranksCrossedWith 14 = .ok (.iand, 1) := by decide +kernel
theorem dX8_cranksCrossedWith_15 : decode cX8_cranksCrossedWith 15 = .ok (.ifCond .eq 12, 3) := by decide +kernel
theorem dX8_cranksCrossedWith_18 : decode cX8_cranksCrossedWith 18 = .ok (.iload_n 2, 1) := by decide +kernel
theorem dX8_cranksCrossedWith_19 : decode cX8_cranksCrossedWith 19 = .ok (.aload_n 0, 1) := by decide +kernel
theorem dX8_cranksCrossedWith_20 : decode cX8_cranksCrossedWith 20 = .ok (.getfield 15, 3) := by decide +kernel
theorem dX8_cranksCrossedWith_23 : decode cX8_cranksCrossedWith 23 = .ok (.iload_n 3, 1) := by decide +kernel
theorem dX8_cranksCrossedWith_24 : decode cX8_cranksCrossedWith 24 = .ok (.iaload, 1) := by decide +kernel
theorem dX8_cranksCrossedWith_25 : decode cX8_cranksCrossedWith 25 = .ok (.ior, 1) := by decide +kernel
theorem dX8_cranksCrossedWith_26 : decode cX8_cranksCrossedWith 26 = .ok (.istore_n 2, 1) := by decide +kernel
theorem dX8_cranksCrossedWith_27 : decode cX8_cranksCrossedWith 27 = .ok (.iinc 3 1, 3) := by decide +kernel
theorem dX8_cranksCrossedWith_30 : decode cX8_cranksCrossedWith 30 = .ok (.goto (-26), 3) := by decide +kernel
theorem dX8_cranksCrossedWith_33 : decode cX8_cranksCrossedWith 33 = .ok (.iload_n 2, 1) := by decide +kernel
theorem dX8_cranksCrossedWith_34 : decode cX8_cranksCrossedWith 34 = .ok (.ireturn, 1) := by decide +kernel
theorem dX9_init_0 : decode cX9_init 0 = .ok (.aload_n 0, 1) := by decide +kernel
theorem dX9_init_1 : decode cX9_init 1 = .ok (.invokespecial 1, 3) := by decide +kernel
theorem dX9_init_4 : decode cX9_init 4 = .ok (.aload_n 0, 1) := by decide +kernel
theorem dX9_init_5 : decode cX9_init 5 = .ok (.new 7, 3) := by decide +kernel
theorem dX9_init_8 : decode cX9_init 8 = .ok (.dup, 1) := by decide +kernel
theorem dX9_init_9 : decode cX9_init 9 = .ok (.invokespecial 9, 3) := by decide +kernel
theorem dX9_init_12 : decode cX9_init 12 = .ok (.putfield 10, 3) := by decide +kernel
theorem dX9_init_15 : decode cX9_init 15 = .ok (.aload_n 0, 1) := by decide +kernel
theorem dX9_init_16 : decode cX9_init 16 = .ok (.new 16, 3) := by decide +kernel
theorem dX9_init_19 : decode cX9_init 19 = .ok (.dup, 1) := by decide +kernel
theorem dX9_init_20 : decode cX9_init 20 = .ok (.invokespecial 18, 3) := by decide +kernel
theorem dX9_init_23 : decode cX9_init 23 = .ok (.putfield 19, 3) := by decide +kernel
theorem dX9_init_26 : decode cX9_init 26 = .ok (.aload_n 0, 1) := by decide +kernel
theorem dX9_init_27 : decode cX9_init 27 = .ok (.new 23, 3) := by decide +kernel
theorem dX9_init_30 : decode cX9_init 30 = .ok (.dup, 1) := by decide +kernel
theorem dX9_init_31 : decode cX9_init 31 = .ok (.aload_n 0, 1) := by decide +kernel
theorem dX9_init_32 : decode cX9_init 32 = .ok (.getfield 10, 3) := by decide +kernel
theorem dX9_init_35 : decode cX9_init 35 = .ok (.aload_n 0, 1) := by decide +kernel
theorem dX9_init_36 : decode cX9_init 36 = .ok (.getfield 19, 3) := by decide +kernel
theorem dX9_init_39 : decode cX9_init 39 = .ok (.invokespecial 25, 3) := by decide +kernel
theorem dX9_init_42 : decode cX9_init 42 = .ok (.putfield 28, 3) := by decide +kernel
theorem dX9_init_45 : decode cX9_init 45 = .ok (.aload_n 0, 1) := by decide +kernel
theorem dX9_init_46 : decode cX9_init 46 = .ok (.new 32, 3) := by decide +kernel
theorem dX9_init_49 : decode cX9_init 49 = .ok (.dup, 1) := by decide +kernel
theorem dX9_init_50 : decode cX9_init 50 = .ok (.invokespecial 34, 3) := by decide +kernel
theorem dX9_init_53 : decode cX9_init 53 = .ok (.putfield 35, 3) := by decide +kernel
theorem dX9_init_56 : decode cX9_init 56 = .ok (.aload_n 0, 1) := by decide +kernel
theorem dX9_init_57 : decode cX9_init 57 = .ok (.new 39, 3) := by decide +kernel
theorem dX9_init_60 : decode cX9_init 60 = .ok (.dup, 1) := by decide +kernel
theorem dX9_init_61 : decode cX9_init 61 = .ok (.invokespecial 41, 3) := by decide +kernel
theorem dX9_init_64 : decode cX9_init 64 = .ok (.putfield 42, 3) := by decide +kernel
theorem dX9_init_67 : decode cX9_init 67 = .ok (.aload_n 0, 1) := by decide +kernel
theorem dX9_init_68 : decode cX9_init 68 = .ok (.new 46, 3) := by decide +kernel
theorem dX9_init_71 : decode cX9_init 71 = .ok (.dup, 1) := by decide +kernel
theorem dX9_init_72 : decode cX9_init 72 = .ok (.aload_n 0, 1) := by decide +kernel
theorem dX9_init_73 : decode cX9_init 73 = .ok (.getfield 10, 3) := by decide +kernel
theorem dX9_init_76 : decode cX9_init 76 = .ok (.aload_n 0, 1) := by decide +kernel
theorem dX9_init_77 : decode cX9_init 77 = .ok (.getfield 35, 3) := by decide +kernel
theorem dX9_init_80 : decode cX9_init 80 = .ok (.aload_n 0, 1) := by decide +kernel
theorem dX9_init_81 : decode cX9_init 81 = .ok (.getfield 42, 3) := by decide +kernel
theorem dX9_init_84 : decode cX9_init 84 = .ok (.invokespecial 48, 3) := by decide +kernel
theorem dX9_init_87 : decode cX9_init 87 = .ok (.putfield 51, 3) := by decide +kernel
theorem dX9_init_90 : decode cX9_init 90 = .ok (.aload_n 0, 1) := by decide +kernel
theorem dX9_init_91 : decode cX9_init 91 = .ok (.new 55, 3) := by decide +kernel
theorem dX9_init_94 : decode cX9_init 94 = .ok (.dup, 1) := by decide +kernel
theorem dX9_init_95 : decode cX9_init 95 = .ok (.aload_n 0, 1) := by decide +kernel
theorem dX9_init_96 : decode cX9_init 96 = .ok (.getfield 10, 3) := by decide +kernel
theorem dX9_init_99 : decode cX9_init 99 = .ok (.aload_n 0, 1) := by decide +kernel
theorem dX9_init_100 : decode cX9_init 100 = .ok (.getfield 35, 3) := by decide +kernel
theorem dX9_init_103 : decode cX9_init 103 = .ok (.aload_n 0, 1) := by decide +kernel
theorem dX9_init_104 : decode cX9_init 104 = .ok (.getfield 42, 3) := by decide +kernel
theorem dX9_init_107 : decode cX9_init 107 = .ok (.invokespecial 57, 3) := by decide +kernel
theorem dX9_init_110 : decode cX9_init 110 = .ok (.putfield 58, 3) := by decide +kernel
theorem dX9_init_113 : decode cX9_init 113 = .ok (.aload_n 0, 1) := by decide +kernel
theorem dX9_init_114 : decode cX9_init 114 = .ok (.new 62, 3) := by decide +kernel
theorem dX9_init_117 : decode cX9_init 117 = .ok (.dup, 1) := by decide +kernel
theorem dX9_init_118 : decode cX9_init 118 = .ok (.aload_n 0, 1) := by decide +kernel
theorem dX9_init_119 : decode cX9_init 119 = .ok (.getfield 10, 3) := by decide +kernel
theorem dX9_init_122 : decode cX9_init 122 = .ok (.invokespecial 64, 3) := by decide +kernel
theorem dX9_init_125 : decode cX9_init 125 = .ok (.putfield 67, 3) := by decide +kernel
theorem dX9_init_128 : decode cX9_init 128 = .ok (.aload_n 0, 1) := by decide +kernel
theorem dX9_init_129 : decode cX9_init 129 = .ok (.new 71, 3) := by decide +kernel
theorem dX9_init_132 : decode cX9_init 132 = .ok (.dup, 1) := by decide +kernel
theorem dX9_init_133 : decode cX9_init 133 = .ok (.invokespecial 73, 3) := by decide +kernel
theorem dX9_init_136 : decode cX9_init 136 = .ok (.putfield 74, 3) := by decide +kernel
theorem dX9_init_139 : decode cX9_init 139 = .ok (.return_, 1) := by decide +kernel
theorem dX9_crank_0 : decode cX9_crank 0 = .ok (.iload_n 1, 1) := by decide +kernel
theorem dX9_crank_1 : decode cX9_crank 1 = .ok (.bipush 16, 2) := by decide +kernel
theorem dX9_crank_3 : decode cX9_crank 3 = .ok (.invokestatic 78, 3) := by decide +kernel
theorem dX9_crank_6 : decode cX9_crank 6 = .ok (.ifCond .eq 13, 3) := by decide +kernel
theorem dX9_crank_9 : decode cX9_crank 9 = .ok (.iload_n 2, 1) := by decide +kernel
theorem dX9_crank_10 : decode cX9_crank 10 = .ok (.ifCond .lt 9, 3) := by decide +kernel
theorem dX9_crank_13 : decode cX9_crank 13 = .ok (.iload_n 2, 1) := by decide +kernel
theorem dX9_crank_14 : decode cX9_crank 14 = .ok (.bipush 10, 2) := by decide +kernel
theorem dX9_crank_16 : decode cX9_crank 16 = .ok (.if_icmp .le 5, 3) := by decide +kernel
theorem dX9_crank_19 : decode cX9_crank 19 = .ok (.iconst (-1), 1) := by decide +kernel
theorem dX9_crank_20 : decode cX9_crank 20 = .ok (.ireturn, 1) := by decide +kernel
theorem dX9_crank_21 : decode cX9_crank 21 = .ok (.aload_n 0, 1) := by decide +kernel
theorem dX9_crank_22 : decode cX9_crank 22 = .ok (.getfield 28, 3) := by decide +kernel
theorem dX9_crank_25 : decode cX9_crank 25 = .ok (.iload_n 1, 1) := by decide +kernel
