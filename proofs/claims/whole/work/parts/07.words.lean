def shX : List Sh := [.inr (9, [some 1, some 2, some 3, some 4, some 5, some 6, some 7, some 8, some 9]), .inr (4, [none, some 10, some 11, some 12, some 13, some 14]), .inr (0, [some 15, some 16, none]), .inr (8, [some 1, some 2, some 17, some 18, none, none, none]), .inr (5, [none, some 19, some 20, some 21, some 22, some 23, some 24]), .inr (1, [some 25, some 26, some 27, some 28, some 29, none, none]), .inr (6, [some 1, some 4, some 5, none]), .inr (7, [some 1, some 4, some 5, some 30, some 31, some 32, none, none]), .inr (2, [some 1, some 33, some 34, none, none]), .inr (3, [some 35, some 36, some 37, some 38]), .inl 12, .inl 12, .inl 12, .inl 12, .inl 12, .inl 8, .inl 8, .inl 16, .inl 16, .inl 5, .inl 5, .inl 5, .inl 5, .inl 5, .inl 5, .inl 12, .inl 12, .inl 12, .inl 12, .inl 12, .inl 4, .inl 4, .inl 4, .inl 168, .inl 3, .inl 24, .inl 24, .inl 5, .inl 384]
def shM : List Sh := [.inr (10, [some 1, some 2, some 3, none, none, some 4, some 5, some 6, some 7, some 8, none, some 9, some 10, some 11, none, some 12, some 13, some 14, none, none, some 15, some 16, some 17, some 18, some 19, some 20, none, some 21, none, some 22, some 23, some 24, some 25, some 26, none, none, some 27]), .inl 16, .inl 8, .inl 8, .inl 12, .inl 12, .inl 12, .inl 12, .inl 12, .inl 4, .inl 4, .inl 12, .inl 12, .inl 12, .inl 12, .inl 5, .inl 5, .inl 5, .inl 5, .inl 5, .inl 5, .inl 8, .inl 12, .inl 12, .inl 12, .inl 48, .inl 4, .inl 768]
theorem shX_0 : shX[0]? = some (.inr (9, [some 1, some 2, some 3, some 4, some 5, some 6, some 7, some 8, some 9])) := rfl
theorem shX_1 : shX[1]? = some (.inr (4, [none, some 10, some 11, some 12, some 13, some 14])) := rfl
theorem shX_2 : shX[2]? = some (.inr (0, [some 15, some 16, none])) := rfl
theorem shX_3 : shX[3]? = some (.inr (8, [some 1, some 2, some 17, some 18, none, none, none])) := rfl
theorem shX_4 : shX[4]? = some (.inr (5, [none, some 19, some 20, some 21, some 22, some 23, some 24])) := rfl
theorem shX_5 : shX[5]? = some (.inr (1, [some 25, some 26, some 27, some 28, some 29, none, none])) := rfl
theorem shX_6 : shX[6]? = some (.inr (6, [some 1, some 4, some 5, none])) := rfl
theorem shX_7 : shX[7]? = some (.inr (7, [some 1, some 4, some 5, some 30, some 31, some 32, none, none])) := rfl
theorem shX_8 : shX[8]? = some (.inr (2, [some 1, some 33, some 34, none, none])) := rfl
theorem shX_9 : shX[9]? = some (.inr (3, [some 35, some 36, some 37, some 38])) := rfl
theorem shX_10 : shX[10]? = some (.inl 12) := rfl
theorem shX_11 : shX[11]? = some (.inl 12) := rfl
theorem shX_12 : shX[12]? = some (.inl 12) := rfl
theorem shX_13 : shX[13]? = some (.inl 12) := rfl
theorem shX_14 : shX[14]? = some (.inl 12) := rfl
theorem shX_15 : shX[15]? = some (.inl 8) := rfl
theorem shX_16 : shX[16]? = some (.inl 8) := rfl
theorem shX_17 : shX[17]? = some (.inl 16) := rfl
theorem shX_18 : shX[18]? = some (.inl 16) := rfl
theorem shX_19 : shX[19]? = some (.inl 5) := rfl
theorem shX_20 : shX[20]? = some (.inl 5) := rfl
theorem shX_21 : shX[21]? = some (.inl 5) := rfl
theorem shX_22 : shX[22]? = some (.inl 5) := rfl
theorem shX_23 : shX[23]? = some (.inl 5) := rfl
theorem shX_24 : shX[24]? = some (.inl 5) := rfl
theorem shX_25 : shX[25]? = some (.inl 12) := rfl
theorem shX_26 : shX[26]? = some (.inl 12) := rfl
theorem shX_27 : shX[27]? = some (.inl 12) := rfl
theorem shX_28 : shX[28]? = some (.inl 12) := rfl
theorem shX_29 : shX[29]? = some (.inl 12) := rfl
theorem shX_30 : shX[30]? = some (.inl 4) := rfl
theorem shX_31 : shX[31]? = some (.inl 4) := rfl
theorem shX_32 : shX[32]? = some (.inl 4) := rfl
theorem shX_33 : shX[33]? = some (.inl 168) := rfl
theorem shX_34 : shX[34]? = some (.inl 3) := rfl
theorem shX_35 : shX[35]? = some (.inl 24) := rfl
theorem shX_36 : shX[36]? = some (.inl 24) := rfl
theorem shX_37 : shX[37]? = some (.inl 5) := rfl
theorem shX_38 : shX[38]? = some (.inl 384) := rfl
theorem shM_0 : shM[0]? = some (.inr (10, [some 1, some 2, some 3, none, none, some 4, some 5, some 6, some 7, some 8, none, some 9, some 10, some 11, none, some 12, some 13, some 14, none, none, some 15, some 16, some 17, some 18, some 19, some 20, none, some 21, none, some 22, some 23, some 24, some 25, some 26, none, none, some 27])) := rfl
theorem shM_1 : shM[1]? = some (.inl 16) := rfl
theorem shM_2 : shM[2]? = some (.inl 8) := rfl
theorem shM_3 : shM[3]? = some (.inl 8) := rfl
theorem shM_4 : shM[4]? = some (.inl 12) := rfl
theorem shM_5 : shM[5]? = some (.inl 12) := rfl
theorem shM_6 : shM[6]? = some (.inl 12) := rfl
theorem shM_7 : shM[7]? = some (.inl 12) := rfl
theorem shM_8 : shM[8]? = some (.inl 12) := rfl
theorem shM_9 : shM[9]? = some (.inl 4) := rfl
theorem shM_10 : shM[10]? = some (.inl 4) := rfl
theorem shM_11 : shM[11]? = some (.inl 12) := rfl
theorem shM_12 : shM[12]? = some (.inl 12) := rfl
theorem shM_13 : shM[13]? = some (.inl 12) := rfl
theorem shM_14 : shM[14]? = some (.inl 12) := rfl
theorem shM_15 : shM[15]? = some (.inl 5) := rfl
theorem shM_16 : shM[16]? = some (.inl 5) := rfl
theorem shM_17 : shM[17]? = some (.inl 5) := rfl
theorem shM_18 : shM[18]? = some (.inl 5) := rfl
theorem shM_19 : shM[19]? = some (.inl 5) := rfl
theorem shM_20 : shM[20]? = some (.inl 5) := rfl
theorem shM_21 : shM[21]? = some (.inl 8) := rfl
theorem shM_22 : shM[22]? = some (.inl 12) := rfl
theorem shM_23 : shM[23]? = some (.inl 12) := rfl
theorem shM_24 : shM[24]? = some (.inl 12) := rfl
theorem shM_25 : shM[25]? = some (.inl 48) := rfl
theorem shM_26 : shM[26]? = some (.inl 4) := rfl
theorem shM_27 : shM[27]? = some (.inl 768) := rfl
theorem ic_m1 : Int32.ofInt (-1) = (-1 : Int32) := by decide
theorem ic_0 : Int32.ofInt (0) = (0 : Int32) := by decide
theorem ic_1 : Int32.ofInt (1) = (1 : Int32) := by decide
theorem ic_2 : Int32.ofInt (2) = (2 : Int32) := by decide
theorem ic_3 : Int32.ofInt (3) = (3 : Int32) := by decide
theorem ic_4 : Int32.ofInt (4) = (4 : Int32) := by decide
theorem ic_5 : Int32.ofInt (5) = (5 : Int32) := by decide
theorem bp_m4 : (Int8.ofInt (-4)).toInt32 = (-4 : Int32) := by decide
theorem bp_m3 : (Int8.ofInt (-3)).toInt32 = (-3 : Int32) := by decide
theorem bp_m2 : (Int8.ofInt (-2)).toInt32 = (-2 : Int32) := by decide
theorem bp_6 : (Int8.ofInt (6)).toInt32 = (6 : Int32) := by decide
theorem bp_7 : (Int8.ofInt (7)).toInt32 = (7 : Int32) := by decide
theorem bp_8 : (Int8.ofInt (8)).toInt32 = (8 : Int32) := by decide
theorem bp_9 : (Int8.ofInt (9)).toInt32 = (9 : Int32) := by decide
theorem bp_10 : (Int8.ofInt (10)).toInt32 = (10 : Int32) := by decide
theorem bp_12 : (Int8.ofInt (12)).toInt32 = (12 : Int32) := by decide
theorem bp_15 : (Int8.ofInt (15)).toInt32 = (15 : Int32) := by decide
theorem bp_16 : (Int8.ofInt (16)).toInt32 = (16 : Int32) := by decide
theorem bp_20 : (Int8.ofInt (20)).toInt32 = (20 : Int32) := by decide
theorem bp_23 : (Int8.ofInt (23)).toInt32 = (23 : Int32) := by decide
theorem bp_24 : (Int8.ofInt (24)).toInt32 = (24 : Int32) := by decide
theorem bp_30 : (Int8.ofInt (30)).toInt32 = (30 : Int32) := by decide
theorem bp_31 : (Int8.ofInt (31)).toInt32 = (31 : Int32) := by decide
theorem bp_32 : (Int8.ofInt (32)).toInt32 = (32 : Int32) := by decide
theorem bp_40 : (Int8.ofInt (40)).toInt32 = (40 : Int32) := by decide
theorem bp_48 : (Int8.ofInt (48)).toInt32 = (48 : Int32) := by decide
theorem bp_63 : (Int8.ofInt (63)).toInt32 = (63 : Int32) := by decide
theorem bp_100 : (Int8.ofInt (100)).toInt32 = (100 : Int32) := by decide
theorem sp_160 : (Int16.ofInt (160)).toInt32 = (160 : Int32) := by decide
theorem sp_168 : (Int16.ofInt (168)).toInt32 = (168 : Int32) := by decide
theorem sp_200 : (Int16.ofInt (200)).toInt32 = (200 : Int32) := by decide
theorem sp_255 : (Int16.ofInt (255)).toInt32 = (255 : Int32) := by decide
theorem sp_768 : (Int16.ofInt (768)).toInt32 = (768 : Int32) := by decide
theorem sp_1000 : (Int16.ofInt (1000)).toInt32 = (1000 : Int32) := by decide
theorem sp_5000 : (Int16.ofInt (5000)).toInt32 = (5000 : Int32) := by decide
theorem sp_9999 : (Int16.ofInt (9999)).toInt32 = (9999 : Int32) := by decide
set_option maxRecDepth 100000 in
theorem inT_X0 : ∀ w ∈ u_ws RX0 TX0 3, w ∈ tg := by decide +kernel
set_option maxRecDepth 100000 in
theorem inT_X1 : ∀ w ∈ u_ws RX1 TX1 7, w ∈ tg := by decide +kernel
set_option maxRecDepth 100000 in
theorem inT_X2 : ∀ w ∈ u_ws RX2 TX2 5, w ∈ tg := by decide +kernel
set_option maxRecDepth 100000 in
theorem inT_X3 : ∀ w ∈ u_ws RX3 TX3 4, w ∈ tg := by decide +kernel
set_option maxRecDepth 100000 in
theorem inT_X4 : ∀ w ∈ u_ws RX4 TX4 6, w ∈ tg := by decide +kernel
set_option maxRecDepth 100000 in
theorem inT_X5 : ∀ w ∈ u_ws RX5 TX5 7, w ∈ tg := by decide +kernel
set_option maxRecDepth 100000 in
theorem inT_X6 : ∀ w ∈ u_ws RX6 TX6 4, w ∈ tg := by decide +kernel
set_option maxRecDepth 100000 in
theorem inT_X7 : ∀ w ∈ u_ws RX7 TX7 8, w ∈ tg := by decide +kernel
set_option maxRecDepth 100000 in
theorem inT_X8 : ∀ w ∈ u_ws RX8 TX8 7, w ∈ tg := by decide +kernel
set_option maxRecDepth 100000 in
theorem inT_X9 : ∀ w ∈ u_ws RX9 TX9 9, w ∈ tg := by decide +kernel
set_option maxRecDepth 100000 in
theorem inT_X10 : ∀ w ∈ u_ws RX10 TX10 37, w ∈ tg := by decide +kernel
theorem fw_RX0_9 : Cond.fieldLink RX0 9 (TX0 0).1 (TX0 0).2.1 (TX0 0).2.2.1 ∈ tg := mem_tg 117 (by decide +kernel) (by decide +kernel)
theorem fw_RX0_15 : Cond.fieldLink RX0 15 (TX0 1).1 (TX0 1).2.1 (TX0 1).2.2.1 ∈ tg := mem_tg 118 (by decide +kernel) (by decide +kernel)
theorem fw_RX0_18 : Cond.fieldLink RX0 18 (TX0 2).1 (TX0 2).2.1 (TX0 2).2.2.1 ∈ tg := mem_tg 120 (by decide +kernel) (by decide +kernel)
theorem fw_RX1_9 : Cond.fieldLink RX1 9 (TX1 0).1 (TX1 0).2.1 (TX1 0).2.2.1 ∈ tg := mem_tg 206 (by decide +kernel) (by decide +kernel)
theorem fw_RX1_15 : Cond.fieldLink RX1 15 (TX1 1).1 (TX1 1).2.1 (TX1 1).2.2.1 ∈ tg := mem_tg 208 (by decide +kernel) (by decide +kernel)
theorem fw_RX1_18 : Cond.fieldLink RX1 18 (TX1 2).1 (TX1 2).2.1 (TX1 2).2.2.1 ∈ tg := mem_tg 211 (by decide +kernel) (by decide +kernel)
theorem fw_RX1_21 : Cond.fieldLink RX1 21 (TX1 3).1 (TX1 3).2.1 (TX1 3).2.2.1 ∈ tg := mem_tg 213 (by decide +kernel) (by decide +kernel)
theorem fw_RX1_24 : Cond.fieldLink RX1 24 (TX1 4).1 (TX1 4).2.1 (TX1 4).2.2.1 ∈ tg := mem_tg 215 (by decide +kernel) (by decide +kernel)
theorem fw_RX1_27 : Cond.fieldLink RX1 27 (TX1 5).1 (TX1 5).2.1 (TX1 5).2.2.1 ∈ tg := mem_tg 217 (by decide +kernel) (by decide +kernel)
theorem fw_RX1_31 : Cond.fieldLink RX1 31 (TX1 6).1 (TX1 6).2.1 (TX1 6).2.2.1 ∈ tg := mem_tg 219 (by decide +kernel) (by decide +kernel)
theorem fw_RX10_7 : Cond.fieldLink RX10 7 (TX10 0).1 (TX10 0).2.1 (TX10 0).2.2.1 ∈ tg := mem_tg 765 (by decide +kernel) (by decide +kernel)
theorem fw_RX10_13 : Cond.fieldLink RX10 13 (TX10 1).1 (TX10 1).2.1 (TX10 1).2.2.1 ∈ tg := mem_tg 766 (by decide +kernel) (by decide +kernel)
theorem fw_RX10_16 : Cond.fieldLink RX10 16 (TX10 2).1 (TX10 2).2.1 (TX10 2).2.2.1 ∈ tg := mem_tg 767 (by decide +kernel) (by decide +kernel)
theorem fw_RX10_19 : Cond.fieldLink RX10 19 (TX10 5).1 (TX10 5).2.1 (TX10 5).2.2.1 ∈ tg := mem_tg 770 (by decide +kernel) (by decide +kernel)
theorem fw_RX10_22 : Cond.fieldLink RX10 22 (TX10 6).1 (TX10 6).2.1 (TX10 6).2.2.1 ∈ tg := mem_tg 771 (by decide +kernel) (by decide +kernel)
theorem fw_RX10_25 : Cond.fieldLink RX10 25 (TX10 7).1 (TX10 7).2.1 (TX10 7).2.2.1 ∈ tg := mem_tg 772 (by decide +kernel) (by decide +kernel)
theorem fw_RX10_28 : Cond.fieldLink RX10 28 (TX10 8).1 (TX10 8).2.1 (TX10 8).2.2.1 ∈ tg := mem_tg 773 (by decide +kernel) (by decide +kernel)
theorem fw_RX10_31 : Cond.fieldLink RX10 31 (TX10 9).1 (TX10 9).2.1 (TX10 9).2.2.1 ∈ tg := mem_tg 774 (by decide +kernel) (by decide +kernel)
theorem fw_RX10_34 : Cond.fieldLink RX10 34 (TX10 11).1 (TX10 11).2.1 (TX10 11).2.2.1 ∈ tg := mem_tg 776 (by decide +kernel) (by decide +kernel)
theorem fw_RX10_37 : Cond.fieldLink RX10 37 (TX10 12).1 (TX10 12).2.1 (TX10 12).2.2.1 ∈ tg := mem_tg 777 (by decide +kernel) (by decide +kernel)
theorem fw_RX10_40 : Cond.fieldLink RX10 40 (TX10 13).1 (TX10 13).2.1 (TX10 13).2.2.1 ∈ tg := mem_tg 778 (by decide +kernel) (by decide +kernel)
theorem fw_RX10_43 : Cond.fieldLink RX10 43 (TX10 15).1 (TX10 15).2.1 (TX10 15).2.2.1 ∈ tg := mem_tg 780 (by decide +kernel) (by decide +kernel)
theorem fw_RX10_46 : Cond.fieldLink RX10 46 (TX10 16).1 (TX10 16).2.1 (TX10 16).2.2.1 ∈ tg := mem_tg 781 (by decide +kernel) (by decide +kernel)
theorem fw_RX10_49 : Cond.fieldLink RX10 49 (TX10 17).1 (TX10 17).2.1 (TX10 17).2.2.1 ∈ tg := mem_tg 782 (by decide +kernel) (by decide +kernel)
theorem fw_RX10_52 : Cond.fieldLink RX10 52 (TX10 20).1 (TX10 20).2.1 (TX10 20).2.2.1 ∈ tg := mem_tg 785 (by decide +kernel) (by decide +kernel)
theorem fw_RX10_55 : Cond.fieldLink RX10 55 (TX10 21).1 (TX10 21).2.1 (TX10 21).2.2.1 ∈ tg := mem_tg 786 (by decide +kernel) (by decide +kernel)
theorem fw_RX10_58 : Cond.fieldLink RX10 58 (TX10 22).1 (TX10 22).2.1 (TX10 22).2.2.1 ∈ tg := mem_tg 787 (by decide +kernel) (by decide +kernel)
theorem fw_RX10_61 : Cond.fieldLink RX10 61 (TX10 23).1 (TX10 23).2.1 (TX10 23).2.2.1 ∈ tg := mem_tg 788 (by decide +kernel) (by decide +kernel)
theorem fw_RX10_64 : Cond.fieldLink RX10 64 (TX10 24).1 (TX10 24).2.1 (TX10 24).2.2.1 ∈ tg := mem_tg 789 (by decide +kernel) (by decide +kernel)
theorem fw_RX10_67 : Cond.fieldLink RX10 67 (TX10 25).1 (TX10 25).2.1 (TX10 25).2.2.1 ∈ tg := mem_tg 790 (by decide +kernel) (by decide +kernel)
theorem fw_RX10_70 : Cond.fieldLink RX10 70 (TX10 27).1 (TX10 27).2.1 (TX10 27).2.2.1 ∈ tg := mem_tg 792 (by decide +kernel) (by decide +kernel)
theorem fw_RX10_73 : Cond.fieldLink RX10 73 (TX10 29).1 (TX10 29).2.1 (TX10 29).2.2.1 ∈ tg := mem_tg 794 (by decide +kernel) (by decide +kernel)
theorem fw_RX10_76 : Cond.fieldLink RX10 76 (TX10 30).1 (TX10 30).2.1 (TX10 30).2.2.1 ∈ tg := mem_tg 795 (by decide +kernel) (by decide +kernel)
theorem fw_RX10_79 : Cond.fieldLink RX10 79 (TX10 31).1 (TX10 31).2.1 (TX10 31).2.2.1 ∈ tg := mem_tg 796 (by decide +kernel) (by decide +kernel)
theorem fw_RX10_82 : Cond.fieldLink RX10 82 (TX10 32).1 (TX10 32).2.1 (TX10 32).2.2.1 ∈ tg := mem_tg 797 (by decide +kernel) (by decide +kernel)
theorem fw_RX10_85 : Cond.fieldLink RX10 85 (TX10 33).1 (TX10 33).2.1 (TX10 33).2.2.1 ∈ tg := mem_tg 798 (by decide +kernel) (by decide +kernel)
theorem fw_RX10_88 : Cond.fieldLink RX10 88 (TX10 36).1 (TX10 36).2.1 (TX10 36).2.2.1 ∈ tg := mem_tg 801 (by decide +kernel) (by decide +kernel)
theorem fw_RX10_91 : Cond.fieldLink RX10 91 (TX10 4).1 (TX10 4).2.1 (TX10 4).2.2.1 ∈ tg := mem_tg 769 (by decide +kernel) (by decide +kernel)
theorem fw_RX10_99 : Cond.fieldLink RX10 99 (TX10 3).1 (TX10 3).2.1 (TX10 3).2.2.1 ∈ tg := mem_tg 768 (by decide +kernel) (by decide +kernel)
theorem fw_RX10_107 : Cond.fieldLink RX10 107 (TX10 10).1 (TX10 10).2.1 (TX10 10).2.2.1 ∈ tg := mem_tg 775 (by decide +kernel) (by decide +kernel)
theorem fw_RX10_141 : Cond.fieldLink RX10 141 (TX10 19).1 (TX10 19).2.1 (TX10 19).2.2.1 ∈ tg := mem_tg 784 (by decide +kernel) (by decide +kernel)
theorem fw_RX10_144 : Cond.fieldLink RX10 144 (TX10 26).1 (TX10 26).2.1 (TX10 26).2.2.1 ∈ tg := mem_tg 791 (by decide +kernel) (by decide +kernel)
theorem fw_RX10_153 : Cond.fieldLink RX10 153 (TX10 14).1 (TX10 14).2.1 (TX10 14).2.2.1 ∈ tg := mem_tg 779 (by decide +kernel) (by decide +kernel)
theorem fw_RX10_178 : Cond.fieldLink RX10 178 (TX10 18).1 (TX10 18).2.1 (TX10 18).2.2.1 ∈ tg := mem_tg 783 (by decide +kernel) (by decide +kernel)
theorem fw_RX10_184 : Cond.fieldLink RX10 184 (TX10 34).1 (TX10 34).2.1 (TX10 34).2.2.1 ∈ tg := mem_tg 799 (by decide +kernel) (by decide +kernel)
theorem fw_RX10_188 : Cond.fieldLink RX10 188 (TX10 35).1 (TX10 35).2.1 (TX10 35).2.2.1 ∈ tg := mem_tg 800 (by decide +kernel) (by decide +kernel)
theorem fw_RX10_204 : Cond.fieldLink RX10 204 (TX10 28).1 (TX10 28).2.1 (TX10 28).2.2.1 ∈ tg := mem_tg 793 (by decide +kernel) (by decide +kernel)
theorem fw_RX2_11 : Cond.fieldLink RX2 11 (TX2 1).1 (TX2 1).2.1 (TX2 1).2.2.1 ∈ tg := mem_tg 302 (by decide +kernel) (by decide +kernel)
theorem fw_RX2_15 : Cond.fieldLink RX2 15 (TX2 2).1 (TX2 2).2.1 (TX2 2).2.2.1 ∈ tg := mem_tg 304 (by decide +kernel) (by decide +kernel)
theorem fw_RX2_18 : Cond.fieldLink RX2 18 (TX2 0).1 (TX2 0).2.1 (TX2 0).2.2.1 ∈ tg := mem_tg 301 (by decide +kernel) (by decide +kernel)
theorem fw_RX2_25 : Cond.fieldLink RX2 25 (TX2 4).1 (TX2 4).2.1 (TX2 4).2.2.1 ∈ tg := mem_tg 307 (by decide +kernel) (by decide +kernel)
theorem fw_RX2_33 : Cond.fieldLink RX2 33 (TX2 3).1 (TX2 3).2.1 (TX2 3).2.2.1 ∈ tg := mem_tg 305 (by decide +kernel) (by decide +kernel)
theorem fw_RX2_36 : Cond.fieldLink RX2 36 (TX4 0).1 (TX4 0).2.1 (TX4 0).2.2.1 ∈ tg := mem_tg 76 (by decide +kernel) (by decide +kernel)
theorem fw_RX2_55 : Cond.fieldLink RX2 55 (TX4 5).1 (TX4 5).2.1 (TX4 5).2.2.1 ∈ tg := mem_tg 96 (by decide +kernel) (by decide +kernel)
theorem fw_RX2_58 : Cond.fieldLink RX2 58 (TX4 4).1 (TX4 4).2.1 (TX4 4).2.2.1 ∈ tg := mem_tg 92 (by decide +kernel) (by decide +kernel)
theorem fw_RX3_9 : Cond.fieldLink RX3 9 (TX3 0).1 (TX3 0).2.1 (TX3 0).2.2.1 ∈ tg := mem_tg 326 (by decide +kernel) (by decide +kernel)
theorem fw_RX3_15 : Cond.fieldLink RX3 15 (TX3 1).1 (TX3 1).2.1 (TX3 1).2.2.1 ∈ tg := mem_tg 327 (by decide +kernel) (by decide +kernel)
theorem fw_RX3_18 : Cond.fieldLink RX3 18 (TX3 2).1 (TX3 2).2.1 (TX3 2).2.2.1 ∈ tg := mem_tg 328 (by decide +kernel) (by decide +kernel)
theorem fw_RX3_21 : Cond.fieldLink RX3 21 (TX3 3).1 (TX3 3).2.1 (TX3 3).2.2.1 ∈ tg := mem_tg 329 (by decide +kernel) (by decide +kernel)
theorem fw_RX4_9 : Cond.fieldLink RX4 9 (TX4 1).1 (TX4 1).2.1 (TX4 1).2.2.1 ∈ tg := mem_tg 80 (by decide +kernel) (by decide +kernel)
theorem fw_RX4_15 : Cond.fieldLink RX4 15 (TX4 2).1 (TX4 2).2.1 (TX4 2).2.2.1 ∈ tg := mem_tg 84 (by decide +kernel) (by decide +kernel)
theorem fw_RX4_18 : Cond.fieldLink RX4 18 (TX4 3).1 (TX4 3).2.1 (TX4 3).2.2.1 ∈ tg := mem_tg 88 (by decide +kernel) (by decide +kernel)
theorem fw_RX4_21 : Cond.fieldLink RX4 21 (TX4 4).1 (TX4 4).2.1 (TX4 4).2.2.1 ∈ tg := mem_tg 91 (by decide +kernel) (by decide +kernel)
theorem fw_RX4_24 : Cond.fieldLink RX4 24 (TX4 5).1 (TX4 5).2.1 (TX4 5).2.2.1 ∈ tg := mem_tg 94 (by decide +kernel) (by decide +kernel)
theorem fw_RX4_27 : Cond.fieldLink RX4 27 (TX4 0).1 (TX4 0).2.1 (TX4 0).2.2.1 ∈ tg := mem_tg 74 (by decide +kernel) (by decide +kernel)
theorem fw_RX5_9 : Cond.fieldLink RX5 9 (TX5 1).1 (TX5 1).2.1 (TX5 1).2.2.1 ∈ tg := mem_tg 169 (by decide +kernel) (by decide +kernel)
theorem fw_RX5_15 : Cond.fieldLink RX5 15 (TX5 2).1 (TX5 2).2.1 (TX5 2).2.2.1 ∈ tg := mem_tg 172 (by decide +kernel) (by decide +kernel)
theorem fw_RX5_18 : Cond.fieldLink RX5 18 (TX5 3).1 (TX5 3).2.1 (TX5 3).2.2.1 ∈ tg := mem_tg 175 (by decide +kernel) (by decide +kernel)
theorem fw_RX5_21 : Cond.fieldLink RX5 21 (TX5 4).1 (TX5 4).2.1 (TX5 4).2.2.1 ∈ tg := mem_tg 176 (by decide +kernel) (by decide +kernel)
theorem fw_RX5_30 : Cond.fieldLink RX5 30 (TX5 0).1 (TX5 0).2.1 (TX5 0).2.2.1 ∈ tg := mem_tg 165 (by decide +kernel) (by decide +kernel)
theorem fw_RX6_9 : Cond.fieldLink RX6 9 (TX6 0).1 (TX6 0).2.1 (TX6 0).2.2.1 ∈ tg := mem_tg 242 (by decide +kernel) (by decide +kernel)
theorem fw_RX6_15 : Cond.fieldLink RX6 15 (TX6 1).1 (TX6 1).2.1 (TX6 1).2.2.1 ∈ tg := mem_tg 243 (by decide +kernel) (by decide +kernel)
theorem fw_RX6_19 : Cond.fieldLink RX6 19 (TX6 2).1 (TX6 2).2.1 (TX6 2).2.2.1 ∈ tg := mem_tg 244 (by decide +kernel) (by decide +kernel)
theorem fw_RX6_23 : Cond.fieldLink RX6 23 (TX5 0).1 (TX5 0).2.1 (TX5 0).2.2.1 ∈ tg := mem_tg 166 (by decide +kernel) (by decide +kernel)
theorem fw_RX6_51 : Cond.fieldLink RX6 51 (TX4 1).1 (TX4 1).2.1 (TX4 1).2.2.1 ∈ tg := mem_tg 81 (by decide +kernel) (by decide +kernel)
theorem fw_RX6_55 : Cond.fieldLink RX6 55 (TX4 2).1 (TX4 2).2.1 (TX4 2).2.2.1 ∈ tg := mem_tg 85 (by decide +kernel) (by decide +kernel)
theorem fw_RX6_62 : Cond.fieldLink RX6 62 (TX5 4).1 (TX5 4).2.1 (TX5 4).2.2.1 ∈ tg := mem_tg 177 (by decide +kernel) (by decide +kernel)
theorem fw_RX6_65 : Cond.fieldLink RX6 65 (TX5 5).1 (TX5 5).2.1 (TX5 5).2.2.1 ∈ tg := mem_tg 180 (by decide +kernel) (by decide +kernel)
theorem fw_RX6_68 : Cond.fieldLink RX6 68 (TX6 3).1 (TX6 3).2.1 (TX6 3).2.2.1 ∈ tg := mem_tg 245 (by decide +kernel) (by decide +kernel)
theorem fw_RX6_71 : Cond.fieldLink RX6 71 (TX5 6).1 (TX5 6).2.1 (TX5 6).2.2.1 ∈ tg := mem_tg 183 (by decide +kernel) (by decide +kernel)
theorem fw_RX6_74 : Cond.fieldLink RX6 74 (TX1 1).1 (TX1 1).2.1 (TX1 1).2.2.1 ∈ tg := mem_tg 209 (by decide +kernel) (by decide +kernel)
theorem fw_RX6_89 : Cond.fieldLink RX6 89 (TX5 1).1 (TX5 1).2.1 (TX5 1).2.2.1 ∈ tg := mem_tg 170 (by decide +kernel) (by decide +kernel)
theorem fw_RX6_90 : Cond.fieldLink RX6 90 (TX5 2).1 (TX5 2).2.1 (TX5 2).2.2.1 ∈ tg := mem_tg 173 (by decide +kernel) (by decide +kernel)
theorem fw_RX6_92 : Cond.fieldLink RX6 92 (TX4 0).1 (TX4 0).2.1 (TX4 0).2.2.1 ∈ tg := mem_tg 78 (by decide +kernel) (by decide +kernel)
theorem fw_RX6_99 : Cond.fieldLink RX6 99 (TX4 3).1 (TX4 3).2.1 (TX4 3).2.2.1 ∈ tg := mem_tg 90 (by decide +kernel) (by decide +kernel)
theorem fw_RX7_9 : Cond.fieldLink RX7 9 (TX7 3).1 (TX7 3).2.1 (TX7 3).2.2.1 ∈ tg := mem_tg 265 (by decide +kernel) (by decide +kernel)
theorem fw_RX7_15 : Cond.fieldLink RX7 15 (TX7 4).1 (TX7 4).2.1 (TX7 4).2.2.1 ∈ tg := mem_tg 267 (by decide +kernel) (by decide +kernel)
theorem fw_RX7_18 : Cond.fieldLink RX7 18 (TX7 5).1 (TX7 5).2.1 (TX7 5).2.2.1 ∈ tg := mem_tg 269 (by decide +kernel) (by decide +kernel)
theorem fw_RX7_21 : Cond.fieldLink RX7 21 (TX7 0).1 (TX7 0).2.1 (TX7 0).2.2.1 ∈ tg := mem_tg 262 (by decide +kernel) (by decide +kernel)
theorem fw_RX7_25 : Cond.fieldLink RX7 25 (TX7 1).1 (TX7 1).2.1 (TX7 1).2.2.1 ∈ tg := mem_tg 263 (by decide +kernel) (by decide +kernel)
theorem fw_RX7_29 : Cond.fieldLink RX7 29 (TX7 2).1 (TX7 2).2.1 (TX7 2).2.2.1 ∈ tg := mem_tg 264 (by decide +kernel) (by decide +kernel)
theorem fw_RX7_33 : Cond.fieldLink RX7 33 (TX7 6).1 (TX7 6).2.1 (TX7 6).2.2.1 ∈ tg := mem_tg 270 (by decide +kernel) (by decide +kernel)
theorem fw_RX7_37 : Cond.fieldLink RX7 37 (TX4 0).1 (TX4 0).2.1 (TX4 0).2.2.1 ∈ tg := mem_tg 75 (by decide +kernel) (by decide +kernel)
theorem fw_RX7_47 : Cond.fieldLink RX7 47 (TX7 7).1 (TX7 7).2.1 (TX7 7).2.2.1 ∈ tg := mem_tg 272 (by decide +kernel) (by decide +kernel)
theorem fw_RX7_58 : Cond.fieldLink RX7 58 (TX4 3).1 (TX4 3).2.1 (TX4 3).2.2.1 ∈ tg := mem_tg 89 (by decide +kernel) (by decide +kernel)
theorem fw_RX7_61 : Cond.fieldLink RX7 61 (TX5 0).1 (TX5 0).2.1 (TX5 0).2.2.1 ∈ tg := mem_tg 167 (by decide +kernel) (by decide +kernel)
theorem fw_RX7_75 : Cond.fieldLink RX7 75 (TX4 1).1 (TX4 1).2.1 (TX4 1).2.2.1 ∈ tg := mem_tg 82 (by decide +kernel) (by decide +kernel)
theorem fw_RX7_78 : Cond.fieldLink RX7 78 (TX4 2).1 (TX4 2).2.1 (TX4 2).2.2.1 ∈ tg := mem_tg 86 (by decide +kernel) (by decide +kernel)
theorem fw_RX8_9 : Cond.fieldLink RX8 9 (TX8 2).1 (TX8 2).2.1 (TX8 2).2.2.1 ∈ tg := mem_tg 137 (by decide +kernel) (by decide +kernel)
theorem fw_RX8_15 : Cond.fieldLink RX8 15 (TX8 3).1 (TX8 3).2.1 (TX8 3).2.2.1 ∈ tg := mem_tg 138 (by decide +kernel) (by decide +kernel)
theorem fw_RX8_18 : Cond.fieldLink RX8 18 (TX8 0).1 (TX8 0).2.1 (TX8 0).2.2.1 ∈ tg := mem_tg 135 (by decide +kernel) (by decide +kernel)
theorem fw_RX8_22 : Cond.fieldLink RX8 22 (TX8 1).1 (TX8 1).2.1 (TX8 1).2.2.1 ∈ tg := mem_tg 136 (by decide +kernel) (by decide +kernel)
theorem fw_RX8_26 : Cond.fieldLink RX8 26 (TX8 4).1 (TX8 4).2.1 (TX8 4).2.2.1 ∈ tg := mem_tg 139 (by decide +kernel) (by decide +kernel)
theorem fw_RX8_30 : Cond.fieldLink RX8 30 (TX8 5).1 (TX8 5).2.1 (TX8 5).2.2.1 ∈ tg := mem_tg 140 (by decide +kernel) (by decide +kernel)
theorem fw_RX8_37 : Cond.fieldLink RX8 37 (TX8 6).1 (TX8 6).2.1 (TX8 6).2.2.1 ∈ tg := mem_tg 143 (by decide +kernel) (by decide +kernel)
theorem fw_RX8_46 : Cond.fieldLink RX8 46 (TX4 5).1 (TX4 5).2.1 (TX4 5).2.2.1 ∈ tg := mem_tg 95 (by decide +kernel) (by decide +kernel)
theorem fw_RX8_64 : Cond.fieldLink RX8 64 (TX4 0).1 (TX4 0).2.1 (TX4 0).2.2.1 ∈ tg := mem_tg 79 (by decide +kernel) (by decide +kernel)
theorem fw_RX8_73 : Cond.fieldLink RX8 73 (TX4 4).1 (TX4 4).2.1 (TX4 4).2.2.1 ∈ tg := mem_tg 93 (by decide +kernel) (by decide +kernel)
theorem fw_RX8_76 : Cond.fieldLink RX8 76 (TX0 2).1 (TX0 2).2.1 (TX0 2).2.2.1 ∈ tg := mem_tg 121 (by decide +kernel) (by decide +kernel)
theorem fw_RX9_10 : Cond.fieldLink RX9 10 (TX9 0).1 (TX9 0).2.1 (TX9 0).2.2.1 ∈ tg := mem_tg 339 (by decide +kernel) (by decide +kernel)
theorem fw_RX9_19 : Cond.fieldLink RX9 19 (TX9 1).1 (TX9 1).2.1 (TX9 1).2.2.1 ∈ tg := mem_tg 340 (by decide +kernel) (by decide +kernel)
theorem fw_RX9_28 : Cond.fieldLink RX9 28 (TX9 2).1 (TX9 2).2.1 (TX9 2).2.2.1 ∈ tg := mem_tg 341 (by decide +kernel) (by decide +kernel)
theorem fw_RX9_35 : Cond.fieldLink RX9 35 (TX9 3).1 (TX9 3).2.1 (TX9 3).2.2.1 ∈ tg := mem_tg 342 (by decide +kernel) (by decide +kernel)
theorem fw_RX9_42 : Cond.fieldLink RX9 42 (TX9 4).1 (TX9 4).2.1 (TX9 4).2.2.1 ∈ tg := mem_tg 343 (by decide +kernel) (by decide +kernel)
theorem fw_RX9_51 : Cond.fieldLink RX9 51 (TX9 5).1 (TX9 5).2.1 (TX9 5).2.2.1 ∈ tg := mem_tg 344 (by decide +kernel) (by decide +kernel)
theorem fw_RX9_58 : Cond.fieldLink RX9 58 (TX9 6).1 (TX9 6).2.1 (TX9 6).2.2.1 ∈ tg := mem_tg 345 (by decide +kernel) (by decide +kernel)
theorem fw_RX9_67 : Cond.fieldLink RX9 67 (TX9 7).1 (TX9 7).2.1 (TX9 7).2.2.1 ∈ tg := mem_tg 346 (by decide +kernel) (by decide +kernel)
theorem fw_RX9_74 : Cond.fieldLink RX9 74 (TX9 8).1 (TX9 8).2.1 (TX9 8).2.2.1 ∈ tg := mem_tg 347 (by decide +kernel) (by decide +kernel)
theorem fw_RX9_92 : Cond.fieldLink RX9 92 (TX8 6).1 (TX8 6).2.1 (TX8 6).2.2.1 ∈ tg := mem_tg 142 (by decide +kernel) (by decide +kernel)
theorem fw_RX9_103 : Cond.fieldLink RX9 103 (TX4 0).1 (TX4 0).2.1 (TX4 0).2.2.1 ∈ tg := mem_tg 77 (by decide +kernel) (by decide +kernel)
theorem fw_RX9_113 : Cond.fieldLink RX9 113 (TX8 5).1 (TX8 5).2.1 (TX8 5).2.2.1 ∈ tg := mem_tg 141 (by decide +kernel) (by decide +kernel)
theorem fw_RX9_142 : Cond.fieldLink RX9 142 (TX5 0).1 (TX5 0).2.1 (TX5 0).2.2.1 ∈ tg := mem_tg 168 (by decide +kernel) (by decide +kernel)
theorem fw_RX9_150 : Cond.fieldLink RX9 150 (TX6 3).1 (TX6 3).2.1 (TX6 3).2.2.1 ∈ tg := mem_tg 246 (by decide +kernel) (by decide +kernel)
theorem fw_RX9_168 : Cond.fieldLink RX9 168 (TX1 1).1 (TX1 1).2.1 (TX1 1).2.2.1 ∈ tg := mem_tg 210 (by decide +kernel) (by decide +kernel)
theorem fw_RX9_176 : Cond.fieldLink RX9 176 (TX1 5).1 (TX1 5).2.1 (TX1 5).2.2.1 ∈ tg := mem_tg 218 (by decide +kernel) (by decide +kernel)
theorem fw_RX9_179 : Cond.fieldLink RX9 179 (TX1 0).1 (TX1 0).2.1 (TX1 0).2.2.1 ∈ tg := mem_tg 207 (by decide +kernel) (by decide +kernel)
theorem fw_RX9_182 : Cond.fieldLink RX9 182 (TX1 2).1 (TX1 2).2.1 (TX1 2).2.2.1 ∈ tg := mem_tg 212 (by decide +kernel) (by decide +kernel)
theorem fw_RX9_185 : Cond.fieldLink RX9 185 (TX1 3).1 (TX1 3).2.1 (TX1 3).2.2.1 ∈ tg := mem_tg 214 (by decide +kernel) (by decide +kernel)
theorem fw_RX9_188 : Cond.fieldLink RX9 188 (TX1 4).1 (TX1 4).2.1 (TX1 4).2.2.1 ∈ tg := mem_tg 216 (by decide +kernel) (by decide +kernel)
theorem fw_RX9_191 : Cond.fieldLink RX9 191 (TX5 1).1 (TX5 1).2.1 (TX5 1).2.2.1 ∈ tg := mem_tg 171 (by decide +kernel) (by decide +kernel)
theorem fw_RX9_194 : Cond.fieldLink RX9 194 (TX5 2).1 (TX5 2).2.1 (TX5 2).2.2.1 ∈ tg := mem_tg 174 (by decide +kernel) (by decide +kernel)
theorem fw_RX9_197 : Cond.fieldLink RX9 197 (TX5 4).1 (TX5 4).2.1 (TX5 4).2.2.1 ∈ tg := mem_tg 178 (by decide +kernel) (by decide +kernel)
theorem fw_RX9_203 : Cond.fieldLink RX9 203 (TX5 5).1 (TX5 5).2.1 (TX5 5).2.2.1 ∈ tg := mem_tg 181 (by decide +kernel) (by decide +kernel)
theorem fw_RX9_206 : Cond.fieldLink RX9 206 (TX5 6).1 (TX5 6).2.1 (TX5 6).2.2.1 ∈ tg := mem_tg 184 (by decide +kernel) (by decide +kernel)
theorem fw_RX9_207 : Cond.fieldLink RX9 207 (TX4 1).1 (TX4 1).2.1 (TX4 1).2.2.1 ∈ tg := mem_tg 83 (by decide +kernel) (by decide +kernel)
theorem fw_RX9_208 : Cond.fieldLink RX9 208 (TX4 2).1 (TX4 2).2.1 (TX4 2).2.2.1 ∈ tg := mem_tg 87 (by decide +kernel) (by decide +kernel)
theorem fw_RX9_215 : Cond.fieldLink RX9 215 (TX0 1).1 (TX0 1).2.1 (TX0 1).2.2.1 ∈ tg := mem_tg 119 (by decide +kernel) (by decide +kernel)
theorem fw_RX9_224 : Cond.fieldLink RX9 224 (TX7 7).1 (TX7 7).2.1 (TX7 7).2.2.1 ∈ tg := mem_tg 273 (by decide +kernel) (by decide +kernel)
theorem fw_RX9_230 : Cond.fieldLink RX9 230 (TX7 6).1 (TX7 6).2.1 (TX7 6).2.2.1 ∈ tg := mem_tg 271 (by decide +kernel) (by decide +kernel)
theorem fw_RX9_231 : Cond.fieldLink RX9 231 (TX7 4).1 (TX7 4).2.1 (TX7 4).2.2.1 ∈ tg := mem_tg 268 (by decide +kernel) (by decide +kernel)
theorem fw_RX9_234 : Cond.fieldLink RX9 234 (TX7 3).1 (TX7 3).2.1 (TX7 3).2.2.1 ∈ tg := mem_tg 266 (by decide +kernel) (by decide +kernel)
theorem fw_RX9_240 : Cond.fieldLink RX9 240 (TX2 4).1 (TX2 4).2.1 (TX2 4).2.2.1 ∈ tg := mem_tg 308 (by decide +kernel) (by decide +kernel)
theorem fw_RX9_249 : Cond.fieldLink RX9 249 (TX2 3).1 (TX2 3).2.1 (TX2 3).2.2.1 ∈ tg := mem_tg 306 (by decide +kernel) (by decide +kernel)
theorem fw_RX9_250 : Cond.fieldLink RX9 250 (TX2 1).1 (TX2 1).2.1 (TX2 1).2.2.1 ∈ tg := mem_tg 303 (by decide +kernel) (by decide +kernel)
theorem fw_RX9_269 : Cond.fieldLink RX9 269 (TX1 6).1 (TX1 6).2.1 (TX1 6).2.2.1 ∈ tg := mem_tg 220 (by decide +kernel) (by decide +kernel)
theorem fl_RX0_9 : FL RX0 9 0 0 := ⟨RX0, TX0, 3, rfl, by decide, fw_RX0_9, inT_X0⟩
theorem fl_RX0_15 : FL RX0 15 0 1 := ⟨RX0, TX0, 3, rfl, by decide, fw_RX0_15, inT_X0⟩
theorem fl_RX0_18 : FL RX0 18 0 2 := ⟨RX0, TX0, 3, rfl, by decide, fw_RX0_18, inT_X0⟩
theorem fl_RX1_9 : FL RX1 9 1 0 := ⟨RX1, TX1, 7, rfl, by decide, fw_RX1_9, inT_X1⟩
theorem fl_RX1_15 : FL RX1 15 1 1 := ⟨RX1, TX1, 7, rfl, by decide, fw_RX1_15, inT_X1⟩
theorem fl_RX1_18 : FL RX1 18 1 2 := ⟨RX1, TX1, 7, rfl, by decide, fw_RX1_18, inT_X1⟩
theorem fl_RX1_21 : FL RX1 21 1 3 := ⟨RX1, TX1, 7, rfl, by decide, fw_RX1_21, inT_X1⟩
theorem fl_RX1_24 : FL RX1 24 1 4 := ⟨RX1, TX1, 7, rfl, by decide, fw_RX1_24, inT_X1⟩
theorem fl_RX1_27 : FL RX1 27 1 5 := ⟨RX1, TX1, 7, rfl, by decide, fw_RX1_27, inT_X1⟩
theorem fl_RX1_31 : FL RX1 31 1 6 := ⟨RX1, TX1, 7, rfl, by decide, fw_RX1_31, inT_X1⟩
theorem fl_RX10_7 : FL RX10 7 10 0 := ⟨RX10, TX10, 37, rfl, by decide, fw_RX10_7, inT_X10⟩
theorem fl_RX10_13 : FL RX10 13 10 1 := ⟨RX10, TX10, 37, rfl, by decide, fw_RX10_13, inT_X10⟩
theorem fl_RX10_16 : FL RX10 16 10 2 := ⟨RX10, TX10, 37, rfl, by decide, fw_RX10_16, inT_X10⟩
theorem fl_RX10_19 : FL RX10 19 10 5 := ⟨RX10, TX10, 37, rfl, by decide, fw_RX10_19, inT_X10⟩
theorem fl_RX10_22 : FL RX10 22 10 6 := ⟨RX10, TX10, 37, rfl, by decide, fw_RX10_22, inT_X10⟩
theorem fl_RX10_25 : FL RX10 25 10 7 := ⟨RX10, TX10, 37, rfl, by decide, fw_RX10_25, inT_X10⟩
theorem fl_RX10_28 : FL RX10 28 10 8 := ⟨RX10, TX10, 37, rfl, by decide, fw_RX10_28, inT_X10⟩
theorem fl_RX10_31 : FL RX10 31 10 9 := ⟨RX10, TX10, 37, rfl, by decide, fw_RX10_31, inT_X10⟩
theorem fl_RX10_34 : FL RX10 34 10 11 := ⟨RX10, TX10, 37, rfl, by decide, fw_RX10_34, inT_X10⟩
theorem fl_RX10_37 : FL RX10 37 10 12 := ⟨RX10, TX10, 37, rfl, by decide, fw_RX10_37, inT_X10⟩
theorem fl_RX10_40 : FL RX10 40 10 13 := ⟨RX10, TX10, 37, rfl, by decide, fw_RX10_40, inT_X10⟩
theorem fl_RX10_43 : FL RX10 43 10 15 := ⟨RX10, TX10, 37, rfl, by decide, fw_RX10_43, inT_X10⟩
theorem fl_RX10_46 : FL RX10 46 10 16 := ⟨RX10, TX10, 37, rfl, by decide, fw_RX10_46, inT_X10⟩
theorem fl_RX10_49 : FL RX10 49 10 17 := ⟨RX10, TX10, 37, rfl, by decide, fw_RX10_49, inT_X10⟩
theorem fl_RX10_52 : FL RX10 52 10 20 := ⟨RX10, TX10, 37, rfl, by decide, fw_RX10_52, inT_X10⟩
theorem fl_RX10_55 : FL RX10 55 10 21 := ⟨RX10, TX10, 37, rfl, by decide, fw_RX10_55, inT_X10⟩
theorem fl_RX10_58 : FL RX10 58 10 22 := ⟨RX10, TX10, 37, rfl, by decide, fw_RX10_58, inT_X10⟩
theorem fl_RX10_61 : FL RX10 61 10 23 := ⟨RX10, TX10, 37, rfl, by decide, fw_RX10_61, inT_X10⟩
theorem fl_RX10_64 : FL RX10 64 10 24 := ⟨RX10, TX10, 37, rfl, by decide, fw_RX10_64, inT_X10⟩
theorem fl_RX10_67 : FL RX10 67 10 25 := ⟨RX10, TX10, 37, rfl, by decide, fw_RX10_67, inT_X10⟩
theorem fl_RX10_70 : FL RX10 70 10 27 := ⟨RX10, TX10, 37, rfl, by decide, fw_RX10_70, inT_X10⟩
theorem fl_RX10_73 : FL RX10 73 10 29 := ⟨RX10, TX10, 37, rfl, by decide, fw_RX10_73, inT_X10⟩
theorem fl_RX10_76 : FL RX10 76 10 30 := ⟨RX10, TX10, 37, rfl, by decide, fw_RX10_76, inT_X10⟩
theorem fl_RX10_79 : FL RX10 79 10 31 := ⟨RX10, TX10, 37, rfl, by decide, fw_RX10_79, inT_X10⟩
theorem fl_RX10_82 : FL RX10 82 10 32 := ⟨RX10, TX10, 37, rfl, by decide, fw_RX10_82, inT_X10⟩
theorem fl_RX10_85 : FL RX10 85 10 33 := ⟨RX10, TX10, 37, rfl, by decide, fw_RX10_85, inT_X10⟩
theorem fl_RX10_88 : FL RX10 88 10 36 := ⟨RX10, TX10, 37, rfl, by decide, fw_RX10_88, inT_X10⟩
theorem fl_RX10_91 : FL RX10 91 10 4 := ⟨RX10, TX10, 37, rfl, by decide, fw_RX10_91, inT_X10⟩
theorem fl_RX10_99 : FL RX10 99 10 3 := ⟨RX10, TX10, 37, rfl, by decide, fw_RX10_99, inT_X10⟩
theorem fl_RX10_107 : FL RX10 107 10 10 := ⟨RX10, TX10, 37, rfl, by decide, fw_RX10_107, inT_X10⟩
theorem fl_RX10_141 : FL RX10 141 10 19 := ⟨RX10, TX10, 37, rfl, by decide, fw_RX10_141, inT_X10⟩
theorem fl_RX10_144 : FL RX10 144 10 26 := ⟨RX10, TX10, 37, rfl, by decide, fw_RX10_144, inT_X10⟩
theorem fl_RX10_153 : FL RX10 153 10 14 := ⟨RX10, TX10, 37, rfl, by decide, fw_RX10_153, inT_X10⟩
theorem fl_RX10_178 : FL RX10 178 10 18 := ⟨RX10, TX10, 37, rfl, by decide, fw_RX10_178, inT_X10⟩
theorem fl_RX10_184 : FL RX10 184 10 34 := ⟨RX10, TX10, 37, rfl, by decide, fw_RX10_184, inT_X10⟩
theorem fl_RX10_188 : FL RX10 188 10 35 := ⟨RX10, TX10, 37, rfl, by decide, fw_RX10_188, inT_X10⟩
theorem fl_RX10_204 : FL RX10 204 10 28 := ⟨RX10, TX10, 37, rfl, by decide, fw_RX10_204, inT_X10⟩
theorem fl_RX2_11 : FL RX2 11 2 1 := ⟨RX2, TX2, 5, rfl, by decide, fw_RX2_11, inT_X2⟩
theorem fl_RX2_15 : FL RX2 15 2 2 := ⟨RX2, TX2, 5, rfl, by decide, fw_RX2_15, inT_X2⟩
theorem fl_RX2_18 : FL RX2 18 2 0 := ⟨RX2, TX2, 5, rfl, by decide, fw_RX2_18, inT_X2⟩
theorem fl_RX2_25 : FL RX2 25 2 4 := ⟨RX2, TX2, 5, rfl, by decide, fw_RX2_25, inT_X2⟩
theorem fl_RX2_33 : FL RX2 33 2 3 := ⟨RX2, TX2, 5, rfl, by decide, fw_RX2_33, inT_X2⟩
theorem fl_RX2_36 : FL RX2 36 4 0 := ⟨RX4, TX4, 6, rfl, by decide, fw_RX2_36, inT_X4⟩
theorem fl_RX2_55 : FL RX2 55 4 5 := ⟨RX4, TX4, 6, rfl, by decide, fw_RX2_55, inT_X4⟩
theorem fl_RX2_58 : FL RX2 58 4 4 := ⟨RX4, TX4, 6, rfl, by decide, fw_RX2_58, inT_X4⟩
theorem fl_RX3_9 : FL RX3 9 3 0 := ⟨RX3, TX3, 4, rfl, by decide, fw_RX3_9, inT_X3⟩
theorem fl_RX3_15 : FL RX3 15 3 1 := ⟨RX3, TX3, 4, rfl, by decide, fw_RX3_15, inT_X3⟩
theorem fl_RX3_18 : FL RX3 18 3 2 := ⟨RX3, TX3, 4, rfl, by decide, fw_RX3_18, inT_X3⟩
theorem fl_RX3_21 : FL RX3 21 3 3 := ⟨RX3, TX3, 4, rfl, by decide, fw_RX3_21, inT_X3⟩
theorem fl_RX4_9 : FL RX4 9 4 1 := ⟨RX4, TX4, 6, rfl, by decide, fw_RX4_9, inT_X4⟩
theorem fl_RX4_15 : FL RX4 15 4 2 := ⟨RX4, TX4, 6, rfl, by decide, fw_RX4_15, inT_X4⟩
theorem fl_RX4_18 : FL RX4 18 4 3 := ⟨RX4, TX4, 6, rfl, by decide, fw_RX4_18, inT_X4⟩
theorem fl_RX4_21 : FL RX4 21 4 4 := ⟨RX4, TX4, 6, rfl, by decide, fw_RX4_21, inT_X4⟩
theorem fl_RX4_24 : FL RX4 24 4 5 := ⟨RX4, TX4, 6, rfl, by decide, fw_RX4_24, inT_X4⟩
theorem fl_RX4_27 : FL RX4 27 4 0 := ⟨RX4, TX4, 6, rfl, by decide, fw_RX4_27, inT_X4⟩
theorem fl_RX5_9 : FL RX5 9 5 1 := ⟨RX5, TX5, 7, rfl, by decide, fw_RX5_9, inT_X5⟩
theorem fl_RX5_15 : FL RX5 15 5 2 := ⟨RX5, TX5, 7, rfl, by decide, fw_RX5_15, inT_X5⟩
theorem fl_RX5_18 : FL RX5 18 5 3 := ⟨RX5, TX5, 7, rfl, by decide, fw_RX5_18, inT_X5⟩
theorem fl_RX5_21 : FL RX5 21 5 4 := ⟨RX5, TX5, 7, rfl, by decide, fw_RX5_21, inT_X5⟩
theorem fl_RX5_30 : FL RX5 30 5 0 := ⟨RX5, TX5, 7, rfl, by decide, fw_RX5_30, inT_X5⟩
theorem fl_RX6_9 : FL RX6 9 6 0 := ⟨RX6, TX6, 4, rfl, by decide, fw_RX6_9, inT_X6⟩
theorem fl_RX6_15 : FL RX6 15 6 1 := ⟨RX6, TX6, 4, rfl, by decide, fw_RX6_15, inT_X6⟩
theorem fl_RX6_19 : FL RX6 19 6 2 := ⟨RX6, TX6, 4, rfl, by decide, fw_RX6_19, inT_X6⟩
theorem fl_RX6_23 : FL RX6 23 5 0 := ⟨RX5, TX5, 7, rfl, by decide, fw_RX6_23, inT_X5⟩
theorem fl_RX6_51 : FL RX6 51 4 1 := ⟨RX4, TX4, 6, rfl, by decide, fw_RX6_51, inT_X4⟩
theorem fl_RX6_55 : FL RX6 55 4 2 := ⟨RX4, TX4, 6, rfl, by decide, fw_RX6_55, inT_X4⟩
theorem fl_RX6_62 : FL RX6 62 5 4 := ⟨RX5, TX5, 7, rfl, by decide, fw_RX6_62, inT_X5⟩
theorem fl_RX6_65 : FL RX6 65 5 5 := ⟨RX5, TX5, 7, rfl, by decide, fw_RX6_65, inT_X5⟩
theorem fl_RX6_68 : FL RX6 68 6 3 := ⟨RX6, TX6, 4, rfl, by decide, fw_RX6_68, inT_X6⟩
theorem fl_RX6_71 : FL RX6 71 5 6 := ⟨RX5, TX5, 7, rfl, by decide, fw_RX6_71, inT_X5⟩
theorem fl_RX6_74 : FL RX6 74 1 1 := ⟨RX1, TX1, 7, rfl, by decide, fw_RX6_74, inT_X1⟩
theorem fl_RX6_89 : FL RX6 89 5 1 := ⟨RX5, TX5, 7, rfl, by decide, fw_RX6_89, inT_X5⟩
theorem fl_RX6_90 : FL RX6 90 5 2 := ⟨RX5, TX5, 7, rfl, by decide, fw_RX6_90, inT_X5⟩
theorem fl_RX6_92 : FL RX6 92 4 0 := ⟨RX4, TX4, 6, rfl, by decide, fw_RX6_92, inT_X4⟩
theorem fl_RX6_99 : FL RX6 99 4 3 := ⟨RX4, TX4, 6, rfl, by decide, fw_RX6_99, inT_X4⟩
theorem fl_RX7_9 : FL RX7 9 7 3 := ⟨RX7, TX7, 8, rfl, by decide, fw_RX7_9, inT_X7⟩
theorem fl_RX7_15 : FL RX7 15 7 4 := ⟨RX7, TX7, 8, rfl, by decide, fw_RX7_15, inT_X7⟩
theorem fl_RX7_18 : FL RX7 18 7 5 := ⟨RX7, TX7, 8, rfl, by decide, fw_RX7_18, inT_X7⟩
theorem fl_RX7_21 : FL RX7 21 7 0 := ⟨RX7, TX7, 8, rfl, by decide, fw_RX7_21, inT_X7⟩
theorem fl_RX7_25 : FL RX7 25 7 1 := ⟨RX7, TX7, 8, rfl, by decide, fw_RX7_25, inT_X7⟩
theorem fl_RX7_29 : FL RX7 29 7 2 := ⟨RX7, TX7, 8, rfl, by decide, fw_RX7_29, inT_X7⟩
theorem fl_RX7_33 : FL RX7 33 7 6 := ⟨RX7, TX7, 8, rfl, by decide, fw_RX7_33, inT_X7⟩
theorem fl_RX7_37 : FL RX7 37 4 0 := ⟨RX4, TX4, 6, rfl, by decide, fw_RX7_37, inT_X4⟩
theorem fl_RX7_47 : FL RX7 47 7 7 := ⟨RX7, TX7, 8, rfl, by decide, fw_RX7_47, inT_X7⟩
theorem fl_RX7_58 : FL RX7 58 4 3 := ⟨RX4, TX4, 6, rfl, by decide, fw_RX7_58, inT_X4⟩
theorem fl_RX7_61 : FL RX7 61 5 0 := ⟨RX5, TX5, 7, rfl, by decide, fw_RX7_61, inT_X5⟩
theorem fl_RX7_75 : FL RX7 75 4 1 := ⟨RX4, TX4, 6, rfl, by decide, fw_RX7_75, inT_X4⟩
theorem fl_RX7_78 : FL RX7 78 4 2 := ⟨RX4, TX4, 6, rfl, by decide, fw_RX7_78, inT_X4⟩
theorem fl_RX8_9 : FL RX8 9 8 2 := ⟨RX8, TX8, 7, rfl, by decide, fw_RX8_9, inT_X8⟩
theorem fl_RX8_15 : FL RX8 15 8 3 := ⟨RX8, TX8, 7, rfl, by decide, fw_RX8_15, inT_X8⟩
theorem fl_RX8_18 : FL RX8 18 8 0 := ⟨RX8, TX8, 7, rfl, by decide, fw_RX8_18, inT_X8⟩
theorem fl_RX8_22 : FL RX8 22 8 1 := ⟨RX8, TX8, 7, rfl, by decide, fw_RX8_22, inT_X8⟩
theorem fl_RX8_26 : FL RX8 26 8 4 := ⟨RX8, TX8, 7, rfl, by decide, fw_RX8_26, inT_X8⟩
theorem fl_RX8_30 : FL RX8 30 8 5 := ⟨RX8, TX8, 7, rfl, by decide, fw_RX8_30, inT_X8⟩
theorem fl_RX8_37 : FL RX8 37 8 6 := ⟨RX8, TX8, 7, rfl, by decide, fw_RX8_37, inT_X8⟩
theorem fl_RX8_46 : FL RX8 46 4 5 := ⟨RX4, TX4, 6, rfl, by decide, fw_RX8_46, inT_X4⟩
theorem fl_RX8_64 : FL RX8 64 4 0 := ⟨RX4, TX4, 6, rfl, by decide, fw_RX8_64, inT_X4⟩
theorem fl_RX8_73 : FL RX8 73 4 4 := ⟨RX4, TX4, 6, rfl, by decide, fw_RX8_73, inT_X4⟩
theorem fl_RX8_76 : FL RX8 76 0 2 := ⟨RX0, TX0, 3, rfl, by decide, fw_RX8_76, inT_X0⟩
theorem fl_RX9_10 : FL RX9 10 9 0 := ⟨RX9, TX9, 9, rfl, by decide, fw_RX9_10, inT_X9⟩
theorem fl_RX9_19 : FL RX9 19 9 1 := ⟨RX9, TX9, 9, rfl, by decide, fw_RX9_19, inT_X9⟩
theorem fl_RX9_28 : FL RX9 28 9 2 := ⟨RX9, TX9, 9, rfl, by decide, fw_RX9_28, inT_X9⟩
theorem fl_RX9_35 : FL RX9 35 9 3 := ⟨RX9, TX9, 9, rfl, by decide, fw_RX9_35, inT_X9⟩
theorem fl_RX9_42 : FL RX9 42 9 4 := ⟨RX9, TX9, 9, rfl, by decide, fw_RX9_42, inT_X9⟩
theorem fl_RX9_51 : FL RX9 51 9 5 := ⟨RX9, TX9, 9, rfl, by decide, fw_RX9_51, inT_X9⟩
theorem fl_RX9_58 : FL RX9 58 9 6 := ⟨RX9, TX9, 9, rfl, by decide, fw_RX9_58, inT_X9⟩
theorem fl_RX9_67 : FL RX9 67 9 7 := ⟨RX9, TX9, 9, rfl, by decide, fw_RX9_67, inT_X9⟩
theorem fl_RX9_74 : FL RX9 74 9 8 := ⟨RX9, TX9, 9, rfl, by decide, fw_RX9_74, inT_X9⟩
theorem fl_RX9_92 : FL RX9 92 8 6 := ⟨RX8, TX8, 7, rfl, by decide, fw_RX9_92, inT_X8⟩
theorem fl_RX9_103 : FL RX9 103 4 0 := ⟨RX4, TX4, 6, rfl, by decide, fw_RX9_103, inT_X4⟩
theorem fl_RX9_113 : FL RX9 113 8 5 := ⟨RX8, TX8, 7, rfl, by decide, fw_RX9_113, inT_X8⟩
theorem fl_RX9_142 : FL RX9 142 5 0 := ⟨RX5, TX5, 7, rfl, by decide, fw_RX9_142, inT_X5⟩
theorem fl_RX9_150 : FL RX9 150 6 3 := ⟨RX6, TX6, 4, rfl, by decide, fw_RX9_150, inT_X6⟩
theorem fl_RX9_168 : FL RX9 168 1 1 := ⟨RX1, TX1, 7, rfl, by decide, fw_RX9_168, inT_X1⟩
theorem fl_RX9_176 : FL RX9 176 1 5 := ⟨RX1, TX1, 7, rfl, by decide, fw_RX9_176, inT_X1⟩
theorem fl_RX9_179 : FL RX9 179 1 0 := ⟨RX1, TX1, 7, rfl, by decide, fw_RX9_179, inT_X1⟩
theorem fl_RX9_182 : FL RX9 182 1 2 := ⟨RX1, TX1, 7, rfl, by decide, fw_RX9_182, inT_X1⟩
theorem fl_RX9_185 : FL RX9 185 1 3 := ⟨RX1, TX1, 7, rfl, by decide, fw_RX9_185, inT_X1⟩
theorem fl_RX9_188 : FL RX9 188 1 4 := ⟨RX1, TX1, 7, rfl, by decide, fw_RX9_188, inT_X1⟩
theorem fl_RX9_191 : FL RX9 191 5 1 := ⟨RX5, TX5, 7, rfl, by decide, fw_RX9_191, inT_X5⟩
theorem fl_RX9_194 : FL RX9 194 5 2 := ⟨RX5, TX5, 7, rfl, by decide, fw_RX9_194, inT_X5⟩
theorem fl_RX9_197 : FL RX9 197 5 4 := ⟨RX5, TX5, 7, rfl, by decide, fw_RX9_197, inT_X5⟩
theorem fl_RX9_203 : FL RX9 203 5 5 := ⟨RX5, TX5, 7, rfl, by decide, fw_RX9_203, inT_X5⟩
theorem fl_RX9_206 : FL RX9 206 5 6 := ⟨RX5, TX5, 7, rfl, by decide, fw_RX9_206, inT_X5⟩
theorem fl_RX9_207 : FL RX9 207 4 1 := ⟨RX4, TX4, 6, rfl, by decide, fw_RX9_207, inT_X4⟩
theorem fl_RX9_208 : FL RX9 208 4 2 := ⟨RX4, TX4, 6, rfl, by decide, fw_RX9_208, inT_X4⟩
theorem fl_RX9_215 : FL RX9 215 0 1 := ⟨RX0, TX0, 3, rfl, by decide, fw_RX9_215, inT_X0⟩
theorem fl_RX9_224 : FL RX9 224 7 7 := ⟨RX7, TX7, 8, rfl, by decide, fw_RX9_224, inT_X7⟩
theorem fl_RX9_230 : FL RX9 230 7 6 := ⟨RX7, TX7, 8, rfl, by decide, fw_RX9_230, inT_X7⟩
theorem fl_RX9_231 : FL RX9 231 7 4 := ⟨RX7, TX7, 8, rfl, by decide, fw_RX9_231, inT_X7⟩
theorem fl_RX9_234 : FL RX9 234 7 3 := ⟨RX7, TX7, 8, rfl, by decide, fw_RX9_234, inT_X7⟩
theorem fl_RX9_240 : FL RX9 240 2 4 := ⟨RX2, TX2, 5, rfl, by decide, fw_RX9_240, inT_X2⟩
theorem fl_RX9_249 : FL RX9 249 2 3 := ⟨RX2, TX2, 5, rfl, by decide, fw_RX9_249, inT_X2⟩
theorem fl_RX9_250 : FL RX9 250 2 1 := ⟨RX2, TX2, 5, rfl, by decide, fw_RX9_250, inT_X2⟩
theorem fl_RX9_269 : FL RX9 269 1 6 := ⟨RX1, TX1, 7, rfl, by decide, fw_RX9_269, inT_X1⟩
theorem fp_RX0_18 : FP RX0 18 0 2 := ⟨RX0, TX0, 3, tyX0, rfl, by decide, fw_RX0_18, inT_X0, tyX0_ok, nmX0, rfl, by decide +kernel⟩
theorem fp_RX1_27 : FP RX1 27 1 5 := ⟨RX1, TX1, 7, tyX1, rfl, by decide, fw_RX1_27, inT_X1, tyX1_ok, nmX1, rfl, by decide +kernel⟩
theorem fp_RX1_31 : FP RX1 31 1 6 := ⟨RX1, TX1, 7, tyX1, rfl, by decide, fw_RX1_31, inT_X1, tyX1_ok, nmX1, rfl, by decide +kernel⟩
theorem fp_RX10_91 : FP RX10 91 10 4 := ⟨RX10, TX10, 37, tyX10, rfl, by decide, fw_RX10_91, inT_X10, tyX10_ok, nmX10, rfl, by decide +kernel⟩
theorem fp_RX10_99 : FP RX10 99 10 3 := ⟨RX10, TX10, 37, tyX10, rfl, by decide, fw_RX10_99, inT_X10, tyX10_ok, nmX10, rfl, by decide +kernel⟩
theorem fp_RX10_107 : FP RX10 107 10 10 := ⟨RX10, TX10, 37, tyX10, rfl, by decide, fw_RX10_107, inT_X10, tyX10_ok, nmX10, rfl, by decide +kernel⟩
theorem fp_RX10_141 : FP RX10 141 10 19 := ⟨RX10, TX10, 37, tyX10, rfl, by decide, fw_RX10_141, inT_X10, tyX10_ok, nmX10, rfl, by decide +kernel⟩
theorem fp_RX10_144 : FP RX10 144 10 26 := ⟨RX10, TX10, 37, tyX10, rfl, by decide, fw_RX10_144, inT_X10, tyX10_ok, nmX10, rfl, by decide +kernel⟩
theorem fp_RX10_153 : FP RX10 153 10 14 := ⟨RX10, TX10, 37, tyX10, rfl, by decide, fw_RX10_153, inT_X10, tyX10_ok, nmX10, rfl, by decide +kernel⟩
theorem fp_RX10_178 : FP RX10 178 10 18 := ⟨RX10, TX10, 37, tyX10, rfl, by decide, fw_RX10_178, inT_X10, tyX10_ok, nmX10, rfl, by decide +kernel⟩
theorem fp_RX10_184 : FP RX10 184 10 34 := ⟨RX10, TX10, 37, tyX10, rfl, by decide, fw_RX10_184, inT_X10, tyX10_ok, nmX10, rfl, by decide +kernel⟩
theorem fp_RX10_188 : FP RX10 188 10 35 := ⟨RX10, TX10, 37, tyX10, rfl, by decide, fw_RX10_188, inT_X10, tyX10_ok, nmX10, rfl, by decide +kernel⟩
theorem fp_RX10_204 : FP RX10 204 10 28 := ⟨RX10, TX10, 37, tyX10, rfl, by decide, fw_RX10_204, inT_X10, tyX10_ok, nmX10, rfl, by decide +kernel⟩
theorem fp_RX2_25 : FP RX2 25 2 4 := ⟨RX2, TX2, 5, tyX2, rfl, by decide, fw_RX2_25, inT_X2, tyX2_ok, nmX2, rfl, by decide +kernel⟩
theorem fp_RX2_33 : FP RX2 33 2 3 := ⟨RX2, TX2, 5, tyX2, rfl, by decide, fw_RX2_33, inT_X2, tyX2_ok, nmX2, rfl, by decide +kernel⟩
theorem fp_RX4_27 : FP RX4 27 4 0 := ⟨RX4, TX4, 6, tyX4, rfl, by decide, fw_RX4_27, inT_X4, tyX4_ok, nmX4, rfl, by decide +kernel⟩
theorem fp_RX5_30 : FP RX5 30 5 0 := ⟨RX5, TX5, 7, tyX5, rfl, by decide, fw_RX5_30, inT_X5, tyX5_ok, nmX5, rfl, by decide +kernel⟩
theorem fp_RX6_68 : FP RX6 68 6 3 := ⟨RX6, TX6, 4, tyX6, rfl, by decide, fw_RX6_68, inT_X6, tyX6_ok, nmX6, rfl, by decide +kernel⟩
theorem fp_RX7_33 : FP RX7 33 7 6 := ⟨RX7, TX7, 8, tyX7, rfl, by decide, fw_RX7_33, inT_X7, tyX7_ok, nmX7, rfl, by decide +kernel⟩
theorem fp_RX7_47 : FP RX7 47 7 7 := ⟨RX7, TX7, 8, tyX7, rfl, by decide, fw_RX7_47, inT_X7, tyX7_ok, nmX7, rfl, by decide +kernel⟩
theorem fp_RX8_26 : FP RX8 26 8 4 := ⟨RX8, TX8, 7, tyX8, rfl, by decide, fw_RX8_26, inT_X8, tyX8_ok, nmX8, rfl, by decide +kernel⟩
theorem fp_RX8_30 : FP RX8 30 8 5 := ⟨RX8, TX8, 7, tyX8, rfl, by decide, fw_RX8_30, inT_X8, tyX8_ok, nmX8, rfl, by decide +kernel⟩
theorem fp_RX9_92 : FP RX9 92 8 6 := ⟨RX8, TX8, 7, tyX8, rfl, by decide, fw_RX9_92, inT_X8, tyX8_ok, nmX8, rfl, by decide +kernel⟩
theorem fp_RX9_176 : FP RX9 176 1 5 := ⟨RX1, TX1, 7, tyX1, rfl, by decide, fw_RX9_176, inT_X1, tyX1_ok, nmX1, rfl, by decide +kernel⟩
theorem cw_J6_bitCount_0f7a4 : Cond.code yJ6_bitCount_0f7a4 cJ6_bitCount_0f7a4 1 (some .int) ∈ tg := mem_tg 401 (by decide +kernel) rfl
theorem cw_X0_ofTone : Cond.code yX0_ofTone cX0_ofTone 4 (some .int) ∈ tg := mem_tg 486 (by decide +kernel) rfl
theorem cw_X0_setMute : Cond.code yX0_setMute cX0_setMute 4 (some .int) ∈ tg := mem_tg 389 (by decide +kernel) rfl
theorem cw_X0_setTone : Cond.code yX0_setTone cX0_setTone 4 (some .int) ∈ tg := mem_tg 385 (by decide +kernel) rfl
theorem cw_X0_startSwinging : Cond.code yX0_startSwinging cX0_startSwinging 4 none ∈ tg := mem_tg 508 (by decide +kernel) rfl
theorem cw_X0_swingLess : Cond.code yX0_swingLess cX0_swingLess 2 none ∈ tg := mem_tg 567 (by decide +kernel) rfl
theorem cw_X0_swinging : Cond.code yX0_swinging cX0_swinging 3 (some .int) ∈ tg := mem_tg 615 (by decide +kernel) rfl
theorem cw_X10_areCrossed : Cond.code yX10_areCrossed cX10_areCrossed 5 (some .boolean) ∈ tg := mem_tg 907 (by decide +kernel) rfl
theorem cw_X10_areJoined : Cond.code yX10_areJoined cX10_areJoined 7 (some .boolean) ∈ tg := mem_tg 951 (by decide +kernel) rfl
theorem cw_X10_bits : Cond.code yX10_bits cX10_bits 3 (some .int) ∈ tg := mem_tg 899 (by decide +kernel) rfl
theorem cw_X10_costOf : Cond.code yX10_costOf cX10_costOf 9 (some .int) ∈ tg := mem_tg 1047 (by decide +kernel) rfl
theorem cw_X10_crankBy : Cond.code yX10_crankBy cX10_crankBy 3 (some .int) ∈ tg := mem_tg 927 (by decide +kernel) rfl
theorem cw_X10_edge : Cond.code yX10_edge cX10_edge 4 (some .int) ∈ tg := mem_tg 1083 (by decide +kernel) rfl
theorem cw_X10_explains : Cond.code yX10_explains cX10_explains 4 (some .boolean) ∈ tg := mem_tg 1071 (by decide +kernel) rfl
theorem cw_X10_fault : Cond.code yX10_fault cX10_fault 4 (some .int) ∈ tg := mem_tg 1067 (by decide +kernel) rfl
theorem cw_X10_forceBy : Cond.code yX10_forceBy cX10_forceBy 6 (some .int) ∈ tg := mem_tg 923 (by decide +kernel) rfl
theorem cw_X10_frees : Cond.code yX10_frees cX10_frees 2 none ∈ tg := mem_tg 1002 (by decide +kernel) rfl
theorem cw_X10_goes : Cond.code yX10_goes cX10_goes 5 none ∈ tg := mem_tg 998 (by decide +kernel) rfl
theorem cw_X10_in : Cond.code yX10_in cX10_in 3 (some .boolean) ∈ tg := mem_tg 883 (by decide +kernel) rfl
theorem cw_X10_isAhead : Cond.code yX10_isAhead cX10_isAhead 3 (some .boolean) ∈ tg := mem_tg 994 (by decide +kernel) rfl
theorem cw_X10_isDead : Cond.code yX10_isDead cX10_isDead 5 (some .boolean) ∈ tg := mem_tg 931 (by decide +kernel) rfl
theorem cw_X10_isOnErrand : Cond.code yX10_isOnErrand cX10_isOnErrand 4 (some .boolean) ∈ tg := mem_tg 967 (by decide +kernel) rfl
theorem cw_X10_isPull : Cond.code yX10_isPull cX10_isPull 2 (some .boolean) ∈ tg := mem_tg 919 (by decide +kernel) rfl
theorem cw_X10_isServant : Cond.code yX10_isServant cX10_isServant 2 (some .boolean) ∈ tg := mem_tg 1022 (by decide +kernel) rfl
theorem cw_X10_isWell : Cond.code yX10_isWell cX10_isWell 3 (some .boolean) ∈ tg := mem_tg 947 (by decide +kernel) rfl
theorem cw_X10_may : Cond.code yX10_may cX10_may 3 (some .boolean) ∈ tg := mem_tg 983 (by decide +kernel) rfl
theorem cw_X10_nearest : Cond.code yX10_nearest cX10_nearest 4 (some .int) ∈ tg := mem_tg 979 (by decide +kernel) rfl
theorem cw_X10_ownBy : Cond.code yX10_ownBy cX10_ownBy 5 (some .int) ∈ tg := mem_tg 943 (by decide +kernel) rfl
theorem cw_X10_passes : Cond.code yX10_passes cX10_passes 4 none ∈ tg := mem_tg 975 (by decide +kernel) rfl
theorem cw_X10_rings : Cond.code yX10_rings cX10_rings 4 (some .int) ∈ tg := mem_tg 939 (by decide +kernel) rfl
theorem cw_X10_shareOf : Cond.code yX10_shareOf cX10_shareOf 5 (some .int) ∈ tg := mem_tg 1051 (by decide +kernel) rfl
theorem cw_X10_shares : Cond.code yX10_shares cX10_shares 5 (some .int) ∈ tg := mem_tg 1042 (by decide +kernel) rfl
theorem cw_X10_size : Cond.code yX10_size cX10_size 1 (some .int) ∈ tg := mem_tg 990 (by decide +kernel) rfl
theorem cw_X10_spreads : Cond.code yX10_spreads cX10_spreads 7 none ∈ tg := mem_tg 1092 (by decide +kernel) rfl
theorem cw_X10_waitingNow : Cond.code yX10_waitingNow cX10_waitingNow 3 (some .int) ∈ tg := mem_tg 1038 (by decide +kernel) rfl
theorem cw_X10_wayOf : Cond.code yX10_wayOf cX10_wayOf 3 (some .int) ∈ tg := mem_tg 987 (by decide +kernel) rfl
theorem cw_X1_countIn : Cond.code yX1_countIn cX1_countIn 4 (some .int) ∈ tg := mem_tg 623 (by decide +kernel) rfl
theorem cw_X1_drop : Cond.code yX1_drop cX1_drop 2 none ∈ tg := mem_tg 589 (by decide +kernel) rfl
theorem cw_X1_endErrand : Cond.code yX1_endErrand cX1_endErrand 2 none ∈ tg := mem_tg 580 (by decide +kernel) rfl
theorem cw_X1_isWaiting : Cond.code yX1_isWaiting cX1_isWaiting 2 (some .boolean) ∈ tg := mem_tg 529 (by decide +kernel) rfl
theorem cw_X1_make : Cond.code yX1_make cX1_make 3 none ∈ tg := mem_tg 513 (by decide +kernel) rfl
theorem cw_X1_startErrand : Cond.code yX1_startErrand cX1_startErrand 3 none ∈ tg := mem_tg 562 (by decide +kernel) rfl
theorem cw_X2_addTest : Cond.code yX2_addTest cX2_addTest 4 (some .int) ∈ tg := mem_tg 663 (by decide +kernel) rfl
theorem cw_X2_dropTests : Cond.code yX2_dropTests cX2_dropTests 2 (some .int) ∈ tg := mem_tg 680 (by decide +kernel) rfl
theorem cw_X2_keepThoseThatCome : Cond.code yX2_keepThoseThatCome cX2_keepThoseThatCome 6 none ∈ tg := mem_tg 667 (by decide +kernel) rfl
theorem cw_X2_mostAlike : Cond.code yX2_mostAlike cX2_mostAlike 4 (some .int) ∈ tg := mem_tg 696 (by decide +kernel) rfl
theorem cw_X2_outcomeWith : Cond.code yX2_outcomeWith cX2_outcomeWith 8 (some .int) ∈ tg := mem_tg 671 (by decide +kernel) rfl
theorem cw_X2_takeAll : Cond.code yX2_takeAll cX2_takeAll 2 none ∈ tg := mem_tg 300 (by decide +kernel) rfl
theorem cw_X2_testThatPartsMost : Cond.code yX2_testThatPartsMost cX2_testThatPartsMost 6 (some .int) ∈ tg := mem_tg 692 (by decide +kernel) rfl
theorem cw_X3_areSideBySide : Cond.code yX3_areSideBySide cX3_areSideBySide 5 (some .boolean) ∈ tg := mem_tg 705 (by decide +kernel) rfl
theorem cw_X3_countWires : Cond.code yX3_countWires cX3_countWires 3 (some .int) ∈ tg := mem_tg 758 (by decide +kernel) rfl
theorem cw_X3_even : Cond.code yX3_even cX3_even 5 (some .boolean) ∈ tg := mem_tg 750 (by decide +kernel) rfl
theorem cw_X3_fewestNew : Cond.code yX3_fewestNew cX3_fewestNew 5 (some .int) ∈ tg := mem_tg 726 (by decide +kernel) rfl
theorem cw_X3_gatherEnds : Cond.code yX3_gatherEnds cX3_gatherEnds 4 (some .int) ∈ tg := mem_tg 730 (by decide +kernel) rfl
theorem cw_X3_isNextOnFloor : Cond.code yX3_isNextOnFloor cX3_isNextOnFloor 3 (some .boolean) ∈ tg := mem_tg 713 (by decide +kernel) rfl
theorem cw_X3_joinTrees : Cond.code yX3_joinTrees cX3_joinTrees 4 none ∈ tg := mem_tg 738 (by decide +kernel) rfl
theorem cw_X3_joinTwo : Cond.code yX3_joinTwo cX3_joinTwo 6 none ∈ tg := mem_tg 742 (by decide +kernel) rfl
theorem cw_X3_setBetween : Cond.code yX3_setBetween cX3_setBetween 7 (some .int) ∈ tg := mem_tg 717 (by decide +kernel) rfl
theorem cw_X3_spread : Cond.code yX3_spread cX3_spread 5 none ∈ tg := mem_tg 746 (by decide +kernel) rfl
theorem cw_X3_startTrees : Cond.code yX3_startTrees cX3_startTrees 5 none ∈ tg := mem_tg 734 (by decide +kernel) rfl
theorem cw_X4_add : Cond.code yX4_add cX4_add 7 (some .int) ∈ tg := mem_tg 408 (by decide +kernel) rfl
theorem cw_X4_forceInHeat : Cond.code yX4_forceInHeat cX4_forceInHeat 3 (some .int) ∈ tg := mem_tg 449 (by decide +kernel) rfl
theorem cw_X4_has : Cond.code yX4_has cX4_has 2 (some .boolean) ∈ tg := mem_tg 436 (by decide +kernel) rfl
theorem cw_X5_add : Cond.code yX5_add cX5_add 5 (some .int) ∈ tg := mem_tg 500 (by decide +kernel) rfl
theorem cw_X5_isFree : Cond.code yX5_isFree cX5_isFree 2 (some .boolean) ∈ tg := mem_tg 545 (by decide +kernel) rfl
theorem cw_X5_mayGo : Cond.code yX5_mayGo cX5_mayGo 3 (some .boolean) ∈ tg := mem_tg 541 (by decide +kernel) rfl
theorem cw_X5_wayTo : Cond.code yX5_wayTo cX5_wayTo 5 (some .int) ∈ tg := mem_tg 549 (by decide +kernel) rfl
theorem cw_X6_endErrand : Cond.code yX6_endErrand cX6_endErrand 3 none ∈ tg := mem_tg 576 (by decide +kernel) rfl
theorem cw_X6_firstThatCanBeServed : Cond.code yX6_firstThatCanBeServed cX6_firstThatCanBeServed 3 (some .int) ∈ tg := mem_tg 525 (by decide +kernel) rfl
theorem cw_X6_goesBefore : Cond.code yX6_goesBefore cX6_goesBefore 3 (some .boolean) ∈ tg := mem_tg 533 (by decide +kernel) rfl
theorem cw_X6_nearestServant : Cond.code yX6_nearestServant cX6_nearestServant 6 (some .int) ∈ tg := mem_tg 537 (by decide +kernel) rfl
theorem cw_X6_nextTick : Cond.code yX6_nextTick cX6_nextTick 2 none ∈ tg := mem_tg 571 (by decide +kernel) rfl
theorem cw_X6_sendOne : Cond.code yX6_sendOne cX6_sendOne 4 none ∈ tg := mem_tg 556 (by decide +kernel) rfl
theorem cw_X6_sendWhileAnyCan : Cond.code yX6_sendWhileAnyCan cX6_sendWhileAnyCan 3 none ∈ tg := mem_tg 521 (by decide +kernel) rfl
theorem cw_X7_far : Cond.code yX7_far cX7_far 3 (some .int) ∈ tg := mem_tg 645 (by decide +kernel) rfl
theorem cw_X7_findBest : Cond.code yX7_findBest cX7_findBest 2 none ∈ tg := mem_tg 627 (by decide +kernel) rfl
theorem cw_X7_keep : Cond.code yX7_keep cX7_keep 3 none ∈ tg := mem_tg 636 (by decide +kernel) rfl
theorem cw_X7_mayTake : Cond.code yX7_mayTake cX7_mayTake 3 (some .boolean) ∈ tg := mem_tg 640 (by decide +kernel) rfl
theorem cw_X7_servantFor : Cond.code yX7_servantFor cX7_servantFor 3 (some .int) ∈ tg := mem_tg 650 (by decide +kernel) rfl
theorem cw_X7_tryFrom : Cond.code yX7_tryFrom cX7_tryFrom 8 none ∈ tg := mem_tg 632 (by decide +kernel) rfl
theorem cw_X8_addPair : Cond.code yX8_addPair cX8_addPair 3 (some .int) ∈ tg := mem_tg 420 (by decide +kernel) rfl
theorem cw_X8_areCrossed : Cond.code yX8_areCrossed cX8_areCrossed 3 (some .boolean) ∈ tg := mem_tg 416 (by decide +kernel) rfl
theorem cw_X8_bellsPulledAlong : Cond.code yX8_bellsPulledAlong cX8_bellsPulledAlong 5 (some .int) ∈ tg := mem_tg 474 (by decide +kernel) rfl
theorem cw_X8_cranksCrossedWith : Cond.code yX8_cranksCrossedWith cX8_cranksCrossedWith 4 (some .int) ∈ tg := mem_tg 478 (by decide +kernel) rfl
theorem cw_X8_dropPairs : Cond.code yX8_dropPairs cX8_dropPairs 3 (some .int) ∈ tg := mem_tg 428 (by decide +kernel) rfl
theorem cw_X8_forceOf : Cond.code yX8_forceOf cX8_forceOf 5 (some .int) ∈ tg := mem_tg 441 (by decide +kernel) rfl
theorem cw_X8_hasDead : Cond.code yX8_hasDead cX8_hasDead 2 (some .boolean) ∈ tg := mem_tg 445 (by decide +kernel) rfl
theorem cw_X8_loudBells : Cond.code yX8_loudBells cX8_loudBells 2 (some .int) ∈ tg := mem_tg 461 (by decide +kernel) rfl
theorem cw_X8_pullsThatRing : Cond.code yX8_pullsThatRing cX8_pullsThatRing 6 (some .int) ∈ tg := mem_tg 490 (by decide +kernel) rfl
theorem cw_X8_setCrank : Cond.code yX8_setCrank cX8_setCrank 5 (some .int) ∈ tg := mem_tg 377 (by decide +kernel) rfl
theorem cw_X8_soundingBell : Cond.code yX8_soundingBell cX8_soundingBell 2 (some .int) ∈ tg := mem_tg 466 (by decide +kernel) rfl
theorem cw_X8_weakBells : Cond.code yX8_weakBells cX8_weakBells 3 (some .int) ∈ tg := mem_tg 470 (by decide +kernel) rfl
theorem cw_X9_within : Cond.code yX9_within cX9_within 2 (some .boolean) ∈ tg := mem_tg 373 (by decide +kernel) rfl
theorem lk_RX10_95 : LkS RX10 95 yX10_in cX10_in 3 (some .boolean) 3 := ⟨mem_tg 881 (by decide +kernel) (by decide +kernel), (mem_tg 882 (by decide +kernel) (by decide +kernel)), (mem_tg 57 (by decide +kernel) (by decide +kernel)), cw_X10_in, by decide +kernel, by decide +kernel, by decide +kernel⟩
theorem lk_RX10_103 : LkS RX10 103 yX10_bits cX10_bits 3 (some .int) 1 := ⟨mem_tg 897 (by decide +kernel) (by decide +kernel), (mem_tg 898 (by decide +kernel) (by decide +kernel)), (mem_tg 57 (by decide +kernel) (by decide +kernel)), cw_X10_bits, by decide +kernel, by decide +kernel, by decide +kernel⟩
theorem lk_RX10_110 : LkV RX10 110 yX10_areCrossed cX10_areCrossed 5 (some .boolean) 2 := ⟨mem_tg 904 (by decide +kernel) (by decide +kernel), (mem_tg 906 (by decide +kernel) (by decide +kernel)), (mem_tg 22 (by decide +kernel) (by decide +kernel)), (mem_tg 57 (by decide +kernel) (by decide +kernel)), cw_X10_areCrossed, by decide +kernel, by decide +kernel, by decide +kernel⟩
theorem lk_RX10_114 : LkV RX10 114 yX10_crankBy cX10_crankBy 3 (some .int) 2 := ⟨mem_tg 924 (by decide +kernel) (by decide +kernel), (mem_tg 926 (by decide +kernel) (by decide +kernel)), (mem_tg 25 (by decide +kernel) (by decide +kernel)), (mem_tg 57 (by decide +kernel) (by decide +kernel)), cw_X10_crankBy, by decide +kernel, by decide +kernel, by decide +kernel⟩
theorem lk_RX10_118 : LkV RX10 118 yX10_isDead cX10_isDead 5 (some .boolean) 2 := ⟨mem_tg 928 (by decide +kernel) (by decide +kernel), (mem_tg 930 (by decide +kernel) (by decide +kernel)), (mem_tg 26 (by decide +kernel) (by decide +kernel)), (mem_tg 57 (by decide +kernel) (by decide +kernel)), cw_X10_isDead, by decide +kernel, by decide +kernel, by decide +kernel⟩
theorem lk_RX10_121 : LkV RX10 121 yX10_forceBy cX10_forceBy 6 (some .int) 3 := ⟨mem_tg 920 (by decide +kernel) (by decide +kernel), (mem_tg 922 (by decide +kernel) (by decide +kernel)), (mem_tg 24 (by decide +kernel) (by decide +kernel)), (mem_tg 57 (by decide +kernel) (by decide +kernel)), cw_X10_forceBy, by decide +kernel, by decide +kernel, by decide +kernel⟩
theorem lk_RX10_125 : LkV RX10 125 yX10_isWell cX10_isWell 3 (some .boolean) 2 := ⟨mem_tg 944 (by decide +kernel) (by decide +kernel), (mem_tg 946 (by decide +kernel) (by decide +kernel)), (mem_tg 29 (by decide +kernel) (by decide +kernel)), (mem_tg 57 (by decide +kernel) (by decide +kernel)), cw_X10_isWell, by decide +kernel, by decide +kernel, by decide +kernel⟩
theorem lk_RX10_128 : LkV RX10 128 yX10_isPull cX10_isPull 2 (some .boolean) 1 := ⟨mem_tg 916 (by decide +kernel) (by decide +kernel), (mem_tg 918 (by decide +kernel) (by decide +kernel)), (mem_tg 23 (by decide +kernel) (by decide +kernel)), (mem_tg 57 (by decide +kernel) (by decide +kernel)), cw_X10_isPull, by decide +kernel, by decide +kernel, by decide +kernel⟩
theorem lk_RX10_132 : LkV RX10 132 yX10_ownBy cX10_ownBy 5 (some .int) 3 := ⟨mem_tg 940 (by decide +kernel) (by decide +kernel), (mem_tg 942 (by decide +kernel) (by decide +kernel)), (mem_tg 28 (by decide +kernel) (by decide +kernel)), (mem_tg 57 (by decide +kernel) (by decide +kernel)), cw_X10_ownBy, by decide +kernel, by decide +kernel, by decide +kernel⟩
theorem lk_RX10_135 : LkV RX10 135 yX10_areJoined cX10_areJoined 7 (some .boolean) 2 := ⟨mem_tg 948 (by decide +kernel) (by decide +kernel), (mem_tg 950 (by decide +kernel) (by decide +kernel)), (mem_tg 30 (by decide +kernel) (by decide +kernel)), (mem_tg 57 (by decide +kernel) (by decide +kernel)), cw_X10_areJoined, by decide +kernel, by decide +kernel, by decide +kernel⟩
theorem lk_RX10_138 : LkV RX10 138 yX10_rings cX10_rings 4 (some .int) 2 := ⟨mem_tg 936 (by decide +kernel) (by decide +kernel), (mem_tg 938 (by decide +kernel) (by decide +kernel)), (mem_tg 27 (by decide +kernel) (by decide +kernel)), (mem_tg 57 (by decide +kernel) (by decide +kernel)), cw_X10_rings, by decide +kernel, by decide +kernel, by decide +kernel⟩
theorem lk_RX10_147 : LkS RX10 147 yX10_size cX10_size 1 (some .int) 1 := ⟨mem_tg 988 (by decide +kernel) (by decide +kernel), (mem_tg 989 (by decide +kernel) (by decide +kernel)), (mem_tg 57 (by decide +kernel) (by decide +kernel)), cw_X10_size, by decide +kernel, by decide +kernel, by decide +kernel⟩
theorem lk_RX10_150 : LkV RX10 150 yX10_wayOf cX10_wayOf 3 (some .int) 2 := ⟨mem_tg 984 (by decide +kernel) (by decide +kernel), (mem_tg 986 (by decide +kernel) (by decide +kernel)), (mem_tg 35 (by decide +kernel) (by decide +kernel)), (mem_tg 57 (by decide +kernel) (by decide +kernel)), cw_X10_wayOf, by decide +kernel, by decide +kernel, by decide +kernel⟩
theorem lk_RX10_156 : LkV RX10 156 yX10_isOnErrand cX10_isOnErrand 4 (some .boolean) 1 := ⟨mem_tg 964 (by decide +kernel) (by decide +kernel), (mem_tg 966 (by decide +kernel) (by decide +kernel)), (mem_tg 31 (by decide +kernel) (by decide +kernel)), (mem_tg 57 (by decide +kernel) (by decide +kernel)), cw_X10_isOnErrand, by decide +kernel, by decide +kernel, by decide +kernel⟩
theorem lk_RX10_159 : LkV RX10 159 yX10_may cX10_may 3 (some .boolean) 2 := ⟨mem_tg 980 (by decide +kernel) (by decide +kernel), (mem_tg 982 (by decide +kernel) (by decide +kernel)), (mem_tg 34 (by decide +kernel) (by decide +kernel)), (mem_tg 57 (by decide +kernel) (by decide +kernel)), cw_X10_may, by decide +kernel, by decide +kernel, by decide +kernel⟩
theorem lk_RX10_162 : LkV RX10 162 yX10_nearest cX10_nearest 4 (some .int) 1 := ⟨mem_tg 976 (by decide +kernel) (by decide +kernel), (mem_tg 978 (by decide +kernel) (by decide +kernel)), (mem_tg 33 (by decide +kernel) (by decide +kernel)), (mem_tg 57 (by decide +kernel) (by decide +kernel)), cw_X10_nearest, by decide +kernel, by decide +kernel, by decide +kernel⟩
theorem lk_RX10_165 : LkV RX10 165 yX10_isAhead cX10_isAhead 3 (some .boolean) 2 := ⟨mem_tg 991 (by decide +kernel) (by decide +kernel), (mem_tg 993 (by decide +kernel) (by decide +kernel)), (mem_tg 36 (by decide +kernel) (by decide +kernel)), (mem_tg 57 (by decide +kernel) (by decide +kernel)), cw_X10_isAhead, by decide +kernel, by decide +kernel, by decide +kernel⟩
theorem lk_RX10_168 : LkV RX10 168 yX10_goes cX10_goes 5 none 2 := ⟨mem_tg 995 (by decide +kernel) (by decide +kernel), (mem_tg 997 (by decide +kernel) (by decide +kernel)), (mem_tg 37 (by decide +kernel) (by decide +kernel)), (mem_tg 57 (by decide +kernel) (by decide +kernel)), cw_X10_goes, by decide +kernel, by decide +kernel, by decide +kernel⟩
theorem lk_RX10_172 : LkV RX10 172 yX10_frees cX10_frees 2 none 0 := ⟨mem_tg 999 (by decide +kernel) (by decide +kernel), (mem_tg 1001 (by decide +kernel) (by decide +kernel)), (mem_tg 38 (by decide +kernel) (by decide +kernel)), (mem_tg 57 (by decide +kernel) (by decide +kernel)), cw_X10_frees, by decide +kernel, by decide +kernel, by decide +kernel⟩
theorem lk_RX10_175 : LkV RX10 175 yX10_passes cX10_passes 4 none 0 := ⟨mem_tg 972 (by decide +kernel) (by decide +kernel), (mem_tg 974 (by decide +kernel) (by decide +kernel)), (mem_tg 32 (by decide +kernel) (by decide +kernel)), (mem_tg 57 (by decide +kernel) (by decide +kernel)), cw_X10_passes, by decide +kernel, by decide +kernel, by decide +kernel⟩
theorem lk_RX10_181 : LkV RX10 181 yX10_isServant cX10_isServant 2 (some .boolean) 1 := ⟨mem_tg 1019 (by decide +kernel) (by decide +kernel), (mem_tg 1021 (by decide +kernel) (by decide +kernel)), (mem_tg 39 (by decide +kernel) (by decide +kernel)), (mem_tg 57 (by decide +kernel) (by decide +kernel)), cw_X10_isServant, by decide +kernel, by decide +kernel, by decide +kernel⟩
theorem lk_RX10_191 : LkV RX10 191 yX10_costOf cX10_costOf 9 (some .int) 2 := ⟨mem_tg 1044 (by decide +kernel) (by decide +kernel), (mem_tg 1046 (by decide +kernel) (by decide +kernel)), (mem_tg 42 (by decide +kernel) (by decide +kernel)), (mem_tg 57 (by decide +kernel) (by decide +kernel)), cw_X10_costOf, by decide +kernel, by decide +kernel, by decide +kernel⟩
theorem lk_RX10_194 : LkV RX10 194 yX10_waitingNow cX10_waitingNow 3 (some .int) 0 := ⟨mem_tg 1035 (by decide +kernel) (by decide +kernel), (mem_tg 1037 (by decide +kernel) (by decide +kernel)), (mem_tg 40 (by decide +kernel) (by decide +kernel)), (mem_tg 57 (by decide +kernel) (by decide +kernel)), cw_X10_waitingNow, by decide +kernel, by decide +kernel, by decide +kernel⟩
theorem lk_RX10_198 : LkV RX10 198 yX10_shares cX10_shares 5 (some .int) 0 := ⟨mem_tg 1039 (by decide +kernel) (by decide +kernel), (mem_tg 1041 (by decide +kernel) (by decide +kernel)), (mem_tg 41 (by decide +kernel) (by decide +kernel)), (mem_tg 57 (by decide +kernel) (by decide +kernel)), cw_X10_shares, by decide +kernel, by decide +kernel, by decide +kernel⟩
theorem lk_RX10_201 : LkV RX10 201 yX10_shareOf cX10_shareOf 5 (some .int) 2 := ⟨mem_tg 1048 (by decide +kernel) (by decide +kernel), (mem_tg 1050 (by decide +kernel) (by decide +kernel)), (mem_tg 43 (by decide +kernel) (by decide +kernel)), (mem_tg 57 (by decide +kernel) (by decide +kernel)), cw_X10_shareOf, by decide +kernel, by decide +kernel, by decide +kernel⟩
theorem lk_RX10_207 : LkV RX10 207 yX10_explains cX10_explains 4 (some .boolean) 1 := ⟨mem_tg 1068 (by decide +kernel) (by decide +kernel), (mem_tg 1070 (by decide +kernel) (by decide +kernel)), (mem_tg 44 (by decide +kernel) (by decide +kernel)), (mem_tg 57 (by decide +kernel) (by decide +kernel)), cw_X10_explains, by decide +kernel, by decide +kernel, by decide +kernel⟩
theorem lk_RX10_210 : LkV RX10 210 yX10_fault cX10_fault 4 (some .int) 1 := ⟨mem_tg 1076 (by decide +kernel) (by decide +kernel), (mem_tg 1065 (by decide +kernel) (by decide +kernel)), (mem_tg 1066 (by decide +kernel) (by decide +kernel)), (mem_tg 57 (by decide +kernel) (by decide +kernel)), cw_X10_fault, by decide +kernel, by decide +kernel, by decide +kernel⟩
theorem lk_RX10_213 : LkS RX10 213 yX10_edge cX10_edge 4 (some .int) 2 := ⟨mem_tg 1081 (by decide +kernel) (by decide +kernel), (mem_tg 1082 (by decide +kernel) (by decide +kernel)), (mem_tg 57 (by decide +kernel) (by decide +kernel)), cw_X10_edge, by decide +kernel, by decide +kernel, by decide +kernel⟩
theorem lk_RX10_217 : LkV RX10 217 yX10_spreads cX10_spreads 7 none 1 := ⟨mem_tg 1089 (by decide +kernel) (by decide +kernel), (mem_tg 1091 (by decide +kernel) (by decide +kernel)), (mem_tg 45 (by decide +kernel) (by decide +kernel)), (mem_tg 57 (by decide +kernel) (by decide +kernel)), cw_X10_spreads, by decide +kernel, by decide +kernel, by decide +kernel⟩
theorem lk_RX2_22 : LkV RX2 22 yX2_takeAll cX2_takeAll 2 none 0 := ⟨mem_tg 297 (by decide +kernel) (by decide +kernel), (mem_tg 299 (by decide +kernel) (by decide +kernel)), (mem_tg 0 (by decide +kernel) (by decide +kernel)), (mem_tg 55 (by decide +kernel) (by decide +kernel)), cw_X2_takeAll, by decide +kernel, by decide +kernel, by decide +kernel⟩
theorem lk_RX2_29 : LkV RX2 29 yX2_keepThoseThatCome cX2_keepThoseThatCome 6 none 3 := ⟨mem_tg 664 (by decide +kernel) (by decide +kernel), (mem_tg 666 (by decide +kernel) (by decide +kernel)), (mem_tg 12 (by decide +kernel) (by decide +kernel)), (mem_tg 55 (by decide +kernel) (by decide +kernel)), cw_X2_keepThoseThatCome, by decide +kernel, by decide +kernel, by decide +kernel⟩
theorem lk_RX2_39 : LkV RX2 39 yX2_mostAlike cX2_mostAlike 4 (some .int) 2 := ⟨mem_tg 693 (by decide +kernel) (by decide +kernel), (mem_tg 695 (by decide +kernel) (by decide +kernel)), (mem_tg 14 (by decide +kernel) (by decide +kernel)), (mem_tg 55 (by decide +kernel) (by decide +kernel)), cw_X2_mostAlike, by decide +kernel, by decide +kernel, by decide +kernel⟩
theorem lk_RX2_43 : LkV RX2 43 yX2_outcomeWith cX2_outcomeWith 8 (some .int) 3 := ⟨mem_tg 668 (by decide +kernel) (by decide +kernel), (mem_tg 670 (by decide +kernel) (by decide +kernel)), (mem_tg 13 (by decide +kernel) (by decide +kernel)), (mem_tg 55 (by decide +kernel) (by decide +kernel)), cw_X2_outcomeWith, by decide +kernel, by decide +kernel, by decide +kernel⟩
theorem lk_RX2_52 : LkV RX2 52 yX4_forceInHeat cX4_forceInHeat 3 (some .int) 2 := ⟨mem_tg 672 (by decide +kernel) (by decide +kernel), (mem_tg 447 (by decide +kernel) (by decide +kernel)), (mem_tg 448 (by decide +kernel) (by decide +kernel)), (mem_tg 48 (by decide +kernel) (by decide +kernel)), cw_X4_forceInHeat, by decide +kernel, by decide +kernel, by decide +kernel⟩
theorem lk_RX3_33 : LkV RX3 33 yX3_isNextOnFloor cX3_isNextOnFloor 3 (some .boolean) 2 := ⟨mem_tg 710 (by decide +kernel) (by decide +kernel), (mem_tg 712 (by decide +kernel) (by decide +kernel)), (mem_tg 15 (by decide +kernel) (by decide +kernel)), (mem_tg 56 (by decide +kernel) (by decide +kernel)), cw_X3_isNextOnFloor, by decide +kernel, by decide +kernel, by decide +kernel⟩
theorem lk_RX3_37 : LkV RX3 37 yX3_gatherEnds cX3_gatherEnds 4 (some .int) 1 := ⟨mem_tg 727 (by decide +kernel) (by decide +kernel), (mem_tg 729 (by decide +kernel) (by decide +kernel)), (mem_tg 16 (by decide +kernel) (by decide +kernel)), (mem_tg 56 (by decide +kernel) (by decide +kernel)), cw_X3_gatherEnds, by decide +kernel, by decide +kernel, by decide +kernel⟩
theorem lk_RX3_41 : LkV RX3 41 yX3_startTrees cX3_startTrees 5 none 2 := ⟨mem_tg 731 (by decide +kernel) (by decide +kernel), (mem_tg 733 (by decide +kernel) (by decide +kernel)), (mem_tg 17 (by decide +kernel) (by decide +kernel)), (mem_tg 56 (by decide +kernel) (by decide +kernel)), cw_X3_startTrees, by decide +kernel, by decide +kernel, by decide +kernel⟩
theorem lk_RX3_45 : LkV RX3 45 yX3_joinTrees cX3_joinTrees 4 none 1 := ⟨mem_tg 735 (by decide +kernel) (by decide +kernel), (mem_tg 737 (by decide +kernel) (by decide +kernel)), (mem_tg 18 (by decide +kernel) (by decide +kernel)), (mem_tg 56 (by decide +kernel) (by decide +kernel)), cw_X3_joinTrees, by decide +kernel, by decide +kernel, by decide +kernel⟩
theorem lk_RX3_49 : LkV RX3 49 yX3_spread cX3_spread 5 none 1 := ⟨mem_tg 743 (by decide +kernel) (by decide +kernel), (mem_tg 745 (by decide +kernel) (by decide +kernel)), (mem_tg 20 (by decide +kernel) (by decide +kernel)), (mem_tg 56 (by decide +kernel) (by decide +kernel)), cw_X3_spread, by decide +kernel, by decide +kernel, by decide +kernel⟩
theorem lk_RX3_52 : LkV RX3 52 yX3_joinTwo cX3_joinTwo 6 none 3 := ⟨mem_tg 739 (by decide +kernel) (by decide +kernel), (mem_tg 741 (by decide +kernel) (by decide +kernel)), (mem_tg 19 (by decide +kernel) (by decide +kernel)), (mem_tg 56 (by decide +kernel) (by decide +kernel)), cw_X3_joinTwo, by decide +kernel, by decide +kernel, by decide +kernel⟩
theorem lk_RX3_56 : LkV RX3 56 yX3_even cX3_even 5 (some .boolean) 3 := ⟨mem_tg 747 (by decide +kernel) (by decide +kernel), (mem_tg 749 (by decide +kernel) (by decide +kernel)), (mem_tg 21 (by decide +kernel) (by decide +kernel)), (mem_tg 56 (by decide +kernel) (by decide +kernel)), cw_X3_even, by decide +kernel, by decide +kernel, by decide +kernel⟩
theorem lk_RX4_31 : LkN nestW RX4 31 yX9_within RX9 cX9_within 2 (some .boolean) 2 := ⟨List.mem_filter.mpr ⟨List.mem_of_getElem? (i := 437) (by decide +kernel), rfl⟩, (mem_tg 372 (by decide +kernel) (by decide +kernel)), (mem_tg 47 (by decide +kernel) (by decide +kernel)), cw_X9_within, by decide +kernel, by decide +kernel, by decide +kernel⟩
theorem lk_RX4_35 : LkS RX4 35 yJ6_bitCount_0f7a4 cJ6_bitCount_0f7a4 1 (some .int) 1 := ⟨mem_tg 450 (by decide +kernel) (by decide +kernel), (mem_tg 400 (by decide +kernel) (by decide +kernel)), (mem_tg 58 (by decide +kernel) (by decide +kernel)), cw_J6_bitCount_0f7a4, by decide +kernel, by decide +kernel, by decide +kernel⟩
theorem lk_RX5_34 : LkV RX5 34 yX5_isFree cX5_isFree 2 (some .boolean) 1 := ⟨mem_tg 542 (by decide +kernel) (by decide +kernel), (mem_tg 543 (by decide +kernel) (by decide +kernel)), (mem_tg 544 (by decide +kernel) (by decide +kernel)), (mem_tg 51 (by decide +kernel) (by decide +kernel)), cw_X5_isFree, by decide +kernel, by decide +kernel, by decide +kernel⟩
theorem lk_RX6_29 : LkV RX6 29 yX6_firstThatCanBeServed cX6_firstThatCanBeServed 3 (some .int) 0 := ⟨mem_tg 522 (by decide +kernel) (by decide +kernel), (mem_tg 524 (by decide +kernel) (by decide +kernel)), (mem_tg 5 (by decide +kernel) (by decide +kernel)), (mem_tg 53 (by decide +kernel) (by decide +kernel)), cw_X6_firstThatCanBeServed, by decide +kernel, by decide +kernel, by decide +kernel⟩
theorem lk_RX6_33 : LkV RX6 33 yX6_nearestServant cX6_nearestServant 6 (some .int) 1 := ⟨mem_tg 534 (by decide +kernel) (by decide +kernel), (mem_tg 536 (by decide +kernel) (by decide +kernel)), (mem_tg 7 (by decide +kernel) (by decide +kernel)), (mem_tg 53 (by decide +kernel) (by decide +kernel)), cw_X6_nearestServant, by decide +kernel, by decide +kernel, by decide +kernel⟩
theorem lk_RX6_37 : LkV RX6 37 yX6_sendOne cX6_sendOne 4 none 2 := ⟨mem_tg 553 (by decide +kernel) (by decide +kernel), (mem_tg 554 (by decide +kernel) (by decide +kernel)), (mem_tg 555 (by decide +kernel) (by decide +kernel)), (mem_tg 53 (by decide +kernel) (by decide +kernel)), cw_X6_sendOne, by decide +kernel, by decide +kernel, by decide +kernel⟩
theorem lk_RX6_41 : LkN nestW RX6 41 yX9_within RX9 cX9_within 2 (some .boolean) 2 := ⟨List.mem_filter.mpr ⟨List.mem_of_getElem? (i := 557) (by decide +kernel), rfl⟩, (mem_tg 372 (by decide +kernel) (by decide +kernel)), (mem_tg 47 (by decide +kernel) (by decide +kernel)), cw_X9_within, by decide +kernel, by decide +kernel, by decide +kernel⟩
theorem lk_RX6_45 : LkV RX6 45 yX4_has cX4_has 2 (some .boolean) 1 := ⟨mem_tg 558 (by decide +kernel) (by decide +kernel), (mem_tg 434 (by decide +kernel) (by decide +kernel)), (mem_tg 435 (by decide +kernel) (by decide +kernel)), (mem_tg 48 (by decide +kernel) (by decide +kernel)), cw_X4_has, by decide +kernel, by decide +kernel, by decide +kernel⟩
theorem lk_RX6_58 : LkV RX6 58 yX5_wayTo cX5_wayTo 5 (some .int) 3 := ⟨mem_tg 546 (by decide +kernel) (by decide +kernel), (mem_tg 547 (by decide +kernel) (by decide +kernel)), (mem_tg 548 (by decide +kernel) (by decide +kernel)), (mem_tg 51 (by decide +kernel) (by decide +kernel)), cw_X5_wayTo, by decide +kernel, by decide +kernel, by decide +kernel⟩
theorem lk_RX6_79 : LkV RX6 79 yX1_startErrand cX1_startErrand 3 none 2 := ⟨mem_tg 559 (by decide +kernel) (by decide +kernel), (mem_tg 560 (by decide +kernel) (by decide +kernel)), (mem_tg 561 (by decide +kernel) (by decide +kernel)), (mem_tg 52 (by decide +kernel) (by decide +kernel)), cw_X1_startErrand, by decide +kernel, by decide +kernel, by decide +kernel⟩
theorem lk_RX6_82 : LkV RX6 82 yX5_isFree cX5_isFree 2 (some .boolean) 1 := ⟨mem_tg 572 (by decide +kernel) (by decide +kernel), (mem_tg 543 (by decide +kernel) (by decide +kernel)), (mem_tg 544 (by decide +kernel) (by decide +kernel)), (mem_tg 51 (by decide +kernel) (by decide +kernel)), cw_X5_isFree, by decide +kernel, by decide +kernel, by decide +kernel⟩
theorem lk_RX6_85 : LkV RX6 85 yX6_endErrand cX6_endErrand 3 none 1 := ⟨mem_tg 573 (by decide +kernel) (by decide +kernel), (mem_tg 575 (by decide +kernel) (by decide +kernel)), (mem_tg 8 (by decide +kernel) (by decide +kernel)), (mem_tg 53 (by decide +kernel) (by decide +kernel)), cw_X6_endErrand, by decide +kernel, by decide +kernel, by decide +kernel⟩
theorem lk_RX6_91 : LkV RX6 91 yX1_endErrand cX1_endErrand 2 none 1 := ⟨mem_tg 577 (by decide +kernel) (by decide +kernel), (mem_tg 578 (by decide +kernel) (by decide +kernel)), (mem_tg 579 (by decide +kernel) (by decide +kernel)), (mem_tg 52 (by decide +kernel) (by decide +kernel)), cw_X1_endErrand, by decide +kernel, by decide +kernel, by decide +kernel⟩
theorem lk_RX6_93 : LkV RX6 93 yX1_isWaiting cX1_isWaiting 2 (some .boolean) 1 := ⟨mem_tg 526 (by decide +kernel) (by decide +kernel), (mem_tg 527 (by decide +kernel) (by decide +kernel)), (mem_tg 528 (by decide +kernel) (by decide +kernel)), (mem_tg 52 (by decide +kernel) (by decide +kernel)), cw_X1_isWaiting, by decide +kernel, by decide +kernel, by decide +kernel⟩
theorem lk_RX6_96 : LkV RX6 96 yX6_goesBefore cX6_goesBefore 3 (some .boolean) 2 := ⟨mem_tg 530 (by decide +kernel) (by decide +kernel), (mem_tg 532 (by decide +kernel) (by decide +kernel)), (mem_tg 6 (by decide +kernel) (by decide +kernel)), (mem_tg 53 (by decide +kernel) (by decide +kernel)), cw_X6_goesBefore, by decide +kernel, by decide +kernel, by decide +kernel⟩
theorem lk_RX6_102 : LkV RX6 102 yX5_mayGo cX5_mayGo 3 (some .boolean) 2 := ⟨mem_tg 538 (by decide +kernel) (by decide +kernel), (mem_tg 539 (by decide +kernel) (by decide +kernel)), (mem_tg 540 (by decide +kernel) (by decide +kernel)), (mem_tg 51 (by decide +kernel) (by decide +kernel)), cw_X5_mayGo, by decide +kernel, by decide +kernel, by decide +kernel⟩
theorem lk_RX7_40 : LkV RX7 40 yX1_isWaiting cX1_isWaiting 2 (some .boolean) 1 := ⟨mem_tg 628 (by decide +kernel) (by decide +kernel), (mem_tg 527 (by decide +kernel) (by decide +kernel)), (mem_tg 528 (by decide +kernel) (by decide +kernel)), (mem_tg 52 (by decide +kernel) (by decide +kernel)), cw_X1_isWaiting, by decide +kernel, by decide +kernel, by decide +kernel⟩
theorem lk_RX7_50 : LkS RX7 50 yX7_tryFrom cX7_tryFrom 8 none 4 := ⟨mem_tg 630 (by decide +kernel) (by decide +kernel), (mem_tg 631 (by decide +kernel) (by decide +kernel)), (mem_tg 54 (by decide +kernel) (by decide +kernel)), cw_X7_tryFrom, by decide +kernel, by decide +kernel, by decide +kernel⟩
theorem lk_RX7_54 : LkV RX7 54 yX7_keep cX7_keep 3 none 1 := ⟨mem_tg 633 (by decide +kernel) (by decide +kernel), (mem_tg 635 (by decide +kernel) (by decide +kernel)), (mem_tg 9 (by decide +kernel) (by decide +kernel)), (mem_tg 54 (by decide +kernel) (by decide +kernel)), cw_X7_keep, by decide +kernel, by decide +kernel, by decide +kernel⟩
theorem lk_RX7_64 : LkV RX7 64 yX7_mayTake cX7_mayTake 3 (some .boolean) 2 := ⟨mem_tg 637 (by decide +kernel) (by decide +kernel), (mem_tg 639 (by decide +kernel) (by decide +kernel)), (mem_tg 10 (by decide +kernel) (by decide +kernel)), (mem_tg 54 (by decide +kernel) (by decide +kernel)), cw_X7_mayTake, by decide +kernel, by decide +kernel, by decide +kernel⟩
theorem lk_RX7_68 : LkV RX7 68 yX7_far cX7_far 3 (some .int) 2 := ⟨mem_tg 642 (by decide +kernel) (by decide +kernel), (mem_tg 644 (by decide +kernel) (by decide +kernel)), (mem_tg 11 (by decide +kernel) (by decide +kernel)), (mem_tg 54 (by decide +kernel) (by decide +kernel)), cw_X7_far, by decide +kernel, by decide +kernel, by decide +kernel⟩
theorem lk_RX7_72 : LkV RX7 72 yX5_mayGo cX5_mayGo 3 (some .boolean) 2 := ⟨mem_tg 641 (by decide +kernel) (by decide +kernel), (mem_tg 539 (by decide +kernel) (by decide +kernel)), (mem_tg 540 (by decide +kernel) (by decide +kernel)), (mem_tg 51 (by decide +kernel) (by decide +kernel)), cw_X5_mayGo, by decide +kernel, by decide +kernel, by decide +kernel⟩
theorem lk_RX7_81 : LkV RX7 81 yX5_wayTo cX5_wayTo 5 (some .int) 3 := ⟨mem_tg 646 (by decide +kernel) (by decide +kernel), (mem_tg 547 (by decide +kernel) (by decide +kernel)), (mem_tg 548 (by decide +kernel) (by decide +kernel)), (mem_tg 51 (by decide +kernel) (by decide +kernel)), cw_X5_wayTo, by decide +kernel, by decide +kernel, by decide +kernel⟩
theorem lk_RX8_33 : LkV RX8 33 yX8_hasDead cX8_hasDead 2 (some .boolean) 1 := ⟨mem_tg 442 (by decide +kernel) (by decide +kernel), (mem_tg 444 (by decide +kernel) (by decide +kernel)), (mem_tg 1 (by decide +kernel) (by decide +kernel)), (mem_tg 50 (by decide +kernel) (by decide +kernel)), cw_X8_hasDead, by decide +kernel, by decide +kernel, by decide +kernel⟩
theorem lk_RX8_40 : LkV RX8 40 yX4_forceInHeat cX4_forceInHeat 3 (some .int) 2 := ⟨mem_tg 446 (by decide +kernel) (by decide +kernel), (mem_tg 447 (by decide +kernel) (by decide +kernel)), (mem_tg 448 (by decide +kernel) (by decide +kernel)), (mem_tg 48 (by decide +kernel) (by decide +kernel)), cw_X4_forceInHeat, by decide +kernel, by decide +kernel, by decide +kernel⟩
theorem lk_RX8_54 : LkV RX8 54 yX8_forceOf cX8_forceOf 5 (some .int) 1 := ⟨mem_tg 462 (by decide +kernel) (by decide +kernel), (mem_tg 439 (by decide +kernel) (by decide +kernel)), (mem_tg 440 (by decide +kernel) (by decide +kernel)), (mem_tg 50 (by decide +kernel) (by decide +kernel)), cw_X8_forceOf, by decide +kernel, by decide +kernel, by decide +kernel⟩
theorem lk_RX8_58 : LkV RX8 58 yX8_soundingBell cX8_soundingBell 2 (some .int) 1 := ⟨mem_tg 463 (by decide +kernel) (by decide +kernel), (mem_tg 465 (by decide +kernel) (by decide +kernel)), (mem_tg 2 (by decide +kernel) (by decide +kernel)), (mem_tg 50 (by decide +kernel) (by decide +kernel)), cw_X8_soundingBell, by decide +kernel, by decide +kernel, by decide +kernel⟩
theorem lk_RX8_61 : LkV RX8 61 yX8_bellsPulledAlong cX8_bellsPulledAlong 5 (some .int) 1 := ⟨mem_tg 471 (by decide +kernel) (by decide +kernel), (mem_tg 473 (by decide +kernel) (by decide +kernel)), (mem_tg 3 (by decide +kernel) (by decide +kernel)), (mem_tg 50 (by decide +kernel) (by decide +kernel)), cw_X8_bellsPulledAlong, by decide +kernel, by decide +kernel, by decide +kernel⟩
theorem lk_RX8_67 : LkV RX8 67 yX8_loudBells cX8_loudBells 2 (some .int) 1 := ⟨mem_tg 491 (by decide +kernel) (by decide +kernel), (mem_tg 459 (by decide +kernel) (by decide +kernel)), (mem_tg 460 (by decide +kernel) (by decide +kernel)), (mem_tg 50 (by decide +kernel) (by decide +kernel)), cw_X8_loudBells, by decide +kernel, by decide +kernel, by decide +kernel⟩
theorem lk_RX8_70 : LkV RX8 70 yX8_weakBells cX8_weakBells 3 (some .int) 1 := ⟨mem_tg 492 (by decide +kernel) (by decide +kernel), (mem_tg 468 (by decide +kernel) (by decide +kernel)), (mem_tg 469 (by decide +kernel) (by decide +kernel)), (mem_tg 50 (by decide +kernel) (by decide +kernel)), cw_X8_weakBells, by decide +kernel, by decide +kernel, by decide +kernel⟩
theorem lk_RX8_81 : LkV RX8 81 yX8_cranksCrossedWith cX8_cranksCrossedWith 4 (some .int) 1 := ⟨mem_tg 475 (by decide +kernel) (by decide +kernel), (mem_tg 477 (by decide +kernel) (by decide +kernel)), (mem_tg 4 (by decide +kernel) (by decide +kernel)), (mem_tg 50 (by decide +kernel) (by decide +kernel)), cw_X8_cranksCrossedWith, by decide +kernel, by decide +kernel, by decide +kernel⟩
theorem lk_RX9_78 : LkS RX9 78 yX9_within cX9_within 2 (some .boolean) 2 := ⟨mem_tg 371 (by decide +kernel) (by decide +kernel), (mem_tg 372 (by decide +kernel) (by decide +kernel)), (mem_tg 47 (by decide +kernel) (by decide +kernel)), cw_X9_within, by decide +kernel, by decide +kernel, by decide +kernel⟩
theorem lk_RX9_82 : LkV RX9 82 yX8_setCrank cX8_setCrank 5 (some .int) 2 := ⟨mem_tg 374 (by decide +kernel) (by decide +kernel), (mem_tg 375 (by decide +kernel) (by decide +kernel)), (mem_tg 376 (by decide +kernel) (by decide +kernel)), (mem_tg 50 (by decide +kernel) (by decide +kernel)), cw_X8_setCrank, by decide +kernel, by decide +kernel, by decide +kernel⟩
theorem lk_RX9_86 : LkV RX9 86 yX0_setTone cX0_setTone 4 (some .int) 2 := ⟨mem_tg 382 (by decide +kernel) (by decide +kernel), (mem_tg 383 (by decide +kernel) (by decide +kernel)), (mem_tg 384 (by decide +kernel) (by decide +kernel)), (mem_tg 49 (by decide +kernel) (by decide +kernel)), cw_X0_setTone, by decide +kernel, by decide +kernel, by decide +kernel⟩
theorem lk_RX9_89 : LkV RX9 89 yX0_setMute cX0_setMute 4 (some .int) 2 := ⟨mem_tg 386 (by decide +kernel) (by decide +kernel), (mem_tg 387 (by decide +kernel) (by decide +kernel)), (mem_tg 388 (by decide +kernel) (by decide +kernel)), (mem_tg 49 (by decide +kernel) (by decide +kernel)), cw_X0_setMute, by decide +kernel, by decide +kernel, by decide +kernel⟩
theorem lk_RX9_97 : LkS RX9 97 yJ6_bitCount_0f7a4 cJ6_bitCount_0f7a4 1 (some .int) 1 := ⟨mem_tg 399 (by decide +kernel) (by decide +kernel), (mem_tg 400 (by decide +kernel) (by decide +kernel)), (mem_tg 58 (by decide +kernel) (by decide +kernel)), cw_J6_bitCount_0f7a4, by decide +kernel, by decide +kernel, by decide +kernel⟩
theorem lk_RX9_106 : LkV RX9 106 yX4_add cX4_add 7 (some .int) 5 := ⟨mem_tg 405 (by decide +kernel) (by decide +kernel), (mem_tg 406 (by decide +kernel) (by decide +kernel)), (mem_tg 407 (by decide +kernel) (by decide +kernel)), (mem_tg 48 (by decide +kernel) (by decide +kernel)), cw_X4_add, by decide +kernel, by decide +kernel, by decide +kernel⟩
theorem lk_RX9_110 : LkV RX9 110 yX8_areCrossed cX8_areCrossed 3 (some .boolean) 2 := ⟨mem_tg 413 (by decide +kernel) (by decide +kernel), (mem_tg 414 (by decide +kernel) (by decide +kernel)), (mem_tg 415 (by decide +kernel) (by decide +kernel)), (mem_tg 50 (by decide +kernel) (by decide +kernel)), cw_X8_areCrossed, by decide +kernel, by decide +kernel, by decide +kernel⟩
theorem lk_RX9_116 : LkV RX9 116 yX8_addPair cX8_addPair 3 (some .int) 2 := ⟨mem_tg 417 (by decide +kernel) (by decide +kernel), (mem_tg 418 (by decide +kernel) (by decide +kernel)), (mem_tg 419 (by decide +kernel) (by decide +kernel)), (mem_tg 50 (by decide +kernel) (by decide +kernel)), cw_X8_addPair, by decide +kernel, by decide +kernel, by decide +kernel⟩
theorem lk_RX9_119 : LkV RX9 119 yX8_dropPairs cX8_dropPairs 3 (some .int) 0 := ⟨mem_tg 425 (by decide +kernel) (by decide +kernel), (mem_tg 426 (by decide +kernel) (by decide +kernel)), (mem_tg 427 (by decide +kernel) (by decide +kernel)), (mem_tg 50 (by decide +kernel) (by decide +kernel)), cw_X8_dropPairs, by decide +kernel, by decide +kernel, by decide +kernel⟩
theorem lk_RX9_123 : LkV RX9 123 yX4_has cX4_has 2 (some .boolean) 1 := ⟨mem_tg 433 (by decide +kernel) (by decide +kernel), (mem_tg 434 (by decide +kernel) (by decide +kernel)), (mem_tg 435 (by decide +kernel) (by decide +kernel)), (mem_tg 48 (by decide +kernel) (by decide +kernel)), cw_X4_has, by decide +kernel, by decide +kernel, by decide +kernel⟩
theorem lk_RX9_127 : LkV RX9 127 yX8_forceOf cX8_forceOf 5 (some .int) 1 := ⟨mem_tg 438 (by decide +kernel) (by decide +kernel), (mem_tg 439 (by decide +kernel) (by decide +kernel)), (mem_tg 440 (by decide +kernel) (by decide +kernel)), (mem_tg 50 (by decide +kernel) (by decide +kernel)), cw_X8_forceOf, by decide +kernel, by decide +kernel, by decide +kernel⟩
theorem lk_RX9_130 : LkV RX9 130 yX8_loudBells cX8_loudBells 2 (some .int) 1 := ⟨mem_tg 458 (by decide +kernel) (by decide +kernel), (mem_tg 459 (by decide +kernel) (by decide +kernel)), (mem_tg 460 (by decide +kernel) (by decide +kernel)), (mem_tg 50 (by decide +kernel) (by decide +kernel)), cw_X8_loudBells, by decide +kernel, by decide +kernel, by decide +kernel⟩
theorem lk_RX9_133 : LkV RX9 133 yX8_weakBells cX8_weakBells 3 (some .int) 1 := ⟨mem_tg 467 (by decide +kernel) (by decide +kernel), (mem_tg 468 (by decide +kernel) (by decide +kernel)), (mem_tg 469 (by decide +kernel) (by decide +kernel)), (mem_tg 50 (by decide +kernel) (by decide +kernel)), cw_X8_weakBells, by decide +kernel, by decide +kernel, by decide +kernel⟩
theorem lk_RX9_136 : LkV RX9 136 yX0_ofTone cX0_ofTone 4 (some .int) 1 := ⟨mem_tg 483 (by decide +kernel) (by decide +kernel), (mem_tg 484 (by decide +kernel) (by decide +kernel)), (mem_tg 485 (by decide +kernel) (by decide +kernel)), (mem_tg 49 (by decide +kernel) (by decide +kernel)), cw_X0_ofTone, by decide +kernel, by decide +kernel, by decide +kernel⟩
theorem lk_RX9_139 : LkV RX9 139 yX8_pullsThatRing cX8_pullsThatRing 6 (some .int) 2 := ⟨mem_tg 487 (by decide +kernel) (by decide +kernel), (mem_tg 488 (by decide +kernel) (by decide +kernel)), (mem_tg 489 (by decide +kernel) (by decide +kernel)), (mem_tg 50 (by decide +kernel) (by decide +kernel)), cw_X8_pullsThatRing, by decide +kernel, by decide +kernel, by decide +kernel⟩
theorem lk_RX9_143 : LkV RX9 143 yX5_add cX5_add 5 (some .int) 3 := ⟨mem_tg 497 (by decide +kernel) (by decide +kernel), (mem_tg 498 (by decide +kernel) (by decide +kernel)), (mem_tg 499 (by decide +kernel) (by decide +kernel)), (mem_tg 51 (by decide +kernel) (by decide +kernel)), cw_X5_add, by decide +kernel, by decide +kernel, by decide +kernel⟩
theorem lk_RX9_146 : LkV RX9 146 yX0_startSwinging cX0_startSwinging 4 none 2 := ⟨mem_tg 505 (by decide +kernel) (by decide +kernel), (mem_tg 506 (by decide +kernel) (by decide +kernel)), (mem_tg 507 (by decide +kernel) (by decide +kernel)), (mem_tg 49 (by decide +kernel) (by decide +kernel)), cw_X0_startSwinging, by decide +kernel, by decide +kernel, by decide +kernel⟩
theorem lk_RX9_153 : LkV RX9 153 yX1_make cX1_make 3 none 2 := ⟨mem_tg 510 (by decide +kernel) (by decide +kernel), (mem_tg 511 (by decide +kernel) (by decide +kernel)), (mem_tg 512 (by decide +kernel) (by decide +kernel)), (mem_tg 52 (by decide +kernel) (by decide +kernel)), cw_X1_make, by decide +kernel, by decide +kernel, by decide +kernel⟩
theorem lk_RX9_156 : LkV RX9 156 yX6_sendWhileAnyCan cX6_sendWhileAnyCan 3 none 0 := ⟨mem_tg 518 (by decide +kernel) (by decide +kernel), (mem_tg 519 (by decide +kernel) (by decide +kernel)), (mem_tg 520 (by decide +kernel) (by decide +kernel)), (mem_tg 53 (by decide +kernel) (by decide +kernel)), cw_X6_sendWhileAnyCan, by decide +kernel, by decide +kernel, by decide +kernel⟩
theorem lk_RX9_159 : LkV RX9 159 yX0_swingLess cX0_swingLess 2 none 0 := ⟨mem_tg 564 (by decide +kernel) (by decide +kernel), (mem_tg 565 (by decide +kernel) (by decide +kernel)), (mem_tg 566 (by decide +kernel) (by decide +kernel)), (mem_tg 49 (by decide +kernel) (by decide +kernel)), cw_X0_swingLess, by decide +kernel, by decide +kernel, by decide +kernel⟩
theorem lk_RX9_162 : LkV RX9 162 yX6_nextTick cX6_nextTick 2 none 0 := ⟨mem_tg 568 (by decide +kernel) (by decide +kernel), (mem_tg 569 (by decide +kernel) (by decide +kernel)), (mem_tg 570 (by decide +kernel) (by decide +kernel)), (mem_tg 53 (by decide +kernel) (by decide +kernel)), cw_X6_nextTick, by decide +kernel, by decide +kernel, by decide +kernel⟩
theorem lk_RX9_165 : LkV RX9 165 yX1_isWaiting cX1_isWaiting 2 (some .boolean) 1 := ⟨mem_tg 585 (by decide +kernel) (by decide +kernel), (mem_tg 527 (by decide +kernel) (by decide +kernel)), (mem_tg 528 (by decide +kernel) (by decide +kernel)), (mem_tg 52 (by decide +kernel) (by decide +kernel)), cw_X1_isWaiting, by decide +kernel, by decide +kernel, by decide +kernel⟩
theorem lk_RX9_172 : LkV RX9 172 yX1_drop cX1_drop 2 none 1 := ⟨mem_tg 586 (by decide +kernel) (by decide +kernel), (mem_tg 587 (by decide +kernel) (by decide +kernel)), (mem_tg 588 (by decide +kernel) (by decide +kernel)), (mem_tg 52 (by decide +kernel) (by decide +kernel)), cw_X1_drop, by decide +kernel, by decide +kernel, by decide +kernel⟩
theorem lk_RX9_200 : LkV RX9 200 yX5_isFree cX5_isFree 2 (some .boolean) 1 := ⟨mem_tg 602 (by decide +kernel) (by decide +kernel), (mem_tg 543 (by decide +kernel) (by decide +kernel)), (mem_tg 544 (by decide +kernel) (by decide +kernel)), (mem_tg 51 (by decide +kernel) (by decide +kernel)), cw_X5_isFree, by decide +kernel, by decide +kernel, by decide +kernel⟩
theorem lk_RX9_209 : LkV RX9 209 yX5_wayTo cX5_wayTo 5 (some .int) 3 := ⟨mem_tg 607 (by decide +kernel) (by decide +kernel), (mem_tg 547 (by decide +kernel) (by decide +kernel)), (mem_tg 548 (by decide +kernel) (by decide +kernel)), (mem_tg 51 (by decide +kernel) (by decide +kernel)), cw_X5_wayTo, by decide +kernel, by decide +kernel, by decide +kernel⟩
theorem lk_RX9_212 : LkV RX9 212 yX0_swinging cX0_swinging 3 (some .int) 0 := ⟨mem_tg 612 (by decide +kernel) (by decide +kernel), (mem_tg 613 (by decide +kernel) (by decide +kernel)), (mem_tg 614 (by decide +kernel) (by decide +kernel)), (mem_tg 49 (by decide +kernel) (by decide +kernel)), cw_X0_swinging, by decide +kernel, by decide +kernel, by decide +kernel⟩
theorem lk_RX9_218 : LkV RX9 218 yX1_countIn cX1_countIn 4 (some .int) 1 := ⟨mem_tg 620 (by decide +kernel) (by decide +kernel), (mem_tg 621 (by decide +kernel) (by decide +kernel)), (mem_tg 622 (by decide +kernel) (by decide +kernel)), (mem_tg 52 (by decide +kernel) (by decide +kernel)), cw_X1_countIn, by decide +kernel, by decide +kernel, by decide +kernel⟩
theorem lk_RX9_221 : LkV RX9 221 yX7_findBest cX7_findBest 2 none 0 := ⟨mem_tg 624 (by decide +kernel) (by decide +kernel), (mem_tg 625 (by decide +kernel) (by decide +kernel)), (mem_tg 626 (by decide +kernel) (by decide +kernel)), (mem_tg 54 (by decide +kernel) (by decide +kernel)), cw_X7_findBest, by decide +kernel, by decide +kernel, by decide +kernel⟩
theorem lk_RX9_227 : LkV RX9 227 yX7_servantFor cX7_servantFor 3 (some .int) 1 := ⟨mem_tg 647 (by decide +kernel) (by decide +kernel), (mem_tg 648 (by decide +kernel) (by decide +kernel)), (mem_tg 649 (by decide +kernel) (by decide +kernel)), (mem_tg 54 (by decide +kernel) (by decide +kernel)), cw_X7_servantFor, by decide +kernel, by decide +kernel, by decide +kernel⟩
theorem lk_RX9_237 : LkV RX9 237 yX6_sendOne cX6_sendOne 4 none 2 := ⟨mem_tg 655 (by decide +kernel) (by decide +kernel), (mem_tg 554 (by decide +kernel) (by decide +kernel)), (mem_tg 555 (by decide +kernel) (by decide +kernel)), (mem_tg 53 (by decide +kernel) (by decide +kernel)), cw_X6_sendOne, by decide +kernel, by decide +kernel, by decide +kernel⟩
theorem lk_RX9_243 : LkV RX9 243 yX2_addTest cX2_addTest 4 (some .int) 3 := ⟨mem_tg 660 (by decide +kernel) (by decide +kernel), (mem_tg 661 (by decide +kernel) (by decide +kernel)), (mem_tg 662 (by decide +kernel) (by decide +kernel)), (mem_tg 55 (by decide +kernel) (by decide +kernel)), cw_X2_addTest, by decide +kernel, by decide +kernel, by decide +kernel⟩
theorem lk_RX9_246 : LkV RX9 246 yX2_dropTests cX2_dropTests 2 (some .int) 0 := ⟨mem_tg 677 (by decide +kernel) (by decide +kernel), (mem_tg 678 (by decide +kernel) (by decide +kernel)), (mem_tg 679 (by decide +kernel) (by decide +kernel)), (mem_tg 55 (by decide +kernel) (by decide +kernel)), cw_X2_dropTests, by decide +kernel, by decide +kernel, by decide +kernel⟩
theorem lk_RX9_253 : LkV RX9 253 yX2_testThatPartsMost cX2_testThatPartsMost 6 (some .int) 1 := ⟨mem_tg 689 (by decide +kernel) (by decide +kernel), (mem_tg 690 (by decide +kernel) (by decide +kernel)), (mem_tg 691 (by decide +kernel) (by decide +kernel)), (mem_tg 55 (by decide +kernel) (by decide +kernel)), cw_X2_testThatPartsMost, by decide +kernel, by decide +kernel, by decide +kernel⟩
theorem lk_RX9_256 : LkV RX9 256 yX3_areSideBySide cX3_areSideBySide 5 (some .boolean) 2 := ⟨mem_tg 702 (by decide +kernel) (by decide +kernel), (mem_tg 703 (by decide +kernel) (by decide +kernel)), (mem_tg 704 (by decide +kernel) (by decide +kernel)), (mem_tg 56 (by decide +kernel) (by decide +kernel)), cw_X3_areSideBySide, by decide +kernel, by decide +kernel, by decide +kernel⟩
theorem lk_RX9_259 : LkV RX9 259 yX3_setBetween cX3_setBetween 7 (some .int) 3 := ⟨mem_tg 714 (by decide +kernel) (by decide +kernel), (mem_tg 715 (by decide +kernel) (by decide +kernel)), (mem_tg 716 (by decide +kernel) (by decide +kernel)), (mem_tg 56 (by decide +kernel) (by decide +kernel)), cw_X3_setBetween, by decide +kernel, by decide +kernel, by decide +kernel⟩
theorem lk_RX9_263 : LkV RX9 263 yX3_fewestNew cX3_fewestNew 5 (some .int) 1 := ⟨mem_tg 723 (by decide +kernel) (by decide +kernel), (mem_tg 724 (by decide +kernel) (by decide +kernel)), (mem_tg 725 (by decide +kernel) (by decide +kernel)), (mem_tg 56 (by decide +kernel) (by decide +kernel)), cw_X3_fewestNew, by decide +kernel, by decide +kernel, by decide +kernel⟩
theorem lk_RX9_266 : LkV RX9 266 yX3_countWires cX3_countWires 3 (some .int) 0 := ⟨mem_tg 755 (by decide +kernel) (by decide +kernel), (mem_tg 756 (by decide +kernel) (by decide +kernel)), (mem_tg 757 (by decide +kernel) (by decide +kernel)), (mem_tg 56 (by decide +kernel) (by decide +kernel)), cw_X3_countWires, by decide +kernel, by decide +kernel, by decide +kernel⟩
theorem ml_RX0_22 : Cond.methodLink RX0 22 Lib.Math.max.name ∈ tg := mem_tg 509 (by decide +kernel) (by decide +kernel)
theorem ml_RX1_34 : Cond.methodLink RX1 34 Lib.Math.max.name ∈ tg := mem_tg 563 (by decide +kernel) (by decide +kernel)
theorem ml_RX2_47 : Cond.methodLink RX2 47 Lib.Math.max.name ∈ tg := mem_tg 697 (by decide +kernel) (by decide +kernel)
theorem ml_RX3_24 : Cond.methodLink RX3 24 Lib.Math.min.name ∈ tg := mem_tg 706 (by decide +kernel) (by decide +kernel)
theorem ml_RX3_30 : Cond.methodLink RX3 30 Lib.Math.max.name ∈ tg := mem_tg 709 (by decide +kernel) (by decide +kernel)
theorem ml_RX5_38 : Cond.methodLink RX5 38 Lib.Math.abs.name ∈ tg := mem_tg 550 (by decide +kernel) (by decide +kernel)
theorem ml_RX8_49 : Cond.methodLink RX8 49 Lib.Math.max.name ∈ tg := mem_tg 451 (by decide +kernel) (by decide +kernel)
theorem mm_abs_s : Cond.static Lib.Math.abs.name ∈ tg := mem_tg 551 (by decide +kernel) (by decide +kernel)
theorem mm_abs_c : Cond.code Lib.Math.abs.name Lib.Math.abs.code 1 (some .int) ∈ tg := mem_tg 552 (by decide +kernel) rfl
theorem mm_max_s : Cond.static Lib.Math.max.name ∈ tg := mem_tg 452 (by decide +kernel) (by decide +kernel)
theorem mm_max_c : Cond.code Lib.Math.max.name Lib.Math.max.code 2 (some .int) ∈ tg := mem_tg 453 (by decide +kernel) rfl
theorem mm_min_s : Cond.static Lib.Math.min.name ∈ tg := mem_tg 707 (by decide +kernel) (by decide +kernel)
theorem mm_min_c : Cond.code Lib.Math.min.name Lib.Math.min.code 2 (some .int) ∈ tg := mem_tg 708 (by decide +kernel) rfl
theorem mm_ini : Cond.initialized "java/lang/Math" ∈ tg := mem_tg 59 (by decide +kernel) (by decide +kernel)
theorem k_RJ6_265 : Cond.constant RJ6 265 (1431655765) ∈ tg := mem_tg 402 (by decide +kernel) (by decide +kernel)
theorem k_RJ6_266 : Cond.constant RJ6 266 (858993459) ∈ tg := mem_tg 403 (by decide +kernel) (by decide +kernel)
theorem k_RJ6_267 : Cond.constant RJ6 267 (252645135) ∈ tg := mem_tg 404 (by decide +kernel) (by decide +kernel)
theorem k_RX10_102 : Cond.constant RX10 102 (65535) ∈ tg := mem_tg 896 (by decide +kernel) (by decide +kernel)
theorem k_RX10_187 : Cond.constant RX10 187 (9999999) ∈ tg := mem_tg 1043 (by decide +kernel) (by decide +kernel)
theorem k_RX10_216 : Cond.constant RX10 216 (16777215) ∈ tg := mem_tg 1088 (by decide +kernel) (by decide +kernel)
theorem k_RX7_46 : Cond.constant RX7 46 (1000000) ∈ tg := mem_tg 629 (by decide +kernel) (by decide +kernel)
theorem k_RX9_96 : Cond.constant RX9 96 (65536) ∈ tg := mem_tg 398 (by decide +kernel) (by decide +kernel)
theorem k_RX9_262 : Cond.constant RX9 262 (16777216) ∈ tg := mem_tg 722 (by decide +kernel) (by decide +kernel)
